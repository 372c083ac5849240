/-! ===== decode rows and trees: 27.class ===== -/
section G27
variable {E : Ev} {σ : Sg} {rc rs : Nat} {Q : NO → Sg → Prop}
theorem dX11_add_0 : decode cX11_add 0 = .ok (.aload_n 0, 1) := by decide +kernel
theorem dX11_add_1 : decode cX11_add 1 = .ok (.invokevirtual 125, 3) := by decide +kernel
theorem dX11_add_4 : decode cX11_add 4 = .ok (.aload_n 0, 1) := by decide +kernel
theorem dX11_add_5 : decode cX11_add 5 = .ok (.iconst 0, 1) := by decide +kernel
theorem dX11_add_6 : decode cX11_add 6 = .ok (.iload_n 1, 1) := by decide +kernel
theorem dX11_add_7 : decode cX11_add 7 = .ok (.iload_n 2, 1) := by decide +kernel
theorem dX11_add_8 : decode cX11_add 8 = .ok (.iload_n 3, 1) := by decide +kernel
theorem dX11_add_9 : decode cX11_add 9 = .ok (.iload 4, 2) := by decide +kernel
theorem dX11_add_11 : decode cX11_add 11 = .ok (.invokevirtual 151, 3) := by decide +kernel
theorem dX11_add_14 : decode cX11_add 14 = .ok (.aload_n 0, 1) := by decide +kernel
theorem dX11_add_15 : decode cX11_add 15 = .ok (.iconst 4, 1) := by decide +kernel
theorem dX11_add_16 : decode cX11_add 16 = .ok (.iload 5, 2) := by decide +kernel
theorem dX11_add_18 : decode cX11_add 18 = .ok (.iload 6, 2) := by decide +kernel
theorem dX11_add_20 : decode cX11_add 20 = .ok (.iload 7, 2) := by decide +kernel
theorem dX11_add_22 : decode cX11_add 22 = .ok (.iload 8, 2) := by decide +kernel
theorem dX11_add_24 : decode cX11_add 24 = .ok (.invokevirtual 151, 3) := by decide +kernel
theorem dX11_add_27 : decode cX11_add 27 = .ok (.aload_n 0, 1) := by decide +kernel
theorem dX11_add_28 : decode cX11_add 28 = .ok (.getfield 80, 3) := by decide +kernel
theorem dX11_add_31 : decode cX11_add 31 = .ok (.invokestatic 155, 3) := by decide +kernel
theorem dX11_add_34 : decode cX11_add 34 = .ok (.ifCond .eq 20, 3) := by decide +kernel
theorem dX11_add_37 : decode cX11_add 37 = .ok (.aload_n 0, 1) := by decide +kernel
theorem dX11_add_38 : decode cX11_add 38 = .ok (.getfield 80, 3) := by decide +kernel
theorem dX11_add_41 : decode cX11_add 41 = .ok (.aload_n 0, 1) := by decide +kernel
theorem dX11_add_42 : decode cX11_add 42 = .ok (.getfield 93, 3) := by decide +kernel
theorem dX11_add_45 : decode cX11_add 45 = .ok (.getfield 159, 3) := by decide +kernel
theorem dX11_add_48 : decode cX11_add 48 = .ok (.invokestatic 162, 3) := by decide +kernel
theorem dX11_add_51 : decode cX11_add 51 = .ok (.ifCond .ne 23, 3) := by decide +kernel
theorem dX11_add_54 : decode cX11_add 54 = .ok (.aload_n 0, 1) := by decide +kernel
theorem dX11_add_55 : decode cX11_add 55 = .ok (.getfield 87, 3) := by decide +kernel
theorem dX11_add_58 : decode cX11_add 58 = .ok (.iconst 1, 1) := by decide +kernel
theorem dX11_add_59 : decode cX11_add 59 = .ok (.dup2, 1) := by decide +kernel
theorem dX11_add_60 : decode cX11_add 60 = .ok (.iaload, 1) := by decide +kernel
theorem dX11_add_61 : decode cX11_add 61 = .ok (.iconst 1, 1) := by decide +kernel
theorem dX11_add_62 : decode cX11_add 62 = .ok (.iadd, 1) := by decide +kernel
theorem dX11_add_63 : decode cX11_add 63 = .ok (.iastore, 1) := by decide +kernel
theorem dX11_add_64 : decode cX11_add 64 = .ok (.new 166, 3) := by decide +kernel
theorem dX11_add_67 : decode cX11_add 67 = .ok (.dup, 1) := by decide +kernel
theorem dX11_add_68 : decode cX11_add 68 = .ok (.ldc 168, 2) := by decide +kernel
theorem dX11_add_70 : decode cX11_add 70 = .ok (.invokespecial 170, 3) := by decide +kernel
theorem dX11_add_73 : decode cX11_add 73 = .ok (.athrow, 1) := by decide +kernel
theorem dX11_add_74 : decode cX11_add 74 = .ok (.aload_n 0, 1) := by decide +kernel
theorem dX11_add_75 : decode cX11_add 75 = .ok (.getfield 93, 3) := by decide +kernel
theorem dX11_add_78 : decode cX11_add 78 = .ok (.getfield 173, 3) := by decide +kernel
theorem dX11_add_81 : decode cX11_add 81 = .ok (.iconst 4, 1) := by decide +kernel
theorem dX11_add_82 : decode cX11_add 82 = .ok (.if_icmp .lt 23, 3) := by decide +kernel
theorem dX11_add_85 : decode cX11_add 85 = .ok (.aload_n 0, 1) := by decide +kernel
theorem dX11_add_86 : decode cX11_add 86 = .ok (.getfield 87, 3) := by decide +kernel
theorem dX11_add_89 : decode cX11_add 89 = .ok (.iconst 2, 1) := by decide +kernel
theorem dX11_add_90 : decode cX11_add 90 = .ok (.dup2, 1) := by decide +kernel
theorem dX11_add_91 : decode cX11_add 91 = .ok (.iaload, 1) := by decide +kernel
theorem dX11_add_92 : decode cX11_add 92 = .ok (.iconst 1, 1) := by decide +kernel
theorem dX11_add_93 : decode cX11_add 93 = .ok (.iadd, 1) := by decide +kernel
theorem dX11_add_94 : decode cX11_add 94 = .ok (.iastore, 1) := by decide +kernel
theorem dX11_add_95 : decode cX11_add 95 = .ok (.new 176, 3) := by decide +kernel
theorem dX11_add_98 : decode cX11_add 98 = .ok (.dup, 1) := by decide +kernel
theorem dX11_add_99 : decode cX11_add 99 = .ok (.ldc 178, 2) := by decide +kernel
theorem dX11_add_101 : decode cX11_add 101 = .ok (.invokespecial 180, 3) := by decide +kernel
theorem dX11_add_104 : decode cX11_add 104 = .ok (.athrow, 1) := by decide +kernel
theorem dX11_add_105 : decode cX11_add 105 = .ok (.aload_n 0, 1) := by decide +kernel
theorem dX11_add_106 : decode cX11_add 106 = .ok (.getfield 97, 3) := by decide +kernel
theorem dX11_add_109 : decode cX11_add 109 = .ok (.aload_n 0, 1) := by decide +kernel
theorem dX11_add_110 : decode cX11_add 110 = .ok (.getfield 93, 3) := by decide +kernel
theorem dX11_add_113 : decode cX11_add 113 = .ok (.invokevirtual 181, 3) := by decide +kernel
theorem dX11_add_116 : decode cX11_add 116 = .ok (.aload_n 0, 1) := by decide +kernel
theorem dX11_add_117 : decode cX11_add 117 = .ok (.getfield 97, 3) := by decide +kernel
theorem dX11_add_120 : decode cX11_add 120 = .ok (.aload_n 0, 1) := by decide +kernel
theorem dX11_add_121 : decode cX11_add 121 = .ok (.getfield 80, 3) := by decide +kernel
theorem dX11_add_124 : decode cX11_add 124 = .ok (.iconst 0, 1) := by decide +kernel
theorem dX11_add_125 : decode cX11_add 125 = .ok (.invokevirtual 184, 3) := by decide +kernel
theorem dX11_add_128 : decode cX11_add 128 = .ok (.aload_n 0, 1) := by decide +kernel
theorem dX11_add_129 : decode cX11_add 129 = .ok (.getfield 97, 3) := by decide +kernel
theorem dX11_add_132 : decode cX11_add 132 = .ok (.invokevirtual 108, 3) := by decide +kernel
theorem dX11_add_135 : decode cX11_add 135 = .ok (.ifCond .ne 27, 3) := by decide +kernel
theorem dX11_add_138 : decode cX11_add 138 = .ok (.aload_n 0, 1) := by decide +kernel
theorem dX11_add_139 : decode cX11_add 139 = .ok (.invokevirtual 143, 3) := by decide +kernel
theorem dX11_add_142 : decode cX11_add 142 = .ok (.aload_n 0, 1) := by decide +kernel
theorem dX11_add_143 : decode cX11_add 143 = .ok (.getfield 87, 3) := by decide +kernel
theorem dX11_add_146 : decode cX11_add 146 = .ok (.iconst 2, 1) := by decide +kernel
theorem dX11_add_147 : decode cX11_add 147 = .ok (.dup2, 1) := by decide +kernel
theorem dX11_add_148 : decode cX11_add 148 = .ok (.iaload, 1) := by decide +kernel
theorem dX11_add_149 : decode cX11_add 149 = .ok (.iconst 1, 1) := by decide +kernel
theorem dX11_add_150 : decode cX11_add 150 = .ok (.iadd, 1) := by decide +kernel
theorem dX11_add_151 : decode cX11_add 151 = .ok (.iastore, 1) := by decide +kernel
theorem dX11_add_152 : decode cX11_add 152 = .ok (.new 176, 3) := by decide +kernel
theorem dX11_add_155 : decode cX11_add 155 = .ok (.dup, 1) := by decide +kernel
theorem dX11_add_156 : decode cX11_add 156 = .ok (.ldc 188, 2) := by decide +kernel
theorem dX11_add_158 : decode cX11_add 158 = .ok (.invokespecial 180, 3) := by decide +kernel
theorem dX11_add_161 : decode cX11_add 161 = .ok (.athrow, 1) := by decide +kernel
theorem dX11_add_162 : decode cX11_add 162 = .ok (.aload_n 0, 1) := by decide +kernel
theorem dX11_add_163 : decode cX11_add 163 = .ok (.getfield 28, 3) := by decide +kernel
theorem dX11_add_166 : decode cX11_add 166 = .ok (.aload_n 0, 1) := by decide +kernel
theorem dX11_add_167 : decode cX11_add 167 = .ok (.getfield 93, 3) := by decide +kernel
theorem dX11_add_170 : decode cX11_add 170 = .ok (.invokevirtual 190, 3) := by decide +kernel
theorem dX11_add_173 : decode cX11_add 173 = .ok (.aload_n 0, 1) := by decide +kernel
theorem dX11_add_174 : decode cX11_add 174 = .ok (.invokevirtual 147, 3) := by decide +kernel
theorem dX11_add_177 : decode cX11_add 177 = .ok (.aload_n 0, 1) := by decide +kernel
theorem dX11_add_178 : decode cX11_add 178 = .ok (.getfield 93, 3) := by decide +kernel
theorem dX11_add_181 : decode cX11_add 181 = .ok (.getfield 150, 3) := by decide +kernel
theorem dX11_add_184 : decode cX11_add 184 = .ok (.ireturn, 1) := by decide +kernel
theorem B_X11_add_0 {g : Sg} {c t : Nat} (hL : Lay LC g c t σ) {x1 : Int} {x2 : Int} {x3 : Int} {x4 : Int} {x5 : Int} {x6 : Int} {x7 : Int} {x8 : Int} (h : (Lay LC g c t σ → CC E mX11_forgetReasons [vr 16] σ (KV (fun τ2 => Lay LC g c t τ2 ∧ (Lay LC g c t τ2 → CC E mX11_askHalf [vr 16, vi 0, vi x1, vi x2, vi x3, vi x4] τ2 (KV (fun τ4 => Lay LC g c t τ4 ∧ (Lay LC g c t τ4 → CC E mX11_askHalf [vr 16, vi 4, vi x5, vi x6, vi x7, vi x8] τ4 (KV (fun τ6 => Lay LC g c t τ6 ∧ (Lay LC g c t τ6 → CC E mX11_canBeTold [vr 155] τ6 (KI (fun r7 τ8 => Lay LC g c t τ8 ∧ (inR r7 → ((r7 = 0 → inR ((gI τ8 157 1) + 1) ∧ ∀ τ10 : Sg, τ10 = sI τ8 157 1 ((gI τ8 157 1) + 1) → (Lay LC g c t τ10 → 1 ≤ rc ∧ 6 ≤ rs ∧ ∀ d9, Q (.inr 1) (jk τ10 d9))) ∧ (¬ (r7 = 0) → (Lay LC g c t τ8 → CC E mX11_isTurn [vr 155, vi (gI τ8 c 6)] τ8 (KI (fun r11 τ12 => Lay LC g c t τ12 ∧ (inR r11 → ((r11 ≠ 0 → (((gI τ12 c 7) < 4 → (Lay LC g c t τ12 → CC E mX1_copyTold [vr t, vr c] τ12 (KV (fun τ14 => Lay LC g c t τ14 ∧ (Lay LC g c t τ14 → CC E mX1_tell [vr t, vr 155, vi 0] τ14 (KV (fun τ16 => Lay LC g c t τ16 ∧ (Lay LC g c t τ16 → CC E mX1_close [vr t] τ16 (KI (fun r17 τ18 => Lay LC g c t τ18 ∧ (inR r17 → ((r17 ≠ 0 → (Lay LC g c t τ18 → CC E mX5_keep [vr 21, vr c] τ18 (KV (fun τ20 => Lay LC g c t τ20 ∧ (Lay LC g c t τ20 → CC E mX11_takeTrial [vr 16] τ20 (KV (fun τ22 => Lay LC g c t τ22 ∧ (Lay LC g c t τ22 → Q (.inl (some (vi (gI τ22 c 8)))) τ22)) (fun _ _ => False)))) (fun _ _ => False)))) ∧ (r17 = 0 → (Lay LC g c t τ18 → CC E mX11_keepReasons [vr 16] τ18 (KV (fun τ24 => Lay LC g c t τ24 ∧ inR ((gI τ24 157 2) + 1) ∧ ∀ τ26 : Sg, τ26 = sI τ24 157 2 ((gI τ24 157 2) + 1) → (Lay LC g c t τ26 → 1 ≤ rc ∧ 6 ≤ rs ∧ ∀ d9, Q (.inr 2) (jk τ26 d9))) (fun _ _ => False))))))) (fun _ _ => False)))) (fun _ _ => False)))) (fun _ _ => False)))) ∧ (¬ ((gI τ12 c 7) < 4) → inR ((gI τ12 157 2) + 1) ∧ ∀ τ28 : Sg, τ28 = sI τ12 157 2 ((gI τ12 157 2) + 1) → (Lay LC g c t τ28 → 1 ≤ rc ∧ 6 ≤ rs ∧ ∀ d9, Q (.inr 2) (jk τ28 d9))))) ∧ (r11 = 0 → inR ((gI τ12 157 1) + 1) ∧ ∀ τ30 : Sg, τ30 = sI τ12 157 1 ((gI τ12 157 1) + 1) → (Lay LC g c t τ30 → 1 ≤ rc ∧ 6 ≤ rs ∧ ∀ d9, Q (.inr 1) (jk τ30 d9)))))) (fun _ _ => False))))))) (fun _ _ => False)))) (fun _ _ => False)))) (fun _ _ => False)))) (fun _ _ => False)))) : GG E mX11_add 0 [some (vr 16), some (vi x1), some (vi x2), some (vi x3), some (vi x4), some (vi x5), some (vi x6), some (vi x7), some (vi x8)] [] σ rc rs Q := by
  refine r_aload_n (pc := 0) dX11_add_0 rfl rfl ?_
  refine c_VV0N (M := mX11_add) (pc := 1) (As := []) dX11_add_1 K_X11_forgetReasons w_703 ⟨by decide, by decide⟩ (Nat.le_of_ble_eq_true rfl) rfl rfl (ci := 11) rfl rfl (by decide) (okO_of (N := 17) (hL.sh (i := 0) rfl (by decide) (by decide)) (by decide)) (h hL) (fun τ2 h8 => ?_) rfl
  replace hL := h8.1
  replace h := h8.2
  refine r_aload_n (pc := 4) dX11_add_4 rfl rfl ?_
  refine r_iconst (pc := 5) dX11_add_5 (inRk rfl) ?_
  refine r_iload_n (pc := 6) dX11_add_6 rfl rfl ?_
  refine r_iload_n (pc := 7) dX11_add_7 rfl rfl ?_
  refine r_iload_n (pc := 8) dX11_add_8 rfl rfl ?_
  refine r_iload (pc := 9) dX11_add_9 rfl ?_
  refine c_VV0N (M := mX11_add) (pc := 11) (As := [vi 0, vi x1, vi x2, vi x3, vi x4]) dX11_add_11 K_X11_askHalf w_680 ⟨by decide, by decide⟩ (Nat.le_of_ble_eq_true rfl) rfl rfl (ci := 11) rfl rfl (by decide) (okO_of (N := 17) (hL.sh (i := 0) rfl (by decide) (by decide)) (by decide)) (h hL) (fun τ4 h8 => ?_) rfl
  replace hL := h8.1
  replace h := h8.2
  refine r_aload_n (pc := 14) dX11_add_14 rfl rfl ?_
  refine r_iconst (pc := 15) dX11_add_15 (inRk rfl) ?_
  refine r_iload (pc := 16) dX11_add_16 rfl ?_
  refine r_iload (pc := 18) dX11_add_18 rfl ?_
  refine r_iload (pc := 20) dX11_add_20 rfl ?_
  refine r_iload (pc := 22) dX11_add_22 rfl ?_
  refine c_VV0N (M := mX11_add) (pc := 24) (As := [vi 4, vi x5, vi x6, vi x7, vi x8]) dX11_add_24 K_X11_askHalf w_680 ⟨by decide, by decide⟩ (Nat.le_of_ble_eq_true rfl) rfl rfl (ci := 11) rfl rfl (by decide) (okO_of (N := 17) (hL.sh (i := 0) rfl (by decide) (by decide)) (by decide)) (h hL) (fun τ6 h8 => ?_) rfl
  replace hL := h8.1
  replace h := h8.2
  refine r_aload_n (pc := 27) dX11_add_27 rfl rfl ?_
  refine r_getR (pc := 28) dX11_add_28 (k9 := 9) CL_11 (by decide) (by decide) w_597 rfl (okO_of (N := 17) (hL.sh (i := 0) rfl (by decide) (by decide)) (by decide)) ?_
  refine eqR (y := 155) (hL.rf (i := 44) rfl) ?_
  refine c_SI0N (M := mX11_add) (pc := 31) (As := [vr 155]) dX11_add_31 K_X11_canBeTold w_900 ⟨by decide, by decide⟩ (Nat.le_of_ble_eq_true rfl) rfl rfl (h hL) (fun r7 τ8 h8 hr9 => ?_) rfl
  replace hL := h8.1
  replace h := h8.2 hr9
  refine r_if_eq (pc := 34) (tgt := 54) dX11_add_34 (by decide) (fun c9 => ?_) (fun c9 => ?_)
  · replace h := h.1 c9
    refine r_aload_n (pc := 54) dX11_add_54 rfl rfl ?_
    refine r_getR (pc := 55) dX11_add_55 (k9 := 11) CL_11 (by decide) (by decide) w_599 rfl (okO_of (N := 17) (hL.sh (i := 0) rfl (by decide) (by decide)) (by decide)) ?_
    refine eqR (y := 157) (hL.rf (i := 46) rfl) ?_
    refine r_iconst (pc := 58) dX11_add_58 (inRk rfl) ?_
    refine r_dup2_11 (pc := 59) dX11_add_59 (fun _ h9 => nomatch h9) (fun _ h9 => nomatch h9) ?_
    refine r_iaload (pc := 60) dX11_add_60 (okA_of (c := 20) (n := 3) (hL.sh (i := 53) rfl (by decide) (by decide)) (by decide) (by decide)) ?_
    refine r_iconst (pc := 61) dX11_add_61 (inRk rfl) ?_
    obtain ⟨o9, h⟩ := h
    refine r_iadd (pc := 62) dX11_add_62 o9 ?_
    refine r_iastore (pc := 63) dX11_add_63 (okB_of (c := 20) (n := 3) (hL.sh (i := 53) rfl (by decide) (by decide)) (by decide) (by decide)) ?_
    refine nmS (fun τ10 e10 => ?_)
    replace h := h τ10 e10
    have hL := hL.wI e10 (by decide) (.inl (by decide))
    replace h := h hL
    exact r_throw (pc := 64) (x := 1) (names := ["java/lang/RuntimeException", "java/lang/Exception"]) (by decide +kernel) rfl (by decide) rfl dX11_add_64 dX11_add_67 dX11_add_68 dX11_add_70 dX11_add_73 (by decide +kernel) (by decide +kernel) w_711 w_116 (List.mem_of_getElem? (i := 2) rfl) at_170 (by decide) (Nat.le_of_ble_eq_true rfl) h.1 h.2.1 h.2.2
  · replace h := h.2 c9
    refine r_aload_n (pc := 37) dX11_add_37 rfl rfl ?_
    refine r_getR (pc := 38) dX11_add_38 (k9 := 9) CL_11 (by decide) (by decide) w_597 rfl (okO_of (N := 17) (hL.sh (i := 0) rfl (by decide) (by decide)) (by decide)) ?_
    refine eqR (y := 155) (hL.rf (i := 44) rfl) ?_
    refine r_aload_n (pc := 41) dX11_add_41 rfl rfl ?_
    refine r_getR (pc := 42) dX11_add_42 (k9 := 12) CL_11 (by decide) (by decide) w_600 rfl (okO_of (N := 17) (hL.sh (i := 0) rfl (by decide) (by decide)) (by decide)) ?_
    refine eqR (y := c) hL.cl.1 ?_
    refine r_getI (pc := 45) dX11_add_45 (k9 := 6) CL_1 (by decide) (by decide) w_465 rfl (okO_of (ci := 1) (N := 12) (hL.isc.r hL).1 (hL.isc.r hL).2.1) (fun _ => ?_)
    refine c_SI0N (M := mX11_add) (pc := 48) (As := [vr 155, vi (gI τ8 c 6)]) dX11_add_48 K_X11_isTurn w_903 ⟨by decide, by decide⟩ (Nat.le_of_ble_eq_true rfl) rfl rfl (h hL) (fun r11 τ12 h8 hr9 => ?_) rfl
    replace hL := h8.1
    replace h := h8.2 hr9
    refine r_if_ne (pc := 51) (tgt := 74) dX11_add_51 (by decide) (fun c9 => ?_) (fun c9 => ?_)
    · replace h := h.1 c9
      refine r_aload_n (pc := 74) dX11_add_74 rfl rfl ?_
      refine r_getR (pc := 75) dX11_add_75 (k9 := 12) CL_11 (by decide) (by decide) w_600 rfl (okO_of (N := 17) (hL.sh (i := 0) rfl (by decide) (by decide)) (by decide)) ?_
      refine eqR (y := c) hL.cl.1 ?_
      refine r_getI (pc := 78) dX11_add_78 (k9 := 7) CL_1 (by decide) (by decide) w_469 rfl (okO_of (ci := 1) (N := 12) (hL.isc.r hL).1 (hL.isc.r hL).2.1) (fun _ => ?_)
      refine r_iconst (pc := 81) dX11_add_81 (inRk rfl) ?_
      refine r_icmp_lt (pc := 82) (tgt := 105) dX11_add_82 (by decide) (fun c9 => ?_) (fun c9 => ?_)
      · replace h := h.1 c9
        refine r_aload_n (pc := 105) dX11_add_105 rfl rfl ?_
        refine r_getR (pc := 106) dX11_add_106 (k9 := 13) CL_11 (by decide) (by decide) w_601 rfl (okO_of (N := 17) (hL.sh (i := 0) rfl (by decide) (by decide)) (by decide)) ?_
        refine eqR (y := t) hL.cl.2 ?_
        refine r_aload_n (pc := 109) dX11_add_109 rfl rfl ?_
        refine r_getR (pc := 110) dX11_add_110 (k9 := 12) CL_11 (by decide) (by decide) w_600 rfl (okO_of (N := 17) (hL.sh (i := 0) rfl (by decide) (by decide)) (by decide)) ?_
        refine eqR (y := c) hL.cl.1 ?_
        refine c_VV0N (M := mX11_add) (pc := 113) (As := [vr c]) dX11_add_113 K_X1_copyTold w_921 ⟨by decide, by decide⟩ (Nat.le_of_ble_eq_true rfl) rfl rfl (ci := 1) rfl rfl (by decide) (okO_of (ci := 1) (N := 12) (hL.ist.r hL).1 (hL.ist.r hL).2.1) (h hL) (fun τ14 h8 => ?_) rfl
        replace hL := h8.1
        replace h := h8.2
        refine r_aload_n (pc := 116) dX11_add_116 rfl rfl ?_
        refine r_getR (pc := 117) dX11_add_117 (k9 := 13) CL_11 (by decide) (by decide) w_601 rfl (okO_of (N := 17) (hL.sh (i := 0) rfl (by decide) (by decide)) (by decide)) ?_
        refine eqR (y := t) hL.cl.2 ?_
        refine r_aload_n (pc := 120) dX11_add_120 rfl rfl ?_
        refine r_getR (pc := 121) dX11_add_121 (k9 := 9) CL_11 (by decide) (by decide) w_597 rfl (okO_of (N := 17) (hL.sh (i := 0) rfl (by decide) (by decide)) (by decide)) ?_
        refine eqR (y := 155) (hL.rf (i := 44) rfl) ?_
        refine r_iconst (pc := 124) dX11_add_124 (inRk rfl) ?_
        refine c_VV0N (M := mX11_add) (pc := 125) (As := [vr 155, vi 0]) dX11_add_125 K_X1_tell w_927 ⟨by decide, by decide⟩ (Nat.le_of_ble_eq_true rfl) rfl rfl (ci := 1) rfl rfl (by decide) (okO_of (ci := 1) (N := 12) (hL.ist.r hL).1 (hL.ist.r hL).2.1) (h hL) (fun τ16 h8 => ?_) rfl
        replace hL := h8.1
        replace h := h8.2
        refine r_aload_n (pc := 128) dX11_add_128 rfl rfl ?_
        refine r_getR (pc := 129) dX11_add_129 (k9 := 13) CL_11 (by decide) (by decide) w_601 rfl (okO_of (N := 17) (hL.sh (i := 0) rfl (by decide) (by decide)) (by decide)) ?_
        refine eqR (y := t) hL.cl.2 ?_
        refine c_VI0N (M := mX11_add) (pc := 132) (As := []) dX11_add_132 K_X1_close w_508 ⟨by decide, by decide⟩ (Nat.le_of_ble_eq_true rfl) rfl rfl (ci := 1) rfl rfl (by decide) (okO_of (ci := 1) (N := 12) (hL.ist.r hL).1 (hL.ist.r hL).2.1) (h hL) (fun r17 τ18 h8 hr9 => ?_) rfl
        replace hL := h8.1
        replace h := h8.2 hr9
        refine r_if_ne (pc := 135) (tgt := 162) dX11_add_135 (by decide) (fun c9 => ?_) (fun c9 => ?_)
        · replace h := h.1 c9
          refine r_aload_n (pc := 162) dX11_add_162 rfl rfl ?_
          refine r_getR (pc := 163) dX11_add_163 (k9 := 2) CL_11 (by decide) (by decide) w_590 rfl (okO_of (N := 17) (hL.sh (i := 0) rfl (by decide) (by decide)) (by decide)) ?_
          refine eqR (y := 21) (hL.rf (i := 7) rfl) ?_
          refine r_aload_n (pc := 166) dX11_add_166 rfl rfl ?_
          refine r_getR (pc := 167) dX11_add_167 (k9 := 12) CL_11 (by decide) (by decide) w_600 rfl (okO_of (N := 17) (hL.sh (i := 0) rfl (by decide) (by decide)) (by decide)) ?_
          refine eqR (y := c) hL.cl.1 ?_
          refine c_VV0N (M := mX11_add) (pc := 170) (As := [vr c]) dX11_add_170 K_X5_keep w_929 ⟨by decide, by decide⟩ (Nat.le_of_ble_eq_true rfl) rfl rfl (ci := 5) rfl rfl (by decide) (okO_of (N := 3) (hL.sh (i := 5) rfl (by decide) (by decide)) (by decide)) (h hL) (fun τ20 h8 => ?_) rfl
          replace hL := h8.1
          replace h := h8.2
          refine r_aload_n (pc := 173) dX11_add_173 rfl rfl ?_
          refine c_VV0N (M := mX11_add) (pc := 174) (As := []) dX11_add_174 K_X11_takeTrial w_668 ⟨by decide, by decide⟩ (Nat.le_of_ble_eq_true rfl) rfl rfl (ci := 11) rfl rfl (by decide) (okO_of (N := 17) (hL.sh (i := 0) rfl (by decide) (by decide)) (by decide)) (h hL) (fun τ22 h8 => ?_) rfl
          replace hL := h8.1
          replace h := h8.2
          refine r_aload_n (pc := 177) dX11_add_177 rfl rfl ?_
          refine r_getR (pc := 178) dX11_add_178 (k9 := 12) CL_11 (by decide) (by decide) w_600 rfl (okO_of (N := 17) (hL.sh (i := 0) rfl (by decide) (by decide)) (by decide)) ?_
          refine eqR (y := c) hL.cl.1 ?_
          refine r_getI (pc := 181) dX11_add_181 (k9 := 8) CL_1 (by decide) (by decide) w_471 rfl (okO_of (ci := 1) (N := 12) (hL.isc.r hL).1 (hL.isc.r hL).2.1) (fun _ => ?_)
          exact r_ireturn (pc := 184) (ty := .int) dX11_add_184 (by decide +kernel) rfl (nar_i _) (h hL)
        · replace h := h.2 c9
          refine r_aload_n (pc := 138) dX11_add_138 rfl rfl ?_
          refine c_VV0N (M := mX11_add) (pc := 139) (As := []) dX11_add_139 K_X11_keepReasons w_884 ⟨by decide, by decide⟩ (Nat.le_of_ble_eq_true rfl) rfl rfl (ci := 11) rfl rfl (by decide) (okO_of (N := 17) (hL.sh (i := 0) rfl (by decide) (by decide)) (by decide)) (h hL) (fun τ24 h8 => ?_) rfl
          replace hL := h8.1
          replace h := h8.2
          refine r_aload_n (pc := 142) dX11_add_142 rfl rfl ?_
          refine r_getR (pc := 143) dX11_add_143 (k9 := 11) CL_11 (by decide) (by decide) w_599 rfl (okO_of (N := 17) (hL.sh (i := 0) rfl (by decide) (by decide)) (by decide)) ?_
          refine eqR (y := 157) (hL.rf (i := 46) rfl) ?_
          refine r_iconst (pc := 146) dX11_add_146 (inRk rfl) ?_
          refine r_dup2_11 (pc := 147) dX11_add_147 (fun _ h9 => nomatch h9) (fun _ h9 => nomatch h9) ?_
          refine r_iaload (pc := 148) dX11_add_148 (okA_of (c := 20) (n := 3) (hL.sh (i := 53) rfl (by decide) (by decide)) (by decide) (by decide)) ?_
          refine r_iconst (pc := 149) dX11_add_149 (inRk rfl) ?_
          obtain ⟨o25, h⟩ := h
          refine r_iadd (pc := 150) dX11_add_150 o25 ?_
          refine r_iastore (pc := 151) dX11_add_151 (okB_of (c := 20) (n := 3) (hL.sh (i := 53) rfl (by decide) (by decide)) (by decide) (by decide)) ?_
          refine nmS (fun τ26 e26 => ?_)
          replace h := h τ26 e26
          have hL := hL.wI e26 (by decide) (.inl (by decide))
          replace h := h hL
          exact r_throw (pc := 152) (x := 2) (names := ["java/lang/RuntimeException", "java/lang/Exception"]) (by decide +kernel) rfl (by decide) rfl dX11_add_152 dX11_add_155 dX11_add_156 dX11_add_158 dX11_add_161 (by decide +kernel) (by decide +kernel) w_905 w_121 (List.mem_of_getElem? (i := 4) rfl) at_180 (by decide) (Nat.le_of_ble_eq_true rfl) h.1 h.2.1 h.2.2
      · replace h := h.2 c9
        refine r_aload_n (pc := 85) dX11_add_85 rfl rfl ?_
        refine r_getR (pc := 86) dX11_add_86 (k9 := 11) CL_11 (by decide) (by decide) w_599 rfl (okO_of (N := 17) (hL.sh (i := 0) rfl (by decide) (by decide)) (by decide)) ?_
        refine eqR (y := 157) (hL.rf (i := 46) rfl) ?_
        refine r_iconst (pc := 89) dX11_add_89 (inRk rfl) ?_
        refine r_dup2_11 (pc := 90) dX11_add_90 (fun _ h9 => nomatch h9) (fun _ h9 => nomatch h9) ?_
        refine r_iaload (pc := 91) dX11_add_91 (okA_of (c := 20) (n := 3) (hL.sh (i := 53) rfl (by decide) (by decide)) (by decide) (by decide)) ?_
        refine r_iconst (pc := 92) dX11_add_92 (inRk rfl) ?_
        obtain ⟨o27, h⟩ := h
        refine r_iadd (pc := 93) dX11_add_93 o27 ?_
        refine r_iastore (pc := 94) dX11_add_94 (okB_of (c := 20) (n := 3) (hL.sh (i := 53) rfl (by decide) (by decide)) (by decide) (by decide)) ?_
        refine nmS (fun τ28 e28 => ?_)
        replace h := h τ28 e28
        have hL := hL.wI e28 (by decide) (.inl (by decide))
        replace h := h hL
        exact r_throw (pc := 95) (x := 2) (names := ["java/lang/RuntimeException", "java/lang/Exception"]) (by decide +kernel) rfl (by decide) rfl dX11_add_95 dX11_add_98 dX11_add_99 dX11_add_101 dX11_add_104 (by decide +kernel) (by decide +kernel) w_905 w_121 (List.mem_of_getElem? (i := 3) rfl) at_180 (by decide) (Nat.le_of_ble_eq_true rfl) h.1 h.2.1 h.2.2
    · replace h := h.2 c9
      refine r_aload_n (pc := 54) dX11_add_54 rfl rfl ?_
      refine r_getR (pc := 55) dX11_add_55 (k9 := 11) CL_11 (by decide) (by decide) w_599 rfl (okO_of (N := 17) (hL.sh (i := 0) rfl (by decide) (by decide)) (by decide)) ?_
      refine eqR (y := 157) (hL.rf (i := 46) rfl) ?_
      refine r_iconst (pc := 58) dX11_add_58 (inRk rfl) ?_
      refine r_dup2_11 (pc := 59) dX11_add_59 (fun _ h9 => nomatch h9) (fun _ h9 => nomatch h9) ?_
      refine r_iaload (pc := 60) dX11_add_60 (okA_of (c := 20) (n := 3) (hL.sh (i := 53) rfl (by decide) (by decide)) (by decide) (by decide)) ?_
      refine r_iconst (pc := 61) dX11_add_61 (inRk rfl) ?_
      obtain ⟨o29, h⟩ := h
      refine r_iadd (pc := 62) dX11_add_62 o29 ?_
      refine r_iastore (pc := 63) dX11_add_63 (okB_of (c := 20) (n := 3) (hL.sh (i := 53) rfl (by decide) (by decide)) (by decide) (by decide)) ?_
      refine nmS (fun τ30 e30 => ?_)
      replace h := h τ30 e30
      have hL := hL.wI e30 (by decide) (.inl (by decide))
      replace h := h hL
      exact r_throw (pc := 64) (x := 1) (names := ["java/lang/RuntimeException", "java/lang/Exception"]) (by decide +kernel) rfl (by decide) rfl dX11_add_64 dX11_add_67 dX11_add_68 dX11_add_70 dX11_add_73 (by decide +kernel) (by decide +kernel) w_711 w_116 (List.mem_of_getElem? (i := 2) rfl) at_170 (by decide) (Nat.le_of_ble_eq_true rfl) h.1 h.2.1 h.2.2
theorem C_X11_add {a0 : Nat} {x1 : Int} {x2 : Int} {x3 : Int} {x4 : Int} {x5 : Int} {x6 : Int} {x7 : Int} {x8 : Int} (h : GG E mX11_add 0 [some (vr a0), some (vi x1), some (vi x2), some (vi x3), some (vi x4), some (vi x5), some (vi x6), some (vi x7), some (vi x8)] [] σ 3 18 Q) : CC E mX11_add [vr a0, vi x1, vi x2, vi x3, vi x4, vi x5, vi x6, vi x7, vi x8] σ Q := CC.of (by decide +kernel) rfl (by decide +kernel) (fun h9 => nomatch h9) (Nat.le_of_ble_eq_true rfl) h
theorem dX11_askHalf_0 : decode cX11_askHalf 0 = .ok (.iload_n 1, 1) := by decide +kernel
theorem dX11_askHalf_1 : decode cX11_askHalf 1 = .ok (.ifCond .lt 50, 3) := by decide +kernel
theorem dX11_askHalf_4 : decode cX11_askHalf 4 = .ok (.iload_n 1, 1) := by decide +kernel
theorem dX11_askHalf_5 : decode cX11_askHalf 5 = .ok (.iconst 3, 1) := by decide +kernel
theorem dX11_askHalf_6 : decode cX11_askHalf 6 = .ok (.iadd, 1) := by decide +kernel
theorem dX11_askHalf_7 : decode cX11_askHalf 7 = .ok (.aload_n 0, 1) := by decide +kernel
theorem dX11_askHalf_8 : decode cX11_askHalf 8 = .ok (.getfield 80, 3) := by decide +kernel
theorem dX11_askHalf_11 : decode cX11_askHalf 11 = .ok (.arraylength, 1) := by decide +kernel
theorem dX11_askHalf_12 : decode cX11_askHalf 12 = .ok (.if_icmp .ge 39, 3) := by decide +kernel
theorem dX11_askHalf_15 : decode cX11_askHalf 15 = .ok (.aload_n 0, 1) := by decide +kernel
theorem dX11_askHalf_16 : decode cX11_askHalf 16 = .ok (.getfield 80, 3) := by decide +kernel
theorem dX11_askHalf_19 : decode cX11_askHalf 19 = .ok (.iload_n 1, 1) := by decide +kernel
theorem dX11_askHalf_20 : decode cX11_askHalf 20 = .ok (.iload_n 2, 1) := by decide +kernel
theorem dX11_askHalf_21 : decode cX11_askHalf 21 = .ok (.iastore, 1) := by decide +kernel
theorem dX11_askHalf_22 : decode cX11_askHalf 22 = .ok (.aload_n 0, 1) := by decide +kernel
theorem dX11_askHalf_23 : decode cX11_askHalf 23 = .ok (.getfield 80, 3) := by decide +kernel
theorem dX11_askHalf_26 : decode cX11_askHalf 26 = .ok (.iload_n 1, 1) := by decide +kernel
theorem dX11_askHalf_27 : decode cX11_askHalf 27 = .ok (.iconst 1, 1) := by decide +kernel
theorem dX11_askHalf_28 : decode cX11_askHalf 28 = .ok (.iadd, 1) := by decide +kernel
theorem dX11_askHalf_29 : decode cX11_askHalf 29 = .ok (.iload_n 3, 1) := by decide +kernel
theorem dX11_askHalf_30 : decode cX11_askHalf 30 = .ok (.iastore, 1) := by decide +kernel
theorem dX11_askHalf_31 : decode cX11_askHalf 31 = .ok (.aload_n 0, 1) := by decide +kernel
theorem dX11_askHalf_32 : decode cX11_askHalf 32 = .ok (.getfield 80, 3) := by decide +kernel
theorem dX11_askHalf_35 : decode cX11_askHalf 35 = .ok (.iload_n 1, 1) := by decide +kernel
theorem dX11_askHalf_36 : decode cX11_askHalf 36 = .ok (.iconst 2, 1) := by decide +kernel
theorem dX11_askHalf_37 : decode cX11_askHalf 37 = .ok (.iadd, 1) := by decide +kernel
theorem dX11_askHalf_38 : decode cX11_askHalf 38 = .ok (.iload 4, 2) := by decide +kernel
theorem dX11_askHalf_40 : decode cX11_askHalf 40 = .ok (.iastore, 1) := by decide +kernel
theorem dX11_askHalf_41 : decode cX11_askHalf 41 = .ok (.aload_n 0, 1) := by decide +kernel
theorem dX11_askHalf_42 : decode cX11_askHalf 42 = .ok (.getfield 80, 3) := by decide +kernel
theorem dX11_askHalf_45 : decode cX11_askHalf 45 = .ok (.iload_n 1, 1) := by decide +kernel
theorem dX11_askHalf_46 : decode cX11_askHalf 46 = .ok (.iconst 3, 1) := by decide +kernel
theorem dX11_askHalf_47 : decode cX11_askHalf 47 = .ok (.iadd, 1) := by decide +kernel
theorem dX11_askHalf_48 : decode cX11_askHalf 48 = .ok (.iload 5, 2) := by decide +kernel
theorem dX11_askHalf_50 : decode cX11_askHalf 50 = .ok (.iastore, 1) := by decide +kernel
theorem dX11_askHalf_51 : decode cX11_askHalf 51 = .ok (.return_, 1) := by decide +kernel
theorem B_X11_askHalf_0 {g : Sg} {c t : Nat} (hL : Lay LC g c t σ) {x1 : Int} {x2 : Int} {x3 : Int} {x4 : Int} {x5 : Int} (h : ((x1 < 0 → (Lay LC g c t σ → Q (.inl none) σ)) ∧ (¬ (x1 < 0) → inR (x1 + 3) ∧ ((8 ≤ (x1 + 3) → (Lay LC g c t σ → Q (.inl none) σ)) ∧ (¬ (8 ≤ (x1 + 3)) → (0 ≤ x1 ∧ x1 < 8) ∧ ∀ τ3 : Sg, τ3 = sI σ 155 x1.toNat x2 → inR (x1 + 1) ∧ (0 ≤ (x1 + 1) ∧ (x1 + 1) < 8) ∧ ∀ τ6 : Sg, τ6 = sI τ3 155 (x1 + 1).toNat x3 → inR (x1 + 2) ∧ (0 ≤ (x1 + 2) ∧ (x1 + 2) < 8) ∧ ∀ τ9 : Sg, τ9 = sI τ6 155 (x1 + 2).toNat x4 → (0 ≤ (x1 + 3) ∧ (x1 + 3) < 8) ∧ ∀ τ11 : Sg, τ11 = sI τ9 155 (x1 + 3).toNat x5 → (Lay LC g c t τ11 → Q (.inl none) τ11)))))) : GG E mX11_askHalf 0 [some (vr 16), some (vi x1), some (vi x2), some (vi x3), some (vi x4), some (vi x5)] [] σ rc rs Q := by
  refine r_iload_n (pc := 0) dX11_askHalf_0 rfl rfl ?_
  refine r_if_lt (pc := 1) (tgt := 51) dX11_askHalf_1 (by decide) (fun c9 => ?_) (fun c9 => ?_)
  · replace h := h.1 c9
    exact r_return (pc := 51) dX11_askHalf_51 (by decide +kernel) rfl (h hL)
  · replace h := h.2 c9
    refine r_iload_n (pc := 4) dX11_askHalf_4 rfl rfl ?_
    refine r_iconst (pc := 5) dX11_askHalf_5 (inRk rfl) ?_
    obtain ⟨o1, h⟩ := h
    refine r_iadd (pc := 6) dX11_askHalf_6 o1 ?_
    refine r_aload_n (pc := 7) dX11_askHalf_7 rfl rfl ?_
    refine r_getR (pc := 8) dX11_askHalf_8 (k9 := 9) CL_11 (by decide) (by decide) w_597 rfl (okO_of (N := 17) (hL.sh (i := 0) rfl (by decide) (by decide)) (by decide)) ?_
    refine eqR (y := 155) (hL.rf (i := 44) rfl) ?_
    have o12 : okN σ 155 := okN_of (hL.sh (i := 51) rfl (by decide) (by decide)) (by decide) (by decide) (by decide)
    refine r_alen (pc := 11) dX11_askHalf_11 o12.1 o12.2 ?_
    refine eqI (y := 8) (by rw [(hL.sh (i := 51) rfl (by decide) (by decide))] <;> rfl) ?_
    refine r_icmp_ge (pc := 12) (tgt := 51) dX11_askHalf_12 (by decide) (fun c9 => ?_) (fun c9 => ?_)
    · replace h := h.1 c9
      exact r_return (pc := 51) dX11_askHalf_51 (by decide +kernel) rfl (h hL)
    · replace h := h.2 c9
      refine r_aload_n (pc := 15) dX11_askHalf_15 rfl rfl ?_
      refine r_getR (pc := 16) dX11_askHalf_16 (k9 := 9) CL_11 (by decide) (by decide) w_597 rfl (okO_of (N := 17) (hL.sh (i := 0) rfl (by decide) (by decide)) (by decide)) ?_
      refine eqR (y := 155) (hL.rf (i := 44) rfl) ?_
      refine r_iload_n (pc := 19) dX11_askHalf_19 rfl rfl ?_
      refine r_iload_n (pc := 20) dX11_askHalf_20 rfl rfl ?_
      obtain ⟨o2, h⟩ := h
      refine r_iastore (pc := 21) dX11_askHalf_21 (okB_of (c := 20) (n := 8) (hL.sh (i := 51) rfl (by decide) (by decide)) (by decide) o2) ?_
      refine nmS (fun τ3 e3 => ?_)
      replace h := h τ3 e3
      have hL := hL.wI e3 (by decide) (.inl (by decide))
      refine r_aload_n (pc := 22) dX11_askHalf_22 rfl rfl ?_
      refine r_getR (pc := 23) dX11_askHalf_23 (k9 := 9) CL_11 (by decide) (by decide) w_597 rfl (okO_of (N := 17) (hL.sh (i := 0) rfl (by decide) (by decide)) (by decide)) ?_
      refine eqR (y := 155) (hL.rf (i := 44) rfl) ?_
      refine r_iload_n (pc := 26) dX11_askHalf_26 rfl rfl ?_
      refine r_iconst (pc := 27) dX11_askHalf_27 (inRk rfl) ?_
      obtain ⟨o4, h⟩ := h
      refine r_iadd (pc := 28) dX11_askHalf_28 o4 ?_
      refine r_iload_n (pc := 29) dX11_askHalf_29 rfl rfl ?_
      obtain ⟨o5, h⟩ := h
      refine r_iastore (pc := 30) dX11_askHalf_30 (okB_of (c := 20) (n := 8) (hL.sh (i := 51) rfl (by decide) (by decide)) (by decide) o5) ?_
      refine nmS (fun τ6 e6 => ?_)
      replace h := h τ6 e6
      have hL := hL.wI e6 (by decide) (.inl (by decide))
      refine r_aload_n (pc := 31) dX11_askHalf_31 rfl rfl ?_
      refine r_getR (pc := 32) dX11_askHalf_32 (k9 := 9) CL_11 (by decide) (by decide) w_597 rfl (okO_of (N := 17) (hL.sh (i := 0) rfl (by decide) (by decide)) (by decide)) ?_
      refine eqR (y := 155) (hL.rf (i := 44) rfl) ?_
      refine r_iload_n (pc := 35) dX11_askHalf_35 rfl rfl ?_
      refine r_iconst (pc := 36) dX11_askHalf_36 (inRk rfl) ?_
      obtain ⟨o7, h⟩ := h
      refine r_iadd (pc := 37) dX11_askHalf_37 o7 ?_
      refine r_iload (pc := 38) dX11_askHalf_38 rfl ?_
      obtain ⟨o8, h⟩ := h
      refine r_iastore (pc := 40) dX11_askHalf_40 (okB_of (c := 20) (n := 8) (hL.sh (i := 51) rfl (by decide) (by decide)) (by decide) o8) ?_
      refine nmS (fun τ9 e9 => ?_)
      replace h := h τ9 e9
      have hL := hL.wI e9 (by decide) (.inl (by decide))
      refine r_aload_n (pc := 41) dX11_askHalf_41 rfl rfl ?_
      refine r_getR (pc := 42) dX11_askHalf_42 (k9 := 9) CL_11 (by decide) (by decide) w_597 rfl (okO_of (N := 17) (hL.sh (i := 0) rfl (by decide) (by decide)) (by decide)) ?_
      refine eqR (y := 155) (hL.rf (i := 44) rfl) ?_
      refine r_iload_n (pc := 45) dX11_askHalf_45 rfl rfl ?_
      refine r_iconst (pc := 46) dX11_askHalf_46 (inRk rfl) ?_
      refine r_iadd (pc := 47) dX11_askHalf_47 o1 ?_
      refine r_iload (pc := 48) dX11_askHalf_48 rfl ?_
      obtain ⟨o10, h⟩ := h
      refine r_iastore (pc := 50) dX11_askHalf_50 (okB_of (c := 20) (n := 8) (hL.sh (i := 51) rfl (by decide) (by decide)) (by decide) o10) ?_
      refine nmS (fun τ11 e11 => ?_)
      replace h := h τ11 e11
      have hL := hL.wI e11 (by decide) (.inl (by decide))
      exact r_return (pc := 51) dX11_askHalf_51 (by decide +kernel) rfl (h hL)
theorem C_X11_askHalf {a0 : Nat} {x1 : Int} {x2 : Int} {x3 : Int} {x4 : Int} {x5 : Int} (h : GG E mX11_askHalf 0 [some (vr a0), some (vi x1), some (vi x2), some (vi x3), some (vi x4), some (vi x5)] [] σ 0 0 Q) : CC E mX11_askHalf [vr a0, vi x1, vi x2, vi x3, vi x4, vi x5] σ Q := CC.of (by decide +kernel) rfl (by decide +kernel) (fun h9 => nomatch h9) (Nat.le_of_ble_eq_true rfl) h
theorem dX11_at_0 : decode cX11_at 0 = .ok (.iload_n 1, 1) := by decide +kernel
theorem dX11_at_1 : decode cX11_at 1 = .ok (.ifCond .lt 15, 3) := by decide +kernel
theorem dX11_at_4 : decode cX11_at 4 = .ok (.iload_n 1, 1) := by decide +kernel
theorem dX11_at_5 : decode cX11_at 5 = .ok (.aload_n 0, 1) := by decide +kernel
theorem dX11_at_6 : decode cX11_at 6 = .ok (.arraylength, 1) := by decide +kernel
theorem dX11_at_7 : decode cX11_at 7 = .ok (.if_icmp .ge 9, 3) := by decide +kernel
theorem dX11_at_10 : decode cX11_at 10 = .ok (.aload_n 0, 1) := by decide +kernel
theorem dX11_at_11 : decode cX11_at 11 = .ok (.iload_n 1, 1) := by decide +kernel
theorem dX11_at_12 : decode cX11_at 12 = .ok (.iaload, 1) := by decide +kernel
theorem dX11_at_13 : decode cX11_at 13 = .ok (.goto 4, 3) := by decide +kernel
theorem dX11_at_16 : decode cX11_at 16 = .ok (.iconst 0, 1) := by decide +kernel
theorem dX11_at_17 : decode cX11_at 17 = .ok (.ireturn, 1) := by decide +kernel
theorem B_X11_at_0 {a0 : Nat} {x1 : Int} (h : ((x1 < 0 → Q (.inl (some (vi 0))) σ) ∧ (¬ (x1 < 0) → okN σ a0 ∧ ((((gS σ a0).2 : Int) ≤ x1 → Q (.inl (some (vi 0))) σ) ∧ (¬ (((gS σ a0).2 : Int) ≤ x1) → okA 20 σ a0 x1 ∧ Q (.inl (some (vi (gI σ a0 x1.toNat)))) σ))))) : GG E mX11_at 0 [some (vr a0), some (vi x1)] [] σ rc rs Q := by
  refine r_iload_n (pc := 0) dX11_at_0 rfl rfl ?_
  refine r_if_lt (pc := 1) (tgt := 16) dX11_at_1 (by decide) (fun c9 => ?_) (fun c9 => ?_)
  · replace h := h.1 c9
    refine r_iconst (pc := 16) dX11_at_16 (inRk rfl) ?_
    exact r_ireturn (pc := 17) (ty := .int) dX11_at_17 (by decide +kernel) rfl (nar_i _) h
  · replace h := h.2 c9
    refine r_iload_n (pc := 4) dX11_at_4 rfl rfl ?_
    refine r_aload_n (pc := 5) dX11_at_5 rfl rfl ?_
    obtain ⟨o1, h⟩ := h
    refine r_alen (pc := 6) dX11_at_6 o1.1 o1.2 ?_
    refine r_icmp_ge (pc := 7) (tgt := 16) dX11_at_7 (by decide) (fun c9 => ?_) (fun c9 => ?_)
    · replace h := h.1 c9
      refine r_iconst (pc := 16) dX11_at_16 (inRk rfl) ?_
      exact r_ireturn (pc := 17) (ty := .int) dX11_at_17 (by decide +kernel) rfl (nar_i _) h
    · replace h := h.2 c9
      refine r_aload_n (pc := 10) dX11_at_10 rfl rfl ?_
      refine r_iload_n (pc := 11) dX11_at_11 rfl rfl ?_
      obtain ⟨o2, h⟩ := h
      refine r_iaload (pc := 12) dX11_at_12 o2 ?_
      refine r_goto (pc := 13) (tgt := 17) dX11_at_13 (by decide) ?_
      exact r_ireturn (pc := 17) (ty := .int) dX11_at_17 (by decide +kernel) rfl (nar_i _) h
theorem C_X11_at {a0 : Nat} {x1 : Int} (h : GG E mX11_at 0 [some (vr a0), some (vi x1)] [] σ 0 0 Q) : CC E mX11_at [vr a0, vi x1] σ Q := CC.of (by decide +kernel) rfl (by decide +kernel) (fun h9 => nomatch h9) (Nat.le_of_ble_eq_true rfl) h
theorem dX11_axes_0 : decode cX11_axes 0 = .ok (.aload_n 0, 1) := by decide +kernel
theorem dX11_axes_1 : decode cX11_axes 1 = .ok (.iload_n 1, 1) := by decide +kernel
theorem dX11_axes_2 : decode cX11_axes 2 = .ok (.iconst 2, 1) := by decide +kernel
theorem dX11_axes_3 : decode cX11_axes 3 = .ok (.bipush 120, 2) := by decide +kernel
theorem dX11_axes_5 : decode cX11_axes 5 = .ok (.invokevirtual 128, 3) := by decide +kernel
theorem dX11_axes_8 : decode cX11_axes 8 = .ok (.aload_n 0, 1) := by decide +kernel
theorem dX11_axes_9 : decode cX11_axes 9 = .ok (.getfield 35, 3) := by decide +kernel
theorem dX11_axes_12 : decode cX11_axes 12 = .ok (.iload_n 1, 1) := by decide +kernel
theorem dX11_axes_13 : decode cX11_axes 13 = .ok (.invokevirtual 286, 3) := by decide +kernel
theorem dX11_axes_16 : decode cX11_axes 16 = .ok (.ireturn, 1) := by decide +kernel
theorem B_X11_axes_0 {g : Sg} {c t : Nat} (hL : Lay LC g c t σ) {x1 : Int} (h : 1 ≤ rc ∧ 6 ≤ rs ∧ (Lay LC g c t σ → CC E mX11_needBetween [vr 16, vi x1, vi 2, vi 120] σ (KV (fun τ4 => Lay LC g c t τ4 ∧ (Lay LC g c t τ4 → CC E mX4_countAxes [vr 24, vi x1] τ4 (KI (fun r5 τ6 => Lay LC g c t τ6 ∧ (inR r5 → (Lay LC g c t τ6 → Q (.inl (some (vi r5))) τ6))) (fun _ _ => False)))) (fun k9 τ9 => Q (.inr k9) τ9)))) : GG E mX11_axes 0 [some (vr 16), some (vi x1)] [] σ rc rs Q := by
  refine r_aload_n (pc := 0) dX11_axes_0 rfl rfl ?_
  refine r_iload_n (pc := 1) dX11_axes_1 rfl rfl ?_
  refine r_iconst (pc := 2) dX11_axes_2 (inRk rfl) ?_
  refine r_bipush (pc := 3) dX11_axes_3 (by decide) ?_
  obtain ⟨o1, h⟩ := h
  obtain ⟨o2, h⟩ := h
  refine c_VVAX (M := mX11_axes) (pc := 5) (As := [vi x1, vi 2, vi 120]) dX11_axes_5 K_X11_needBetween w_707 ⟨by decide, by decide⟩ (Nat.le_of_ble_eq_true rfl) o1 o2 (ci := 11) rfl rfl (by decide) (okO_of (N := 17) (hL.sh (i := 0) rfl (by decide) (by decide)) (by decide)) (h hL) (fun τ4 h8 => ?_) (fun k9 τ9 hk9 h8 => ?_) rfl
  · replace hL := h8.1
    replace h := h8.2
    refine r_aload_n (pc := 8) dX11_axes_8 rfl rfl ?_
    refine r_getR (pc := 9) dX11_axes_9 (k9 := 3) CL_11 (by decide) (by decide) w_591 rfl (okO_of (N := 17) (hL.sh (i := 0) rfl (by decide) (by decide)) (by decide)) ?_
    refine eqR (y := 24) (hL.rf (i := 14) rfl) ?_
    refine r_iload_n (pc := 12) dX11_axes_12 rfl rfl ?_
    refine c_VI0N (M := mX11_axes) (pc := 13) (As := [vi x1]) dX11_axes_13 K_X4_countAxes w_1184 ⟨by decide, by decide⟩ (Nat.le_of_ble_eq_true rfl) rfl rfl (ci := 4) rfl rfl (by decide) (okO_of (N := 12) (hL.sh (i := 8) rfl (by decide) (by decide)) (by decide)) (h hL) (fun r5 τ6 h8 hr9 => ?_) rfl
    replace hL := h8.1
    replace h := h8.2 hr9
    exact r_ireturn (pc := 16) (ty := .int) dX11_axes_16 (by decide +kernel) rfl (nar_i _) (h hL)
  · exact TT.out (by decide +kernel) rfl h8
theorem C_X11_axes {a0 : Nat} {x1 : Int} (h : GG E mX11_axes 0 [some (vr a0), some (vi x1)] [] σ 1 6 Q) : CC E mX11_axes [vr a0, vi x1] σ Q := CC.of (by decide +kernel) rfl (by decide +kernel) (fun h9 => nomatch h9) (Nat.le_of_ble_eq_true rfl) h
theorem dX11_canBeTold_0 : decode cX11_canBeTold 0 = .ok (.iconst 0, 1) := by decide +kernel
theorem dX11_canBeTold_1 : decode cX11_canBeTold 1 = .ok (.istore_n 1, 1) := by decide +kernel
theorem dX11_canBeTold_2 : decode cX11_canBeTold 2 = .ok (.iload_n 1, 1) := by decide +kernel
theorem dX11_canBeTold_3 : decode cX11_canBeTold 3 = .ok (.aload_n 0, 1) := by decide +kernel
theorem dX11_canBeTold_4 : decode cX11_canBeTold 4 = .ok (.arraylength, 1) := by decide +kernel
theorem dX11_canBeTold_5 : decode cX11_canBeTold 5 = .ok (.if_icmp .ge 26, 3) := by decide +kernel
theorem dX11_canBeTold_8 : decode cX11_canBeTold 8 = .ok (.aload_n 0, 1) := by decide +kernel
theorem dX11_canBeTold_9 : decode cX11_canBeTold 9 = .ok (.iload_n 1, 1) := by decide +kernel
theorem dX11_canBeTold_10 : decode cX11_canBeTold 10 = .ok (.iaload, 1) := by decide +kernel
theorem dX11_canBeTold_11 : decode cX11_canBeTold 11 = .ok (.bipush (-4), 2) := by decide +kernel
theorem dX11_canBeTold_13 : decode cX11_canBeTold 13 = .ok (.if_icmp .lt 10, 3) := by decide +kernel
theorem dX11_canBeTold_16 : decode cX11_canBeTold 16 = .ok (.aload_n 0, 1) := by decide +kernel
theorem dX11_canBeTold_17 : decode cX11_canBeTold 17 = .ok (.iload_n 1, 1) := by decide +kernel
theorem dX11_canBeTold_18 : decode cX11_canBeTold 18 = .ok (.iaload, 1) := by decide +kernel
theorem dX11_canBeTold_19 : decode cX11_canBeTold 19 = .ok (.iconst 4, 1) := by decide +kernel
theorem dX11_canBeTold_20 : decode cX11_canBeTold 20 = .ok (.if_icmp .le 5, 3) := by decide +kernel
theorem dX11_canBeTold_23 : decode cX11_canBeTold 23 = .ok (.iconst 0, 1) := by decide +kernel
theorem dX11_canBeTold_24 : decode cX11_canBeTold 24 = .ok (.ireturn, 1) := by decide +kernel
theorem dX11_canBeTold_25 : decode cX11_canBeTold 25 = .ok (.iinc 1 1, 3) := by decide +kernel
theorem dX11_canBeTold_28 : decode cX11_canBeTold 28 = .ok (.goto (-26), 3) := by decide +kernel
theorem dX11_canBeTold_31 : decode cX11_canBeTold 31 = .ok (.iconst 1, 1) := by decide +kernel
theorem dX11_canBeTold_32 : decode cX11_canBeTold 32 = .ok (.ireturn, 1) := by decide +kernel
theorem B_X11_canBeTold_0 {a0 : Nat} (h : GG E mX11_canBeTold 2 [some (vr a0), some (vi 0)] [] σ rc rs Q) : GG E mX11_canBeTold 0 [some (vr a0), none] [] σ rc rs Q := by
  refine r_iconst (pc := 0) dX11_canBeTold_0 (inRk rfl) ?_
  refine r_istore_n (pc := 1) dX11_canBeTold_1 rfl (by decide) (l2 := [some (vr a0), some (vi 0)]) rfl ?_
  exact h
theorem B_X11_canBeTold_2 {a0 : Nat} {x1 : Int} (h : okN σ a0 ∧ ((((gS σ a0).2 : Int) ≤ x1 → Q (.inl (some (vi 1))) σ) ∧ (¬ (((gS σ a0).2 : Int) ≤ x1) → okA 20 σ a0 x1 ∧ (((gI σ a0 x1.toNat) < (-4) → Q (.inl (some (vi 0))) σ) ∧ (¬ ((gI σ a0 x1.toNat) < (-4)) → (((gI σ a0 x1.toNat) ≤ 4 → inR (x1 + 1) ∧ GG E mX11_canBeTold 2 [some (vr a0), some (vi (x1 + 1))] [] σ rc rs Q) ∧ (¬ ((gI σ a0 x1.toNat) ≤ 4) → Q (.inl (some (vi 0))) σ))))))) : GG E mX11_canBeTold 2 [some (vr a0), some (vi x1)] [] σ rc rs Q := by
  refine r_iload_n (pc := 2) dX11_canBeTold_2 rfl rfl ?_
  refine r_aload_n (pc := 3) dX11_canBeTold_3 rfl rfl ?_
  obtain ⟨o1, h⟩ := h
  refine r_alen (pc := 4) dX11_canBeTold_4 o1.1 o1.2 ?_
  refine r_icmp_ge (pc := 5) (tgt := 31) dX11_canBeTold_5 (by decide) (fun c9 => ?_) (fun c9 => ?_)
  · replace h := h.1 c9
    refine r_iconst (pc := 31) dX11_canBeTold_31 (inRk rfl) ?_
    exact r_ireturn (pc := 32) (ty := .boolean) dX11_canBeTold_32 (by decide +kernel) rfl (nar_bool (by decide)) h
  · replace h := h.2 c9
    refine r_aload_n (pc := 8) dX11_canBeTold_8 rfl rfl ?_
    refine r_iload_n (pc := 9) dX11_canBeTold_9 rfl rfl ?_
    obtain ⟨o2, h⟩ := h
    refine r_iaload (pc := 10) dX11_canBeTold_10 o2 ?_
    refine r_bipush (pc := 11) dX11_canBeTold_11 (by decide) ?_
    refine r_icmp_lt (pc := 13) (tgt := 23) dX11_canBeTold_13 (by decide) (fun c9 => ?_) (fun c9 => ?_)
    · replace h := h.1 c9
      refine r_iconst (pc := 23) dX11_canBeTold_23 (inRk rfl) ?_
      exact r_ireturn (pc := 24) (ty := .boolean) dX11_canBeTold_24 (by decide +kernel) rfl (nar_bool (by decide)) h
    · replace h := h.2 c9
      refine r_aload_n (pc := 16) dX11_canBeTold_16 rfl rfl ?_
      refine r_iload_n (pc := 17) dX11_canBeTold_17 rfl rfl ?_
      refine r_iaload (pc := 18) dX11_canBeTold_18 o2 ?_
      refine r_iconst (pc := 19) dX11_canBeTold_19 (inRk rfl) ?_
      refine r_icmp_le (pc := 20) (tgt := 25) dX11_canBeTold_20 (by decide) (fun c9 => ?_) (fun c9 => ?_)
      · replace h := h.1 c9
        obtain ⟨o3, h⟩ := h
        refine r_iinc (pc := 25) dX11_canBeTold_25 rfl (by decide) o3 (l2 := [some (vr a0), some (vi (x1 + 1))]) rfl ?_
        refine r_goto (pc := 28) (tgt := 2) dX11_canBeTold_28 (by decide) ?_
        exact h
      · replace h := h.2 c9
        refine r_iconst (pc := 23) dX11_canBeTold_23 (inRk rfl) ?_
        exact r_ireturn (pc := 24) (ty := .boolean) dX11_canBeTold_24 (by decide +kernel) rfl (nar_bool (by decide)) h
theorem C_X11_canBeTold {a0 : Nat} (h : GG E mX11_canBeTold 0 [some (vr a0), none] [] σ 0 0 Q) : CC E mX11_canBeTold [vr a0] σ Q := CC.of (by decide +kernel) rfl (by decide +kernel) (fun h9 => nomatch h9) (Nat.le_of_ble_eq_true rfl) h
theorem dX11_couples_0 : decode cX11_couples 0 = .ok (.aload_n 0, 1) := by decide +kernel
theorem dX11_couples_1 : decode cX11_couples 1 = .ok (.iload_n 1, 1) := by decide +kernel
theorem dX11_couples_2 : decode cX11_couples 2 = .ok (.aload_n 0, 1) := by decide +kernel
theorem dX11_couples_3 : decode cX11_couples 3 = .ok (.getfield 35, 3) := by decide +kernel
theorem dX11_couples_6 : decode cX11_couples 6 = .ok (.getfield 208, 3) := by decide +kernel
theorem dX11_couples_9 : decode cX11_couples 9 = .ok (.invokevirtual 193, 3) := by decide +kernel
theorem dX11_couples_12 : decode cX11_couples 12 = .ok (.aload_n 0, 1) := by decide +kernel
theorem dX11_couples_13 : decode cX11_couples 13 = .ok (.iload_n 2, 1) := by decide +kernel
theorem dX11_couples_14 : decode cX11_couples 14 = .ok (.aload_n 0, 1) := by decide +kernel
theorem dX11_couples_15 : decode cX11_couples 15 = .ok (.getfield 35, 3) := by decide +kernel
theorem dX11_couples_18 : decode cX11_couples 18 = .ok (.getfield 208, 3) := by decide +kernel
theorem dX11_couples_21 : decode cX11_couples 21 = .ok (.invokevirtual 193, 3) := by decide +kernel
theorem dX11_couples_24 : decode cX11_couples 24 = .ok (.aload_n 0, 1) := by decide +kernel
theorem dX11_couples_25 : decode cX11_couples 25 = .ok (.iload_n 3, 1) := by decide +kernel
theorem dX11_couples_26 : decode cX11_couples 26 = .ok (.aload_n 0, 1) := by decide +kernel
theorem dX11_couples_27 : decode cX11_couples 27 = .ok (.getfield 35, 3) := by decide +kernel
theorem dX11_couples_30 : decode cX11_couples 30 = .ok (.getfield 208, 3) := by decide +kernel
theorem dX11_couples_33 : decode cX11_couples 33 = .ok (.invokevirtual 193, 3) := by decide +kernel
theorem dX11_couples_36 : decode cX11_couples 36 = .ok (.aload_n 0, 1) := by decide +kernel
theorem dX11_couples_37 : decode cX11_couples 37 = .ok (.getfield 35, 3) := by decide +kernel
theorem dX11_couples_40 : decode cX11_couples 40 = .ok (.iload_n 1, 1) := by decide +kernel
theorem dX11_couples_41 : decode cX11_couples 41 = .ok (.iload_n 2, 1) := by decide +kernel
theorem dX11_couples_42 : decode cX11_couples 42 = .ok (.iload_n 3, 1) := by decide +kernel
theorem dX11_couples_43 : decode cX11_couples 43 = .ok (.invokevirtual 282, 3) := by decide +kernel
theorem dX11_couples_46 : decode cX11_couples 46 = .ok (.ireturn, 1) := by decide +kernel
theorem B_X11_couples_0 {g : Sg} {c t : Nat} (hL : Lay LC g c t σ) {x1 : Int} {x2 : Int} {x3 : Int} (h : 1 ≤ rc ∧ 6 ≤ rs ∧ (Lay LC g c t σ → CC E mX11_needIndex [vr 16, vi x1, vi (gI σ 24 7)] σ (KV (fun τ4 => Lay LC g c t τ4 ∧ 1 ≤ rc - 1 ∧ 6 ≤ rs - 6 ∧ (Lay LC g c t τ4 → CC E mX11_needIndex [vr 16, vi x2, vi (gI τ4 24 7)] τ4 (KV (fun τ8 => Lay LC g c t τ8 ∧ 1 ≤ rc - 1 - 1 ∧ 6 ≤ rs - 6 - 6 ∧ (Lay LC g c t τ8 → CC E mX11_needIndex [vr 16, vi x3, vi (gI τ8 24 7)] τ8 (KV (fun τ12 => Lay LC g c t τ12 ∧ (Lay LC g c t τ12 → CC E mX4_countCouples [vr 24, vi x1, vi x2, vi x3] τ12 (KI (fun r13 τ14 => Lay LC g c t τ14 ∧ (inR r13 → (Lay LC g c t τ14 → Q (.inl (some (vi r13))) τ14))) (fun _ _ => False)))) (fun k9 τ9 => Q (.inr k9) τ9)))) (fun k9 τ9 => Q (.inr k9) τ9)))) (fun k9 τ9 => Q (.inr k9) τ9)))) : GG E mX11_couples 0 [some (vr 16), some (vi x1), some (vi x2), some (vi x3)] [] σ rc rs Q := by
  refine r_aload_n (pc := 0) dX11_couples_0 rfl rfl ?_
  refine r_iload_n (pc := 1) dX11_couples_1 rfl rfl ?_
  refine r_aload_n (pc := 2) dX11_couples_2 rfl rfl ?_
  refine r_getR (pc := 3) dX11_couples_3 (k9 := 3) CL_11 (by decide) (by decide) w_591 rfl (okO_of (N := 17) (hL.sh (i := 0) rfl (by decide) (by decide)) (by decide)) ?_
  refine eqR (y := 24) (hL.rf (i := 14) rfl) ?_
  refine r_getI (pc := 6) dX11_couples_6 (k9 := 7) CL_4 (by decide) (by decide) w_227 rfl (okO_of (N := 12) (hL.sh (i := 8) rfl (by decide) (by decide)) (by decide)) (fun _ => ?_)
  obtain ⟨o1, h⟩ := h
  obtain ⟨o2, h⟩ := h
  refine c_VVAX (M := mX11_couples) (pc := 9) (As := [vi x1, vi (gI σ 24 7)]) dX11_couples_9 K_X11_needIndex w_946 ⟨by decide, by decide⟩ (Nat.le_of_ble_eq_true rfl) o1 o2 (ci := 11) rfl rfl (by decide) (okO_of (N := 17) (hL.sh (i := 0) rfl (by decide) (by decide)) (by decide)) (h hL) (fun τ4 h8 => ?_) (fun k9 τ9 hk9 h8 => ?_) rfl
  · replace hL := h8.1
    replace h := h8.2
    refine r_aload_n (pc := 12) dX11_couples_12 rfl rfl ?_
    refine r_iload_n (pc := 13) dX11_couples_13 rfl rfl ?_
    refine r_aload_n (pc := 14) dX11_couples_14 rfl rfl ?_
    refine r_getR (pc := 15) dX11_couples_15 (k9 := 3) CL_11 (by decide) (by decide) w_591 rfl (okO_of (N := 17) (hL.sh (i := 0) rfl (by decide) (by decide)) (by decide)) ?_
    refine eqR (y := 24) (hL.rf (i := 14) rfl) ?_
    refine r_getI (pc := 18) dX11_couples_18 (k9 := 7) CL_4 (by decide) (by decide) w_227 rfl (okO_of (N := 12) (hL.sh (i := 8) rfl (by decide) (by decide)) (by decide)) (fun _ => ?_)
    obtain ⟨o5, h⟩ := h
    obtain ⟨o6, h⟩ := h
    refine c_VVAX (M := mX11_couples) (pc := 21) (As := [vi x2, vi (gI τ4 24 7)]) dX11_couples_21 K_X11_needIndex w_946 ⟨by decide, by decide⟩ (Nat.le_of_ble_eq_true rfl) o5 o6 (ci := 11) rfl rfl (by decide) (okO_of (N := 17) (hL.sh (i := 0) rfl (by decide) (by decide)) (by decide)) (h hL) (fun τ8 h8 => ?_) (fun k9 τ9 hk9 h8 => ?_) rfl
    · replace hL := h8.1
      replace h := h8.2
      refine r_aload_n (pc := 24) dX11_couples_24 rfl rfl ?_
      refine r_iload_n (pc := 25) dX11_couples_25 rfl rfl ?_
      refine r_aload_n (pc := 26) dX11_couples_26 rfl rfl ?_
      refine r_getR (pc := 27) dX11_couples_27 (k9 := 3) CL_11 (by decide) (by decide) w_591 rfl (okO_of (N := 17) (hL.sh (i := 0) rfl (by decide) (by decide)) (by decide)) ?_
      refine eqR (y := 24) (hL.rf (i := 14) rfl) ?_
      refine r_getI (pc := 30) dX11_couples_30 (k9 := 7) CL_4 (by decide) (by decide) w_227 rfl (okO_of (N := 12) (hL.sh (i := 8) rfl (by decide) (by decide)) (by decide)) (fun _ => ?_)
      obtain ⟨o9, h⟩ := h
      obtain ⟨o10, h⟩ := h
      refine c_VVAX (M := mX11_couples) (pc := 33) (As := [vi x3, vi (gI τ8 24 7)]) dX11_couples_33 K_X11_needIndex w_946 ⟨by decide, by decide⟩ (Nat.le_of_ble_eq_true rfl) o9 o10 (ci := 11) rfl rfl (by decide) (okO_of (N := 17) (hL.sh (i := 0) rfl (by decide) (by decide)) (by decide)) (h hL) (fun τ12 h8 => ?_) (fun k9 τ9 hk9 h8 => ?_) rfl
      · replace hL := h8.1
        replace h := h8.2
        refine r_aload_n (pc := 36) dX11_couples_36 rfl rfl ?_
        refine r_getR (pc := 37) dX11_couples_37 (k9 := 3) CL_11 (by decide) (by decide) w_591 rfl (okO_of (N := 17) (hL.sh (i := 0) rfl (by decide) (by decide)) (by decide)) ?_
        refine eqR (y := 24) (hL.rf (i := 14) rfl) ?_
        refine r_iload_n (pc := 40) dX11_couples_40 rfl rfl ?_
        refine r_iload_n (pc := 41) dX11_couples_41 rfl rfl ?_
        refine r_iload_n (pc := 42) dX11_couples_42 rfl rfl ?_
        refine c_VI0N (M := mX11_couples) (pc := 43) (As := [vi x1, vi x2, vi x3]) dX11_couples_43 K_X4_countCouples w_1173 ⟨by decide, by decide⟩ (Nat.le_of_ble_eq_true rfl) rfl rfl (ci := 4) rfl rfl (by decide) (okO_of (N := 12) (hL.sh (i := 8) rfl (by decide) (by decide)) (by decide)) (h hL) (fun r13 τ14 h8 hr9 => ?_) rfl
        replace hL := h8.1
        replace h := h8.2 hr9
        exact r_ireturn (pc := 46) (ty := .int) dX11_couples_46 (by decide +kernel) rfl (nar_i _) (h hL)
      · exact TT.out (by decide +kernel) rfl h8
    · exact TT.out (by decide +kernel) rfl h8
  · exact TT.out (by decide +kernel) rfl h8
theorem C_X11_couples {a0 : Nat} {x1 : Int} {x2 : Int} {x3 : Int} (h : GG E mX11_couples 0 [some (vr a0), some (vi x1), some (vi x2), some (vi x3)] [] σ 3 18 Q) : CC E mX11_couples [vr a0, vi x1, vi x2, vi x3] σ Q := CC.of (by decide +kernel) rfl (by decide +kernel) (fun h9 => nomatch h9) (Nat.le_of_ble_eq_true rfl) h
theorem dX11_degree_0 : decode cX11_degree 0 = .ok (.aload_n 0, 1) := by decide +kernel
theorem dX11_degree_1 : decode cX11_degree 1 = .ok (.invokevirtual 204, 3) := by decide +kernel
theorem dX11_degree_4 : decode cX11_degree 4 = .ok (.aload_n 0, 1) := by decide +kernel
theorem dX11_degree_5 : decode cX11_degree 5 = .ok (.iload_n 1, 1) := by decide +kernel
theorem dX11_degree_6 : decode cX11_degree 6 = .ok (.aload_n 0, 1) := by decide +kernel
theorem dX11_degree_7 : decode cX11_degree 7 = .ok (.getfield 49, 3) := by decide +kernel
theorem dX11_degree_10 : decode cX11_degree 10 = .ok (.getfield 239, 3) := by decide +kernel
theorem dX11_degree_13 : decode cX11_degree 13 = .ok (.invokevirtual 193, 3) := by decide +kernel
theorem dX11_degree_16 : decode cX11_degree 16 = .ok (.aload_n 0, 1) := by decide +kernel
theorem dX11_degree_17 : decode cX11_degree 17 = .ok (.getfield 49, 3) := by decide +kernel
theorem dX11_degree_20 : decode cX11_degree 20 = .ok (.getfield 289, 3) := by decide +kernel
theorem dX11_degree_23 : decode cX11_degree 23 = .ok (.iload_n 1, 1) := by decide +kernel
theorem dX11_degree_24 : decode cX11_degree 24 = .ok (.invokestatic 243, 3) := by decide +kernel
theorem dX11_degree_27 : decode cX11_degree 27 = .ok (.ireturn, 1) := by decide +kernel
theorem B_X11_degree_0 {g : Sg} {c t : Nat} (hL : Lay LC g c t σ) {x1 : Int} (h : (Lay LC g c t σ → CC E mX11_needCharacters [vr 16] σ (KV (fun τ2 => Lay LC g c t τ2 ∧ 1 ≤ rc ∧ 6 ≤ rs ∧ (Lay LC g c t τ2 → CC E mX11_needIndex [vr 16, vi x1, vi (gI τ2 34 7)] τ2 (KV (fun τ6 => Lay LC g c t τ6 ∧ (Lay LC g c t τ6 → CC E mX11_at [vr 49, vi x1] τ6 (KI (fun r7 τ8 => Lay LC g c t τ8 ∧ (inR r7 → (Lay LC g c t τ8 → Q (.inl (some (vi r7))) τ8))) (fun _ _ => False)))) (fun k9 τ9 => Q (.inr k9) τ9)))) (fun _ _ => False)))) : GG E mX11_degree 0 [some (vr 16), some (vi x1)] [] σ rc rs Q := by
  refine r_aload_n (pc := 0) dX11_degree_0 rfl rfl ?_
  refine c_VV0N (M := mX11_degree) (pc := 1) (As := []) dX11_degree_1 K_X11_needCharacters w_973 ⟨by decide, by decide⟩ (Nat.le_of_ble_eq_true rfl) rfl rfl (ci := 11) rfl rfl (by decide) (okO_of (N := 17) (hL.sh (i := 0) rfl (by decide) (by decide)) (by decide)) (h hL) (fun τ2 h8 => ?_) rfl
  replace hL := h8.1
  replace h := h8.2
  refine r_aload_n (pc := 4) dX11_degree_4 rfl rfl ?_
  refine r_iload_n (pc := 5) dX11_degree_5 rfl rfl ?_
  refine r_aload_n (pc := 6) dX11_degree_6 rfl rfl ?_
  refine r_getR (pc := 7) dX11_degree_7 (k9 := 5) CL_11 (by decide) (by decide) w_593 rfl (okO_of (N := 17) (hL.sh (i := 0) rfl (by decide) (by decide)) (by decide)) ?_
  refine eqR (y := 34) (hL.rf (i := 25) rfl) ?_
  refine r_getI (pc := 10) dX11_degree_10 (k9 := 7) CL_0 (by decide) (by decide) w_329 rfl (okO_of (N := 10) (hL.sh (i := 18) rfl (by decide) (by decide)) (by decide)) (fun _ => ?_)
  obtain ⟨o3, h⟩ := h
  obtain ⟨o4, h⟩ := h
  refine c_VVAX (M := mX11_degree) (pc := 13) (As := [vi x1, vi (gI τ2 34 7)]) dX11_degree_13 K_X11_needIndex w_946 ⟨by decide, by decide⟩ (Nat.le_of_ble_eq_true rfl) o3 o4 (ci := 11) rfl rfl (by decide) (okO_of (N := 17) (hL.sh (i := 0) rfl (by decide) (by decide)) (by decide)) (h hL) (fun τ6 h8 => ?_) (fun k9 τ9 hk9 h8 => ?_) rfl
  · replace hL := h8.1
    replace h := h8.2
    refine r_aload_n (pc := 16) dX11_degree_16 rfl rfl ?_
    refine r_getR (pc := 17) dX11_degree_17 (k9 := 5) CL_11 (by decide) (by decide) w_593 rfl (okO_of (N := 17) (hL.sh (i := 0) rfl (by decide) (by decide)) (by decide)) ?_
    refine eqR (y := 34) (hL.rf (i := 25) rfl) ?_
    refine r_getR (pc := 20) dX11_degree_20 (k9 := 2) CL_0 (by decide) (by decide) w_318 rfl (okO_of (N := 10) (hL.sh (i := 18) rfl (by decide) (by decide)) (by decide)) ?_
    refine eqR (y := 49) (hL.rf (i := 20) rfl) ?_
    refine r_iload_n (pc := 23) dX11_degree_23 rfl rfl ?_
    refine c_SI0N (M := mX11_degree) (pc := 24) (As := [vr 49, vi x1]) dX11_degree_24 K_X11_at w_690 ⟨by decide, by decide⟩ (Nat.le_of_ble_eq_true rfl) rfl rfl (h hL) (fun r7 τ8 h8 hr9 => ?_) rfl
    replace hL := h8.1
    replace h := h8.2 hr9
    exact r_ireturn (pc := 27) (ty := .int) dX11_degree_27 (by decide +kernel) rfl (nar_i _) (h hL)
  · exact TT.out (by decide +kernel) rfl h8
theorem C_X11_degree {a0 : Nat} {x1 : Int} (h : GG E mX11_degree 0 [some (vr a0), some (vi x1)] [] σ 1 6 Q) : CC E mX11_degree [vr a0, vi x1] σ Q := CC.of (by decide +kernel) rfl (by decide +kernel) (fun h9 => nomatch h9) (Nat.le_of_ble_eq_true rfl) h
theorem dX11_drop_0 : decode cX11_drop 0 = .ok (.aload_n 0, 1) := by decide +kernel
theorem dX11_drop_1 : decode cX11_drop 1 = .ok (.iload_n 1, 1) := by decide +kernel
theorem dX11_drop_2 : decode cX11_drop 2 = .ok (.aload_n 0, 1) := by decide +kernel
theorem dX11_drop_3 : decode cX11_drop 3 = .ok (.getfield 93, 3) := by decide +kernel
theorem dX11_drop_6 : decode cX11_drop 6 = .ok (.getfield 173, 3) := by decide +kernel
theorem dX11_drop_9 : decode cX11_drop 9 = .ok (.invokevirtual 193, 3) := by decide +kernel
theorem dX11_drop_12 : decode cX11_drop 12 = .ok (.aload_n 0, 1) := by decide +kernel
theorem dX11_drop_13 : decode cX11_drop 13 = .ok (.getfield 28, 3) := by decide +kernel
theorem dX11_drop_16 : decode cX11_drop 16 = .ok (.aload_n 0, 1) := by decide +kernel
theorem dX11_drop_17 : decode cX11_drop 17 = .ok (.getfield 93, 3) := by decide +kernel
theorem dX11_drop_20 : decode cX11_drop 20 = .ok (.invokevirtual 190, 3) := by decide +kernel
theorem dX11_drop_23 : decode cX11_drop 23 = .ok (.aload_n 0, 1) := by decide +kernel
theorem dX11_drop_24 : decode cX11_drop 24 = .ok (.getfield 97, 3) := by decide +kernel
theorem dX11_drop_27 : decode cX11_drop 27 = .ok (.aload_n 0, 1) := by decide +kernel
theorem dX11_drop_28 : decode cX11_drop 28 = .ok (.getfield 93, 3) := by decide +kernel
theorem dX11_drop_31 : decode cX11_drop 31 = .ok (.getfield 159, 3) := by decide +kernel
theorem dX11_drop_34 : decode cX11_drop 34 = .ok (.invokevirtual 104, 3) := by decide +kernel
theorem dX11_drop_37 : decode cX11_drop 37 = .ok (.iconst 0, 1) := by decide +kernel
theorem dX11_drop_38 : decode cX11_drop 38 = .ok (.istore_n 2, 1) := by decide +kernel
theorem dX11_drop_39 : decode cX11_drop 39 = .ok (.iload_n 2, 1) := by decide +kernel
theorem dX11_drop_40 : decode cX11_drop 40 = .ok (.aload_n 0, 1) := by decide +kernel
theorem dX11_drop_41 : decode cX11_drop 41 = .ok (.getfield 93, 3) := by decide +kernel
theorem dX11_drop_44 : decode cX11_drop 44 = .ok (.getfield 173, 3) := by decide +kernel
theorem dX11_drop_47 : decode cX11_drop 47 = .ok (.if_icmp .ge 37, 3) := by decide +kernel
theorem dX11_drop_50 : decode cX11_drop 50 = .ok (.iload_n 2, 1) := by decide +kernel
theorem dX11_drop_51 : decode cX11_drop 51 = .ok (.iconst 4, 1) := by decide +kernel
theorem dX11_drop_52 : decode cX11_drop 52 = .ok (.if_icmp .ge 32, 3) := by decide +kernel
theorem dX11_drop_55 : decode cX11_drop 55 = .ok (.iload_n 2, 1) := by decide +kernel
theorem dX11_drop_56 : decode cX11_drop 56 = .ok (.iload_n 1, 1) := by decide +kernel
theorem dX11_drop_57 : decode cX11_drop 57 = .ok (.if_icmp .eq 21, 3) := by decide +kernel
theorem dX11_drop_60 : decode cX11_drop 60 = .ok (.aload_n 0, 1) := by decide +kernel
theorem dX11_drop_61 : decode cX11_drop 61 = .ok (.getfield 97, 3) := by decide +kernel
theorem dX11_drop_64 : decode cX11_drop 64 = .ok (.aload_n 0, 1) := by decide +kernel
theorem dX11_drop_65 : decode cX11_drop 65 = .ok (.getfield 93, 3) := by decide +kernel
theorem dX11_drop_68 : decode cX11_drop 68 = .ok (.getfield 197, 3) := by decide +kernel
theorem dX11_drop_71 : decode cX11_drop 71 = .ok (.iload_n 2, 1) := by decide +kernel
theorem dX11_drop_72 : decode cX11_drop 72 = .ok (.bipush 8, 2) := by decide +kernel
theorem dX11_drop_74 : decode cX11_drop 74 = .ok (.imul, 1) := by decide +kernel
theorem dX11_drop_75 : decode cX11_drop 75 = .ok (.invokevirtual 184, 3) := by decide +kernel
theorem dX11_drop_78 : decode cX11_drop 78 = .ok (.iinc 2 1, 3) := by decide +kernel
theorem dX11_drop_81 : decode cX11_drop 81 = .ok (.goto (-42), 3) := by decide +kernel
theorem dX11_drop_84 : decode cX11_drop 84 = .ok (.aload_n 0, 1) := by decide +kernel
theorem dX11_drop_85 : decode cX11_drop 85 = .ok (.getfield 97, 3) := by decide +kernel
theorem dX11_drop_88 : decode cX11_drop 88 = .ok (.invokevirtual 108, 3) := by decide +kernel
theorem dX11_drop_91 : decode cX11_drop 91 = .ok (.pop, 1) := by decide +kernel
theorem dX11_drop_92 : decode cX11_drop 92 = .ok (.aload_n 0, 1) := by decide +kernel
theorem dX11_drop_93 : decode cX11_drop 93 = .ok (.invokevirtual 147, 3) := by decide +kernel
theorem dX11_drop_96 : decode cX11_drop 96 = .ok (.aload_n 0, 1) := by decide +kernel
theorem dX11_drop_97 : decode cX11_drop 97 = .ok (.getfield 93, 3) := by decide +kernel
theorem dX11_drop_100 : decode cX11_drop 100 = .ok (.getfield 150, 3) := by decide +kernel
theorem dX11_drop_103 : decode cX11_drop 103 = .ok (.ireturn, 1) := by decide +kernel
theorem B_X11_drop_0 {g : Sg} {c t : Nat} (hL : Lay LC g c t σ) {x1 : Int} (h : 1 ≤ rc ∧ 6 ≤ rs ∧ (Lay LC g c t σ → CC E mX11_needIndex [vr 16, vi x1, vi (gI σ c 7)] σ (KV (fun τ4 => Lay LC g c t τ4 ∧ (Lay LC g c t τ4 → CC E mX5_keep [vr 21, vr c] τ4 (KV (fun τ6 => Lay LC g c t τ6 ∧ (Lay LC g c t τ6 → CC E mX1_begin [vr t, vi (gI τ6 c 6)] τ6 (KV (fun τ8 => Lay LC g c t τ8 ∧ (Lay LC g c t τ8 → GG E mX11_drop 39 [some (vr 16), some (vi x1), some (vi 0)] [] τ8 (rc - 1) (rs - 6) Q)) (fun _ _ => False)))) (fun _ _ => False)))) (fun k9 τ9 => Q (.inr k9) τ9)))) : GG E mX11_drop 0 [some (vr 16), some (vi x1), none] [] σ rc rs Q := by
  refine r_aload_n (pc := 0) dX11_drop_0 rfl rfl ?_
  refine r_iload_n (pc := 1) dX11_drop_1 rfl rfl ?_
  refine r_aload_n (pc := 2) dX11_drop_2 rfl rfl ?_
  refine r_getR (pc := 3) dX11_drop_3 (k9 := 12) CL_11 (by decide) (by decide) w_600 rfl (okO_of (N := 17) (hL.sh (i := 0) rfl (by decide) (by decide)) (by decide)) ?_
  refine eqR (y := c) hL.cl.1 ?_
  refine r_getI (pc := 6) dX11_drop_6 (k9 := 7) CL_1 (by decide) (by decide) w_469 rfl (okO_of (ci := 1) (N := 12) (hL.isc.r hL).1 (hL.isc.r hL).2.1) (fun _ => ?_)
  obtain ⟨o1, h⟩ := h
  obtain ⟨o2, h⟩ := h
  refine c_VVAX (M := mX11_drop) (pc := 9) (As := [vi x1, vi (gI σ c 7)]) dX11_drop_9 K_X11_needIndex w_946 ⟨by decide, by decide⟩ (Nat.le_of_ble_eq_true rfl) o1 o2 (ci := 11) rfl rfl (by decide) (okO_of (N := 17) (hL.sh (i := 0) rfl (by decide) (by decide)) (by decide)) (h hL) (fun τ4 h8 => ?_) (fun k9 τ9 hk9 h8 => ?_) rfl
  · replace hL := h8.1
    replace h := h8.2
    refine r_aload_n (pc := 12) dX11_drop_12 rfl rfl ?_
    refine r_getR (pc := 13) dX11_drop_13 (k9 := 2) CL_11 (by decide) (by decide) w_590 rfl (okO_of (N := 17) (hL.sh (i := 0) rfl (by decide) (by decide)) (by decide)) ?_
    refine eqR (y := 21) (hL.rf (i := 7) rfl) ?_
    refine r_aload_n (pc := 16) dX11_drop_16 rfl rfl ?_
    refine r_getR (pc := 17) dX11_drop_17 (k9 := 12) CL_11 (by decide) (by decide) w_600 rfl (okO_of (N := 17) (hL.sh (i := 0) rfl (by decide) (by decide)) (by decide)) ?_
    refine eqR (y := c) hL.cl.1 ?_
    refine c_VV0N (M := mX11_drop) (pc := 20) (As := [vr c]) dX11_drop_20 K_X5_keep w_929 ⟨by decide, by decide⟩ (Nat.le_of_ble_eq_true rfl) rfl rfl (ci := 5) rfl rfl (by decide) (okO_of (N := 3) (hL.sh (i := 5) rfl (by decide) (by decide)) (by decide)) (h hL) (fun τ6 h8 => ?_) rfl
    replace hL := h8.1
    replace h := h8.2
    refine r_aload_n (pc := 23) dX11_drop_23 rfl rfl ?_
    refine r_getR (pc := 24) dX11_drop_24 (k9 := 13) CL_11 (by decide) (by decide) w_601 rfl (okO_of (N := 17) (hL.sh (i := 0) rfl (by decide) (by decide)) (by decide)) ?_
    refine eqR (y := t) hL.cl.2 ?_
    refine r_aload_n (pc := 27) dX11_drop_27 rfl rfl ?_
    refine r_getR (pc := 28) dX11_drop_28 (k9 := 12) CL_11 (by decide) (by decide) w_600 rfl (okO_of (N := 17) (hL.sh (i := 0) rfl (by decide) (by decide)) (by decide)) ?_
    refine eqR (y := c) hL.cl.1 ?_
    refine r_getI (pc := 31) dX11_drop_31 (k9 := 6) CL_1 (by decide) (by decide) w_465 rfl (okO_of (ci := 1) (N := 12) (hL.isc.r hL).1 (hL.isc.r hL).2.1) (fun _ => ?_)
    refine c_VV0N (M := mX11_drop) (pc := 34) (As := [vi (gI τ6 c 6)]) dX11_drop_34 K_X1_begin w_504 ⟨by decide, by decide⟩ (Nat.le_of_ble_eq_true rfl) rfl rfl (ci := 1) rfl rfl (by decide) (okO_of (ci := 1) (N := 12) (hL.ist.r hL).1 (hL.ist.r hL).2.1) (h hL) (fun τ8 h8 => ?_) rfl
    replace hL := h8.1
    replace h := h8.2
    refine r_iconst (pc := 37) dX11_drop_37 (inRk rfl) ?_
    refine r_istore_n (pc := 38) dX11_drop_38 rfl (by decide) (l2 := [some (vr 16), some (vi x1), some (vi 0)]) rfl ?_
    exact (h hL)
  · exact TT.out (by decide +kernel) rfl h8
theorem B_X11_drop_39 {g : Sg} {c t : Nat} (hL : Lay LC g c t σ) {x1 : Int} {x2 : Int} (h : (((gI σ c 7) ≤ x2 → (Lay LC g c t σ → CC E mX1_close [vr t] σ (KI (fun r1 τ2 => Lay LC g c t τ2 ∧ (inR r1 → (Lay LC g c t τ2 → CC E mX11_takeTrial [vr 16] τ2 (KV (fun τ4 => Lay LC g c t τ4 ∧ (Lay LC g c t τ4 → Q (.inl (some (vi (gI τ4 c 8)))) τ4)) (fun _ _ => False))))) (fun _ _ => False)))) ∧ (¬ ((gI σ c 7) ≤ x2) → ((4 ≤ x2 → (Lay LC g c t σ → CC E mX1_close [vr t] σ (KI (fun r5 τ6 => Lay LC g c t τ6 ∧ (inR r5 → (Lay LC g c t τ6 → CC E mX11_takeTrial [vr 16] τ6 (KV (fun τ8 => Lay LC g c t τ8 ∧ (Lay LC g c t τ8 → Q (.inl (some (vi (gI τ8 c 8)))) τ8)) (fun _ _ => False))))) (fun _ _ => False)))) ∧ (¬ (4 ≤ x2) → ((x2 = x1 → inR (x2 + 1) ∧ (Lay LC g c t σ → GG E mX11_drop 39 [some (vr 16), some (vi x1), some (vi (x2 + 1))] [] σ rc rs Q)) ∧ (¬ (x2 = x1) → inR (x2 * 8) ∧ (Lay LC g c t σ → CC E mX1_tell [vr t, vr (c + 1), vi (x2 * 8)] σ (KV (fun τ12 => Lay LC g c t τ12 ∧ inR (x2 + 1) ∧ (Lay LC g c t τ12 → GG E mX11_drop 39 [some (vr 16), some (vi x1), some (vi (x2 + 1))] [] τ12 rc rs Q)) (fun _ _ => False)))))))))) : GG E mX11_drop 39 [some (vr 16), some (vi x1), some (vi x2)] [] σ rc rs Q := by
  refine r_iload_n (pc := 39) dX11_drop_39 rfl rfl ?_
  refine r_aload_n (pc := 40) dX11_drop_40 rfl rfl ?_
  refine r_getR (pc := 41) dX11_drop_41 (k9 := 12) CL_11 (by decide) (by decide) w_600 rfl (okO_of (N := 17) (hL.sh (i := 0) rfl (by decide) (by decide)) (by decide)) ?_
  refine eqR (y := c) hL.cl.1 ?_
  refine r_getI (pc := 44) dX11_drop_44 (k9 := 7) CL_1 (by decide) (by decide) w_469 rfl (okO_of (ci := 1) (N := 12) (hL.isc.r hL).1 (hL.isc.r hL).2.1) (fun _ => ?_)
  refine r_icmp_ge (pc := 47) (tgt := 84) dX11_drop_47 (by decide) (fun c9 => ?_) (fun c9 => ?_)
  · replace h := h.1 c9
    refine r_aload_n (pc := 84) dX11_drop_84 rfl rfl ?_
    refine r_getR (pc := 85) dX11_drop_85 (k9 := 13) CL_11 (by decide) (by decide) w_601 rfl (okO_of (N := 17) (hL.sh (i := 0) rfl (by decide) (by decide)) (by decide)) ?_
    refine eqR (y := t) hL.cl.2 ?_
    refine c_VI0N (M := mX11_drop) (pc := 88) (As := []) dX11_drop_88 K_X1_close w_508 ⟨by decide, by decide⟩ (Nat.le_of_ble_eq_true rfl) rfl rfl (ci := 1) rfl rfl (by decide) (okO_of (ci := 1) (N := 12) (hL.ist.r hL).1 (hL.ist.r hL).2.1) (h hL) (fun r1 τ2 h8 hr9 => ?_) rfl
    replace hL := h8.1
    replace h := h8.2 hr9
    refine r_pop (pc := 91) dX11_drop_91 (fun _ h9 => nomatch h9) ?_
    refine r_aload_n (pc := 92) dX11_drop_92 rfl rfl ?_
    refine c_VV0N (M := mX11_drop) (pc := 93) (As := []) dX11_drop_93 K_X11_takeTrial w_668 ⟨by decide, by decide⟩ (Nat.le_of_ble_eq_true rfl) rfl rfl (ci := 11) rfl rfl (by decide) (okO_of (N := 17) (hL.sh (i := 0) rfl (by decide) (by decide)) (by decide)) (h hL) (fun τ4 h8 => ?_) rfl
    replace hL := h8.1
    replace h := h8.2
    refine r_aload_n (pc := 96) dX11_drop_96 rfl rfl ?_
    refine r_getR (pc := 97) dX11_drop_97 (k9 := 12) CL_11 (by decide) (by decide) w_600 rfl (okO_of (N := 17) (hL.sh (i := 0) rfl (by decide) (by decide)) (by decide)) ?_
    refine eqR (y := c) hL.cl.1 ?_
    refine r_getI (pc := 100) dX11_drop_100 (k9 := 8) CL_1 (by decide) (by decide) w_471 rfl (okO_of (ci := 1) (N := 12) (hL.isc.r hL).1 (hL.isc.r hL).2.1) (fun _ => ?_)
    exact r_ireturn (pc := 103) (ty := .int) dX11_drop_103 (by decide +kernel) rfl (nar_i _) (h hL)
  · replace h := h.2 c9
    refine r_iload_n (pc := 50) dX11_drop_50 rfl rfl ?_
    refine r_iconst (pc := 51) dX11_drop_51 (inRk rfl) ?_
    refine r_icmp_ge (pc := 52) (tgt := 84) dX11_drop_52 (by decide) (fun c9 => ?_) (fun c9 => ?_)
    · replace h := h.1 c9
      refine r_aload_n (pc := 84) dX11_drop_84 rfl rfl ?_
      refine r_getR (pc := 85) dX11_drop_85 (k9 := 13) CL_11 (by decide) (by decide) w_601 rfl (okO_of (N := 17) (hL.sh (i := 0) rfl (by decide) (by decide)) (by decide)) ?_
      refine eqR (y := t) hL.cl.2 ?_
      refine c_VI0N (M := mX11_drop) (pc := 88) (As := []) dX11_drop_88 K_X1_close w_508 ⟨by decide, by decide⟩ (Nat.le_of_ble_eq_true rfl) rfl rfl (ci := 1) rfl rfl (by decide) (okO_of (ci := 1) (N := 12) (hL.ist.r hL).1 (hL.ist.r hL).2.1) (h hL) (fun r5 τ6 h8 hr9 => ?_) rfl
      replace hL := h8.1
      replace h := h8.2 hr9
      refine r_pop (pc := 91) dX11_drop_91 (fun _ h9 => nomatch h9) ?_
      refine r_aload_n (pc := 92) dX11_drop_92 rfl rfl ?_
      refine c_VV0N (M := mX11_drop) (pc := 93) (As := []) dX11_drop_93 K_X11_takeTrial w_668 ⟨by decide, by decide⟩ (Nat.le_of_ble_eq_true rfl) rfl rfl (ci := 11) rfl rfl (by decide) (okO_of (N := 17) (hL.sh (i := 0) rfl (by decide) (by decide)) (by decide)) (h hL) (fun τ8 h8 => ?_) rfl
      replace hL := h8.1
      replace h := h8.2
      refine r_aload_n (pc := 96) dX11_drop_96 rfl rfl ?_
      refine r_getR (pc := 97) dX11_drop_97 (k9 := 12) CL_11 (by decide) (by decide) w_600 rfl (okO_of (N := 17) (hL.sh (i := 0) rfl (by decide) (by decide)) (by decide)) ?_
      refine eqR (y := c) hL.cl.1 ?_
      refine r_getI (pc := 100) dX11_drop_100 (k9 := 8) CL_1 (by decide) (by decide) w_471 rfl (okO_of (ci := 1) (N := 12) (hL.isc.r hL).1 (hL.isc.r hL).2.1) (fun _ => ?_)
      exact r_ireturn (pc := 103) (ty := .int) dX11_drop_103 (by decide +kernel) rfl (nar_i _) (h hL)
    · replace h := h.2 c9
      refine r_iload_n (pc := 55) dX11_drop_55 rfl rfl ?_
      refine r_iload_n (pc := 56) dX11_drop_56 rfl rfl ?_
      refine r_icmp_eq (pc := 57) (tgt := 78) dX11_drop_57 (by decide) (fun c9 => ?_) (fun c9 => ?_)
      · replace h := h.1 c9
        obtain ⟨o9, h⟩ := h
        refine r_iinc (pc := 78) dX11_drop_78 rfl (by decide) o9 (l2 := [some (vr 16), some (vi x1), some (vi (x2 + 1))]) rfl ?_
        refine r_goto (pc := 81) (tgt := 39) dX11_drop_81 (by decide) ?_
        exact (h hL)
      · replace h := h.2 c9
        refine r_aload_n (pc := 60) dX11_drop_60 rfl rfl ?_
        refine r_getR (pc := 61) dX11_drop_61 (k9 := 13) CL_11 (by decide) (by decide) w_601 rfl (okO_of (N := 17) (hL.sh (i := 0) rfl (by decide) (by decide)) (by decide)) ?_
        refine eqR (y := t) hL.cl.2 ?_
        refine r_aload_n (pc := 64) dX11_drop_64 rfl rfl ?_
        refine r_getR (pc := 65) dX11_drop_65 (k9 := 12) CL_11 (by decide) (by decide) w_600 rfl (okO_of (N := 17) (hL.sh (i := 0) rfl (by decide) (by decide)) (by decide)) ?_
        refine eqR (y := c) hL.cl.1 ?_
        refine r_getR (pc := 68) dX11_drop_68 (k9 := 0) CL_1 (by decide) (by decide) w_449 rfl (okO_of (ci := 1) (N := 12) (hL.isc.r hL).1 (hL.isc.r hL).2.1) ?_
        refine eqR (y := c + 1) (hL.isc.f hL (k := 0) (by decide)) ?_
        refine r_iload_n (pc := 71) dX11_drop_71 rfl rfl ?_
        refine r_bipush (pc := 72) dX11_drop_72 (by decide) ?_
        obtain ⟨o10, h⟩ := h
        refine r_imul (pc := 74) dX11_drop_74 o10 ?_
        refine c_VV0N (M := mX11_drop) (pc := 75) (As := [vr (c + 1), vi (x2 * 8)]) dX11_drop_75 K_X1_tell w_927 ⟨by decide, by decide⟩ (Nat.le_of_ble_eq_true rfl) rfl rfl (ci := 1) rfl rfl (by decide) (okO_of (ci := 1) (N := 12) (hL.ist.r hL).1 (hL.ist.r hL).2.1) (h hL) (fun τ12 h8 => ?_) rfl
        replace hL := h8.1
        replace h := h8.2
        obtain ⟨o13, h⟩ := h
        refine r_iinc (pc := 78) dX11_drop_78 rfl (by decide) o13 (l2 := [some (vr 16), some (vi x1), some (vi (x2 + 1))]) rfl ?_
        refine r_goto (pc := 81) (tgt := 39) dX11_drop_81 (by decide) ?_
        exact (h hL)
theorem C_X11_drop {a0 : Nat} {x1 : Int} (h : GG E mX11_drop 0 [some (vr a0), some (vi x1), none] [] σ 1 6 Q) : CC E mX11_drop [vr a0, vi x1] σ Q := CC.of (by decide +kernel) rfl (by decide +kernel) (fun h9 => nomatch h9) (Nat.le_of_ble_eq_true rfl) h
theorem dX11_element_0 : decode cX11_element 0 = .ok (.aload_n 0, 1) := by decide +kernel
theorem dX11_element_1 : decode cX11_element 1 = .ok (.iload_n 1, 1) := by decide +kernel
theorem dX11_element_2 : decode cX11_element 2 = .ok (.aload_n 0, 1) := by decide +kernel
theorem dX11_element_3 : decode cX11_element 3 = .ok (.getfield 35, 3) := by decide +kernel
theorem dX11_element_6 : decode cX11_element 6 = .ok (.getfield 207, 3) := by decide +kernel
theorem dX11_element_9 : decode cX11_element 9 = .ok (.invokevirtual 193, 3) := by decide +kernel
theorem dX11_element_12 : decode cX11_element 12 = .ok (.aload_n 0, 1) := by decide +kernel
theorem dX11_element_13 : decode cX11_element 13 = .ok (.iload_n 2, 1) := by decide +kernel
theorem dX11_element_14 : decode cX11_element 14 = .ok (.iconst 0, 1) := by decide +kernel
theorem dX11_element_15 : decode cX11_element 15 = .ok (.bipush 10, 2) := by decide +kernel
theorem dX11_element_17 : decode cX11_element 17 = .ok (.invokevirtual 128, 3) := by decide +kernel
theorem dX11_element_20 : decode cX11_element 20 = .ok (.iload_n 2, 1) := by decide +kernel
theorem dX11_element_21 : decode cX11_element 21 = .ok (.tableswitch 63 8 10 #[27, 39, 51], 27) := by decide +kernel
theorem dX11_element_48 : decode cX11_element 48 = .ok (.aload_n 0, 1) := by decide +kernel
theorem dX11_element_49 : decode cX11_element 49 = .ok (.getfield 35, 3) := by decide +kernel
theorem dX11_element_52 : decode cX11_element 52 = .ok (.getfield 240, 3) := by decide +kernel
theorem dX11_element_55 : decode cX11_element 55 = .ok (.iload_n 1, 1) := by decide +kernel
theorem dX11_element_56 : decode cX11_element 56 = .ok (.invokestatic 243, 3) := by decide +kernel
theorem dX11_element_59 : decode cX11_element 59 = .ok (.ireturn, 1) := by decide +kernel
theorem dX11_element_60 : decode cX11_element 60 = .ok (.aload_n 0, 1) := by decide +kernel
theorem dX11_element_61 : decode cX11_element 61 = .ok (.getfield 35, 3) := by decide +kernel
theorem dX11_element_64 : decode cX11_element 64 = .ok (.getfield 247, 3) := by decide +kernel
theorem dX11_element_67 : decode cX11_element 67 = .ok (.iload_n 1, 1) := by decide +kernel
theorem dX11_element_68 : decode cX11_element 68 = .ok (.invokestatic 243, 3) := by decide +kernel
theorem dX11_element_71 : decode cX11_element 71 = .ok (.ireturn, 1) := by decide +kernel
theorem dX11_element_72 : decode cX11_element 72 = .ok (.aload_n 0, 1) := by decide +kernel
theorem dX11_element_73 : decode cX11_element 73 = .ok (.getfield 35, 3) := by decide +kernel
theorem dX11_element_76 : decode cX11_element 76 = .ok (.getfield 250, 3) := by decide +kernel
theorem dX11_element_79 : decode cX11_element 79 = .ok (.iload_n 1, 1) := by decide +kernel
theorem dX11_element_80 : decode cX11_element 80 = .ok (.invokestatic 243, 3) := by decide +kernel
theorem dX11_element_83 : decode cX11_element 83 = .ok (.ireturn, 1) := by decide +kernel
theorem dX11_element_84 : decode cX11_element 84 = .ok (.aload_n 0, 1) := by decide +kernel
theorem dX11_element_85 : decode cX11_element 85 = .ok (.getfield 93, 3) := by decide +kernel
theorem dX11_element_88 : decode cX11_element 88 = .ok (.getfield 253, 3) := by decide +kernel
theorem dX11_element_91 : decode cX11_element 91 = .ok (.iload_n 1, 1) := by decide +kernel
theorem dX11_element_92 : decode cX11_element 92 = .ok (.bipush 8, 2) := by decide +kernel
theorem dX11_element_94 : decode cX11_element 94 = .ok (.imul, 1) := by decide +kernel
theorem dX11_element_95 : decode cX11_element 95 = .ok (.iload_n 2, 1) := by decide +kernel
theorem dX11_element_96 : decode cX11_element 96 = .ok (.iadd, 1) := by decide +kernel
theorem dX11_element_97 : decode cX11_element 97 = .ok (.invokestatic 243, 3) := by decide +kernel
theorem dX11_element_100 : decode cX11_element 100 = .ok (.ireturn, 1) := by decide +kernel
theorem B_X11_element_0 {g : Sg} {c t : Nat} (hL : Lay LC g c t σ) {x1 : Int} {x2 : Int} (h : 1 ≤ rc ∧ 6 ≤ rs ∧ (Lay LC g c t σ → CC E mX11_needIndex [vr 16, vi x1, vi (gI σ 24 6)] σ (KV (fun τ4 => Lay LC g c t τ4 ∧ 1 ≤ rc - 1 ∧ 6 ≤ rs - 6 ∧ (Lay LC g c t τ4 → CC E mX11_needBetween [vr 16, vi x2, vi 0, vi 10] τ4 (KV (fun τ8 => Lay LC g c t τ8 ∧ ((x2 = 8 → (Lay LC g c t τ8 → CC E mX11_at [vr 27, vi x1] τ8 (KI (fun r9 τ10 => Lay LC g c t τ10 ∧ (inR r9 → (Lay LC g c t τ10 → Q (.inl (some (vi r9))) τ10))) (fun _ _ => False)))) ∧ (x2 = 9 → (Lay LC g c t τ8 → CC E mX11_at [vr 26, vi x1] τ8 (KI (fun r11 τ12 => Lay LC g c t τ12 ∧ (inR r11 → (Lay LC g c t τ12 → Q (.inl (some (vi r11))) τ12))) (fun _ _ => False)))) ∧ (x2 = 10 → (Lay LC g c t τ8 → CC E mX11_at [vr 28, vi x1] τ8 (KI (fun r13 τ14 => Lay LC g c t τ14 ∧ (inR r13 → (Lay LC g c t τ14 → Q (.inl (some (vi r13))) τ14))) (fun _ _ => False)))) ∧ ((x2 < 8 ∨ 10 < x2) → inR (x1 * 8) ∧ inR ((x1 * 8) + x2) ∧ (Lay LC g c t τ8 → CC E mX11_at [vr (c + 2), vi ((x1 * 8) + x2)] τ8 (KI (fun r17 τ18 => Lay LC g c t τ18 ∧ (inR r17 → (Lay LC g c t τ18 → Q (.inl (some (vi r17))) τ18))) (fun _ _ => False)))))) (fun k9 τ9 => Q (.inr k9) τ9)))) (fun k9 τ9 => Q (.inr k9) τ9)))) : GG E mX11_element 0 [some (vr 16), some (vi x1), some (vi x2)] [] σ rc rs Q := by
  refine r_aload_n (pc := 0) dX11_element_0 rfl rfl ?_
  refine r_iload_n (pc := 1) dX11_element_1 rfl rfl ?_
  refine r_aload_n (pc := 2) dX11_element_2 rfl rfl ?_
  refine r_getR (pc := 3) dX11_element_3 (k9 := 3) CL_11 (by decide) (by decide) w_591 rfl (okO_of (N := 17) (hL.sh (i := 0) rfl (by decide) (by decide)) (by decide)) ?_
  refine eqR (y := 24) (hL.rf (i := 14) rfl) ?_
  refine r_getI (pc := 6) dX11_element_6 (k9 := 6) CL_4 (by decide) (by decide) w_222 rfl (okO_of (N := 12) (hL.sh (i := 8) rfl (by decide) (by decide)) (by decide)) (fun _ => ?_)
  obtain ⟨o1, h⟩ := h
  obtain ⟨o2, h⟩ := h
  refine c_VVAX (M := mX11_element) (pc := 9) (As := [vi x1, vi (gI σ 24 6)]) dX11_element_9 K_X11_needIndex w_946 ⟨by decide, by decide⟩ (Nat.le_of_ble_eq_true rfl) o1 o2 (ci := 11) rfl rfl (by decide) (okO_of (N := 17) (hL.sh (i := 0) rfl (by decide) (by decide)) (by decide)) (h hL) (fun τ4 h8 => ?_) (fun k9 τ9 hk9 h8 => ?_) rfl
  · replace hL := h8.1
    replace h := h8.2
    refine r_aload_n (pc := 12) dX11_element_12 rfl rfl ?_
    refine r_iload_n (pc := 13) dX11_element_13 rfl rfl ?_
    refine r_iconst (pc := 14) dX11_element_14 (inRk rfl) ?_
    refine r_bipush (pc := 15) dX11_element_15 (by decide) ?_
    obtain ⟨o5, h⟩ := h
    obtain ⟨o6, h⟩ := h
    refine c_VVAX (M := mX11_element) (pc := 17) (As := [vi x2, vi 0, vi 10]) dX11_element_17 K_X11_needBetween w_707 ⟨by decide, by decide⟩ (Nat.le_of_ble_eq_true rfl) o5 o6 (ci := 11) rfl rfl (by decide) (okO_of (N := 17) (hL.sh (i := 0) rfl (by decide) (by decide)) (by decide)) (h hL) (fun τ8 h8 => ?_) (fun k9 τ9 hk9 h8 => ?_) rfl
    · replace hL := h8.1
      replace h := h8.2
      refine r_iload_n (pc := 20) dX11_element_20 rfl rfl ?_
      have c8 : x2 = 8 ∨ x2 = 9 ∨ x2 = 10 ∨ (x2 < 8 ∨ 10 < x2) := by omega
      rcases c8 with c9 | c9 | c9 | c9
      · replace h := h.1 c9
        refine r_tabE (pc := 21) (tgt := 48) dX11_element_21 c9 (by decide) (by decide) rfl (by decide) ?_
        refine r_aload_n (pc := 48) dX11_element_48 rfl rfl ?_
        refine r_getR (pc := 49) dX11_element_49 (k9 := 3) CL_11 (by decide) (by decide) w_591 rfl (okO_of (N := 17) (hL.sh (i := 0) rfl (by decide) (by decide)) (by decide)) ?_
        refine eqR (y := 24) (hL.rf (i := 14) rfl) ?_
        refine r_getR (pc := 52) dX11_element_52 (k9 := 2) CL_4 (by decide) (by decide) w_204 rfl (okO_of (N := 12) (hL.sh (i := 8) rfl (by decide) (by decide)) (by decide)) ?_
        refine eqR (y := 27) (hL.rf (i := 10) rfl) ?_
        refine r_iload_n (pc := 55) dX11_element_55 rfl rfl ?_
        refine c_SI0N (M := mX11_element) (pc := 56) (As := [vr 27, vi x1]) dX11_element_56 K_X11_at w_690 ⟨by decide, by decide⟩ (Nat.le_of_ble_eq_true rfl) rfl rfl (h hL) (fun r9 τ10 h8 hr9 => ?_) rfl
        replace hL := h8.1
        replace h := h8.2 hr9
        exact r_ireturn (pc := 59) (ty := .int) dX11_element_59 (by decide +kernel) rfl (nar_i _) (h hL)
      · replace h := h.2.1 c9
        refine r_tabE (pc := 21) (tgt := 60) dX11_element_21 c9 (by decide) (by decide) rfl (by decide) ?_
        refine r_aload_n (pc := 60) dX11_element_60 rfl rfl ?_
        refine r_getR (pc := 61) dX11_element_61 (k9 := 3) CL_11 (by decide) (by decide) w_591 rfl (okO_of (N := 17) (hL.sh (i := 0) rfl (by decide) (by decide)) (by decide)) ?_
        refine eqR (y := 24) (hL.rf (i := 14) rfl) ?_
        refine r_getR (pc := 64) dX11_element_64 (k9 := 1) CL_4 (by decide) (by decide) w_202 rfl (okO_of (N := 12) (hL.sh (i := 8) rfl (by decide) (by decide)) (by decide)) ?_
        refine eqR (y := 26) (hL.rf (i := 9) rfl) ?_
        refine r_iload_n (pc := 67) dX11_element_67 rfl rfl ?_
        refine c_SI0N (M := mX11_element) (pc := 68) (As := [vr 26, vi x1]) dX11_element_68 K_X11_at w_690 ⟨by decide, by decide⟩ (Nat.le_of_ble_eq_true rfl) rfl rfl (h hL) (fun r11 τ12 h8 hr9 => ?_) rfl
        replace hL := h8.1
        replace h := h8.2 hr9
        exact r_ireturn (pc := 71) (ty := .int) dX11_element_71 (by decide +kernel) rfl (nar_i _) (h hL)
      · replace h := h.2.2.1 c9
        refine r_tabE (pc := 21) (tgt := 72) dX11_element_21 c9 (by decide) (by decide) rfl (by decide) ?_
        refine r_aload_n (pc := 72) dX11_element_72 rfl rfl ?_
        refine r_getR (pc := 73) dX11_element_73 (k9 := 3) CL_11 (by decide) (by decide) w_591 rfl (okO_of (N := 17) (hL.sh (i := 0) rfl (by decide) (by decide)) (by decide)) ?_
        refine eqR (y := 24) (hL.rf (i := 14) rfl) ?_
        refine r_getR (pc := 76) dX11_element_76 (k9 := 3) CL_4 (by decide) (by decide) w_207 rfl (okO_of (N := 12) (hL.sh (i := 8) rfl (by decide) (by decide)) (by decide)) ?_
        refine eqR (y := 28) (hL.rf (i := 11) rfl) ?_
        refine r_iload_n (pc := 79) dX11_element_79 rfl rfl ?_
        refine c_SI0N (M := mX11_element) (pc := 80) (As := [vr 28, vi x1]) dX11_element_80 K_X11_at w_690 ⟨by decide, by decide⟩ (Nat.le_of_ble_eq_true rfl) rfl rfl (h hL) (fun r13 τ14 h8 hr9 => ?_) rfl
        replace hL := h8.1
        replace h := h8.2 hr9
        exact r_ireturn (pc := 83) (ty := .int) dX11_element_83 (by decide +kernel) rfl (nar_i _) (h hL)
      · replace h := h.2.2.2 c9
        refine r_tabOut (pc := 21) (tgt := 84) dX11_element_21 c9 (by decide) ?_
        refine r_aload_n (pc := 84) dX11_element_84 rfl rfl ?_
        refine r_getR (pc := 85) dX11_element_85 (k9 := 12) CL_11 (by decide) (by decide) w_600 rfl (okO_of (N := 17) (hL.sh (i := 0) rfl (by decide) (by decide)) (by decide)) ?_
        refine eqR (y := c) hL.cl.1 ?_
        refine r_getR (pc := 88) dX11_element_88 (k9 := 1) CL_1 (by decide) (by decide) w_453 rfl (okO_of (ci := 1) (N := 12) (hL.isc.r hL).1 (hL.isc.r hL).2.1) ?_
        refine eqR (y := c + 2) (hL.isc.f hL (k := 1) (by decide)) ?_
        refine r_iload_n (pc := 91) dX11_element_91 rfl rfl ?_
        refine r_bipush (pc := 92) dX11_element_92 (by decide) ?_
        obtain ⟨o15, h⟩ := h
        refine r_imul (pc := 94) dX11_element_94 o15 ?_
        refine r_iload_n (pc := 95) dX11_element_95 rfl rfl ?_
        obtain ⟨o16, h⟩ := h
        refine r_iadd (pc := 96) dX11_element_96 o16 ?_
        refine c_SI0N (M := mX11_element) (pc := 97) (As := [vr (c + 2), vi ((x1 * 8) + x2)]) dX11_element_97 K_X11_at w_690 ⟨by decide, by decide⟩ (Nat.le_of_ble_eq_true rfl) rfl rfl (h hL) (fun r17 τ18 h8 hr9 => ?_) rfl
        replace hL := h8.1
        replace h := h8.2 hr9
        exact r_ireturn (pc := 100) (ty := .int) dX11_element_100 (by decide +kernel) rfl (nar_i _) (h hL)
    · exact TT.out (by decide +kernel) rfl h8
  · exact TT.out (by decide +kernel) rfl h8
theorem C_X11_element {a0 : Nat} {x1 : Int} {x2 : Int} (h : GG E mX11_element 0 [some (vr a0), some (vi x1), some (vi x2)] [] σ 2 12 Q) : CC E mX11_element [vr a0, vi x1, vi x2] σ Q := CC.of (by decide +kernel) rfl (by decide +kernel) (fun h9 => nomatch h9) (Nat.le_of_ble_eq_true rfl) h
theorem dX11_far_0 : decode cX11_far 0 = .ok (.aload_n 0, 1) := by decide +kernel
theorem dX11_far_1 : decode cX11_far 1 = .ok (.invokevirtual 204, 3) := by decide +kernel
theorem dX11_far_4 : decode cX11_far 4 = .ok (.aload_n 0, 1) := by decide +kernel
theorem dX11_far_5 : decode cX11_far 5 = .ok (.iload_n 1, 1) := by decide +kernel
theorem dX11_far_6 : decode cX11_far 6 = .ok (.aload_n 0, 1) := by decide +kernel
theorem dX11_far_7 : decode cX11_far 7 = .ok (.getfield 69, 3) := by decide +kernel
theorem dX11_far_10 : decode cX11_far 10 = .ok (.getfield 303, 3) := by decide +kernel
theorem dX11_far_13 : decode cX11_far 13 = .ok (.invokevirtual 193, 3) := by decide +kernel
theorem dX11_far_16 : decode cX11_far 16 = .ok (.aload_n 0, 1) := by decide +kernel
theorem dX11_far_17 : decode cX11_far 17 = .ok (.iload_n 2, 1) := by decide +kernel
theorem dX11_far_18 : decode cX11_far 18 = .ok (.aload_n 0, 1) := by decide +kernel
theorem dX11_far_19 : decode cX11_far 19 = .ok (.getfield 69, 3) := by decide +kernel
theorem dX11_far_22 : decode cX11_far 22 = .ok (.getfield 303, 3) := by decide +kernel
theorem dX11_far_25 : decode cX11_far 25 = .ok (.invokevirtual 193, 3) := by decide +kernel
theorem dX11_far_28 : decode cX11_far 28 = .ok (.aload_n 0, 1) := by decide +kernel
theorem dX11_far_29 : decode cX11_far 29 = .ok (.getfield 69, 3) := by decide +kernel
theorem dX11_far_32 : decode cX11_far 32 = .ok (.getfield 307, 3) := by decide +kernel
theorem dX11_far_35 : decode cX11_far 35 = .ok (.iload_n 1, 1) := by decide +kernel
theorem dX11_far_36 : decode cX11_far 36 = .ok (.aaload, 1) := by decide +kernel
theorem dX11_far_37 : decode cX11_far 37 = .ok (.iload_n 2, 1) := by decide +kernel
theorem dX11_far_38 : decode cX11_far 38 = .ok (.invokestatic 243, 3) := by decide +kernel
theorem dX11_far_41 : decode cX11_far 41 = .ok (.ireturn, 1) := by decide +kernel
theorem B_X11_far_0 {g : Sg} {c t : Nat} (hL : Lay LC g c t σ) {x1 : Int} {x2 : Int} (h : (Lay LC g c t σ → CC E mX11_needCharacters [vr 16] σ (KV (fun τ2 => Lay LC g c t τ2 ∧ 1 ≤ rc ∧ 6 ≤ rs ∧ (Lay LC g c t τ2 → CC E mX11_needIndex [vr 16, vi x1, vi (gI τ2 125 2)] τ2 (KV (fun τ6 => Lay LC g c t τ6 ∧ 1 ≤ rc - 1 ∧ 6 ≤ rs - 6 ∧ (Lay LC g c t τ6 → CC E mX11_needIndex [vr 16, vi x2, vi (gI τ6 125 2)] τ6 (KV (fun τ10 => Lay LC g c t τ10 ∧ (0 ≤ x1 ∧ x1 < 12) ∧ (Lay LC g c t τ10 → CC E mX11_at [vr (140 + x1.toNat), vi x2] τ10 (KI (fun r13 τ14 => Lay LC g c t τ14 ∧ (inR r13 → (Lay LC g c t τ14 → Q (.inl (some (vi r13))) τ14))) (fun _ _ => False)))) (fun k9 τ9 => Q (.inr k9) τ9)))) (fun k9 τ9 => Q (.inr k9) τ9)))) (fun _ _ => False)))) : GG E mX11_far 0 [some (vr 16), some (vi x1), some (vi x2)] [] σ rc rs Q := by
  refine r_aload_n (pc := 0) dX11_far_0 rfl rfl ?_
  refine c_VV0N (M := mX11_far) (pc := 1) (As := []) dX11_far_1 K_X11_needCharacters w_973 ⟨by decide, by decide⟩ (Nat.le_of_ble_eq_true rfl) rfl rfl (ci := 11) rfl rfl (by decide) (okO_of (N := 17) (hL.sh (i := 0) rfl (by decide) (by decide)) (by decide)) (h hL) (fun τ2 h8 => ?_) rfl
  replace hL := h8.1
  replace h := h8.2
  refine r_aload_n (pc := 4) dX11_far_4 rfl rfl ?_
  refine r_iload_n (pc := 5) dX11_far_5 rfl rfl ?_
  refine r_aload_n (pc := 6) dX11_far_6 rfl rfl ?_
  refine r_getR (pc := 7) dX11_far_7 (k9 := 7) CL_11 (by decide) (by decide) w_595 rfl (okO_of (N := 17) (hL.sh (i := 0) rfl (by decide) (by decide)) (by decide)) ?_
  refine eqR (y := 125) (hL.rf (i := 40) rfl) ?_
  refine r_getI (pc := 10) dX11_far_10 (k9 := 2) CL_3 (by decide) (by decide) w_420 rfl (okO_of (N := 3) (hL.sh (i := 43) rfl (by decide) (by decide)) (by decide)) (fun _ => ?_)
  obtain ⟨o3, h⟩ := h
  obtain ⟨o4, h⟩ := h
  refine c_VVAX (M := mX11_far) (pc := 13) (As := [vi x1, vi (gI τ2 125 2)]) dX11_far_13 K_X11_needIndex w_946 ⟨by decide, by decide⟩ (Nat.le_of_ble_eq_true rfl) o3 o4 (ci := 11) rfl rfl (by decide) (okO_of (N := 17) (hL.sh (i := 0) rfl (by decide) (by decide)) (by decide)) (h hL) (fun τ6 h8 => ?_) (fun k9 τ9 hk9 h8 => ?_) rfl
  · replace hL := h8.1
    replace h := h8.2
    refine r_aload_n (pc := 16) dX11_far_16 rfl rfl ?_
    refine r_iload_n (pc := 17) dX11_far_17 rfl rfl ?_
    refine r_aload_n (pc := 18) dX11_far_18 rfl rfl ?_
    refine r_getR (pc := 19) dX11_far_19 (k9 := 7) CL_11 (by decide) (by decide) w_595 rfl (okO_of (N := 17) (hL.sh (i := 0) rfl (by decide) (by decide)) (by decide)) ?_
    refine eqR (y := 125) (hL.rf (i := 40) rfl) ?_
    refine r_getI (pc := 22) dX11_far_22 (k9 := 2) CL_3 (by decide) (by decide) w_420 rfl (okO_of (N := 3) (hL.sh (i := 43) rfl (by decide) (by decide)) (by decide)) (fun _ => ?_)
    obtain ⟨o7, h⟩ := h
    obtain ⟨o8, h⟩ := h
    refine c_VVAX (M := mX11_far) (pc := 25) (As := [vi x2, vi (gI τ6 125 2)]) dX11_far_25 K_X11_needIndex w_946 ⟨by decide, by decide⟩ (Nat.le_of_ble_eq_true rfl) o7 o8 (ci := 11) rfl rfl (by decide) (okO_of (N := 17) (hL.sh (i := 0) rfl (by decide) (by decide)) (by decide)) (h hL) (fun τ10 h8 => ?_) (fun k9 τ9 hk9 h8 => ?_) rfl
    · replace hL := h8.1
      replace h := h8.2
      refine r_aload_n (pc := 28) dX11_far_28 rfl rfl ?_
      refine r_getR (pc := 29) dX11_far_29 (k9 := 7) CL_11 (by decide) (by decide) w_595 rfl (okO_of (N := 17) (hL.sh (i := 0) rfl (by decide) (by decide)) (by decide)) ?_
      refine eqR (y := 125) (hL.rf (i := 40) rfl) ?_
      refine r_getR (pc := 32) dX11_far_32 (k9 := 1) CL_3 (by decide) (by decide) w_418 rfl (okO_of (N := 3) (hL.sh (i := 43) rfl (by decide) (by decide)) (by decide)) ?_
      refine eqR (y := 139) (hL.rf (i := 39) rfl) ?_
      refine r_iload_n (pc := 35) dX11_far_35 rfl rfl ?_
      obtain ⟨o11, h⟩ := h
      refine r_aaload (pc := 36) dX11_far_36 (okB_of (c := 24) (n := 12) (hL.sh (i := 46) rfl (by decide) (by decide)) (by decide) o11) ?_
      have q12 : 140 ≤ 140 + x1.toNat ∧ 140 + x1.toNat < 152 := ⟨Nat.le_add_right _ _, rowB o11 (by decide)⟩
      refine eqR (y := 140 + x1.toNat) (hL.rx (i := 4) rfl (rowC o11 (by decide))) ?_
      refine r_iload_n (pc := 37) dX11_far_37 rfl rfl ?_
      refine c_SI0N (M := mX11_far) (pc := 38) (As := [vr (140 + x1.toNat), vi x2]) dX11_far_38 K_X11_at w_690 ⟨by decide, by decide⟩ (Nat.le_of_ble_eq_true rfl) rfl rfl (h hL) (fun r13 τ14 h8 hr9 => ?_) rfl
      replace hL := h8.1
      replace h := h8.2 hr9
      exact r_ireturn (pc := 41) (ty := .int) dX11_far_41 (by decide +kernel) rfl (nar_i _) (h hL)
    · exact TT.out (by decide +kernel) rfl h8
  · exact TT.out (by decide +kernel) rfl h8
theorem C_X11_far {a0 : Nat} {x1 : Int} {x2 : Int} (h : GG E mX11_far 0 [some (vr a0), some (vi x1), some (vi x2)] [] σ 2 12 Q) : CC E mX11_far [vr a0, vi x1, vi x2] σ Q := CC.of (by decide +kernel) rfl (by decide +kernel) (fun h9 => nomatch h9) (Nat.le_of_ble_eq_true rfl) h
theorem dX11_fault_0 : decode cX11_fault 0 = .ok (.aload_n 0, 1) := by decide +kernel
theorem dX11_fault_1 : decode cX11_fault 1 = .ok (.getfield 100, 3) := by decide +kernel
theorem dX11_fault_4 : decode cX11_fault 4 = .ok (.ireturn, 1) := by decide +kernel
theorem B_X11_fault_0 {g : Sg} {c t : Nat} (hL : Lay LC g c t σ)  (h : (Lay LC g c t σ → Q (.inl (some (vi (gI σ 16 16)))) σ)) : GG E mX11_fault 0 [some (vr 16)] [] σ rc rs Q := by
  refine r_aload_n (pc := 0) dX11_fault_0 rfl rfl ?_
  refine r_getI (pc := 1) dX11_fault_1 (k9 := 16) CL_11 (by decide) (by decide) w_604 rfl (okO_of (N := 17) (hL.sh (i := 0) rfl (by decide) (by decide)) (by decide)) (fun _ => ?_)
  exact r_ireturn (pc := 4) (ty := .int) dX11_fault_4 (by decide +kernel) rfl (nar_i _) (h hL)
theorem C_X11_fault {a0 : Nat} (h : GG E mX11_fault 0 [some (vr a0)] [] σ 0 0 Q) : CC E mX11_fault [vr a0] σ Q := CC.of (by decide +kernel) rfl (by decide +kernel) (fun h9 => nomatch h9) (Nat.le_of_ble_eq_true rfl) h
theorem dX11_feed_0 : decode cX11_feed 0 = .ok (.aload_n 0, 1) := by decide +kernel
theorem dX11_feed_1 : decode cX11_feed 1 = .ok (.getfield 10, 3) := by decide +kernel
theorem dX11_feed_4 : decode cX11_feed 4 = .ok (.invokevirtual 116, 3) := by decide +kernel
theorem dX11_feed_7 : decode cX11_feed 7 = .ok (.ifCond .ne 5, 3) := by decide +kernel
theorem dX11_feed_10 : decode cX11_feed 10 = .ok (.iconst (-1), 1) := by decide +kernel
theorem dX11_feed_11 : decode cX11_feed 11 = .ok (.ireturn, 1) := by decide +kernel
theorem dX11_feed_12 : decode cX11_feed 12 = .ok (.aload_n 0, 1) := by decide +kernel
theorem dX11_feed_13 : decode cX11_feed 13 = .ok (.getfield 10, 3) := by decide +kernel
theorem dX11_feed_16 : decode cX11_feed 16 = .ok (.iload_n 1, 1) := by decide +kernel
theorem dX11_feed_17 : decode cX11_feed 17 = .ok (.invokevirtual 119, 3) := by decide +kernel
theorem dX11_feed_20 : decode cX11_feed 20 = .ok (.aload_n 0, 1) := by decide +kernel
theorem dX11_feed_21 : decode cX11_feed 21 = .ok (.getfield 10, 3) := by decide +kernel
theorem dX11_feed_24 : decode cX11_feed 24 = .ok (.iload_n 2, 1) := by decide +kernel
theorem dX11_feed_25 : decode cX11_feed 25 = .ok (.invokevirtual 119, 3) := by decide +kernel
theorem dX11_feed_28 : decode cX11_feed 28 = .ok (.aload_n 0, 1) := by decide +kernel
theorem dX11_feed_29 : decode cX11_feed 29 = .ok (.getfield 10, 3) := by decide +kernel
theorem dX11_feed_32 : decode cX11_feed 32 = .ok (.iload_n 3, 1) := by decide +kernel
theorem dX11_feed_33 : decode cX11_feed 33 = .ok (.invokevirtual 119, 3) := by decide +kernel
theorem dX11_feed_36 : decode cX11_feed 36 = .ok (.aload_n 0, 1) := by decide +kernel
theorem dX11_feed_37 : decode cX11_feed 37 = .ok (.getfield 10, 3) := by decide +kernel
theorem dX11_feed_40 : decode cX11_feed 40 = .ok (.iload 4, 2) := by decide +kernel
theorem dX11_feed_42 : decode cX11_feed 42 = .ok (.invokevirtual 119, 3) := by decide +kernel
theorem dX11_feed_45 : decode cX11_feed 45 = .ok (.aload_n 0, 1) := by decide +kernel
theorem dX11_feed_46 : decode cX11_feed 46 = .ok (.getfield 10, 3) := by decide +kernel
theorem dX11_feed_49 : decode cX11_feed 49 = .ok (.iload 5, 2) := by decide +kernel
theorem dX11_feed_51 : decode cX11_feed 51 = .ok (.invokevirtual 119, 3) := by decide +kernel
theorem dX11_feed_54 : decode cX11_feed 54 = .ok (.aload_n 0, 1) := by decide +kernel
theorem dX11_feed_55 : decode cX11_feed 55 = .ok (.getfield 10, 3) := by decide +kernel
theorem dX11_feed_58 : decode cX11_feed 58 = .ok (.getfield 122, 3) := by decide +kernel
theorem dX11_feed_61 : decode cX11_feed 61 = .ok (.ireturn, 1) := by decide +kernel
theorem B_X11_feed_0 {g : Sg} {c t : Nat} (hL : Lay LC g c t σ) {x1 : Int} {x2 : Int} {x3 : Int} {x4 : Int} {x5 : Int} (h : (Lay LC g c t σ → CC E mX10_hasRoom [vr 17] σ (KI (fun r1 τ2 => Lay LC g c t τ2 ∧ (inR r1 → ((r1 ≠ 0 → (Lay LC g c t τ2 → CC E mX10_take [vr 17, vi x1] τ2 (KV (fun τ4 => Lay LC g c t τ4 ∧ (Lay LC g c t τ4 → CC E mX10_take [vr 17, vi x2] τ4 (KV (fun τ6 => Lay LC g c t τ6 ∧ (Lay LC g c t τ6 → CC E mX10_take [vr 17, vi x3] τ6 (KV (fun τ8 => Lay LC g c t τ8 ∧ (Lay LC g c t τ8 → CC E mX10_take [vr 17, vi x4] τ8 (KV (fun τ10 => Lay LC g c t τ10 ∧ (Lay LC g c t τ10 → CC E mX10_take [vr 17, vi x5] τ10 (KV (fun τ12 => Lay LC g c t τ12 ∧ (Lay LC g c t τ12 → Q (.inl (some (vi (gI τ12 17 1)))) τ12)) (fun _ _ => False)))) (fun _ _ => False)))) (fun _ _ => False)))) (fun _ _ => False)))) (fun _ _ => False)))) ∧ (r1 = 0 → (Lay LC g c t τ2 → Q (.inl (some (vi (-1)))) τ2))))) (fun _ _ => False)))) : GG E mX11_feed 0 [some (vr 16), some (vi x1), some (vi x2), some (vi x3), some (vi x4), some (vi x5)] [] σ rc rs Q := by
  refine r_aload_n (pc := 0) dX11_feed_0 rfl rfl ?_
  refine r_getR (pc := 1) dX11_feed_1 (k9 := 0) CL_11 (by decide) (by decide) w_588 rfl (okO_of (N := 17) (hL.sh (i := 0) rfl (by decide) (by decide)) (by decide)) ?_
  refine eqR (y := 17) (hL.rf (i := 1) rfl) ?_
  refine c_VI0N (M := mX11_feed) (pc := 4) (As := []) dX11_feed_4 K_X10_hasRoom w_644 ⟨by decide, by decide⟩ (Nat.le_of_ble_eq_true rfl) rfl rfl (ci := 10) rfl rfl (by decide) (okO_of (N := 2) (hL.sh (i := 1) rfl (by decide) (by decide)) (by decide)) (h hL) (fun r1 τ2 h8 hr9 => ?_) rfl
  replace hL := h8.1
  replace h := h8.2 hr9
  refine r_if_ne (pc := 7) (tgt := 12) dX11_feed_7 (by decide) (fun c9 => ?_) (fun c9 => ?_)
  · replace h := h.1 c9
    refine r_aload_n (pc := 12) dX11_feed_12 rfl rfl ?_
    refine r_getR (pc := 13) dX11_feed_13 (k9 := 0) CL_11 (by decide) (by decide) w_588 rfl (okO_of (N := 17) (hL.sh (i := 0) rfl (by decide) (by decide)) (by decide)) ?_
    refine eqR (y := 17) (hL.rf (i := 1) rfl) ?_
    refine r_iload_n (pc := 16) dX11_feed_16 rfl rfl ?_
    refine c_VV0N (M := mX11_feed) (pc := 17) (As := [vi x1]) dX11_feed_17 K_X10_take w_648 ⟨by decide, by decide⟩ (Nat.le_of_ble_eq_true rfl) rfl rfl (ci := 10) rfl rfl (by decide) (okO_of (N := 2) (hL.sh (i := 1) rfl (by decide) (by decide)) (by decide)) (h hL) (fun τ4 h8 => ?_) rfl
    replace hL := h8.1
    replace h := h8.2
    refine r_aload_n (pc := 20) dX11_feed_20 rfl rfl ?_
    refine r_getR (pc := 21) dX11_feed_21 (k9 := 0) CL_11 (by decide) (by decide) w_588 rfl (okO_of (N := 17) (hL.sh (i := 0) rfl (by decide) (by decide)) (by decide)) ?_
    refine eqR (y := 17) (hL.rf (i := 1) rfl) ?_
    refine r_iload_n (pc := 24) dX11_feed_24 rfl rfl ?_
    refine c_VV0N (M := mX11_feed) (pc := 25) (As := [vi x2]) dX11_feed_25 K_X10_take w_648 ⟨by decide, by decide⟩ (Nat.le_of_ble_eq_true rfl) rfl rfl (ci := 10) rfl rfl (by decide) (okO_of (N := 2) (hL.sh (i := 1) rfl (by decide) (by decide)) (by decide)) (h hL) (fun τ6 h8 => ?_) rfl
    replace hL := h8.1
    replace h := h8.2
    refine r_aload_n (pc := 28) dX11_feed_28 rfl rfl ?_
    refine r_getR (pc := 29) dX11_feed_29 (k9 := 0) CL_11 (by decide) (by decide) w_588 rfl (okO_of (N := 17) (hL.sh (i := 0) rfl (by decide) (by decide)) (by decide)) ?_
    refine eqR (y := 17) (hL.rf (i := 1) rfl) ?_
    refine r_iload_n (pc := 32) dX11_feed_32 rfl rfl ?_
    refine c_VV0N (M := mX11_feed) (pc := 33) (As := [vi x3]) dX11_feed_33 K_X10_take w_648 ⟨by decide, by decide⟩ (Nat.le_of_ble_eq_true rfl) rfl rfl (ci := 10) rfl rfl (by decide) (okO_of (N := 2) (hL.sh (i := 1) rfl (by decide) (by decide)) (by decide)) (h hL) (fun τ8 h8 => ?_) rfl
    replace hL := h8.1
    replace h := h8.2
    refine r_aload_n (pc := 36) dX11_feed_36 rfl rfl ?_
    refine r_getR (pc := 37) dX11_feed_37 (k9 := 0) CL_11 (by decide) (by decide) w_588 rfl (okO_of (N := 17) (hL.sh (i := 0) rfl (by decide) (by decide)) (by decide)) ?_
    refine eqR (y := 17) (hL.rf (i := 1) rfl) ?_
    refine r_iload (pc := 40) dX11_feed_40 rfl ?_
    refine c_VV0N (M := mX11_feed) (pc := 42) (As := [vi x4]) dX11_feed_42 K_X10_take w_648 ⟨by decide, by decide⟩ (Nat.le_of_ble_eq_true rfl) rfl rfl (ci := 10) rfl rfl (by decide) (okO_of (N := 2) (hL.sh (i := 1) rfl (by decide) (by decide)) (by decide)) (h hL) (fun τ10 h8 => ?_) rfl
    replace hL := h8.1
    replace h := h8.2
    refine r_aload_n (pc := 45) dX11_feed_45 rfl rfl ?_
    refine r_getR (pc := 46) dX11_feed_46 (k9 := 0) CL_11 (by decide) (by decide) w_588 rfl (okO_of (N := 17) (hL.sh (i := 0) rfl (by decide) (by decide)) (by decide)) ?_
    refine eqR (y := 17) (hL.rf (i := 1) rfl) ?_
    refine r_iload (pc := 49) dX11_feed_49 rfl ?_
    refine c_VV0N (M := mX11_feed) (pc := 51) (As := [vi x5]) dX11_feed_51 K_X10_take w_648 ⟨by decide, by decide⟩ (Nat.le_of_ble_eq_true rfl) rfl rfl (ci := 10) rfl rfl (by decide) (okO_of (N := 2) (hL.sh (i := 1) rfl (by decide) (by decide)) (by decide)) (h hL) (fun τ12 h8 => ?_) rfl
    replace hL := h8.1
    replace h := h8.2
    refine r_aload_n (pc := 54) dX11_feed_54 rfl rfl ?_
    refine r_getR (pc := 55) dX11_feed_55 (k9 := 0) CL_11 (by decide) (by decide) w_588 rfl (okO_of (N := 17) (hL.sh (i := 0) rfl (by decide) (by decide)) (by decide)) ?_
    refine eqR (y := 17) (hL.rf (i := 1) rfl) ?_
    refine r_getI (pc := 58) dX11_feed_58 (k9 := 1) CL_10 (by decide) (by decide) w_140 rfl (okO_of (N := 2) (hL.sh (i := 1) rfl (by decide) (by decide)) (by decide)) (fun _ => ?_)
    exact r_ireturn (pc := 61) (ty := .int) dX11_feed_61 (by decide +kernel) rfl (nar_i _) (h hL)
  · replace h := h.2 c9
    refine r_iconst (pc := 10) dX11_feed_10 (inRk rfl) ?_
    exact r_ireturn (pc := 11) (ty := .int) dX11_feed_11 (by decide +kernel) rfl (nar_i _) (h hL)
theorem C_X11_feed {a0 : Nat} {x1 : Int} {x2 : Int} {x3 : Int} {x4 : Int} {x5 : Int} (h : GG E mX11_feed 0 [some (vr a0), some (vi x1), some (vi x2), some (vi x3), some (vi x4), some (vi x5)] [] σ 0 0 Q) : CC E mX11_feed [vr a0, vi x1, vi x2, vi x3, vi x4, vi x5] σ Q := CC.of (by decide +kernel) rfl (by decide +kernel) (fun h9 => nomatch h9) (Nat.le_of_ble_eq_true rfl) h
theorem dX11_find_0 : decode cX11_find 0 = .ok (.aload_n 0, 1) := by decide +kernel
theorem dX11_find_1 : decode cX11_find 1 = .ok (.iconst 0, 1) := by decide +kernel
theorem dX11_find_2 : decode cX11_find 2 = .ok (.iload_n 1, 1) := by decide +kernel
theorem dX11_find_3 : decode cX11_find 3 = .ok (.iload_n 2, 1) := by decide +kernel
theorem dX11_find_4 : decode cX11_find 4 = .ok (.iload_n 3, 1) := by decide +kernel
theorem dX11_find_5 : decode cX11_find 5 = .ok (.iload 4, 2) := by decide +kernel
theorem dX11_find_7 : decode cX11_find 7 = .ok (.invokevirtual 151, 3) := by decide +kernel
theorem dX11_find_10 : decode cX11_find 10 = .ok (.aload_n 0, 1) := by decide +kernel
theorem dX11_find_11 : decode cX11_find 11 = .ok (.iconst 4, 1) := by decide +kernel
theorem dX11_find_12 : decode cX11_find 12 = .ok (.iload 5, 2) := by decide +kernel
theorem dX11_find_14 : decode cX11_find 14 = .ok (.iload 6, 2) := by decide +kernel
theorem dX11_find_16 : decode cX11_find 16 = .ok (.iload 7, 2) := by decide +kernel
theorem dX11_find_18 : decode cX11_find 18 = .ok (.iload 8, 2) := by decide +kernel
theorem dX11_find_20 : decode cX11_find 20 = .ok (.invokevirtual 151, 3) := by decide +kernel
theorem dX11_find_23 : decode cX11_find 23 = .ok (.aload_n 0, 1) := by decide +kernel
theorem dX11_find_24 : decode cX11_find 24 = .ok (.getfield 93, 3) := by decide +kernel
theorem dX11_find_27 : decode cX11_find 27 = .ok (.aload_n 0, 1) := by decide +kernel
theorem dX11_find_28 : decode cX11_find 28 = .ok (.getfield 80, 3) := by decide +kernel
theorem dX11_find_31 : decode cX11_find 31 = .ok (.invokevirtual 256, 3) := by decide +kernel
theorem dX11_find_34 : decode cX11_find 34 = .ok (.ireturn, 1) := by decide +kernel
theorem B_X11_find_0 {g : Sg} {c t : Nat} (hL : Lay LC g c t σ) {x1 : Int} {x2 : Int} {x3 : Int} {x4 : Int} {x5 : Int} {x6 : Int} {x7 : Int} {x8 : Int} (h : (Lay LC g c t σ → CC E mX11_askHalf [vr 16, vi 0, vi x1, vi x2, vi x3, vi x4] σ (KV (fun τ2 => Lay LC g c t τ2 ∧ (Lay LC g c t τ2 → CC E mX11_askHalf [vr 16, vi 4, vi x5, vi x6, vi x7, vi x8] τ2 (KV (fun τ4 => Lay LC g c t τ4 ∧ (Lay LC g c t τ4 → CC E mX1_numberOf [vr c, vr 155] τ4 (KI (fun r5 τ6 => Lay LC g c t τ6 ∧ (inR r5 → (Lay LC g c t τ6 → Q (.inl (some (vi r5))) τ6))) (fun _ _ => False)))) (fun _ _ => False)))) (fun _ _ => False)))) : GG E mX11_find 0 [some (vr 16), some (vi x1), some (vi x2), some (vi x3), some (vi x4), some (vi x5), some (vi x6), some (vi x7), some (vi x8)] [] σ rc rs Q := by
  refine r_aload_n (pc := 0) dX11_find_0 rfl rfl ?_
  refine r_iconst (pc := 1) dX11_find_1 (inRk rfl) ?_
  refine r_iload_n (pc := 2) dX11_find_2 rfl rfl ?_
  refine r_iload_n (pc := 3) dX11_find_3 rfl rfl ?_
  refine r_iload_n (pc := 4) dX11_find_4 rfl rfl ?_
  refine r_iload (pc := 5) dX11_find_5 rfl ?_
  refine c_VV0N (M := mX11_find) (pc := 7) (As := [vi 0, vi x1, vi x2, vi x3, vi x4]) dX11_find_7 K_X11_askHalf w_680 ⟨by decide, by decide⟩ (Nat.le_of_ble_eq_true rfl) rfl rfl (ci := 11) rfl rfl (by decide) (okO_of (N := 17) (hL.sh (i := 0) rfl (by decide) (by decide)) (by decide)) (h hL) (fun τ2 h8 => ?_) rfl
  replace hL := h8.1
  replace h := h8.2
  refine r_aload_n (pc := 10) dX11_find_10 rfl rfl ?_
  refine r_iconst (pc := 11) dX11_find_11 (inRk rfl) ?_
  refine r_iload (pc := 12) dX11_find_12 rfl ?_
  refine r_iload (pc := 14) dX11_find_14 rfl ?_
  refine r_iload (pc := 16) dX11_find_16 rfl ?_
  refine r_iload (pc := 18) dX11_find_18 rfl ?_
  refine c_VV0N (M := mX11_find) (pc := 20) (As := [vi 4, vi x5, vi x6, vi x7, vi x8]) dX11_find_20 K_X11_askHalf w_680 ⟨by decide, by decide⟩ (Nat.le_of_ble_eq_true rfl) rfl rfl (ci := 11) rfl rfl (by decide) (okO_of (N := 17) (hL.sh (i := 0) rfl (by decide) (by decide)) (by decide)) (h hL) (fun τ4 h8 => ?_) rfl
  replace hL := h8.1
  replace h := h8.2
  refine r_aload_n (pc := 23) dX11_find_23 rfl rfl ?_
  refine r_getR (pc := 24) dX11_find_24 (k9 := 12) CL_11 (by decide) (by decide) w_600 rfl (okO_of (N := 17) (hL.sh (i := 0) rfl (by decide) (by decide)) (by decide)) ?_
  refine eqR (y := c) hL.cl.1 ?_
  refine r_aload_n (pc := 27) dX11_find_27 rfl rfl ?_
  refine r_getR (pc := 28) dX11_find_28 (k9 := 9) CL_11 (by decide) (by decide) w_597 rfl (okO_of (N := 17) (hL.sh (i := 0) rfl (by decide) (by decide)) (by decide)) ?_
  refine eqR (y := 155) (hL.rf (i := 44) rfl) ?_
  refine c_VI0N (M := mX11_find) (pc := 31) (As := [vr 155]) dX11_find_31 K_X1_numberOf w_684 ⟨by decide, by decide⟩ (Nat.le_of_ble_eq_true rfl) rfl rfl (ci := 1) rfl rfl (by decide) (okO_of (ci := 1) (N := 12) (hL.isc.r hL).1 (hL.isc.r hL).2.1) (h hL) (fun r5 τ6 h8 hr9 => ?_) rfl
  replace hL := h8.1
  replace h := h8.2 hr9
  exact r_ireturn (pc := 34) (ty := .int) dX11_find_34 (by decide +kernel) rfl (nar_i _) (h hL)
theorem C_X11_find {a0 : Nat} {x1 : Int} {x2 : Int} {x3 : Int} {x4 : Int} {x5 : Int} {x6 : Int} {x7 : Int} {x8 : Int} (h : GG E mX11_find 0 [some (vr a0), some (vi x1), some (vi x2), some (vi x3), some (vi x4), some (vi x5), some (vi x6), some (vi x7), some (vi x8)] [] σ 0 0 Q) : CC E mX11_find [vr a0, vi x1, vi x2, vi x3, vi x4, vi x5, vi x6, vi x7, vi x8] σ Q := CC.of (by decide +kernel) rfl (by decide +kernel) (fun h9 => nomatch h9) (Nat.le_of_ble_eq_true rfl) h
theorem dX11_forgetReasons_0 : decode cX11_forgetReasons 0 = .ok (.iconst 0, 1) := by decide +kernel
theorem dX11_forgetReasons_1 : decode cX11_forgetReasons 1 = .ok (.istore_n 1, 1) := by decide +kernel
theorem dX11_forgetReasons_2 : decode cX11_forgetReasons 2 = .ok (.iload_n 1, 1) := by decide +kernel
theorem dX11_forgetReasons_3 : decode cX11_forgetReasons 3 = .ok (.aload_n 0, 1) := by decide +kernel
theorem dX11_forgetReasons_4 : decode cX11_forgetReasons 4 = .ok (.getfield 84, 3) := by decide +kernel
theorem dX11_forgetReasons_7 : decode cX11_forgetReasons 7 = .ok (.arraylength, 1) := by decide +kernel
theorem dX11_forgetReasons_8 : decode cX11_forgetReasons 8 = .ok (.if_icmp .ge 16, 3) := by decide +kernel
theorem dX11_forgetReasons_11 : decode cX11_forgetReasons 11 = .ok (.aload_n 0, 1) := by decide +kernel
theorem dX11_forgetReasons_12 : decode cX11_forgetReasons 12 = .ok (.getfield 84, 3) := by decide +kernel
theorem dX11_forgetReasons_15 : decode cX11_forgetReasons 15 = .ok (.iload_n 1, 1) := by decide +kernel
theorem dX11_forgetReasons_16 : decode cX11_forgetReasons 16 = .ok (.iconst 0, 1) := by decide +kernel
theorem dX11_forgetReasons_17 : decode cX11_forgetReasons 17 = .ok (.iastore, 1) := by decide +kernel
theorem dX11_forgetReasons_18 : decode cX11_forgetReasons 18 = .ok (.iinc 1 1, 3) := by decide +kernel
theorem dX11_forgetReasons_21 : decode cX11_forgetReasons 21 = .ok (.goto (-19), 3) := by decide +kernel
theorem dX11_forgetReasons_24 : decode cX11_forgetReasons 24 = .ok (.return_, 1) := by decide +kernel
theorem B_X11_forgetReasons_0 {g : Sg} {c t : Nat} (hL : Lay LC g c t σ)  (h : (Lay LC g c t σ → GG E mX11_forgetReasons 2 [some (vr 16), some (vi 0)] [] σ rc rs Q)) : GG E mX11_forgetReasons 0 [some (vr 16), none] [] σ rc rs Q := by
  refine r_iconst (pc := 0) dX11_forgetReasons_0 (inRk rfl) ?_
  refine r_istore_n (pc := 1) dX11_forgetReasons_1 rfl (by decide) (l2 := [some (vr 16), some (vi 0)]) rfl ?_
  exact (h hL)
theorem B_X11_forgetReasons_2 {g : Sg} {c t : Nat} (hL : Lay LC g c t σ) {x1 : Int} (h : ((4 ≤ x1 → (Lay LC g c t σ → Q (.inl none) σ)) ∧ (¬ (4 ≤ x1) → (0 ≤ x1 ∧ x1 < 4) ∧ ∀ τ2 : Sg, τ2 = sI σ 156 x1.toNat 0 → inR (x1 + 1) ∧ (Lay LC g c t τ2 → GG E mX11_forgetReasons 2 [some (vr 16), some (vi (x1 + 1))] [] τ2 rc rs Q)))) : GG E mX11_forgetReasons 2 [some (vr 16), some (vi x1)] [] σ rc rs Q := by
  refine r_iload_n (pc := 2) dX11_forgetReasons_2 rfl rfl ?_
  refine r_aload_n (pc := 3) dX11_forgetReasons_3 rfl rfl ?_
  refine r_getR (pc := 4) dX11_forgetReasons_4 (k9 := 10) CL_11 (by decide) (by decide) w_598 rfl (okO_of (N := 17) (hL.sh (i := 0) rfl (by decide) (by decide)) (by decide)) ?_
  refine eqR (y := 156) (hL.rf (i := 45) rfl) ?_
  have o4 : okN σ 156 := okN_of (hL.sh (i := 52) rfl (by decide) (by decide)) (by decide) (by decide) (by decide)
  refine r_alen (pc := 7) dX11_forgetReasons_7 o4.1 o4.2 ?_
  refine eqI (y := 4) (by rw [(hL.sh (i := 52) rfl (by decide) (by decide))] <;> rfl) ?_
  refine r_icmp_ge (pc := 8) (tgt := 24) dX11_forgetReasons_8 (by decide) (fun c9 => ?_) (fun c9 => ?_)
  · replace h := h.1 c9
    exact r_return (pc := 24) dX11_forgetReasons_24 (by decide +kernel) rfl (h hL)
  · replace h := h.2 c9
    refine r_aload_n (pc := 11) dX11_forgetReasons_11 rfl rfl ?_
    refine r_getR (pc := 12) dX11_forgetReasons_12 (k9 := 10) CL_11 (by decide) (by decide) w_598 rfl (okO_of (N := 17) (hL.sh (i := 0) rfl (by decide) (by decide)) (by decide)) ?_
    refine eqR (y := 156) (hL.rf (i := 45) rfl) ?_
    refine r_iload_n (pc := 15) dX11_forgetReasons_15 rfl rfl ?_
    refine r_iconst (pc := 16) dX11_forgetReasons_16 (inRk rfl) ?_
    obtain ⟨o1, h⟩ := h
    refine r_iastore (pc := 17) dX11_forgetReasons_17 (okB_of (c := 20) (n := 4) (hL.sh (i := 52) rfl (by decide) (by decide)) (by decide) o1) ?_
    refine nmS (fun τ2 e2 => ?_)
    replace h := h τ2 e2
    have hL := hL.wI e2 (by decide) (.inl (by decide))
    obtain ⟨o3, h⟩ := h
    refine r_iinc (pc := 18) dX11_forgetReasons_18 rfl (by decide) o3 (l2 := [some (vr 16), some (vi (x1 + 1))]) rfl ?_
    refine r_goto (pc := 21) (tgt := 2) dX11_forgetReasons_21 (by decide) ?_
    exact (h hL)
theorem C_X11_forgetReasons {a0 : Nat} (h : GG E mX11_forgetReasons 0 [some (vr a0), none] [] σ 0 0 Q) : CC E mX11_forgetReasons [vr a0] σ Q := CC.of (by decide +kernel) rfl (by decide +kernel) (fun h9 => nomatch h9) (Nat.le_of_ble_eq_true rfl) h
theorem dX11_inRow_0 : decode cX11_inRow 0 = .ok (.aload_n 0, 1) := by decide +kernel
theorem dX11_inRow_1 : decode cX11_inRow 1 = .ok (.invokevirtual 204, 3) := by decide +kernel
theorem dX11_inRow_4 : decode cX11_inRow 4 = .ok (.aload_n 0, 1) := by decide +kernel
theorem dX11_inRow_5 : decode cX11_inRow 5 = .ok (.iload_n 1, 1) := by decide +kernel
theorem dX11_inRow_6 : decode cX11_inRow 6 = .ok (.aload_n 0, 1) := by decide +kernel
theorem dX11_inRow_7 : decode cX11_inRow 7 = .ok (.getfield 49, 3) := by decide +kernel
theorem dX11_inRow_10 : decode cX11_inRow 10 = .ok (.getfield 239, 3) := by decide +kernel
theorem dX11_inRow_13 : decode cX11_inRow 13 = .ok (.invokevirtual 193, 3) := by decide +kernel
theorem dX11_inRow_16 : decode cX11_inRow 16 = .ok (.aload_n 0, 1) := by decide +kernel
theorem dX11_inRow_17 : decode cX11_inRow 17 = .ok (.iload_n 2, 1) := by decide +kernel
theorem dX11_inRow_18 : decode cX11_inRow 18 = .ok (.iconst 0, 1) := by decide +kernel
theorem dX11_inRow_19 : decode cX11_inRow 19 = .ok (.sipush 200, 3) := by decide +kernel
theorem dX11_inRow_22 : decode cX11_inRow 22 = .ok (.invokevirtual 128, 3) := by decide +kernel
theorem dX11_inRow_25 : decode cX11_inRow 25 = .ok (.aload_n 0, 1) := by decide +kernel
theorem dX11_inRow_26 : decode cX11_inRow 26 = .ok (.getfield 76, 3) := by decide +kernel
theorem dX11_inRow_29 : decode cX11_inRow 29 = .ok (.aload_n 0, 1) := by decide +kernel
theorem dX11_inRow_30 : decode cX11_inRow 30 = .ok (.getfield 49, 3) := by decide +kernel
theorem dX11_inRow_33 : decode cX11_inRow 33 = .ok (.iload_n 1, 1) := by decide +kernel
theorem dX11_inRow_34 : decode cX11_inRow 34 = .ok (.iload_n 2, 1) := by decide +kernel
theorem dX11_inRow_35 : decode cX11_inRow 35 = .ok (.invokevirtual 317, 3) := by decide +kernel
theorem dX11_inRow_38 : decode cX11_inRow 38 = .ok (.ireturn, 1) := by decide +kernel
theorem B_X11_inRow_0 {g : Sg} {c t : Nat} (hL : Lay LC g c t σ) {x1 : Int} {x2 : Int} (h : (Lay LC g c t σ → CC E mX11_needCharacters [vr 16] σ (KV (fun τ2 => Lay LC g c t τ2 ∧ 1 ≤ rc ∧ 6 ≤ rs ∧ (Lay LC g c t τ2 → CC E mX11_needIndex [vr 16, vi x1, vi (gI τ2 34 7)] τ2 (KV (fun τ6 => Lay LC g c t τ6 ∧ 1 ≤ rc - 1 ∧ 6 ≤ rs - 6 ∧ (Lay LC g c t τ6 → CC E mX11_needBetween [vr 16, vi x2, vi 0, vi 200] τ6 (KV (fun τ10 => Lay LC g c t τ10 ∧ (Lay LC g c t τ10 → CC E mX6_oftenInRow [vr 152, vr 34, vi x1, vi x2] τ10 (KI (fun r11 τ12 => Lay LC g c t τ12 ∧ (inR r11 → (Lay LC g c t τ12 → Q (.inl (some (vi r11))) τ12))) (fun _ _ => False)))) (fun k9 τ9 => Q (.inr k9) τ9)))) (fun k9 τ9 => Q (.inr k9) τ9)))) (fun _ _ => False)))) : GG E mX11_inRow 0 [some (vr 16), some (vi x1), some (vi x2)] [] σ rc rs Q := by
  refine r_aload_n (pc := 0) dX11_inRow_0 rfl rfl ?_
  refine c_VV0N (M := mX11_inRow) (pc := 1) (As := []) dX11_inRow_1 K_X11_needCharacters w_973 ⟨by decide, by decide⟩ (Nat.le_of_ble_eq_true rfl) rfl rfl (ci := 11) rfl rfl (by decide) (okO_of (N := 17) (hL.sh (i := 0) rfl (by decide) (by decide)) (by decide)) (h hL) (fun τ2 h8 => ?_) rfl
  replace hL := h8.1
  replace h := h8.2
  refine r_aload_n (pc := 4) dX11_inRow_4 rfl rfl ?_
  refine r_iload_n (pc := 5) dX11_inRow_5 rfl rfl ?_
  refine r_aload_n (pc := 6) dX11_inRow_6 rfl rfl ?_
  refine r_getR (pc := 7) dX11_inRow_7 (k9 := 5) CL_11 (by decide) (by decide) w_593 rfl (okO_of (N := 17) (hL.sh (i := 0) rfl (by decide) (by decide)) (by decide)) ?_
  refine eqR (y := 34) (hL.rf (i := 25) rfl) ?_
  refine r_getI (pc := 10) dX11_inRow_10 (k9 := 7) CL_0 (by decide) (by decide) w_329 rfl (okO_of (N := 10) (hL.sh (i := 18) rfl (by decide) (by decide)) (by decide)) (fun _ => ?_)
  obtain ⟨o3, h⟩ := h
  obtain ⟨o4, h⟩ := h
  refine c_VVAX (M := mX11_inRow) (pc := 13) (As := [vi x1, vi (gI τ2 34 7)]) dX11_inRow_13 K_X11_needIndex w_946 ⟨by decide, by decide⟩ (Nat.le_of_ble_eq_true rfl) o3 o4 (ci := 11) rfl rfl (by decide) (okO_of (N := 17) (hL.sh (i := 0) rfl (by decide) (by decide)) (by decide)) (h hL) (fun τ6 h8 => ?_) (fun k9 τ9 hk9 h8 => ?_) rfl
  · replace hL := h8.1
    replace h := h8.2
    refine r_aload_n (pc := 16) dX11_inRow_16 rfl rfl ?_
    refine r_iload_n (pc := 17) dX11_inRow_17 rfl rfl ?_
    refine r_iconst (pc := 18) dX11_inRow_18 (inRk rfl) ?_
    refine r_sipush (pc := 19) dX11_inRow_19 (by decide) ?_
    obtain ⟨o7, h⟩ := h
    obtain ⟨o8, h⟩ := h
    refine c_VVAX (M := mX11_inRow) (pc := 22) (As := [vi x2, vi 0, vi 200]) dX11_inRow_22 K_X11_needBetween w_707 ⟨by decide, by decide⟩ (Nat.le_of_ble_eq_true rfl) o7 o8 (ci := 11) rfl rfl (by decide) (okO_of (N := 17) (hL.sh (i := 0) rfl (by decide) (by decide)) (by decide)) (h hL) (fun τ10 h8 => ?_) (fun k9 τ9 hk9 h8 => ?_) rfl
    · replace hL := h8.1
      replace h := h8.2
      refine r_aload_n (pc := 25) dX11_inRow_25 rfl rfl ?_
      refine r_getR (pc := 26) dX11_inRow_26 (k9 := 8) CL_11 (by decide) (by decide) w_596 rfl (okO_of (N := 17) (hL.sh (i := 0) rfl (by decide) (by decide)) (by decide)) ?_
      refine eqR (y := 152) (hL.rf (i := 43) rfl) ?_
      refine r_aload_n (pc := 29) dX11_inRow_29 rfl rfl ?_
      refine r_getR (pc := 30) dX11_inRow_30 (k9 := 5) CL_11 (by decide) (by decide) w_593 rfl (okO_of (N := 17) (hL.sh (i := 0) rfl (by decide) (by decide)) (by decide)) ?_
      refine eqR (y := 34) (hL.rf (i := 25) rfl) ?_
      refine r_iload_n (pc := 33) dX11_inRow_33 rfl rfl ?_
      refine r_iload_n (pc := 34) dX11_inRow_34 rfl rfl ?_
      refine c_VI0N (M := mX11_inRow) (pc := 35) (As := [vr 34, vi x1, vi x2]) dX11_inRow_35 K_X6_oftenInRow w_1266 ⟨by decide, by decide⟩ (Nat.le_of_ble_eq_true rfl) rfl rfl (ci := 6) rfl rfl (by decide) (okO_of (N := 2) (hL.sh (i := 48) rfl (by decide) (by decide)) (by decide)) (h hL) (fun r11 τ12 h8 hr9 => ?_) rfl
      replace hL := h8.1
      replace h := h8.2 hr9
      exact r_ireturn (pc := 38) (ty := .int) dX11_inRow_38 (by decide +kernel) rfl (nar_i _) (h hL)
    · exact TT.out (by decide +kernel) rfl h8
  · exact TT.out (by decide +kernel) rfl h8
theorem C_X11_inRow {a0 : Nat} {x1 : Int} {x2 : Int} (h : GG E mX11_inRow 0 [some (vr a0), some (vi x1), some (vi x2)] [] σ 2 12 Q) : CC E mX11_inRow [vr a0, vi x1, vi x2] σ Q := CC.of (by decide +kernel) rfl (by decide +kernel) (fun h9 => nomatch h9) (Nat.le_of_ble_eq_true rfl) h
theorem dX11_init_0 : decode cX11_init 0 = .ok (.aload_n 0, 1) := by decide +kernel
theorem dX11_init_1 : decode cX11_init 1 = .ok (.invokespecial 1, 3) := by decide +kernel
theorem dX11_init_4 : decode cX11_init 4 = .ok (.aload_n 0, 1) := by decide +kernel
theorem dX11_init_5 : decode cX11_init 5 = .ok (.new 7, 3) := by decide +kernel
theorem dX11_init_8 : decode cX11_init 8 = .ok (.dup, 1) := by decide +kernel
theorem dX11_init_9 : decode cX11_init 9 = .ok (.invokespecial 9, 3) := by decide +kernel
theorem dX11_init_12 : decode cX11_init 12 = .ok (.putfield 10, 3) := by decide +kernel
theorem dX11_init_15 : decode cX11_init 15 = .ok (.aload_n 0, 1) := by decide +kernel
theorem dX11_init_16 : decode cX11_init 16 = .ok (.new 16, 3) := by decide +kernel
theorem dX11_init_19 : decode cX11_init 19 = .ok (.dup, 1) := by decide +kernel
theorem dX11_init_20 : decode cX11_init 20 = .ok (.aload_n 0, 1) := by decide +kernel
theorem dX11_init_21 : decode cX11_init 21 = .ok (.getfield 10, 3) := by decide +kernel
theorem dX11_init_24 : decode cX11_init 24 = .ok (.invokespecial 18, 3) := by decide +kernel
theorem dX11_init_27 : decode cX11_init 27 = .ok (.putfield 21, 3) := by decide +kernel
theorem dX11_init_30 : decode cX11_init 30 = .ok (.aload_n 0, 1) := by decide +kernel
theorem dX11_init_31 : decode cX11_init 31 = .ok (.new 25, 3) := by decide +kernel
theorem dX11_init_34 : decode cX11_init 34 = .ok (.dup, 1) := by decide +kernel
theorem dX11_init_35 : decode cX11_init 35 = .ok (.invokespecial 27, 3) := by decide +kernel
theorem dX11_init_38 : decode cX11_init 38 = .ok (.putfield 28, 3) := by decide +kernel
theorem dX11_init_41 : decode cX11_init 41 = .ok (.aload_n 0, 1) := by decide +kernel
theorem dX11_init_42 : decode cX11_init 42 = .ok (.new 32, 3) := by decide +kernel
theorem dX11_init_45 : decode cX11_init 45 = .ok (.dup, 1) := by decide +kernel
theorem dX11_init_46 : decode cX11_init 46 = .ok (.invokespecial 34, 3) := by decide +kernel
theorem dX11_init_49 : decode cX11_init 49 = .ok (.putfield 35, 3) := by decide +kernel
theorem dX11_init_52 : decode cX11_init 52 = .ok (.aload_n 0, 1) := by decide +kernel
theorem dX11_init_53 : decode cX11_init 53 = .ok (.new 39, 3) := by decide +kernel
theorem dX11_init_56 : decode cX11_init 56 = .ok (.dup, 1) := by decide +kernel
theorem dX11_init_57 : decode cX11_init 57 = .ok (.invokespecial 41, 3) := by decide +kernel
theorem dX11_init_60 : decode cX11_init 60 = .ok (.putfield 42, 3) := by decide +kernel
theorem dX11_init_63 : decode cX11_init 63 = .ok (.aload_n 0, 1) := by decide +kernel
theorem dX11_init_64 : decode cX11_init 64 = .ok (.new 46, 3) := by decide +kernel
theorem dX11_init_67 : decode cX11_init 67 = .ok (.dup, 1) := by decide +kernel
theorem dX11_init_68 : decode cX11_init 68 = .ok (.invokespecial 48, 3) := by decide +kernel
theorem dX11_init_71 : decode cX11_init 71 = .ok (.putfield 49, 3) := by decide +kernel
theorem dX11_init_74 : decode cX11_init 74 = .ok (.aload_n 0, 1) := by decide +kernel
theorem dX11_init_75 : decode cX11_init 75 = .ok (.new 53, 3) := by decide +kernel
theorem dX11_init_78 : decode cX11_init 78 = .ok (.dup, 1) := by decide +kernel
theorem dX11_init_79 : decode cX11_init 79 = .ok (.aload_n 0, 1) := by decide +kernel
theorem dX11_init_80 : decode cX11_init 80 = .ok (.getfield 49, 3) := by decide +kernel
theorem dX11_init_83 : decode cX11_init 83 = .ok (.getfield 55, 3) := by decide +kernel
theorem dX11_init_86 : decode cX11_init 86 = .ok (.invokespecial 59, 3) := by decide +kernel
theorem dX11_init_89 : decode cX11_init 89 = .ok (.putfield 62, 3) := by decide +kernel
theorem dX11_init_92 : decode cX11_init 92 = .ok (.aload_n 0, 1) := by decide +kernel
theorem dX11_init_93 : decode cX11_init 93 = .ok (.new 66, 3) := by decide +kernel
theorem dX11_init_96 : decode cX11_init 96 = .ok (.dup, 1) := by decide +kernel
theorem dX11_init_97 : decode cX11_init 97 = .ok (.invokespecial 68, 3) := by decide +kernel
theorem dX11_init_100 : decode cX11_init 100 = .ok (.putfield 69, 3) := by decide +kernel
theorem dX11_init_103 : decode cX11_init 103 = .ok (.aload_n 0, 1) := by decide +kernel
theorem dX11_init_104 : decode cX11_init 104 = .ok (.new 73, 3) := by decide +kernel
theorem dX11_init_107 : decode cX11_init 107 = .ok (.dup, 1) := by decide +kernel
theorem dX11_init_108 : decode cX11_init 108 = .ok (.invokespecial 75, 3) := by decide +kernel
theorem dX11_init_111 : decode cX11_init 111 = .ok (.putfield 76, 3) := by decide +kernel
theorem dX11_init_114 : decode cX11_init 114 = .ok (.aload_n 0, 1) := by decide +kernel
theorem dX11_init_115 : decode cX11_init 115 = .ok (.bipush 8, 2) := by decide +kernel
theorem dX11_init_117 : decode cX11_init 117 = .ok (.newarray .int, 2) := by decide +kernel
theorem dX11_init_119 : decode cX11_init 119 = .ok (.putfield 80, 3) := by decide +kernel
theorem dX11_init_122 : decode cX11_init 122 = .ok (.aload_n 0, 1) := by decide +kernel
theorem dX11_init_123 : decode cX11_init 123 = .ok (.iconst 4, 1) := by decide +kernel
theorem dX11_init_124 : decode cX11_init 124 = .ok (.newarray .int, 2) := by decide +kernel
theorem dX11_init_126 : decode cX11_init 126 = .ok (.putfield 84, 3) := by decide +kernel
theorem dX11_init_129 : decode cX11_init 129 = .ok (.aload_n 0, 1) := by decide +kernel
theorem dX11_init_130 : decode cX11_init 130 = .ok (.iconst 3, 1) := by decide +kernel
theorem dX11_init_131 : decode cX11_init 131 = .ok (.newarray .int, 2) := by decide +kernel
theorem dX11_init_133 : decode cX11_init 133 = .ok (.putfield 87, 3) := by decide +kernel
theorem dX11_init_136 : decode cX11_init 136 = .ok (.aload_n 0, 1) := by decide +kernel
theorem dX11_init_137 : decode cX11_init 137 = .ok (.new 90, 3) := by decide +kernel
theorem dX11_init_140 : decode cX11_init 140 = .ok (.dup, 1) := by decide +kernel
theorem dX11_init_141 : decode cX11_init 141 = .ok (.invokespecial 92, 3) := by decide +kernel
theorem dX11_init_144 : decode cX11_init 144 = .ok (.putfield 93, 3) := by decide +kernel
theorem dX11_init_147 : decode cX11_init 147 = .ok (.aload_n 0, 1) := by decide +kernel
theorem dX11_init_148 : decode cX11_init 148 = .ok (.new 90, 3) := by decide +kernel
theorem dX11_init_151 : decode cX11_init 151 = .ok (.dup, 1) := by decide +kernel
theorem dX11_init_152 : decode cX11_init 152 = .ok (.invokespecial 92, 3) := by decide +kernel
theorem dX11_init_155 : decode cX11_init 155 = .ok (.putfield 97, 3) := by decide +kernel
theorem dX11_init_158 : decode cX11_init 158 = .ok (.aload_n 0, 1) := by decide +kernel
theorem dX11_init_159 : decode cX11_init 159 = .ok (.iconst (-1), 1) := by decide +kernel
theorem dX11_init_160 : decode cX11_init 160 = .ok (.putfield 100, 3) := by decide +kernel
theorem dX11_init_163 : decode cX11_init 163 = .ok (.aload_n 0, 1) := by decide +kernel
theorem dX11_init_164 : decode cX11_init 164 = .ok (.getfield 93, 3) := by decide +kernel
theorem dX11_init_167 : decode cX11_init 167 = .ok (.iconst 2, 1) := by decide +kernel
theorem dX11_init_168 : decode cX11_init 168 = .ok (.invokevirtual 104, 3) := by decide +kernel
theorem dX11_init_171 : decode cX11_init 171 = .ok (.aload_n 0, 1) := by decide +kernel
theorem dX11_init_172 : decode cX11_init 172 = .ok (.getfield 93, 3) := by decide +kernel
theorem dX11_init_175 : decode cX11_init 175 = .ok (.invokevirtual 108, 3) := by decide +kernel
theorem dX11_init_178 : decode cX11_init 178 = .ok (.pop, 1) := by decide +kernel
theorem dX11_init_179 : decode cX11_init 179 = .ok (.aload_n 0, 1) := by decide +kernel
theorem dX11_init_180 : decode cX11_init 180 = .ok (.getfield 35, 3) := by decide +kernel
theorem dX11_init_183 : decode cX11_init 183 = .ok (.aload_n 0, 1) := by decide +kernel
theorem dX11_init_184 : decode cX11_init 184 = .ok (.getfield 93, 3) := by decide +kernel
theorem dX11_init_187 : decode cX11_init 187 = .ok (.invokevirtual 112, 3) := by decide +kernel
theorem dX11_init_190 : decode cX11_init 190 = .ok (.return_, 1) := by decide +kernel
theorem B_X11_init_0 {a0 : Nat} (h : 16 ≤ a0 ∧ 1 ≤ rc ∧ 2 ≤ rs ∧ ∀ b1 : Nat, b1 = gz σ → 1 ≤ rc - 1 ∧ 400 ≤ rs - 2 ∧ 16 ≤ b1 ∧ CC E mX10_init [vr b1] (nw σ (11, 2)) (KV (fun τ3 => okO τ3 a0 11 ∧ ∀ τ5 : Sg, τ5 = sR τ3 a0 0 b1 → 1 ≤ rc - 1 - 1 ∧ 6 ≤ rs - 2 - 400 ∧ ∀ b6 : Nat, b6 = gz τ5 → okO (nw τ5 (8, 6)) a0 11 ∧ 1 ≤ rc - 1 - 1 - 1 ∧ 8 ≤ rs - 2 - 400 - 6 ∧ 16 ≤ b6 ∧ CC E mX7_init [vr b6, vr (gR (nw τ5 (8, 6)) a0 0)] (nw τ5 (8, 6)) (KV (fun τ9 => okO τ9 a0 11 ∧ ∀ τ11 : Sg, τ11 = sR τ9 a0 1 b6 → 1 ≤ rc - 1 - 1 - 1 - 1 ∧ 3 ≤ rs - 2 - 400 - 6 - 8 ∧ ∀ b12 : Nat, b12 = gz τ11 → 2 ≤ rc - 1 - 1 - 1 - 1 - 1 ∧ 264 ≤ rs - 2 - 400 - 6 - 8 - 3 ∧ 16 ≤ b12 ∧ CC E mX5_init [vr b12] (nw τ11 (6, 3)) (KV (fun τ14 => okO τ14 a0 11 ∧ ∀ τ16 : Sg, τ16 = sR τ14 a0 2 b12 → 1 ≤ rc - 1 - 1 - 1 - 1 - 1 - 2 ∧ 12 ≤ rs - 2 - 400 - 6 - 8 - 3 - 264 ∧ ∀ b17 : Nat, b17 = gz τ16 → 6 ≤ rc - 1 - 1 - 1 - 1 - 1 - 2 - 1 ∧ 15000 ≤ rs - 2 - 400 - 6 - 8 - 3 - 264 - 12 ∧ 16 ≤ b17 ∧ CC E mX4_init [vr b17] (nw τ16 (5, 12)) (KV (fun τ19 => okO τ19 a0 11 ∧ ∀ τ21 : Sg, τ21 = sR τ19 a0 3 b17 → 1 ≤ rc - 1 - 1 - 1 - 1 - 1 - 2 - 1 - 6 ∧ 5 ≤ rs - 2 - 400 - 6 - 8 - 3 - 264 - 12 - 15000 ∧ ∀ b22 : Nat, b22 = gz τ21 → 2 ≤ rc - 1 - 1 - 1 - 1 - 1 - 2 - 1 - 6 - 1 ∧ 240 ≤ rs - 2 - 400 - 6 - 8 - 3 - 264 - 12 - 15000 - 5 ∧ 16 ≤ b22 ∧ CC E mX9_init [vr b22] (nw τ21 (10, 5)) (KV (fun τ24 => okO τ24 a0 11 ∧ ∀ τ26 : Sg, τ26 = sR τ24 a0 4 b22 → 1 ≤ rc - 1 - 1 - 1 - 1 - 1 - 2 - 1 - 6 - 1 - 2 ∧ 10 ≤ rs - 2 - 400 - 6 - 8 - 3 - 264 - 12 - 15000 - 5 - 240 ∧ ∀ b27 : Nat, b27 = gz τ26 → 19 ≤ rc - 1 - 1 - 1 - 1 - 1 - 2 - 1 - 6 - 1 - 2 - 1 ∧ 218 ≤ rs - 2 - 400 - 6 - 8 - 3 - 264 - 12 - 15000 - 5 - 240 - 10 ∧ 16 ≤ b27 ∧ CC E mX0_init [vr b27] (nw τ26 (1, 10)) (KV (fun τ29 => okO τ29 a0 11 ∧ ∀ τ31 : Sg, τ31 = sR τ29 a0 5 b27 → 1 ≤ rc - 1 - 1 - 1 - 1 - 1 - 2 - 1 - 6 - 1 - 2 - 1 - 19 ∧ 15 ≤ rs - 2 - 400 - 6 - 8 - 3 - 264 - 12 - 15000 - 5 - 240 - 10 - 218 ∧ ∀ b32 : Nat, b32 = gz τ31 → okO (nw τ31 (9, 15)) a0 11 ∧ okO (nw τ31 (9, 15)) (gR (nw τ31 (9, 15)) a0 5) 0 ∧ 70 ≤ rc - 1 - 1 - 1 - 1 - 1 - 2 - 1 - 6 - 1 - 2 - 1 - 19 - 1 ∧ 2701 ≤ rs - 2 - 400 - 6 - 8 - 3 - 264 - 12 - 15000 - 5 - 240 - 10 - 218 - 15 ∧ 16 ≤ b32 ∧ CC E mX8_init [vr b32, vr (gR (nw τ31 (9, 15)) (gR (nw τ31 (9, 15)) a0 5) 0)] (nw τ31 (9, 15)) (KV (fun τ36 => okO τ36 a0 11 ∧ ∀ τ38 : Sg, τ38 = sR τ36 a0 6 b32 → 1 ≤ rc - 1 - 1 - 1 - 1 - 1 - 2 - 1 - 6 - 1 - 2 - 1 - 19 - 1 - 70 ∧ 3 ≤ rs - 2 - 400 - 6 - 8 - 3 - 264 - 12 - 15000 - 5 - 240 - 10 - 218 - 15 - 2701 ∧ ∀ b39 : Nat, b39 = gz τ38 → 26 ≤ rc - 1 - 1 - 1 - 1 - 1 - 2 - 1 - 6 - 1 - 2 - 1 - 19 - 1 - 70 - 1 ∧ 312 ≤ rs - 2 - 400 - 6 - 8 - 3 - 264 - 12 - 15000 - 5 - 240 - 10 - 218 - 15 - 2701 - 3 ∧ 16 ≤ b39 ∧ CC E mX3_init [vr b39] (nw τ38 (4, 3)) (KV (fun τ41 => okO τ41 a0 11 ∧ ∀ τ43 : Sg, τ43 = sR τ41 a0 7 b39 → 1 ≤ rc - 1 - 1 - 1 - 1 - 1 - 2 - 1 - 6 - 1 - 2 - 1 - 19 - 1 - 70 - 1 - 26 ∧ 2 ≤ rs - 2 - 400 - 6 - 8 - 3 - 264 - 12 - 15000 - 5 - 240 - 10 - 218 - 15 - 2701 - 3 - 312 ∧ ∀ b44 : Nat, b44 = gz τ43 → 2 ≤ rc - 1 - 1 - 1 - 1 - 1 - 2 - 1 - 6 - 1 - 2 - 1 - 19 - 1 - 70 - 1 - 26 - 1 ∧ 24 ≤ rs - 2 - 400 - 6 - 8 - 3 - 264 - 12 - 15000 - 5 - 240 - 10 - 218 - 15 - 2701 - 3 - 312 - 2 ∧ 16 ≤ b44 ∧ CC E mX6_init [vr b44] (nw τ43 (7, 2)) (KV (fun τ46 => okO τ46 a0 11 ∧ ∀ τ48 : Sg, τ48 = sR τ46 a0 8 b44 → 1 ≤ rc - 1 - 1 - 1 - 1 - 1 - 2 - 1 - 6 - 1 - 2 - 1 - 19 - 1 - 70 - 1 - 26 - 1 - 2 ∧ 8 ≤ rs - 2 - 400 - 6 - 8 - 3 - 264 - 12 - 15000 - 5 - 240 - 10 - 218 - 15 - 2701 - 3 - 312 - 2 - 24 ∧ ∀ b49 : Nat, b49 = gz τ48 → okO (nw τ48 (20, 8)) a0 11 ∧ ∀ τ51 : Sg, τ51 = sR (nw τ48 (20, 8)) a0 9 b49 → 1 ≤ rc - 1 - 1 - 1 - 1 - 1 - 2 - 1 - 6 - 1 - 2 - 1 - 19 - 1 - 70 - 1 - 26 - 1 - 2 - 1 ∧ 4 ≤ rs - 2 - 400 - 6 - 8 - 3 - 264 - 12 - 15000 - 5 - 240 - 10 - 218 - 15 - 2701 - 3 - 312 - 2 - 24 - 8 ∧ ∀ b52 : Nat, b52 = gz τ51 → okO (nw τ51 (20, 4)) a0 11 ∧ ∀ τ54 : Sg, τ54 = sR (nw τ51 (20, 4)) a0 10 b52 → 1 ≤ rc - 1 - 1 - 1 - 1 - 1 - 2 - 1 - 6 - 1 - 2 - 1 - 19 - 1 - 70 - 1 - 26 - 1 - 2 - 1 - 1 ∧ 3 ≤ rs - 2 - 400 - 6 - 8 - 3 - 264 - 12 - 15000 - 5 - 240 - 10 - 218 - 15 - 2701 - 3 - 312 - 2 - 24 - 8 - 4 ∧ ∀ b55 : Nat, b55 = gz τ54 → okO (nw τ54 (20, 3)) a0 11 ∧ ∀ τ57 : Sg, τ57 = sR (nw τ54 (20, 3)) a0 11 b55 → 1 ≤ rc - 1 - 1 - 1 - 1 - 1 - 2 - 1 - 6 - 1 - 2 - 1 - 19 - 1 - 70 - 1 - 26 - 1 - 2 - 1 - 1 - 1 ∧ 12 ≤ rs - 2 - 400 - 6 - 8 - 3 - 264 - 12 - 15000 - 5 - 240 - 10 - 218 - 15 - 2701 - 3 - 312 - 2 - 24 - 8 - 4 - 3 ∧ ∀ b58 : Nat, b58 = gz τ57 → 6 ≤ rc - 1 - 1 - 1 - 1 - 1 - 2 - 1 - 6 - 1 - 2 - 1 - 19 - 1 - 70 - 1 - 26 - 1 - 2 - 1 - 1 - 1 - 1 ∧ 1720 ≤ rs - 2 - 400 - 6 - 8 - 3 - 264 - 12 - 15000 - 5 - 240 - 10 - 218 - 15 - 2701 - 3 - 312 - 2 - 24 - 8 - 4 - 3 - 12 ∧ 16 ≤ b58 ∧ CC E mX1_init [vr b58] (nw τ57 (2, 12)) (KV (fun τ60 => okO τ60 a0 11 ∧ ∀ τ62 : Sg, τ62 = sR τ60 a0 12 b58 → 1 ≤ rc - 1 - 1 - 1 - 1 - 1 - 2 - 1 - 6 - 1 - 2 - 1 - 19 - 1 - 70 - 1 - 26 - 1 - 2 - 1 - 1 - 1 - 1 - 6 ∧ 12 ≤ rs - 2 - 400 - 6 - 8 - 3 - 264 - 12 - 15000 - 5 - 240 - 10 - 218 - 15 - 2701 - 3 - 312 - 2 - 24 - 8 - 4 - 3 - 12 - 1720 ∧ ∀ b63 : Nat, b63 = gz τ62 → 6 ≤ rc - 1 - 1 - 1 - 1 - 1 - 2 - 1 - 6 - 1 - 2 - 1 - 19 - 1 - 70 - 1 - 26 - 1 - 2 - 1 - 1 - 1 - 1 - 6 - 1 ∧ 1720 ≤ rs - 2 - 400 - 6 - 8 - 3 - 264 - 12 - 15000 - 5 - 240 - 10 - 218 - 15 - 2701 - 3 - 312 - 2 - 24 - 8 - 4 - 3 - 12 - 1720 - 12 ∧ 16 ≤ b63 ∧ CC E mX1_init [vr b63] (nw τ62 (2, 12)) (KV (fun τ65 => okO τ65 a0 11 ∧ ∀ τ67 : Sg, τ67 = sR τ65 a0 13 b63 → okO τ67 a0 11 ∧ ∀ τ69 : Sg, τ69 = sI τ67 a0 16 (-1) → okO τ69 a0 11 ∧ okO τ69 (gR τ69 a0 12) 1 ∧ CC E mX1_begin [vr (gR τ69 a0 12), vi 2] τ69 (KV (fun τ72 => okO τ72 a0 11 ∧ okO τ72 (gR τ72 a0 12) 1 ∧ CC E mX1_close [vr (gR τ72 a0 12)] τ72 (KI (fun r74 τ75 => inR r74 → okO τ75 a0 11 ∧ okO τ75 (gR τ75 a0 3) 4 ∧ CC E mX4_build [vr (gR τ75 a0 3), vr (gR τ75 a0 12)] τ75 (KV (fun τ78 => Q (.inl none) τ78) (fun _ _ => False))) (fun _ _ => False))) (fun _ _ => False))) (fun _ _ => False))) (fun _ _ => False))) (fun _ _ => False))) (fun _ _ => False))) (fun _ _ => False))) (fun _ _ => False))) (fun _ _ => False))) (fun _ _ => False))) (fun _ _ => False))) (fun _ _ => False))) (fun _ _ => False))) : GG E mX11_init 0 [some (vr a0)] [] σ rc rs Q := by
  refine r_aload_n (pc := 0) dX11_init_0 rfl rfl ?_
  refine r_objInit (pc := 1) dX11_init_1 w_128 w_129 w_130 (by decide) (Nat.le_of_ble_eq_true rfl) h.1 ?_
  replace h := h.2
  refine r_aload_n (pc := 4) dX11_init_4 rfl rfl ?_
  refine r_new (pc := 5) dX11_init_5 CL_10 (by decide) w_131 h.1 h.2.1 ?_
  replace h := h.2.2
  refine nmR (fun b1 e9 => ?_)
  replace h := h b1 e9
  refine r_dup (pc := 8) dX11_init_8 (fun _ h9 => nomatch h9) ?_
  refine c_INVAN (M := mX11_init) (pc := 9) (As := []) dX11_init_9 K_X10_init wt_133 ⟨by decide, by decide⟩ (Nat.le_of_ble_eq_true rfl) h.1 h.2.1 h.2.2.1 h.2.2.2 (fun τ3 h8 => ?_) rfl
  replace h := h8
  obtain ⟨o4, h⟩ := h
  refine r_putRF (pc := 12) dX11_init_12 (k9 := 0) CL_11 (by decide) (by decide) w_588 rfl rfl rfl rfl o4 ?_
  refine nmS (fun τ5 e5 => ?_)
  replace h := h τ5 e5
  refine r_aload_n (pc := 15) dX11_init_15 rfl rfl ?_
  refine r_new (pc := 16) dX11_init_16 CL_7 (by decide) w_148 h.1 h.2.1 ?_
  replace h := h.2.2
  refine nmR (fun b6 e9 => ?_)
  replace h := h b6 e9
  refine r_dup (pc := 19) dX11_init_19 (fun _ h9 => nomatch h9) ?_
  refine r_aload_n (pc := 20) dX11_init_20 rfl rfl ?_
  obtain ⟨o7, h⟩ := h
  refine r_getR (pc := 21) dX11_init_21 (k9 := 0) CL_11 (by decide) (by decide) w_588 rfl o7 ?_
  refine c_IVAN (M := mX11_init) (pc := 24) (As := [vr (gR (nw τ5 (8, 6)) a0 0)]) dX11_init_24 K_X7_init w_150 ⟨by decide, by decide⟩ (Nat.le_of_ble_eq_true rfl) h.1 h.2.1 h.2.2.1 h.2.2.2 (fun τ9 h8 => ?_) rfl
  replace h := h8
  obtain ⟨o10, h⟩ := h
  refine r_putRF (pc := 27) dX11_init_27 (k9 := 1) CL_11 (by decide) (by decide) w_589 rfl rfl rfl rfl o10 ?_
  refine nmS (fun τ11 e11 => ?_)
  replace h := h τ11 e11
  refine r_aload_n (pc := 30) dX11_init_30 rfl rfl ?_
  refine r_new (pc := 31) dX11_init_31 CL_5 (by decide) w_176 h.1 h.2.1 ?_
  replace h := h.2.2
  refine nmR (fun b12 e9 => ?_)
  replace h := h b12 e9
  refine r_dup (pc := 34) dX11_init_34 (fun _ h9 => nomatch h9) ?_
  refine c_INVAN (M := mX11_init) (pc := 35) (As := []) dX11_init_35 K_X5_init wt_178 ⟨by decide, by decide⟩ (Nat.le_of_ble_eq_true rfl) h.1 h.2.1 h.2.2.1 h.2.2.2 (fun τ14 h8 => ?_) rfl
  replace h := h8
  obtain ⟨o15, h⟩ := h
  refine r_putRF (pc := 38) dX11_init_38 (k9 := 2) CL_11 (by decide) (by decide) w_590 rfl rfl rfl rfl o15 ?_
  refine nmS (fun τ16 e16 => ?_)
  replace h := h τ16 e16
  refine r_aload_n (pc := 41) dX11_init_41 rfl rfl ?_
  refine r_new (pc := 42) dX11_init_42 CL_4 (by decide) w_193 h.1 h.2.1 ?_
  replace h := h.2.2
  refine nmR (fun b17 e9 => ?_)
  replace h := h b17 e9
  refine r_dup (pc := 45) dX11_init_45 (fun _ h9 => nomatch h9) ?_
  refine c_INVAN (M := mX11_init) (pc := 46) (As := []) dX11_init_46 K_X4_init wt_195 ⟨by decide, by decide⟩ (Nat.le_of_ble_eq_true rfl) h.1 h.2.1 h.2.2.1 h.2.2.2 (fun τ19 h8 => ?_) rfl
  replace h := h8
  obtain ⟨o20, h⟩ := h
  refine r_putRF (pc := 49) dX11_init_49 (k9 := 3) CL_11 (by decide) (by decide) w_591 rfl rfl rfl rfl o20 ?_
  refine nmS (fun τ21 e21 => ?_)
  replace h := h τ21 e21
  refine r_aload_n (pc := 52) dX11_init_52 rfl rfl ?_
  refine r_new (pc := 53) dX11_init_53 CL_9 (by decide) w_261 h.1 h.2.1 ?_
  replace h := h.2.2
  refine nmR (fun b22 e9 => ?_)
  replace h := h b22 e9
  refine r_dup (pc := 56) dX11_init_56 (fun _ h9 => nomatch h9) ?_
  refine c_INVAN (M := mX11_init) (pc := 57) (As := []) dX11_init_57 K_X9_init wt_263 ⟨by decide, by decide⟩ (Nat.le_of_ble_eq_true rfl) h.1 h.2.1 h.2.2.1 h.2.2.2 (fun τ24 h8 => ?_) rfl
  replace h := h8
  obtain ⟨o25, h⟩ := h
  refine r_putRF (pc := 60) dX11_init_60 (k9 := 4) CL_11 (by decide) (by decide) w_592 rfl rfl rfl rfl o25 ?_
  refine nmS (fun τ26 e26 => ?_)
  replace h := h τ26 e26
  refine r_aload_n (pc := 63) dX11_init_63 rfl rfl ?_
  refine r_new (pc := 64) dX11_init_64 CL_0 (by decide) w_286 h.1 h.2.1 ?_
  replace h := h.2.2
  refine nmR (fun b27 e9 => ?_)
  replace h := h b27 e9
  refine r_dup (pc := 67) dX11_init_67 (fun _ h9 => nomatch h9) ?_
  refine c_INVAN (M := mX11_init) (pc := 68) (As := []) dX11_init_68 K_X0_init wt_288 ⟨by decide, by decide⟩ (Nat.le_of_ble_eq_true rfl) h.1 h.2.1 h.2.2.1 h.2.2.2 (fun τ29 h8 => ?_) rfl
  replace h := h8
  obtain ⟨o30, h⟩ := h
  refine r_putRF (pc := 71) dX11_init_71 (k9 := 5) CL_11 (by decide) (by decide) w_593 rfl rfl rfl rfl o30 ?_
  refine nmS (fun τ31 e31 => ?_)
  replace h := h τ31 e31
  refine r_aload_n (pc := 74) dX11_init_74 rfl rfl ?_
  refine r_new (pc := 75) dX11_init_75 CL_8 (by decide) w_353 h.1 h.2.1 ?_
  replace h := h.2.2
  refine nmR (fun b32 e9 => ?_)
  replace h := h b32 e9
  refine r_dup (pc := 78) dX11_init_78 (fun _ h9 => nomatch h9) ?_
  refine r_aload_n (pc := 79) dX11_init_79 rfl rfl ?_
  obtain ⟨o33, h⟩ := h
  refine r_getR (pc := 80) dX11_init_80 (k9 := 5) CL_11 (by decide) (by decide) w_593 rfl o33 ?_
  obtain ⟨o34, h⟩ := h
  refine r_getR (pc := 83) dX11_init_83 (k9 := 0) CL_0 (by decide) (by decide) w_312 rfl o34 ?_
  refine c_IVAN (M := mX11_init) (pc := 86) (As := [vr (gR (nw τ31 (9, 15)) (gR (nw τ31 (9, 15)) a0 5) 0)]) dX11_init_86 K_X8_init w_355 ⟨by decide, by decide⟩ (Nat.le_of_ble_eq_true rfl) h.1 h.2.1 h.2.2.1 h.2.2.2 (fun τ36 h8 => ?_) rfl
  replace h := h8
  obtain ⟨o37, h⟩ := h
  refine r_putRF (pc := 89) dX11_init_89 (k9 := 6) CL_11 (by decide) (by decide) w_594 rfl rfl rfl rfl o37 ?_
  refine nmS (fun τ38 e38 => ?_)
  replace h := h τ38 e38
  refine r_aload_n (pc := 92) dX11_init_92 rfl rfl ?_
  refine r_new (pc := 93) dX11_init_93 CL_3 (by decide) w_408 h.1 h.2.1 ?_
  replace h := h.2.2
  refine nmR (fun b39 e9 => ?_)
  replace h := h b39 e9
  refine r_dup (pc := 96) dX11_init_96 (fun _ h9 => nomatch h9) ?_
  refine c_INVAN (M := mX11_init) (pc := 97) (As := []) dX11_init_97 K_X3_init wt_410 ⟨by decide, by decide⟩ (Nat.le_of_ble_eq_true rfl) h.1 h.2.1 h.2.2.1 h.2.2.2 (fun τ41 h8 => ?_) rfl
  replace h := h8
  obtain ⟨o42, h⟩ := h
  refine r_putRF (pc := 100) dX11_init_100 (k9 := 7) CL_11 (by decide) (by decide) w_595 rfl rfl rfl rfl o42 ?_
  refine nmS (fun τ43 e43 => ?_)
  replace h := h τ43 e43
  refine r_aload_n (pc := 103) dX11_init_103 rfl rfl ?_
  refine r_new (pc := 104) dX11_init_104 CL_6 (by decide) w_428 h.1 h.2.1 ?_
  replace h := h.2.2
  refine nmR (fun b44 e9 => ?_)
  replace h := h b44 e9
  refine r_dup (pc := 107) dX11_init_107 (fun _ h9 => nomatch h9) ?_
  refine c_INVAN (M := mX11_init) (pc := 108) (As := []) dX11_init_108 K_X6_init wt_430 ⟨by decide, by decide⟩ (Nat.le_of_ble_eq_true rfl) h.1 h.2.1 h.2.2.1 h.2.2.2 (fun τ46 h8 => ?_) rfl
  replace h := h8
  obtain ⟨o47, h⟩ := h
  refine r_putRF (pc := 111) dX11_init_111 (k9 := 8) CL_11 (by decide) (by decide) w_596 rfl rfl rfl rfl o47 ?_
  refine nmS (fun τ48 e48 => ?_)
  replace h := h τ48 e48
  refine r_aload_n (pc := 114) dX11_init_114 rfl rfl ?_
  refine r_bipush (pc := 115) dX11_init_115 (by decide) ?_
  refine r_newarray (pc := 117) dX11_init_117 (cc := 20) rfl (by decide) (by decide) w_175 (by decide) (by decide) h.1 h.2.1 ?_
  replace h := h.2.2
  change GG _ _ _ _ (vr _ :: _) (nw _ (20, 8)) (_ - 1) (_ - 8) _
  refine nmR (fun b49 e9 => ?_)
  replace h := h b49 e9
  obtain ⟨o50, h⟩ := h
  refine r_putRF (pc := 119) dX11_init_119 (k9 := 9) CL_11 (by decide) (by decide) w_597 rfl rfl rfl rfl o50 ?_
  refine nmS (fun τ51 e51 => ?_)
  replace h := h τ51 e51
  refine r_aload_n (pc := 122) dX11_init_122 rfl rfl ?_
  refine r_iconst (pc := 123) dX11_init_123 (inRk rfl) ?_
  refine r_newarray (pc := 124) dX11_init_124 (cc := 20) rfl (by decide) (by decide) w_175 (by decide) (by decide) h.1 h.2.1 ?_
  replace h := h.2.2
  change GG _ _ _ _ (vr _ :: _) (nw _ (20, 4)) (_ - 1) (_ - 4) _
  refine nmR (fun b52 e9 => ?_)
  replace h := h b52 e9
  obtain ⟨o53, h⟩ := h
  refine r_putRF (pc := 126) dX11_init_126 (k9 := 10) CL_11 (by decide) (by decide) w_598 rfl rfl rfl rfl o53 ?_
  refine nmS (fun τ54 e54 => ?_)
  replace h := h τ54 e54
  refine r_aload_n (pc := 129) dX11_init_129 rfl rfl ?_
  refine r_iconst (pc := 130) dX11_init_130 (inRk rfl) ?_
  refine r_newarray (pc := 131) dX11_init_131 (cc := 20) rfl (by decide) (by decide) w_175 (by decide) (by decide) h.1 h.2.1 ?_
  replace h := h.2.2
  change GG _ _ _ _ (vr _ :: _) (nw _ (20, 3)) (_ - 1) (_ - 3) _
  refine nmR (fun b55 e9 => ?_)
  replace h := h b55 e9
  obtain ⟨o56, h⟩ := h
  refine r_putRF (pc := 133) dX11_init_133 (k9 := 11) CL_11 (by decide) (by decide) w_599 rfl rfl rfl rfl o56 ?_
  refine nmS (fun τ57 e57 => ?_)
  replace h := h τ57 e57
  refine r_aload_n (pc := 136) dX11_init_136 rfl rfl ?_
  refine r_new (pc := 137) dX11_init_137 CL_1 (by decide) w_441 h.1 h.2.1 ?_
  replace h := h.2.2
  refine nmR (fun b58 e9 => ?_)
  replace h := h b58 e9
  refine r_dup (pc := 140) dX11_init_140 (fun _ h9 => nomatch h9) ?_
  refine c_INVAN (M := mX11_init) (pc := 141) (As := []) dX11_init_141 K_X1_init wt_443 ⟨by decide, by decide⟩ (Nat.le_of_ble_eq_true rfl) h.1 h.2.1 h.2.2.1 h.2.2.2 (fun τ60 h8 => ?_) rfl
  replace h := h8
  obtain ⟨o61, h⟩ := h
  refine r_putR (pc := 144) dX11_init_144 (k9 := 12) CL_11 (by decide) (by decide) w_600 rfl rfl o61 ?_
  refine nmS (fun τ62 e62 => ?_)
  replace h := h τ62 e62
  refine r_aload_n (pc := 147) dX11_init_147 rfl rfl ?_
  refine r_new (pc := 148) dX11_init_148 CL_1 (by decide) w_441 h.1 h.2.1 ?_
  replace h := h.2.2
  refine nmR (fun b63 e9 => ?_)
  replace h := h b63 e9
  refine r_dup (pc := 151) dX11_init_151 (fun _ h9 => nomatch h9) ?_
  refine c_INVAN (M := mX11_init) (pc := 152) (As := []) dX11_init_152 K_X1_init wt_443 ⟨by decide, by decide⟩ (Nat.le_of_ble_eq_true rfl) h.1 h.2.1 h.2.2.1 h.2.2.2 (fun τ65 h8 => ?_) rfl
  replace h := h8
  obtain ⟨o66, h⟩ := h
  refine r_putR (pc := 155) dX11_init_155 (k9 := 13) CL_11 (by decide) (by decide) w_601 rfl rfl o66 ?_
  refine nmS (fun τ67 e67 => ?_)
  replace h := h τ67 e67
  refine r_aload_n (pc := 158) dX11_init_158 rfl rfl ?_
  refine r_iconst (pc := 159) dX11_init_159 (inRk rfl) ?_
  obtain ⟨o68, h⟩ := h
  refine r_putI (pc := 160) dX11_init_160 (k9 := 16) CL_11 (by decide) (by decide) w_604 rfl rfl (fun h9 => absurd h9 (by decide +kernel)) o68 ?_
  refine nmS (fun τ69 e69 => ?_)
  replace h := h τ69 e69
  refine r_aload_n (pc := 163) dX11_init_163 rfl rfl ?_
  obtain ⟨o70, h⟩ := h
  refine r_getR (pc := 164) dX11_init_164 (k9 := 12) CL_11 (by decide) (by decide) w_600 rfl o70 ?_
  refine r_iconst (pc := 167) dX11_init_167 (inRk rfl) ?_
  refine c_VV0N (M := mX11_init) (pc := 168) (As := [vi 2]) dX11_init_168 K_X1_begin w_504 ⟨by decide, by decide⟩ (Nat.le_of_ble_eq_true rfl) rfl rfl (ci := 1) rfl rfl (by decide) h.1 h.2 (fun τ72 h8 => ?_) rfl
  replace h := h8
  refine r_aload_n (pc := 171) dX11_init_171 rfl rfl ?_
  obtain ⟨o73, h⟩ := h
  refine r_getR (pc := 172) dX11_init_172 (k9 := 12) CL_11 (by decide) (by decide) w_600 rfl o73 ?_
  refine c_VI0N (M := mX11_init) (pc := 175) (As := []) dX11_init_175 K_X1_close w_508 ⟨by decide, by decide⟩ (Nat.le_of_ble_eq_true rfl) rfl rfl (ci := 1) rfl rfl (by decide) h.1 h.2 (fun r74 τ75 h8 hr9 => ?_) rfl
  replace h := h8 hr9
  refine r_pop (pc := 178) dX11_init_178 (fun _ h9 => nomatch h9) ?_
  refine r_aload_n (pc := 179) dX11_init_179 rfl rfl ?_
  obtain ⟨o76, h⟩ := h
  refine r_getR (pc := 180) dX11_init_180 (k9 := 3) CL_11 (by decide) (by decide) w_591 rfl o76 ?_
  refine r_aload_n (pc := 183) dX11_init_183 rfl rfl ?_
  refine r_getR (pc := 184) dX11_init_184 (k9 := 12) CL_11 (by decide) (by decide) w_600 rfl o76 ?_
  refine c_VV0N (M := mX11_init) (pc := 187) (As := [vr (gR τ75 a0 12)]) dX11_init_187 K_X4_build w_544 ⟨by decide, by decide⟩ (Nat.le_of_ble_eq_true rfl) rfl rfl (ci := 4) rfl rfl (by decide) h.1 h.2 (fun τ78 h8 => ?_) rfl
  replace h := h8
  exact r_return (pc := 190) dX11_init_190 (by decide +kernel) rfl h
theorem C_X11_init {a0 : Nat} (h : GG E mX11_init 0 [some (vr a0)] [] σ 155 22704 Q) : CC E mX11_init [vr a0] σ Q := CC.of (by decide +kernel) rfl (by decide +kernel) (fun h9 => rfl) (Nat.le_of_ble_eq_true rfl) h
theorem dX11_invariants_0 : decode cX11_invariants 0 = .ok (.aload_n 0, 1) := by decide +kernel
theorem dX11_invariants_1 : decode cX11_invariants 1 = .ok (.iload_n 1, 1) := by decide +kernel
theorem dX11_invariants_2 : decode cX11_invariants 2 = .ok (.iconst 0, 1) := by decide +kernel
theorem dX11_invariants_3 : decode cX11_invariants 3 = .ok (.sipush 200, 3) := by decide +kernel
theorem dX11_invariants_6 : decode cX11_invariants 6 = .ok (.invokevirtual 128, 3) := by decide +kernel
theorem dX11_invariants_9 : decode cX11_invariants 9 = .ok (.aload_n 0, 1) := by decide +kernel
theorem dX11_invariants_10 : decode cX11_invariants 10 = .ok (.getfield 76, 3) := by decide +kernel
theorem dX11_invariants_13 : decode cX11_invariants 13 = .ok (.aload_n 0, 1) := by decide +kernel
theorem dX11_invariants_14 : decode cX11_invariants 14 = .ok (.getfield 35, 3) := by decide +kernel
theorem dX11_invariants_17 : decode cX11_invariants 17 = .ok (.aload_n 0, 1) := by decide +kernel
theorem dX11_invariants_18 : decode cX11_invariants 18 = .ok (.getfield 93, 3) := by decide +kernel
theorem dX11_invariants_21 : decode cX11_invariants 21 = .ok (.iload_n 1, 1) := by decide +kernel
theorem dX11_invariants_22 : decode cX11_invariants 22 = .ok (.invokevirtual 313, 3) := by decide +kernel
theorem dX11_invariants_25 : decode cX11_invariants 25 = .ok (.ireturn, 1) := by decide +kernel
theorem B_X11_invariants_0 {g : Sg} {c t : Nat} (hL : Lay LC g c t σ) {x1 : Int} (h : 1 ≤ rc ∧ 6 ≤ rs ∧ (Lay LC g c t σ → CC E mX11_needBetween [vr 16, vi x1, vi 0, vi 200] σ (KV (fun τ4 => Lay LC g c t τ4 ∧ (Lay LC g c t τ4 → CC E mX6_countInvariants [vr 152, vr 24, vr c, vi x1] τ4 (KI (fun r5 τ6 => Lay LC g c t τ6 ∧ (inR r5 → (Lay LC g c t τ6 → Q (.inl (some (vi r5))) τ6))) (fun _ _ => False)))) (fun k9 τ9 => Q (.inr k9) τ9)))) : GG E mX11_invariants 0 [some (vr 16), some (vi x1)] [] σ rc rs Q := by
  refine r_aload_n (pc := 0) dX11_invariants_0 rfl rfl ?_
  refine r_iload_n (pc := 1) dX11_invariants_1 rfl rfl ?_
  refine r_iconst (pc := 2) dX11_invariants_2 (inRk rfl) ?_
  refine r_sipush (pc := 3) dX11_invariants_3 (by decide) ?_
  obtain ⟨o1, h⟩ := h
  obtain ⟨o2, h⟩ := h
  refine c_VVAX (M := mX11_invariants) (pc := 6) (As := [vi x1, vi 0, vi 200]) dX11_invariants_6 K_X11_needBetween w_707 ⟨by decide, by decide⟩ (Nat.le_of_ble_eq_true rfl) o1 o2 (ci := 11) rfl rfl (by decide) (okO_of (N := 17) (hL.sh (i := 0) rfl (by decide) (by decide)) (by decide)) (h hL) (fun τ4 h8 => ?_) (fun k9 τ9 hk9 h8 => ?_) rfl
  · replace hL := h8.1
    replace h := h8.2
    refine r_aload_n (pc := 9) dX11_invariants_9 rfl rfl ?_
    refine r_getR (pc := 10) dX11_invariants_10 (k9 := 8) CL_11 (by decide) (by decide) w_596 rfl (okO_of (N := 17) (hL.sh (i := 0) rfl (by decide) (by decide)) (by decide)) ?_
    refine eqR (y := 152) (hL.rf (i := 43) rfl) ?_
    refine r_aload_n (pc := 13) dX11_invariants_13 rfl rfl ?_
    refine r_getR (pc := 14) dX11_invariants_14 (k9 := 3) CL_11 (by decide) (by decide) w_591 rfl (okO_of (N := 17) (hL.sh (i := 0) rfl (by decide) (by decide)) (by decide)) ?_
    refine eqR (y := 24) (hL.rf (i := 14) rfl) ?_
    refine r_aload_n (pc := 17) dX11_invariants_17 rfl rfl ?_
    refine r_getR (pc := 18) dX11_invariants_18 (k9 := 12) CL_11 (by decide) (by decide) w_600 rfl (okO_of (N := 17) (hL.sh (i := 0) rfl (by decide) (by decide)) (by decide)) ?_
    refine eqR (y := c) hL.cl.1 ?_
    refine r_iload_n (pc := 21) dX11_invariants_21 rfl rfl ?_
    refine c_VI0N (M := mX11_invariants) (pc := 22) (As := [vr 24, vr c, vi x1]) dX11_invariants_22 K_X6_countInvariants w_1251 ⟨by decide, by decide⟩ (Nat.le_of_ble_eq_true rfl) rfl rfl (ci := 6) rfl rfl (by decide) (okO_of (N := 2) (hL.sh (i := 48) rfl (by decide) (by decide)) (by decide)) (h hL) (fun r5 τ6 h8 hr9 => ?_) rfl
    replace hL := h8.1
    replace h := h8.2 hr9
    exact r_ireturn (pc := 25) (ty := .int) dX11_invariants_25 (by decide +kernel) rfl (nar_i _) (h hL)
  · exact TT.out (by decide +kernel) rfl h8
theorem C_X11_invariants {a0 : Nat} {x1 : Int} (h : GG E mX11_invariants 0 [some (vr a0), some (vi x1)] [] σ 1 6 Q) : CC E mX11_invariants [vr a0, vi x1] σ Q := CC.of (by decide +kernel) rfl (by decide +kernel) (fun h9 => nomatch h9) (Nat.le_of_ble_eq_true rfl) h
theorem dX11_isKept_0 : decode cX11_isKept 0 = .ok (.aload_n 0, 1) := by decide +kernel
theorem dX11_isKept_1 : decode cX11_isKept 1 = .ok (.iload_n 1, 1) := by decide +kernel
theorem dX11_isKept_2 : decode cX11_isKept 2 = .ok (.aload_n 0, 1) := by decide +kernel
theorem dX11_isKept_3 : decode cX11_isKept 3 = .ok (.getfield 35, 3) := by decide +kernel
theorem dX11_isKept_6 : decode cX11_isKept 6 = .ok (.getfield 207, 3) := by decide +kernel
theorem dX11_isKept_9 : decode cX11_isKept 9 = .ok (.invokevirtual 193, 3) := by decide +kernel
theorem dX11_isKept_12 : decode cX11_isKept 12 = .ok (.aload_n 0, 1) := by decide +kernel
theorem dX11_isKept_13 : decode cX11_isKept 13 = .ok (.iload_n 2, 1) := by decide +kernel
theorem dX11_isKept_14 : decode cX11_isKept 14 = .ok (.aload_n 0, 1) := by decide +kernel
theorem dX11_isKept_15 : decode cX11_isKept 15 = .ok (.getfield 35, 3) := by decide +kernel
theorem dX11_isKept_18 : decode cX11_isKept 18 = .ok (.getfield 207, 3) := by decide +kernel
theorem dX11_isKept_21 : decode cX11_isKept 21 = .ok (.invokevirtual 193, 3) := by decide +kernel
theorem dX11_isKept_24 : decode cX11_isKept 24 = .ok (.aload_n 0, 1) := by decide +kernel
theorem dX11_isKept_25 : decode cX11_isKept 25 = .ok (.getfield 42, 3) := by decide +kernel
theorem dX11_isKept_28 : decode cX11_isKept 28 = .ok (.aload_n 0, 1) := by decide +kernel
theorem dX11_isKept_29 : decode cX11_isKept 29 = .ok (.getfield 35, 3) := by decide +kernel
theorem dX11_isKept_32 : decode cX11_isKept 32 = .ok (.iload_n 1, 1) := by decide +kernel
theorem dX11_isKept_33 : decode cX11_isKept 33 = .ok (.iload_n 2, 1) := by decide +kernel
theorem dX11_isKept_34 : decode cX11_isKept 34 = .ok (.invokevirtual 324, 3) := by decide +kernel
theorem dX11_isKept_37 : decode cX11_isKept 37 = .ok (.aload_n 0, 1) := by decide +kernel
theorem dX11_isKept_38 : decode cX11_isKept 38 = .ok (.getfield 42, 3) := by decide +kernel
theorem dX11_isKept_41 : decode cX11_isKept 41 = .ok (.aload_n 0, 1) := by decide +kernel
theorem dX11_isKept_42 : decode cX11_isKept 42 = .ok (.getfield 35, 3) := by decide +kernel
theorem dX11_isKept_45 : decode cX11_isKept 45 = .ok (.iload_n 1, 1) := by decide +kernel
theorem dX11_isKept_46 : decode cX11_isKept 46 = .ok (.invokevirtual 336, 3) := by decide +kernel
theorem dX11_isKept_49 : decode cX11_isKept 49 = .ok (.ifCond .eq 22, 3) := by decide +kernel
theorem dX11_isKept_52 : decode cX11_isKept 52 = .ok (.aload_n 0, 1) := by decide +kernel
theorem dX11_isKept_53 : decode cX11_isKept 53 = .ok (.getfield 42, 3) := by decide +kernel
theorem dX11_isKept_56 : decode cX11_isKept 56 = .ok (.aload_n 0, 1) := by decide +kernel
theorem dX11_isKept_57 : decode cX11_isKept 57 = .ok (.getfield 35, 3) := by decide +kernel
theorem dX11_isKept_60 : decode cX11_isKept 60 = .ok (.iload_n 2, 1) := by decide +kernel
theorem dX11_isKept_61 : decode cX11_isKept 61 = .ok (.invokevirtual 336, 3) := by decide +kernel
theorem dX11_isKept_64 : decode cX11_isKept 64 = .ok (.ifCond .eq 7, 3) := by decide +kernel
theorem dX11_isKept_67 : decode cX11_isKept 67 = .ok (.iconst 1, 1) := by decide +kernel
theorem dX11_isKept_68 : decode cX11_isKept 68 = .ok (.goto 4, 3) := by decide +kernel
theorem dX11_isKept_71 : decode cX11_isKept 71 = .ok (.iconst 0, 1) := by decide +kernel
theorem dX11_isKept_72 : decode cX11_isKept 72 = .ok (.ireturn, 1) := by decide +kernel
theorem B_X11_isKept_0 {g : Sg} {c t : Nat} (hL : Lay LC g c t σ) {x1 : Int} {x2 : Int} (h : 1 ≤ rc ∧ 6 ≤ rs ∧ (Lay LC g c t σ → CC E mX11_needIndex [vr 16, vi x1, vi (gI σ 24 6)] σ (KV (fun τ4 => Lay LC g c t τ4 ∧ 1 ≤ rc - 1 ∧ 6 ≤ rs - 6 ∧ (Lay LC g c t τ4 → CC E mX11_needIndex [vr 16, vi x2, vi (gI τ4 24 6)] τ4 (KV (fun τ8 => Lay LC g c t τ8 ∧ (Lay LC g c t τ8 → CC E mX9_make [vr 31, vr 24, vi x1, vi x2] τ8 (KV (fun τ10 => Lay LC g c t τ10 ∧ (Lay LC g c t τ10 → CC E mX9_holdsTurned [vr 31, vr 24, vi x1] τ10 (KI (fun r11 τ12 => Lay LC g c t τ12 ∧ (inR r11 → ((r11 = 0 → (Lay LC g c t τ12 → Q (.inl (some (vi 0))) τ12)) ∧ (¬ (r11 = 0) → (Lay LC g c t τ12 → CC E mX9_holdsTurned [vr 31, vr 24, vi x2] τ12 (KI (fun r13 τ14 => Lay LC g c t τ14 ∧ (inR r13 → ((r13 = 0 → (Lay LC g c t τ14 → Q (.inl (some (vi 0))) τ14)) ∧ (¬ (r13 = 0) → (Lay LC g c t τ14 → Q (.inl (some (vi 1))) τ14))))) (fun _ _ => False))))))) (fun _ _ => False)))) (fun _ _ => False)))) (fun k9 τ9 => Q (.inr k9) τ9)))) (fun k9 τ9 => Q (.inr k9) τ9)))) : GG E mX11_isKept 0 [some (vr 16), some (vi x1), some (vi x2)] [] σ rc rs Q := by
  refine r_aload_n (pc := 0) dX11_isKept_0 rfl rfl ?_
  refine r_iload_n (pc := 1) dX11_isKept_1 rfl rfl ?_
  refine r_aload_n (pc := 2) dX11_isKept_2 rfl rfl ?_
  refine r_getR (pc := 3) dX11_isKept_3 (k9 := 3) CL_11 (by decide) (by decide) w_591 rfl (okO_of (N := 17) (hL.sh (i := 0) rfl (by decide) (by decide)) (by decide)) ?_
  refine eqR (y := 24) (hL.rf (i := 14) rfl) ?_
  refine r_getI (pc := 6) dX11_isKept_6 (k9 := 6) CL_4 (by decide) (by decide) w_222 rfl (okO_of (N := 12) (hL.sh (i := 8) rfl (by decide) (by decide)) (by decide)) (fun _ => ?_)
  obtain ⟨o1, h⟩ := h
  obtain ⟨o2, h⟩ := h
  refine c_VVAX (M := mX11_isKept) (pc := 9) (As := [vi x1, vi (gI σ 24 6)]) dX11_isKept_9 K_X11_needIndex w_946 ⟨by decide, by decide⟩ (Nat.le_of_ble_eq_true rfl) o1 o2 (ci := 11) rfl rfl (by decide) (okO_of (N := 17) (hL.sh (i := 0) rfl (by decide) (by decide)) (by decide)) (h hL) (fun τ4 h8 => ?_) (fun k9 τ9 hk9 h8 => ?_) rfl
  · replace hL := h8.1
    replace h := h8.2
    refine r_aload_n (pc := 12) dX11_isKept_12 rfl rfl ?_
    refine r_iload_n (pc := 13) dX11_isKept_13 rfl rfl ?_
    refine r_aload_n (pc := 14) dX11_isKept_14 rfl rfl ?_
    refine r_getR (pc := 15) dX11_isKept_15 (k9 := 3) CL_11 (by decide) (by decide) w_591 rfl (okO_of (N := 17) (hL.sh (i := 0) rfl (by decide) (by decide)) (by decide)) ?_
    refine eqR (y := 24) (hL.rf (i := 14) rfl) ?_
    refine r_getI (pc := 18) dX11_isKept_18 (k9 := 6) CL_4 (by decide) (by decide) w_222 rfl (okO_of (N := 12) (hL.sh (i := 8) rfl (by decide) (by decide)) (by decide)) (fun _ => ?_)
    obtain ⟨o5, h⟩ := h
    obtain ⟨o6, h⟩ := h
    refine c_VVAX (M := mX11_isKept) (pc := 21) (As := [vi x2, vi (gI τ4 24 6)]) dX11_isKept_21 K_X11_needIndex w_946 ⟨by decide, by decide⟩ (Nat.le_of_ble_eq_true rfl) o5 o6 (ci := 11) rfl rfl (by decide) (okO_of (N := 17) (hL.sh (i := 0) rfl (by decide) (by decide)) (by decide)) (h hL) (fun τ8 h8 => ?_) (fun k9 τ9 hk9 h8 => ?_) rfl
    · replace hL := h8.1
      replace h := h8.2
      refine r_aload_n (pc := 24) dX11_isKept_24 rfl rfl ?_
      refine r_getR (pc := 25) dX11_isKept_25 (k9 := 4) CL_11 (by decide) (by decide) w_592 rfl (okO_of (N := 17) (hL.sh (i := 0) rfl (by decide) (by decide)) (by decide)) ?_
      refine eqR (y := 31) (hL.rf (i := 17) rfl) ?_
      refine r_aload_n (pc := 28) dX11_isKept_28 rfl rfl ?_
      refine r_getR (pc := 29) dX11_isKept_29 (k9 := 3) CL_11 (by decide) (by decide) w_591 rfl (okO_of (N := 17) (hL.sh (i := 0) rfl (by decide) (by decide)) (by decide)) ?_
      refine eqR (y := 24) (hL.rf (i := 14) rfl) ?_
      refine r_iload_n (pc := 32) dX11_isKept_32 rfl rfl ?_
      refine r_iload_n (pc := 33) dX11_isKept_33 rfl rfl ?_
      refine c_VV0N (M := mX11_isKept) (pc := 34) (As := [vr 24, vi x1, vi x2]) dX11_isKept_34 K_X9_make w_1298 ⟨by decide, by decide⟩ (Nat.le_of_ble_eq_true rfl) rfl rfl (ci := 9) rfl rfl (by decide) (okO_of (N := 5) (hL.sh (i := 15) rfl (by decide) (by decide)) (by decide)) (h hL) (fun τ10 h8 => ?_) rfl
      replace hL := h8.1
      replace h := h8.2
      refine r_aload_n (pc := 37) dX11_isKept_37 rfl rfl ?_
      refine r_getR (pc := 38) dX11_isKept_38 (k9 := 4) CL_11 (by decide) (by decide) w_592 rfl (okO_of (N := 17) (hL.sh (i := 0) rfl (by decide) (by decide)) (by decide)) ?_
      refine eqR (y := 31) (hL.rf (i := 17) rfl) ?_
      refine r_aload_n (pc := 41) dX11_isKept_41 rfl rfl ?_
      refine r_getR (pc := 42) dX11_isKept_42 (k9 := 3) CL_11 (by decide) (by decide) w_591 rfl (okO_of (N := 17) (hL.sh (i := 0) rfl (by decide) (by decide)) (by decide)) ?_
      refine eqR (y := 24) (hL.rf (i := 14) rfl) ?_
      refine r_iload_n (pc := 45) dX11_isKept_45 rfl rfl ?_
      refine c_VI0N (M := mX11_isKept) (pc := 46) (As := [vr 24, vi x1]) dX11_isKept_46 K_X9_holdsTurned w_1330 ⟨by decide, by decide⟩ (Nat.le_of_ble_eq_true rfl) rfl rfl (ci := 9) rfl rfl (by decide) (okO_of (N := 5) (hL.sh (i := 15) rfl (by decide) (by decide)) (by decide)) (h hL) (fun r11 τ12 h8 hr9 => ?_) rfl
      replace hL := h8.1
      replace h := h8.2 hr9
      refine r_if_eq (pc := 49) (tgt := 71) dX11_isKept_49 (by decide) (fun c9 => ?_) (fun c9 => ?_)
      · replace h := h.1 c9
        refine r_iconst (pc := 71) dX11_isKept_71 (inRk rfl) ?_
        exact r_ireturn (pc := 72) (ty := .boolean) dX11_isKept_72 (by decide +kernel) rfl (nar_bool (by decide)) (h hL)
      · replace h := h.2 c9
        refine r_aload_n (pc := 52) dX11_isKept_52 rfl rfl ?_
        refine r_getR (pc := 53) dX11_isKept_53 (k9 := 4) CL_11 (by decide) (by decide) w_592 rfl (okO_of (N := 17) (hL.sh (i := 0) rfl (by decide) (by decide)) (by decide)) ?_
        refine eqR (y := 31) (hL.rf (i := 17) rfl) ?_
        refine r_aload_n (pc := 56) dX11_isKept_56 rfl rfl ?_
        refine r_getR (pc := 57) dX11_isKept_57 (k9 := 3) CL_11 (by decide) (by decide) w_591 rfl (okO_of (N := 17) (hL.sh (i := 0) rfl (by decide) (by decide)) (by decide)) ?_
        refine eqR (y := 24) (hL.rf (i := 14) rfl) ?_
        refine r_iload_n (pc := 60) dX11_isKept_60 rfl rfl ?_
        refine c_VI0N (M := mX11_isKept) (pc := 61) (As := [vr 24, vi x2]) dX11_isKept_61 K_X9_holdsTurned w_1330 ⟨by decide, by decide⟩ (Nat.le_of_ble_eq_true rfl) rfl rfl (ci := 9) rfl rfl (by decide) (okO_of (N := 5) (hL.sh (i := 15) rfl (by decide) (by decide)) (by decide)) (h hL) (fun r13 τ14 h8 hr9 => ?_) rfl
        replace hL := h8.1
        replace h := h8.2 hr9
        refine r_if_eq (pc := 64) (tgt := 71) dX11_isKept_64 (by decide) (fun c9 => ?_) (fun c9 => ?_)
        · replace h := h.1 c9
          refine r_iconst (pc := 71) dX11_isKept_71 (inRk rfl) ?_
          exact r_ireturn (pc := 72) (ty := .boolean) dX11_isKept_72 (by decide +kernel) rfl (nar_bool (by decide)) (h hL)
        · replace h := h.2 c9
          refine r_iconst (pc := 67) dX11_isKept_67 (inRk rfl) ?_
          refine r_goto (pc := 68) (tgt := 72) dX11_isKept_68 (by decide) ?_
          exact r_ireturn (pc := 72) (ty := .boolean) dX11_isKept_72 (by decide +kernel) rfl (nar_bool (by decide)) (h hL)
    · exact TT.out (by decide +kernel) rfl h8
  · exact TT.out (by decide +kernel) rfl h8
theorem C_X11_isKept {a0 : Nat} {x1 : Int} {x2 : Int} (h : GG E mX11_isKept 0 [some (vr a0), some (vi x1), some (vi x2)] [] σ 2 12 Q) : CC E mX11_isKept [vr a0, vi x1, vi x2] σ Q := CC.of (by decide +kernel) rfl (by decide +kernel) (fun h9 => nomatch h9) (Nat.le_of_ble_eq_true rfl) h
theorem dX11_isMade_0 : decode cX11_isMade 0 = .ok (.aload_n 0, 1) := by decide +kernel
theorem dX11_isMade_1 : decode cX11_isMade 1 = .ok (.iload_n 1, 1) := by decide +kernel
theorem dX11_isMade_2 : decode cX11_isMade 2 = .ok (.aload_n 0, 1) := by decide +kernel
theorem dX11_isMade_3 : decode cX11_isMade 3 = .ok (.getfield 35, 3) := by decide +kernel
theorem dX11_isMade_6 : decode cX11_isMade 6 = .ok (.getfield 207, 3) := by decide +kernel
theorem dX11_isMade_9 : decode cX11_isMade 9 = .ok (.invokevirtual 193, 3) := by decide +kernel
theorem dX11_isMade_12 : decode cX11_isMade 12 = .ok (.aload_n 0, 1) := by decide +kernel
theorem dX11_isMade_13 : decode cX11_isMade 13 = .ok (.iload_n 2, 1) := by decide +kernel
theorem dX11_isMade_14 : decode cX11_isMade 14 = .ok (.aload_n 0, 1) := by decide +kernel
theorem dX11_isMade_15 : decode cX11_isMade 15 = .ok (.getfield 35, 3) := by decide +kernel
theorem dX11_isMade_18 : decode cX11_isMade 18 = .ok (.getfield 207, 3) := by decide +kernel
theorem dX11_isMade_21 : decode cX11_isMade 21 = .ok (.invokevirtual 193, 3) := by decide +kernel
theorem dX11_isMade_24 : decode cX11_isMade 24 = .ok (.aload_n 0, 1) := by decide +kernel
theorem dX11_isMade_25 : decode cX11_isMade 25 = .ok (.iload_n 3, 1) := by decide +kernel
theorem dX11_isMade_26 : decode cX11_isMade 26 = .ok (.aload_n 0, 1) := by decide +kernel
theorem dX11_isMade_27 : decode cX11_isMade 27 = .ok (.getfield 35, 3) := by decide +kernel
theorem dX11_isMade_30 : decode cX11_isMade 30 = .ok (.getfield 207, 3) := by decide +kernel
theorem dX11_isMade_33 : decode cX11_isMade 33 = .ok (.invokevirtual 193, 3) := by decide +kernel
theorem dX11_isMade_36 : decode cX11_isMade 36 = .ok (.aload_n 0, 1) := by decide +kernel
theorem dX11_isMade_37 : decode cX11_isMade 37 = .ok (.getfield 42, 3) := by decide +kernel
theorem dX11_isMade_40 : decode cX11_isMade 40 = .ok (.aload_n 0, 1) := by decide +kernel
theorem dX11_isMade_41 : decode cX11_isMade 41 = .ok (.getfield 35, 3) := by decide +kernel
theorem dX11_isMade_44 : decode cX11_isMade 44 = .ok (.iload_n 1, 1) := by decide +kernel
theorem dX11_isMade_45 : decode cX11_isMade 45 = .ok (.iload_n 2, 1) := by decide +kernel
theorem dX11_isMade_46 : decode cX11_isMade 46 = .ok (.invokevirtual 324, 3) := by decide +kernel
theorem dX11_isMade_49 : decode cX11_isMade 49 = .ok (.aload_n 0, 1) := by decide +kernel
theorem dX11_isMade_50 : decode cX11_isMade 50 = .ok (.getfield 42, 3) := by decide +kernel
theorem dX11_isMade_53 : decode cX11_isMade 53 = .ok (.iload_n 3, 1) := by decide +kernel
theorem dX11_isMade_54 : decode cX11_isMade 54 = .ok (.invokevirtual 332, 3) := by decide +kernel
theorem dX11_isMade_57 : decode cX11_isMade 57 = .ok (.ireturn, 1) := by decide +kernel
theorem B_X11_isMade_0 {g : Sg} {c t : Nat} (hL : Lay LC g c t σ) {x1 : Int} {x2 : Int} {x3 : Int} (h : 1 ≤ rc ∧ 6 ≤ rs ∧ (Lay LC g c t σ → CC E mX11_needIndex [vr 16, vi x1, vi (gI σ 24 6)] σ (KV (fun τ4 => Lay LC g c t τ4 ∧ 1 ≤ rc - 1 ∧ 6 ≤ rs - 6 ∧ (Lay LC g c t τ4 → CC E mX11_needIndex [vr 16, vi x2, vi (gI τ4 24 6)] τ4 (KV (fun τ8 => Lay LC g c t τ8 ∧ 1 ≤ rc - 1 - 1 ∧ 6 ≤ rs - 6 - 6 ∧ (Lay LC g c t τ8 → CC E mX11_needIndex [vr 16, vi x3, vi (gI τ8 24 6)] τ8 (KV (fun τ12 => Lay LC g c t τ12 ∧ (Lay LC g c t τ12 → CC E mX9_make [vr 31, vr 24, vi x1, vi x2] τ12 (KV (fun τ14 => Lay LC g c t τ14 ∧ (Lay LC g c t τ14 → CC E mX9_holds [vr 31, vi x3] τ14 (KI (fun r15 τ16 => Lay LC g c t τ16 ∧ (inR r15 → (r15 = 0 ∨ r15 = 1) ∧ (Lay LC g c t τ16 → Q (.inl (some (vi r15))) τ16))) (fun _ _ => False)))) (fun _ _ => False)))) (fun k9 τ9 => Q (.inr k9) τ9)))) (fun k9 τ9 => Q (.inr k9) τ9)))) (fun k9 τ9 => Q (.inr k9) τ9)))) : GG E mX11_isMade 0 [some (vr 16), some (vi x1), some (vi x2), some (vi x3)] [] σ rc rs Q := by
  refine r_aload_n (pc := 0) dX11_isMade_0 rfl rfl ?_
  refine r_iload_n (pc := 1) dX11_isMade_1 rfl rfl ?_
  refine r_aload_n (pc := 2) dX11_isMade_2 rfl rfl ?_
  refine r_getR (pc := 3) dX11_isMade_3 (k9 := 3) CL_11 (by decide) (by decide) w_591 rfl (okO_of (N := 17) (hL.sh (i := 0) rfl (by decide) (by decide)) (by decide)) ?_
  refine eqR (y := 24) (hL.rf (i := 14) rfl) ?_
  refine r_getI (pc := 6) dX11_isMade_6 (k9 := 6) CL_4 (by decide) (by decide) w_222 rfl (okO_of (N := 12) (hL.sh (i := 8) rfl (by decide) (by decide)) (by decide)) (fun _ => ?_)
  obtain ⟨o1, h⟩ := h
  obtain ⟨o2, h⟩ := h
  refine c_VVAX (M := mX11_isMade) (pc := 9) (As := [vi x1, vi (gI σ 24 6)]) dX11_isMade_9 K_X11_needIndex w_946 ⟨by decide, by decide⟩ (Nat.le_of_ble_eq_true rfl) o1 o2 (ci := 11) rfl rfl (by decide) (okO_of (N := 17) (hL.sh (i := 0) rfl (by decide) (by decide)) (by decide)) (h hL) (fun τ4 h8 => ?_) (fun k9 τ9 hk9 h8 => ?_) rfl
  · replace hL := h8.1
    replace h := h8.2
    refine r_aload_n (pc := 12) dX11_isMade_12 rfl rfl ?_
    refine r_iload_n (pc := 13) dX11_isMade_13 rfl rfl ?_
    refine r_aload_n (pc := 14) dX11_isMade_14 rfl rfl ?_
    refine r_getR (pc := 15) dX11_isMade_15 (k9 := 3) CL_11 (by decide) (by decide) w_591 rfl (okO_of (N := 17) (hL.sh (i := 0) rfl (by decide) (by decide)) (by decide)) ?_
    refine eqR (y := 24) (hL.rf (i := 14) rfl) ?_
    refine r_getI (pc := 18) dX11_isMade_18 (k9 := 6) CL_4 (by decide) (by decide) w_222 rfl (okO_of (N := 12) (hL.sh (i := 8) rfl (by decide) (by decide)) (by decide)) (fun _ => ?_)
    obtain ⟨o5, h⟩ := h
    obtain ⟨o6, h⟩ := h
    refine c_VVAX (M := mX11_isMade) (pc := 21) (As := [vi x2, vi (gI τ4 24 6)]) dX11_isMade_21 K_X11_needIndex w_946 ⟨by decide, by decide⟩ (Nat.le_of_ble_eq_true rfl) o5 o6 (ci := 11) rfl rfl (by decide) (okO_of (N := 17) (hL.sh (i := 0) rfl (by decide) (by decide)) (by decide)) (h hL) (fun τ8 h8 => ?_) (fun k9 τ9 hk9 h8 => ?_) rfl
    · replace hL := h8.1
      replace h := h8.2
      refine r_aload_n (pc := 24) dX11_isMade_24 rfl rfl ?_
      refine r_iload_n (pc := 25) dX11_isMade_25 rfl rfl ?_
      refine r_aload_n (pc := 26) dX11_isMade_26 rfl rfl ?_
      refine r_getR (pc := 27) dX11_isMade_27 (k9 := 3) CL_11 (by decide) (by decide) w_591 rfl (okO_of (N := 17) (hL.sh (i := 0) rfl (by decide) (by decide)) (by decide)) ?_
      refine eqR (y := 24) (hL.rf (i := 14) rfl) ?_
      refine r_getI (pc := 30) dX11_isMade_30 (k9 := 6) CL_4 (by decide) (by decide) w_222 rfl (okO_of (N := 12) (hL.sh (i := 8) rfl (by decide) (by decide)) (by decide)) (fun _ => ?_)
      obtain ⟨o9, h⟩ := h
      obtain ⟨o10, h⟩ := h
      refine c_VVAX (M := mX11_isMade) (pc := 33) (As := [vi x3, vi (gI τ8 24 6)]) dX11_isMade_33 K_X11_needIndex w_946 ⟨by decide, by decide⟩ (Nat.le_of_ble_eq_true rfl) o9 o10 (ci := 11) rfl rfl (by decide) (okO_of (N := 17) (hL.sh (i := 0) rfl (by decide) (by decide)) (by decide)) (h hL) (fun τ12 h8 => ?_) (fun k9 τ9 hk9 h8 => ?_) rfl
      · replace hL := h8.1
        replace h := h8.2
        refine r_aload_n (pc := 36) dX11_isMade_36 rfl rfl ?_
        refine r_getR (pc := 37) dX11_isMade_37 (k9 := 4) CL_11 (by decide) (by decide) w_592 rfl (okO_of (N := 17) (hL.sh (i := 0) rfl (by decide) (by decide)) (by decide)) ?_
        refine eqR (y := 31) (hL.rf (i := 17) rfl) ?_
        refine r_aload_n (pc := 40) dX11_isMade_40 rfl rfl ?_
        refine r_getR (pc := 41) dX11_isMade_41 (k9 := 3) CL_11 (by decide) (by decide) w_591 rfl (okO_of (N := 17) (hL.sh (i := 0) rfl (by decide) (by decide)) (by decide)) ?_
        refine eqR (y := 24) (hL.rf (i := 14) rfl) ?_
        refine r_iload_n (pc := 44) dX11_isMade_44 rfl rfl ?_
        refine r_iload_n (pc := 45) dX11_isMade_45 rfl rfl ?_
        refine c_VV0N (M := mX11_isMade) (pc := 46) (As := [vr 24, vi x1, vi x2]) dX11_isMade_46 K_X9_make w_1298 ⟨by decide, by decide⟩ (Nat.le_of_ble_eq_true rfl) rfl rfl (ci := 9) rfl rfl (by decide) (okO_of (N := 5) (hL.sh (i := 15) rfl (by decide) (by decide)) (by decide)) (h hL) (fun τ14 h8 => ?_) rfl
        replace hL := h8.1
        replace h := h8.2
        refine r_aload_n (pc := 49) dX11_isMade_49 rfl rfl ?_
        refine r_getR (pc := 50) dX11_isMade_50 (k9 := 4) CL_11 (by decide) (by decide) w_592 rfl (okO_of (N := 17) (hL.sh (i := 0) rfl (by decide) (by decide)) (by decide)) ?_
        refine eqR (y := 31) (hL.rf (i := 17) rfl) ?_
        refine r_iload_n (pc := 53) dX11_isMade_53 rfl rfl ?_
        refine c_VI0N (M := mX11_isMade) (pc := 54) (As := [vi x3]) dX11_isMade_54 K_X9_holds w_1322 ⟨by decide, by decide⟩ (Nat.le_of_ble_eq_true rfl) rfl rfl (ci := 9) rfl rfl (by decide) (okO_of (N := 5) (hL.sh (i := 15) rfl (by decide) (by decide)) (by decide)) (h hL) (fun r15 τ16 h8 hr9 => ?_) rfl
        replace hL := h8.1
        replace h := h8.2 hr9
        exact r_ireturn (pc := 57) (ty := .boolean) dX11_isMade_57 (by decide +kernel) rfl (nar_bool h.1) (h.2 hL)
      · exact TT.out (by decide +kernel) rfl h8
    · exact TT.out (by decide +kernel) rfl h8
  · exact TT.out (by decide +kernel) rfl h8
theorem C_X11_isMade {a0 : Nat} {x1 : Int} {x2 : Int} {x3 : Int} (h : GG E mX11_isMade 0 [some (vr a0), some (vi x1), some (vi x2), some (vi x3)] [] σ 3 18 Q) : CC E mX11_isMade [vr a0, vi x1, vi x2, vi x3] σ Q := CC.of (by decide +kernel) rfl (by decide +kernel) (fun h9 => nomatch h9) (Nat.le_of_ble_eq_true rfl) h
theorem dX11_isTurn_0 : decode cX11_isTurn 0 = .ok (.iconst 0, 1) := by decide +kernel
theorem dX11_isTurn_1 : decode cX11_isTurn 1 = .ok (.istore_n 2, 1) := by decide +kernel
theorem dX11_isTurn_2 : decode cX11_isTurn 2 = .ok (.iconst 0, 1) := by decide +kernel
theorem dX11_isTurn_3 : decode cX11_isTurn 3 = .ok (.istore_n 3, 1) := by decide +kernel
theorem dX11_isTurn_4 : decode cX11_isTurn 4 = .ok (.iconst 0, 1) := by decide +kernel
theorem dX11_isTurn_5 : decode cX11_isTurn 5 = .ok (.istore 4, 2) := by decide +kernel
theorem dX11_isTurn_7 : decode cX11_isTurn 7 = .ok (.iload 4, 2) := by decide +kernel
theorem dX11_isTurn_9 : decode cX11_isTurn 9 = .ok (.iconst 1, 1) := by decide +kernel
theorem dX11_isTurn_10 : decode cX11_isTurn 10 = .ok (.iadd, 1) := by decide +kernel
theorem dX11_isTurn_11 : decode cX11_isTurn 11 = .ok (.aload_n 0, 1) := by decide +kernel
theorem dX11_isTurn_12 : decode cX11_isTurn 12 = .ok (.arraylength, 1) := by decide +kernel
theorem dX11_isTurn_13 : decode cX11_isTurn 13 = .ok (.if_icmp .ge 51, 3) := by decide +kernel
theorem dX11_isTurn_16 : decode cX11_isTurn 16 = .ok (.iload_n 2, 1) := by decide +kernel
theorem dX11_isTurn_17 : decode cX11_isTurn 17 = .ok (.aload_n 0, 1) := by decide +kernel
theorem dX11_isTurn_18 : decode cX11_isTurn 18 = .ok (.iload 4, 2) := by decide +kernel
theorem dX11_isTurn_20 : decode cX11_isTurn 20 = .ok (.iaload, 1) := by decide +kernel
theorem dX11_isTurn_21 : decode cX11_isTurn 21 = .ok (.aload_n 0, 1) := by decide +kernel
theorem dX11_isTurn_22 : decode cX11_isTurn 22 = .ok (.iload 4, 2) := by decide +kernel
theorem dX11_isTurn_24 : decode cX11_isTurn 24 = .ok (.iaload, 1) := by decide +kernel
theorem dX11_isTurn_25 : decode cX11_isTurn 25 = .ok (.imul, 1) := by decide +kernel
theorem dX11_isTurn_26 : decode cX11_isTurn 26 = .ok (.iload_n 1, 1) := by decide +kernel
theorem dX11_isTurn_27 : decode cX11_isTurn 27 = .ok (.aload_n 0, 1) := by decide +kernel
theorem dX11_isTurn_28 : decode cX11_isTurn 28 = .ok (.iload 4, 2) := by decide +kernel
theorem dX11_isTurn_30 : decode cX11_isTurn 30 = .ok (.iconst 1, 1) := by decide +kernel
theorem dX11_isTurn_31 : decode cX11_isTurn 31 = .ok (.iadd, 1) := by decide +kernel
theorem dX11_isTurn_32 : decode cX11_isTurn 32 = .ok (.iaload, 1) := by decide +kernel
theorem dX11_isTurn_33 : decode cX11_isTurn 33 = .ok (.imul, 1) := by decide +kernel
theorem dX11_isTurn_34 : decode cX11_isTurn 34 = .ok (.aload_n 0, 1) := by decide +kernel
theorem dX11_isTurn_35 : decode cX11_isTurn 35 = .ok (.iload 4, 2) := by decide +kernel
theorem dX11_isTurn_37 : decode cX11_isTurn 37 = .ok (.iconst 1, 1) := by decide +kernel
theorem dX11_isTurn_38 : decode cX11_isTurn 38 = .ok (.iadd, 1) := by decide +kernel
theorem dX11_isTurn_39 : decode cX11_isTurn 39 = .ok (.iaload, 1) := by decide +kernel
theorem dX11_isTurn_40 : decode cX11_isTurn 40 = .ok (.imul, 1) := by decide +kernel
theorem dX11_isTurn_41 : decode cX11_isTurn 41 = .ok (.iadd, 1) := by decide +kernel
theorem dX11_isTurn_42 : decode cX11_isTurn 42 = .ok (.iadd, 1) := by decide +kernel
theorem dX11_isTurn_43 : decode cX11_isTurn 43 = .ok (.istore_n 2, 1) := by decide +kernel
theorem dX11_isTurn_44 : decode cX11_isTurn 44 = .ok (.iload_n 3, 1) := by decide +kernel
theorem dX11_isTurn_45 : decode cX11_isTurn 45 = .ok (.aload_n 0, 1) := by decide +kernel
theorem dX11_isTurn_46 : decode cX11_isTurn 46 = .ok (.iload 4, 2) := by decide +kernel
theorem dX11_isTurn_48 : decode cX11_isTurn 48 = .ok (.iaload, 1) := by decide +kernel
theorem dX11_isTurn_49 : decode cX11_isTurn 49 = .ok (.aload_n 0, 1) := by decide +kernel
theorem dX11_isTurn_50 : decode cX11_isTurn 50 = .ok (.iload 4, 2) := by decide +kernel
theorem dX11_isTurn_52 : decode cX11_isTurn 52 = .ok (.iconst 1, 1) := by decide +kernel
theorem dX11_isTurn_53 : decode cX11_isTurn 53 = .ok (.iadd, 1) := by decide +kernel
theorem dX11_isTurn_54 : decode cX11_isTurn 54 = .ok (.iaload, 1) := by decide +kernel
theorem dX11_isTurn_55 : decode cX11_isTurn 55 = .ok (.imul, 1) := by decide +kernel
theorem dX11_isTurn_56 : decode cX11_isTurn 56 = .ok (.iadd, 1) := by decide +kernel
theorem dX11_isTurn_57 : decode cX11_isTurn 57 = .ok (.istore_n 3, 1) := by decide +kernel
theorem dX11_isTurn_58 : decode cX11_isTurn 58 = .ok (.iinc 4 2, 3) := by decide +kernel
theorem dX11_isTurn_61 : decode cX11_isTurn 61 = .ok (.goto (-54), 3) := by decide +kernel
theorem dX11_isTurn_64 : decode cX11_isTurn 64 = .ok (.iload_n 2, 1) := by decide +kernel
theorem dX11_isTurn_65 : decode cX11_isTurn 65 = .ok (.bipush 16, 2) := by decide +kernel
theorem dX11_isTurn_67 : decode cX11_isTurn 67 = .ok (.if_icmp .ne 11, 3) := by decide +kernel
theorem dX11_isTurn_70 : decode cX11_isTurn 70 = .ok (.iload_n 3, 1) := by decide +kernel
theorem dX11_isTurn_71 : decode cX11_isTurn 71 = .ok (.ifCond .ne 7, 3) := by decide +kernel
theorem dX11_isTurn_74 : decode cX11_isTurn 74 = .ok (.iconst 1, 1) := by decide +kernel
theorem dX11_isTurn_75 : decode cX11_isTurn 75 = .ok (.goto 4, 3) := by decide +kernel
theorem dX11_isTurn_78 : decode cX11_isTurn 78 = .ok (.iconst 0, 1) := by decide +kernel
theorem dX11_isTurn_79 : decode cX11_isTurn 79 = .ok (.ireturn, 1) := by decide +kernel
theorem B_X11_isTurn_0 {a0 : Nat} {x1 : Int} (h : GG E mX11_isTurn 7 [some (vr a0), some (vi x1), some (vi 0), some (vi 0), some (vi 0)] [] σ rc rs Q) : GG E mX11_isTurn 0 [some (vr a0), some (vi x1), none, none, none] [] σ rc rs Q := by
  refine r_iconst (pc := 0) dX11_isTurn_0 (inRk rfl) ?_
  refine r_istore_n (pc := 1) dX11_isTurn_1 rfl (by decide) (l2 := [some (vr a0), some (vi x1), some (vi 0), none, none]) rfl ?_
  refine r_iconst (pc := 2) dX11_isTurn_2 (inRk rfl) ?_
  refine r_istore_n (pc := 3) dX11_isTurn_3 rfl (by decide) (l2 := [some (vr a0), some (vi x1), some (vi 0), some (vi 0), none]) rfl ?_
  refine r_iconst (pc := 4) dX11_isTurn_4 (inRk rfl) ?_
  refine r_istore (pc := 5) dX11_isTurn_5 (by decide) (l2 := [some (vr a0), some (vi x1), some (vi 0), some (vi 0), some (vi 0)]) rfl ?_
  exact h
theorem B_X11_isTurn_7 {a0 : Nat} {x1 : Int} {x2 : Int} {x3 : Int} {x4 : Int} (h : inR (x4 + 1) ∧ okN σ a0 ∧ ((((gS σ a0).2 : Int) ≤ (x4 + 1) → ((x2 ≠ 16 → Q (.inl (some (vi 0))) σ) ∧ (x2 = 16 → ((x3 ≠ 0 → Q (.inl (some (vi 0))) σ) ∧ (x3 = 0 → Q (.inl (some (vi 1))) σ))))) ∧ (¬ (((gS σ a0).2 : Int) ≤ (x4 + 1)) → okA 20 σ a0 x4 ∧ inR ((gI σ a0 x4.toNat) * (gI σ a0 x4.toNat)) ∧ okA 20 σ a0 (x4 + 1) ∧ inR (x1 * (gI σ a0 (x4 + 1).toNat)) ∧ inR ((x1 * (gI σ a0 (x4 + 1).toNat)) * (gI σ a0 (x4 + 1).toNat)) ∧ ∀ v8 : Int, v8 = (x1 * (gI σ a0 (x4 + 1).toNat)) * (gI σ a0 (x4 + 1).toNat) → inR (((gI σ a0 x4.toNat) * (gI σ a0 x4.toNat)) + v8) ∧ ∀ v10 : Int, v10 = ((gI σ a0 x4.toNat) * (gI σ a0 x4.toNat)) + v8 → inR (x2 + v10) ∧ inR ((gI σ a0 x4.toNat) * (gI σ a0 (x4 + 1).toNat)) ∧ ∀ v13 : Int, v13 = (gI σ a0 x4.toNat) * (gI σ a0 (x4 + 1).toNat) → inR (x3 + v13) ∧ inR (x4 + 2) ∧ GG E mX11_isTurn 7 [some (vr a0), some (vi x1), some (vi (x2 + v10)), some (vi (x3 + v13)), some (vi (x4 + 2))] [] σ rc rs Q))) : GG E mX11_isTurn 7 [some (vr a0), some (vi x1), some (vi x2), some (vi x3), some (vi x4)] [] σ rc rs Q := by
  refine r_iload (pc := 7) dX11_isTurn_7 rfl ?_
  refine r_iconst (pc := 9) dX11_isTurn_9 (inRk rfl) ?_
  obtain ⟨o1, h⟩ := h
  refine r_iadd (pc := 10) dX11_isTurn_10 o1 ?_
  refine r_aload_n (pc := 11) dX11_isTurn_11 rfl rfl ?_
  obtain ⟨o2, h⟩ := h
  refine r_alen (pc := 12) dX11_isTurn_12 o2.1 o2.2 ?_
  refine r_icmp_ge (pc := 13) (tgt := 64) dX11_isTurn_13 (by decide) (fun c9 => ?_) (fun c9 => ?_)
  · replace h := h.1 c9
    refine r_iload_n (pc := 64) dX11_isTurn_64 rfl rfl ?_
    refine r_bipush (pc := 65) dX11_isTurn_65 (by decide) ?_
    refine r_icmp_ne (pc := 67) (tgt := 78) dX11_isTurn_67 (by decide) (fun c9 => ?_) (fun c9 => ?_)
    · replace h := h.1 c9
      refine r_iconst (pc := 78) dX11_isTurn_78 (inRk rfl) ?_
      exact r_ireturn (pc := 79) (ty := .boolean) dX11_isTurn_79 (by decide +kernel) rfl (nar_bool (by decide)) h
    · replace h := h.2 c9
      refine r_iload_n (pc := 70) dX11_isTurn_70 rfl rfl ?_
      refine r_if_ne (pc := 71) (tgt := 78) dX11_isTurn_71 (by decide) (fun c9 => ?_) (fun c9 => ?_)
      · replace h := h.1 c9
        refine r_iconst (pc := 78) dX11_isTurn_78 (inRk rfl) ?_
        exact r_ireturn (pc := 79) (ty := .boolean) dX11_isTurn_79 (by decide +kernel) rfl (nar_bool (by decide)) h
      · replace h := h.2 c9
        refine r_iconst (pc := 74) dX11_isTurn_74 (inRk rfl) ?_
        refine r_goto (pc := 75) (tgt := 79) dX11_isTurn_75 (by decide) ?_
        exact r_ireturn (pc := 79) (ty := .boolean) dX11_isTurn_79 (by decide +kernel) rfl (nar_bool (by decide)) h
  · replace h := h.2 c9
    refine r_iload_n (pc := 16) dX11_isTurn_16 rfl rfl ?_
    refine r_aload_n (pc := 17) dX11_isTurn_17 rfl rfl ?_
    refine r_iload (pc := 18) dX11_isTurn_18 rfl ?_
    obtain ⟨o3, h⟩ := h
    refine r_iaload (pc := 20) dX11_isTurn_20 o3 ?_
    refine r_aload_n (pc := 21) dX11_isTurn_21 rfl rfl ?_
    refine r_iload (pc := 22) dX11_isTurn_22 rfl ?_
    refine r_iaload (pc := 24) dX11_isTurn_24 o3 ?_
    obtain ⟨o4, h⟩ := h
    refine r_imul (pc := 25) dX11_isTurn_25 o4 ?_
    refine r_iload_n (pc := 26) dX11_isTurn_26 rfl rfl ?_
    refine r_aload_n (pc := 27) dX11_isTurn_27 rfl rfl ?_
    refine r_iload (pc := 28) dX11_isTurn_28 rfl ?_
    refine r_iconst (pc := 30) dX11_isTurn_30 (inRk rfl) ?_
    refine r_iadd (pc := 31) dX11_isTurn_31 o1 ?_
    obtain ⟨o5, h⟩ := h
    refine r_iaload (pc := 32) dX11_isTurn_32 o5 ?_
    obtain ⟨o6, h⟩ := h
    refine r_imul (pc := 33) dX11_isTurn_33 o6 ?_
    refine r_aload_n (pc := 34) dX11_isTurn_34 rfl rfl ?_
    refine r_iload (pc := 35) dX11_isTurn_35 rfl ?_
    refine r_iconst (pc := 37) dX11_isTurn_37 (inRk rfl) ?_
    refine r_iadd (pc := 38) dX11_isTurn_38 o1 ?_
    refine r_iaload (pc := 39) dX11_isTurn_39 o5 ?_
    obtain ⟨o7, h⟩ := h
    refine r_imul (pc := 40) dX11_isTurn_40 o7 ?_
    refine nmI (fun v8 e9 => ?_)
    replace h := h v8 e9
    obtain ⟨o9, h⟩ := h
    refine r_iadd (pc := 41) dX11_isTurn_41 o9 ?_
    refine nmI (fun v10 e9 => ?_)
    replace h := h v10 e9
    obtain ⟨o11, h⟩ := h
    refine r_iadd (pc := 42) dX11_isTurn_42 o11 ?_
    refine r_istore_n (pc := 43) dX11_isTurn_43 rfl (by decide) (l2 := [some (vr a0), some (vi x1), some (vi (x2 + v10)), some (vi x3), some (vi x4)]) rfl ?_
    refine r_iload_n (pc := 44) dX11_isTurn_44 rfl rfl ?_
    refine r_aload_n (pc := 45) dX11_isTurn_45 rfl rfl ?_
    refine r_iload (pc := 46) dX11_isTurn_46 rfl ?_
    refine r_iaload (pc := 48) dX11_isTurn_48 o3 ?_
    refine r_aload_n (pc := 49) dX11_isTurn_49 rfl rfl ?_
    refine r_iload (pc := 50) dX11_isTurn_50 rfl ?_
    refine r_iconst (pc := 52) dX11_isTurn_52 (inRk rfl) ?_
    refine r_iadd (pc := 53) dX11_isTurn_53 o1 ?_
    refine r_iaload (pc := 54) dX11_isTurn_54 o5 ?_
    obtain ⟨o12, h⟩ := h
    refine r_imul (pc := 55) dX11_isTurn_55 o12 ?_
    refine nmI (fun v13 e9 => ?_)
    replace h := h v13 e9
    obtain ⟨o14, h⟩ := h
    refine r_iadd (pc := 56) dX11_isTurn_56 o14 ?_
    refine r_istore_n (pc := 57) dX11_isTurn_57 rfl (by decide) (l2 := [some (vr a0), some (vi x1), some (vi (x2 + v10)), some (vi (x3 + v13)), some (vi x4)]) rfl ?_
    obtain ⟨o15, h⟩ := h
    refine r_iinc (pc := 58) dX11_isTurn_58 rfl (by decide) o15 (l2 := [some (vr a0), some (vi x1), some (vi (x2 + v10)), some (vi (x3 + v13)), some (vi (x4 + 2))]) rfl ?_
    refine r_goto (pc := 61) (tgt := 7) dX11_isTurn_61 (by decide) ?_
    exact h
theorem C_X11_isTurn {a0 : Nat} {x1 : Int} (h : GG E mX11_isTurn 0 [some (vr a0), some (vi x1), none, none, none] [] σ 0 0 Q) : CC E mX11_isTurn [vr a0, vi x1] σ Q := CC.of (by decide +kernel) rfl (by decide +kernel) (fun h9 => nomatch h9) (Nat.le_of_ble_eq_true rfl) h
theorem dX11_keepReasons_0 : decode cX11_keepReasons 0 = .ok (.aload_n 0, 1) := by decide +kernel
theorem dX11_keepReasons_1 : decode cX11_keepReasons 1 = .ok (.getfield 84, 3) := by decide +kernel
theorem dX11_keepReasons_4 : decode cX11_keepReasons 4 = .ok (.iconst 0, 1) := by decide +kernel
theorem dX11_keepReasons_5 : decode cX11_keepReasons 5 = .ok (.aload_n 0, 1) := by decide +kernel
theorem dX11_keepReasons_6 : decode cX11_keepReasons 6 = .ok (.getfield 97, 3) := by decide +kernel
theorem dX11_keepReasons_9 : decode cX11_keepReasons 9 = .ok (.getfield 369, 3) := by decide +kernel
theorem dX11_keepReasons_12 : decode cX11_keepReasons 12 = .ok (.iastore, 1) := by decide +kernel
theorem dX11_keepReasons_13 : decode cX11_keepReasons 13 = .ok (.aload_n 0, 1) := by decide +kernel
theorem dX11_keepReasons_14 : decode cX11_keepReasons 14 = .ok (.getfield 84, 3) := by decide +kernel
theorem dX11_keepReasons_17 : decode cX11_keepReasons 17 = .ok (.iconst 1, 1) := by decide +kernel
theorem dX11_keepReasons_18 : decode cX11_keepReasons 18 = .ok (.aload_n 0, 1) := by decide +kernel
theorem dX11_keepReasons_19 : decode cX11_keepReasons 19 = .ok (.getfield 97, 3) := by decide +kernel
theorem dX11_keepReasons_22 : decode cX11_keepReasons 22 = .ok (.getfield 150, 3) := by decide +kernel
theorem dX11_keepReasons_25 : decode cX11_keepReasons 25 = .ok (.iastore, 1) := by decide +kernel
theorem dX11_keepReasons_26 : decode cX11_keepReasons 26 = .ok (.aload_n 0, 1) := by decide +kernel
theorem dX11_keepReasons_27 : decode cX11_keepReasons 27 = .ok (.getfield 84, 3) := by decide +kernel
theorem dX11_keepReasons_30 : decode cX11_keepReasons 30 = .ok (.iconst 2, 1) := by decide +kernel
theorem dX11_keepReasons_31 : decode cX11_keepReasons 31 = .ok (.aload_n 0, 1) := by decide +kernel
theorem dX11_keepReasons_32 : decode cX11_keepReasons 32 = .ok (.getfield 97, 3) := by decide +kernel
theorem dX11_keepReasons_35 : decode cX11_keepReasons 35 = .ok (.getfield 372, 3) := by decide +kernel
theorem dX11_keepReasons_38 : decode cX11_keepReasons 38 = .ok (.iastore, 1) := by decide +kernel
theorem dX11_keepReasons_39 : decode cX11_keepReasons 39 = .ok (.aload_n 0, 1) := by decide +kernel
theorem dX11_keepReasons_40 : decode cX11_keepReasons 40 = .ok (.getfield 84, 3) := by decide +kernel
theorem dX11_keepReasons_43 : decode cX11_keepReasons 43 = .ok (.iconst 3, 1) := by decide +kernel
theorem dX11_keepReasons_44 : decode cX11_keepReasons 44 = .ok (.aload_n 0, 1) := by decide +kernel
theorem dX11_keepReasons_45 : decode cX11_keepReasons 45 = .ok (.getfield 97, 3) := by decide +kernel
theorem dX11_keepReasons_48 : decode cX11_keepReasons 48 = .ok (.getfield 375, 3) := by decide +kernel
theorem dX11_keepReasons_51 : decode cX11_keepReasons 51 = .ok (.iastore, 1) := by decide +kernel
theorem dX11_keepReasons_52 : decode cX11_keepReasons 52 = .ok (.return_, 1) := by decide +kernel
theorem B_X11_keepReasons_0 {g : Sg} {c t : Nat} (hL : Lay LC g c t σ)  (h : ∀ τ1 : Sg, τ1 = sI σ 156 0 (gI σ t 9) → ∀ τ2 : Sg, τ2 = sI τ1 156 1 (gI τ1 t 8) → ∀ τ3 : Sg, τ3 = sI τ2 156 2 (gI τ2 t 10) → ∀ τ4 : Sg, τ4 = sI τ3 156 3 (gI τ3 t 11) → (Lay LC g c t τ4 → Q (.inl none) τ4)) : GG E mX11_keepReasons 0 [some (vr 16)] [] σ rc rs Q := by
  refine r_aload_n (pc := 0) dX11_keepReasons_0 rfl rfl ?_
  refine r_getR (pc := 1) dX11_keepReasons_1 (k9 := 10) CL_11 (by decide) (by decide) w_598 rfl (okO_of (N := 17) (hL.sh (i := 0) rfl (by decide) (by decide)) (by decide)) ?_
  refine eqR (y := 156) (hL.rf (i := 45) rfl) ?_
  refine r_iconst (pc := 4) dX11_keepReasons_4 (inRk rfl) ?_
  refine r_aload_n (pc := 5) dX11_keepReasons_5 rfl rfl ?_
  refine r_getR (pc := 6) dX11_keepReasons_6 (k9 := 13) CL_11 (by decide) (by decide) w_601 rfl (okO_of (N := 17) (hL.sh (i := 0) rfl (by decide) (by decide)) (by decide)) ?_
  refine eqR (y := t) hL.cl.2 ?_
  refine r_getI (pc := 9) dX11_keepReasons_9 (k9 := 9) CL_1 (by decide) (by decide) w_474 rfl (okO_of (ci := 1) (N := 12) (hL.ist.r hL).1 (hL.ist.r hL).2.1) (fun _ => ?_)
  refine r_iastore (pc := 12) dX11_keepReasons_12 (okB_of (c := 20) (n := 4) (hL.sh (i := 52) rfl (by decide) (by decide)) (by decide) (by decide)) ?_
  refine nmS (fun τ1 e1 => ?_)
  replace h := h τ1 e1
  have hL := hL.wI e1 (by decide) (.inl (by decide))
  refine r_aload_n (pc := 13) dX11_keepReasons_13 rfl rfl ?_
  refine r_getR (pc := 14) dX11_keepReasons_14 (k9 := 10) CL_11 (by decide) (by decide) w_598 rfl (okO_of (N := 17) (hL.sh (i := 0) rfl (by decide) (by decide)) (by decide)) ?_
  refine eqR (y := 156) (hL.rf (i := 45) rfl) ?_
  refine r_iconst (pc := 17) dX11_keepReasons_17 (inRk rfl) ?_
  refine r_aload_n (pc := 18) dX11_keepReasons_18 rfl rfl ?_
  refine r_getR (pc := 19) dX11_keepReasons_19 (k9 := 13) CL_11 (by decide) (by decide) w_601 rfl (okO_of (N := 17) (hL.sh (i := 0) rfl (by decide) (by decide)) (by decide)) ?_
  refine eqR (y := t) hL.cl.2 ?_
  refine r_getI (pc := 22) dX11_keepReasons_22 (k9 := 8) CL_1 (by decide) (by decide) w_471 rfl (okO_of (ci := 1) (N := 12) (hL.ist.r hL).1 (hL.ist.r hL).2.1) (fun _ => ?_)
  refine r_iastore (pc := 25) dX11_keepReasons_25 (okB_of (c := 20) (n := 4) (hL.sh (i := 52) rfl (by decide) (by decide)) (by decide) (by decide)) ?_
  refine nmS (fun τ2 e2 => ?_)
  replace h := h τ2 e2
  have hL := hL.wI e2 (by decide) (.inl (by decide))
  refine r_aload_n (pc := 26) dX11_keepReasons_26 rfl rfl ?_
  refine r_getR (pc := 27) dX11_keepReasons_27 (k9 := 10) CL_11 (by decide) (by decide) w_598 rfl (okO_of (N := 17) (hL.sh (i := 0) rfl (by decide) (by decide)) (by decide)) ?_
  refine eqR (y := 156) (hL.rf (i := 45) rfl) ?_
  refine r_iconst (pc := 30) dX11_keepReasons_30 (inRk rfl) ?_
  refine r_aload_n (pc := 31) dX11_keepReasons_31 rfl rfl ?_
  refine r_getR (pc := 32) dX11_keepReasons_32 (k9 := 13) CL_11 (by decide) (by decide) w_601 rfl (okO_of (N := 17) (hL.sh (i := 0) rfl (by decide) (by decide)) (by decide)) ?_
  refine eqR (y := t) hL.cl.2 ?_
  refine r_getI (pc := 35) dX11_keepReasons_35 (k9 := 10) CL_1 (by decide) (by decide) w_476 rfl (okO_of (ci := 1) (N := 12) (hL.ist.r hL).1 (hL.ist.r hL).2.1) (fun _ => ?_)
  refine r_iastore (pc := 38) dX11_keepReasons_38 (okB_of (c := 20) (n := 4) (hL.sh (i := 52) rfl (by decide) (by decide)) (by decide) (by decide)) ?_
  refine nmS (fun τ3 e3 => ?_)
  replace h := h τ3 e3
  have hL := hL.wI e3 (by decide) (.inl (by decide))
  refine r_aload_n (pc := 39) dX11_keepReasons_39 rfl rfl ?_
  refine r_getR (pc := 40) dX11_keepReasons_40 (k9 := 10) CL_11 (by decide) (by decide) w_598 rfl (okO_of (N := 17) (hL.sh (i := 0) rfl (by decide) (by decide)) (by decide)) ?_
  refine eqR (y := 156) (hL.rf (i := 45) rfl) ?_
  refine r_iconst (pc := 43) dX11_keepReasons_43 (inRk rfl) ?_
  refine r_aload_n (pc := 44) dX11_keepReasons_44 rfl rfl ?_
  refine r_getR (pc := 45) dX11_keepReasons_45 (k9 := 13) CL_11 (by decide) (by decide) w_601 rfl (okO_of (N := 17) (hL.sh (i := 0) rfl (by decide) (by decide)) (by decide)) ?_
  refine eqR (y := t) hL.cl.2 ?_
  refine r_getI (pc := 48) dX11_keepReasons_48 (k9 := 11) CL_1 (by decide) (by decide) w_478 rfl (okO_of (ci := 1) (N := 12) (hL.ist.r hL).1 (hL.ist.r hL).2.1) (fun _ => ?_)
  refine r_iastore (pc := 51) dX11_keepReasons_51 (okB_of (c := 20) (n := 4) (hL.sh (i := 52) rfl (by decide) (by decide)) (by decide) (by decide)) ?_
  refine nmS (fun τ4 e4 => ?_)
  replace h := h τ4 e4
  have hL := hL.wI e4 (by decide) (.inl (by decide))
  exact r_return (pc := 52) dX11_keepReasons_52 (by decide +kernel) rfl (h hL)
theorem C_X11_keepReasons {a0 : Nat} (h : GG E mX11_keepReasons 0 [some (vr a0)] [] σ 0 0 Q) : CC E mX11_keepReasons [vr a0] σ Q := CC.of (by decide +kernel) rfl (by decide +kernel) (fun h9 => nomatch h9) (Nat.le_of_ble_eq_true rfl) h
theorem dX11_made_0 : decode cX11_made 0 = .ok (.aload_n 0, 1) := by decide +kernel
theorem dX11_made_1 : decode cX11_made 1 = .ok (.iload_n 1, 1) := by decide +kernel
theorem dX11_made_2 : decode cX11_made 2 = .ok (.aload_n 0, 1) := by decide +kernel
theorem dX11_made_3 : decode cX11_made 3 = .ok (.getfield 35, 3) := by decide +kernel
theorem dX11_made_6 : decode cX11_made 6 = .ok (.getfield 207, 3) := by decide +kernel
theorem dX11_made_9 : decode cX11_made 9 = .ok (.invokevirtual 193, 3) := by decide +kernel
theorem dX11_made_12 : decode cX11_made 12 = .ok (.aload_n 0, 1) := by decide +kernel
theorem dX11_made_13 : decode cX11_made 13 = .ok (.iload_n 2, 1) := by decide +kernel
theorem dX11_made_14 : decode cX11_made 14 = .ok (.aload_n 0, 1) := by decide +kernel
theorem dX11_made_15 : decode cX11_made 15 = .ok (.getfield 35, 3) := by decide +kernel
theorem dX11_made_18 : decode cX11_made 18 = .ok (.getfield 207, 3) := by decide +kernel
theorem dX11_made_21 : decode cX11_made 21 = .ok (.invokevirtual 193, 3) := by decide +kernel
theorem dX11_made_24 : decode cX11_made 24 = .ok (.aload_n 0, 1) := by decide +kernel
theorem dX11_made_25 : decode cX11_made 25 = .ok (.iload_n 3, 1) := by decide +kernel
theorem dX11_made_26 : decode cX11_made 26 = .ok (.iconst 0, 1) := by decide +kernel
theorem dX11_made_27 : decode cX11_made 27 = .ok (.iconst 1, 1) := by decide +kernel
theorem dX11_made_28 : decode cX11_made 28 = .ok (.invokevirtual 128, 3) := by decide +kernel
theorem dX11_made_31 : decode cX11_made 31 = .ok (.aload_n 0, 1) := by decide +kernel
theorem dX11_made_32 : decode cX11_made 32 = .ok (.getfield 42, 3) := by decide +kernel
theorem dX11_made_35 : decode cX11_made 35 = .ok (.aload_n 0, 1) := by decide +kernel
theorem dX11_made_36 : decode cX11_made 36 = .ok (.getfield 35, 3) := by decide +kernel
theorem dX11_made_39 : decode cX11_made 39 = .ok (.iload_n 1, 1) := by decide +kernel
theorem dX11_made_40 : decode cX11_made 40 = .ok (.iload_n 2, 1) := by decide +kernel
theorem dX11_made_41 : decode cX11_made 41 = .ok (.invokevirtual 324, 3) := by decide +kernel
theorem dX11_made_44 : decode cX11_made 44 = .ok (.iload_n 3, 1) := by decide +kernel
theorem dX11_made_45 : decode cX11_made 45 = .ok (.ifCond .ne 13, 3) := by decide +kernel
theorem dX11_made_48 : decode cX11_made 48 = .ok (.aload_n 0, 1) := by decide +kernel
theorem dX11_made_49 : decode cX11_made 49 = .ok (.getfield 42, 3) := by decide +kernel
theorem dX11_made_52 : decode cX11_made 52 = .ok (.getfield 328, 3) := by decide +kernel
theorem dX11_made_55 : decode cX11_made 55 = .ok (.goto 17, 3) := by decide +kernel
theorem dX11_made_58 : decode cX11_made 58 = .ok (.aload_n 0, 1) := by decide +kernel
theorem dX11_made_59 : decode cX11_made 59 = .ok (.getfield 42, 3) := by decide +kernel
theorem dX11_made_62 : decode cX11_made 62 = .ok (.aload_n 0, 1) := by decide +kernel
theorem dX11_made_63 : decode cX11_made 63 = .ok (.getfield 35, 3) := by decide +kernel
theorem dX11_made_66 : decode cX11_made 66 = .ok (.getfield 207, 3) := by decide +kernel
theorem dX11_made_69 : decode cX11_made 69 = .ok (.invokevirtual 329, 3) := by decide +kernel
theorem dX11_made_72 : decode cX11_made 72 = .ok (.ireturn, 1) := by decide +kernel
theorem B_X11_made_0 {g : Sg} {c t : Nat} (hL : Lay LC g c t σ) {x1 : Int} {x2 : Int} {x3 : Int} (h : 1 ≤ rc ∧ 6 ≤ rs ∧ (Lay LC g c t σ → CC E mX11_needIndex [vr 16, vi x1, vi (gI σ 24 6)] σ (KV (fun τ4 => Lay LC g c t τ4 ∧ 1 ≤ rc - 1 ∧ 6 ≤ rs - 6 ∧ (Lay LC g c t τ4 → CC E mX11_needIndex [vr 16, vi x2, vi (gI τ4 24 6)] τ4 (KV (fun τ8 => Lay LC g c t τ8 ∧ 1 ≤ rc - 1 - 1 ∧ 6 ≤ rs - 6 - 6 ∧ (Lay LC g c t τ8 → CC E mX11_needBetween [vr 16, vi x3, vi 0, vi 1] τ8 (KV (fun τ12 => Lay LC g c t τ12 ∧ (Lay LC g c t τ12 → CC E mX9_make [vr 31, vr 24, vi x1, vi x2] τ12 (KV (fun τ14 => Lay LC g c t τ14 ∧ ((x3 ≠ 0 → (Lay LC g c t τ14 → CC E mX9_leastBeside [vr 31, vi (gI τ14 24 6)] τ14 (KI (fun r15 τ16 => Lay LC g c t τ16 ∧ (inR r15 → (Lay LC g c t τ16 → Q (.inl (some (vi r15))) τ16))) (fun _ _ => False)))) ∧ (x3 = 0 → (Lay LC g c t τ14 → Q (.inl (some (vi (gI τ14 31 2)))) τ14)))) (fun _ _ => False)))) (fun k9 τ9 => Q (.inr k9) τ9)))) (fun k9 τ9 => Q (.inr k9) τ9)))) (fun k9 τ9 => Q (.inr k9) τ9)))) : GG E mX11_made 0 [some (vr 16), some (vi x1), some (vi x2), some (vi x3)] [] σ rc rs Q := by
  refine r_aload_n (pc := 0) dX11_made_0 rfl rfl ?_
  refine r_iload_n (pc := 1) dX11_made_1 rfl rfl ?_
  refine r_aload_n (pc := 2) dX11_made_2 rfl rfl ?_
  refine r_getR (pc := 3) dX11_made_3 (k9 := 3) CL_11 (by decide) (by decide) w_591 rfl (okO_of (N := 17) (hL.sh (i := 0) rfl (by decide) (by decide)) (by decide)) ?_
  refine eqR (y := 24) (hL.rf (i := 14) rfl) ?_
  refine r_getI (pc := 6) dX11_made_6 (k9 := 6) CL_4 (by decide) (by decide) w_222 rfl (okO_of (N := 12) (hL.sh (i := 8) rfl (by decide) (by decide)) (by decide)) (fun _ => ?_)
  obtain ⟨o1, h⟩ := h
  obtain ⟨o2, h⟩ := h
  refine c_VVAX (M := mX11_made) (pc := 9) (As := [vi x1, vi (gI σ 24 6)]) dX11_made_9 K_X11_needIndex w_946 ⟨by decide, by decide⟩ (Nat.le_of_ble_eq_true rfl) o1 o2 (ci := 11) rfl rfl (by decide) (okO_of (N := 17) (hL.sh (i := 0) rfl (by decide) (by decide)) (by decide)) (h hL) (fun τ4 h8 => ?_) (fun k9 τ9 hk9 h8 => ?_) rfl
  · replace hL := h8.1
    replace h := h8.2
    refine r_aload_n (pc := 12) dX11_made_12 rfl rfl ?_
    refine r_iload_n (pc := 13) dX11_made_13 rfl rfl ?_
    refine r_aload_n (pc := 14) dX11_made_14 rfl rfl ?_
    refine r_getR (pc := 15) dX11_made_15 (k9 := 3) CL_11 (by decide) (by decide) w_591 rfl (okO_of (N := 17) (hL.sh (i := 0) rfl (by decide) (by decide)) (by decide)) ?_
    refine eqR (y := 24) (hL.rf (i := 14) rfl) ?_
    refine r_getI (pc := 18) dX11_made_18 (k9 := 6) CL_4 (by decide) (by decide) w_222 rfl (okO_of (N := 12) (hL.sh (i := 8) rfl (by decide) (by decide)) (by decide)) (fun _ => ?_)
    obtain ⟨o5, h⟩ := h
    obtain ⟨o6, h⟩ := h
    refine c_VVAX (M := mX11_made) (pc := 21) (As := [vi x2, vi (gI τ4 24 6)]) dX11_made_21 K_X11_needIndex w_946 ⟨by decide, by decide⟩ (Nat.le_of_ble_eq_true rfl) o5 o6 (ci := 11) rfl rfl (by decide) (okO_of (N := 17) (hL.sh (i := 0) rfl (by decide) (by decide)) (by decide)) (h hL) (fun τ8 h8 => ?_) (fun k9 τ9 hk9 h8 => ?_) rfl
    · replace hL := h8.1
      replace h := h8.2
      refine r_aload_n (pc := 24) dX11_made_24 rfl rfl ?_
      refine r_iload_n (pc := 25) dX11_made_25 rfl rfl ?_
      refine r_iconst (pc := 26) dX11_made_26 (inRk rfl) ?_
      refine r_iconst (pc := 27) dX11_made_27 (inRk rfl) ?_
      obtain ⟨o9, h⟩ := h
      obtain ⟨o10, h⟩ := h
      refine c_VVAX (M := mX11_made) (pc := 28) (As := [vi x3, vi 0, vi 1]) dX11_made_28 K_X11_needBetween w_707 ⟨by decide, by decide⟩ (Nat.le_of_ble_eq_true rfl) o9 o10 (ci := 11) rfl rfl (by decide) (okO_of (N := 17) (hL.sh (i := 0) rfl (by decide) (by decide)) (by decide)) (h hL) (fun τ12 h8 => ?_) (fun k9 τ9 hk9 h8 => ?_) rfl
      · replace hL := h8.1
        replace h := h8.2
        refine r_aload_n (pc := 31) dX11_made_31 rfl rfl ?_
        refine r_getR (pc := 32) dX11_made_32 (k9 := 4) CL_11 (by decide) (by decide) w_592 rfl (okO_of (N := 17) (hL.sh (i := 0) rfl (by decide) (by decide)) (by decide)) ?_
        refine eqR (y := 31) (hL.rf (i := 17) rfl) ?_
        refine r_aload_n (pc := 35) dX11_made_35 rfl rfl ?_
        refine r_getR (pc := 36) dX11_made_36 (k9 := 3) CL_11 (by decide) (by decide) w_591 rfl (okO_of (N := 17) (hL.sh (i := 0) rfl (by decide) (by decide)) (by decide)) ?_
        refine eqR (y := 24) (hL.rf (i := 14) rfl) ?_
        refine r_iload_n (pc := 39) dX11_made_39 rfl rfl ?_
        refine r_iload_n (pc := 40) dX11_made_40 rfl rfl ?_
        refine c_VV0N (M := mX11_made) (pc := 41) (As := [vr 24, vi x1, vi x2]) dX11_made_41 K_X9_make w_1298 ⟨by decide, by decide⟩ (Nat.le_of_ble_eq_true rfl) rfl rfl (ci := 9) rfl rfl (by decide) (okO_of (N := 5) (hL.sh (i := 15) rfl (by decide) (by decide)) (by decide)) (h hL) (fun τ14 h8 => ?_) rfl
        replace hL := h8.1
        replace h := h8.2
        refine r_iload_n (pc := 44) dX11_made_44 rfl rfl ?_
        refine r_if_ne (pc := 45) (tgt := 58) dX11_made_45 (by decide) (fun c9 => ?_) (fun c9 => ?_)
        · replace h := h.1 c9
          refine r_aload_n (pc := 58) dX11_made_58 rfl rfl ?_
          refine r_getR (pc := 59) dX11_made_59 (k9 := 4) CL_11 (by decide) (by decide) w_592 rfl (okO_of (N := 17) (hL.sh (i := 0) rfl (by decide) (by decide)) (by decide)) ?_
          refine eqR (y := 31) (hL.rf (i := 17) rfl) ?_
          refine r_aload_n (pc := 62) dX11_made_62 rfl rfl ?_
          refine r_getR (pc := 63) dX11_made_63 (k9 := 3) CL_11 (by decide) (by decide) w_591 rfl (okO_of (N := 17) (hL.sh (i := 0) rfl (by decide) (by decide)) (by decide)) ?_
          refine eqR (y := 24) (hL.rf (i := 14) rfl) ?_
          refine r_getI (pc := 66) dX11_made_66 (k9 := 6) CL_4 (by decide) (by decide) w_222 rfl (okO_of (N := 12) (hL.sh (i := 8) rfl (by decide) (by decide)) (by decide)) (fun _ => ?_)
          refine c_VI0N (M := mX11_made) (pc := 69) (As := [vi (gI τ14 24 6)]) dX11_made_69 K_X9_leastBeside w_1307 ⟨by decide, by decide⟩ (Nat.le_of_ble_eq_true rfl) rfl rfl (ci := 9) rfl rfl (by decide) (okO_of (N := 5) (hL.sh (i := 15) rfl (by decide) (by decide)) (by decide)) (h hL) (fun r15 τ16 h8 hr9 => ?_) rfl
          replace hL := h8.1
          replace h := h8.2 hr9
          exact r_ireturn (pc := 72) (ty := .int) dX11_made_72 (by decide +kernel) rfl (nar_i _) (h hL)
        · replace h := h.2 c9
          refine r_aload_n (pc := 48) dX11_made_48 rfl rfl ?_
          refine r_getR (pc := 49) dX11_made_49 (k9 := 4) CL_11 (by decide) (by decide) w_592 rfl (okO_of (N := 17) (hL.sh (i := 0) rfl (by decide) (by decide)) (by decide)) ?_
          refine eqR (y := 31) (hL.rf (i := 17) rfl) ?_
          refine r_getI (pc := 52) dX11_made_52 (k9 := 2) CL_9 (by decide) (by decide) w_270 rfl (okO_of (N := 5) (hL.sh (i := 15) rfl (by decide) (by decide)) (by decide)) (fun _ => ?_)
          refine r_goto (pc := 55) (tgt := 72) dX11_made_55 (by decide) ?_
          exact r_ireturn (pc := 72) (ty := .int) dX11_made_72 (by decide +kernel) rfl (nar_i _) (h hL)
      · exact TT.out (by decide +kernel) rfl h8
    · exact TT.out (by decide +kernel) rfl h8
  · exact TT.out (by decide +kernel) rfl h8
theorem C_X11_made {a0 : Nat} {x1 : Int} {x2 : Int} {x3 : Int} (h : GG E mX11_made 0 [some (vr a0), some (vi x1), some (vi x2), some (vi x3)] [] σ 3 18 Q) : CC E mX11_made [vr a0, vi x1, vi x2, vi x3] σ Q := CC.of (by decide +kernel) rfl (by decide +kernel) (fun h9 => nomatch h9) (Nat.le_of_ble_eq_true rfl) h
theorem dX11_makers_0 : decode cX11_makers 0 = .ok (.aload_n 0, 1) := by decide +kernel
theorem dX11_makers_1 : decode cX11_makers 1 = .ok (.iload_n 1, 1) := by decide +kernel
theorem dX11_makers_2 : decode cX11_makers 2 = .ok (.iconst 0, 1) := by decide +kernel
theorem dX11_makers_3 : decode cX11_makers 3 = .ok (.iconst 1, 1) := by decide +kernel
theorem dX11_makers_4 : decode cX11_makers 4 = .ok (.invokevirtual 128, 3) := by decide +kernel
theorem dX11_makers_7 : decode cX11_makers 7 = .ok (.aload_n 0, 1) := by decide +kernel
theorem dX11_makers_8 : decode cX11_makers 8 = .ok (.getfield 346, 3) := by decide +kernel
theorem dX11_makers_11 : decode cX11_makers 11 = .ok (.ifCond .ne 19, 3) := by decide +kernel
theorem dX11_makers_14 : decode cX11_makers 14 = .ok (.aload_n 0, 1) := by decide +kernel
theorem dX11_makers_15 : decode cX11_makers 15 = .ok (.getfield 42, 3) := by decide +kernel
theorem dX11_makers_18 : decode cX11_makers 18 = .ok (.aload_n 0, 1) := by decide +kernel
theorem dX11_makers_19 : decode cX11_makers 19 = .ok (.getfield 35, 3) := by decide +kernel
theorem dX11_makers_22 : decode cX11_makers 22 = .ok (.invokevirtual 350, 3) := by decide +kernel
theorem dX11_makers_25 : decode cX11_makers 25 = .ok (.aload_n 0, 1) := by decide +kernel
theorem dX11_makers_26 : decode cX11_makers 26 = .ok (.iconst 1, 1) := by decide +kernel
theorem dX11_makers_27 : decode cX11_makers 27 = .ok (.putfield 346, 3) := by decide +kernel
theorem dX11_makers_30 : decode cX11_makers 30 = .ok (.iload_n 1, 1) := by decide +kernel
theorem dX11_makers_31 : decode cX11_makers 31 = .ok (.ifCond .ne 13, 3) := by decide +kernel
theorem dX11_makers_34 : decode cX11_makers 34 = .ok (.aload_n 0, 1) := by decide +kernel
theorem dX11_makers_35 : decode cX11_makers 35 = .ok (.getfield 42, 3) := by decide +kernel
theorem dX11_makers_38 : decode cX11_makers 38 = .ok (.getfield 354, 3) := by decide +kernel
theorem dX11_makers_41 : decode cX11_makers 41 = .ok (.goto 10, 3) := by decide +kernel
theorem dX11_makers_44 : decode cX11_makers 44 = .ok (.aload_n 0, 1) := by decide +kernel
theorem dX11_makers_45 : decode cX11_makers 45 = .ok (.getfield 42, 3) := by decide +kernel
theorem dX11_makers_48 : decode cX11_makers 48 = .ok (.getfield 357, 3) := by decide +kernel
theorem dX11_makers_51 : decode cX11_makers 51 = .ok (.ireturn, 1) := by decide +kernel
theorem B_X11_makers_0 {g : Sg} {c t : Nat} (hL : Lay LC g c t σ) {x1 : Int} (h : 1 ≤ rc ∧ 6 ≤ rs ∧ (Lay LC g c t σ → CC E mX11_needBetween [vr 16, vi x1, vi 0, vi 1] σ (KV (fun τ4 => Lay LC g c t τ4 ∧ ((gI τ4 16 15 = 0 ∨ gI τ4 16 15 = 1) → (((gI τ4 16 15) ≠ 0 → ((x1 ≠ 0 → (Lay LC g c t τ4 → Q (.inl (some (vi (gI τ4 31 4)))) τ4)) ∧ (x1 = 0 → (Lay LC g c t τ4 → Q (.inl (some (vi (gI τ4 31 3)))) τ4)))) ∧ ((gI τ4 16 15) = 0 → (Lay LC g c t τ4 → CC E mX9_searchMakers [vr 31, vr 24] τ4 (KV (fun τ7 => Lay LC g c t τ7 ∧ ∀ τ8 : Sg, τ8 = sI τ7 16 15 1 → ((x1 ≠ 0 → (Lay LC g c t τ8 → Q (.inl (some (vi (gI τ8 31 4)))) τ8)) ∧ (x1 = 0 → (Lay LC g c t τ8 → Q (.inl (some (vi (gI τ8 31 3)))) τ8)))) (fun _ _ => False))))))) (fun k9 τ9 => Q (.inr k9) τ9)))) : GG E mX11_makers 0 [some (vr 16), some (vi x1)] [] σ rc rs Q := by
  refine r_aload_n (pc := 0) dX11_makers_0 rfl rfl ?_
  refine r_iload_n (pc := 1) dX11_makers_1 rfl rfl ?_
  refine r_iconst (pc := 2) dX11_makers_2 (inRk rfl) ?_
  refine r_iconst (pc := 3) dX11_makers_3 (inRk rfl) ?_
  obtain ⟨o1, h⟩ := h
  obtain ⟨o2, h⟩ := h
  refine c_VVAX (M := mX11_makers) (pc := 4) (As := [vi x1, vi 0, vi 1]) dX11_makers_4 K_X11_needBetween w_707 ⟨by decide, by decide⟩ (Nat.le_of_ble_eq_true rfl) o1 o2 (ci := 11) rfl rfl (by decide) (okO_of (N := 17) (hL.sh (i := 0) rfl (by decide) (by decide)) (by decide)) (h hL) (fun τ4 h8 => ?_) (fun k9 τ9 hk9 h8 => ?_) rfl
  · replace hL := h8.1
    replace h := h8.2
    refine r_aload_n (pc := 7) dX11_makers_7 rfl rfl ?_
    refine r_getI (pc := 8) dX11_makers_8 (k9 := 15) CL_11 (by decide) (by decide) w_603 rfl (okO_of (N := 17) (hL.sh (i := 0) rfl (by decide) (by decide)) (by decide)) (fun z9 => ?_)
    have z5 := z9 rfl
    replace h := h z5
    refine r_if_ne (pc := 11) (tgt := 30) dX11_makers_11 (by decide) (fun c9 => ?_) (fun c9 => ?_)
    · replace h := h.1 c9
      refine r_iload_n (pc := 30) dX11_makers_30 rfl rfl ?_
      refine r_if_ne (pc := 31) (tgt := 44) dX11_makers_31 (by decide) (fun c9 => ?_) (fun c9 => ?_)
      · replace h := h.1 c9
        refine r_aload_n (pc := 44) dX11_makers_44 rfl rfl ?_
        refine r_getR (pc := 45) dX11_makers_45 (k9 := 4) CL_11 (by decide) (by decide) w_592 rfl (okO_of (N := 17) (hL.sh (i := 0) rfl (by decide) (by decide)) (by decide)) ?_
        refine eqR (y := 31) (hL.rf (i := 17) rfl) ?_
        refine r_getI (pc := 48) dX11_makers_48 (k9 := 4) CL_9 (by decide) (by decide) w_274 rfl (okO_of (N := 5) (hL.sh (i := 15) rfl (by decide) (by decide)) (by decide)) (fun _ => ?_)
        exact r_ireturn (pc := 51) (ty := .int) dX11_makers_51 (by decide +kernel) rfl (nar_i _) (h hL)
      · replace h := h.2 c9
        refine r_aload_n (pc := 34) dX11_makers_34 rfl rfl ?_
        refine r_getR (pc := 35) dX11_makers_35 (k9 := 4) CL_11 (by decide) (by decide) w_592 rfl (okO_of (N := 17) (hL.sh (i := 0) rfl (by decide) (by decide)) (by decide)) ?_
        refine eqR (y := 31) (hL.rf (i := 17) rfl) ?_
        refine r_getI (pc := 38) dX11_makers_38 (k9 := 3) CL_9 (by decide) (by decide) w_272 rfl (okO_of (N := 5) (hL.sh (i := 15) rfl (by decide) (by decide)) (by decide)) (fun _ => ?_)
        refine r_goto (pc := 41) (tgt := 51) dX11_makers_41 (by decide) ?_
        exact r_ireturn (pc := 51) (ty := .int) dX11_makers_51 (by decide +kernel) rfl (nar_i _) (h hL)
    · replace h := h.2 c9
      refine r_aload_n (pc := 14) dX11_makers_14 rfl rfl ?_
      refine r_getR (pc := 15) dX11_makers_15 (k9 := 4) CL_11 (by decide) (by decide) w_592 rfl (okO_of (N := 17) (hL.sh (i := 0) rfl (by decide) (by decide)) (by decide)) ?_
      refine eqR (y := 31) (hL.rf (i := 17) rfl) ?_
      refine r_aload_n (pc := 18) dX11_makers_18 rfl rfl ?_
      refine r_getR (pc := 19) dX11_makers_19 (k9 := 3) CL_11 (by decide) (by decide) w_591 rfl (okO_of (N := 17) (hL.sh (i := 0) rfl (by decide) (by decide)) (by decide)) ?_
      refine eqR (y := 24) (hL.rf (i := 14) rfl) ?_
      refine c_VV0N (M := mX11_makers) (pc := 22) (As := [vr 24]) dX11_makers_22 K_X9_searchMakers w_1357 ⟨by decide, by decide⟩ (Nat.le_of_ble_eq_true rfl) rfl rfl (ci := 9) rfl rfl (by decide) (okO_of (N := 5) (hL.sh (i := 15) rfl (by decide) (by decide)) (by decide)) (h hL) (fun τ7 h8 => ?_) rfl
      replace hL := h8.1
      replace h := h8.2
      refine r_aload_n (pc := 25) dX11_makers_25 rfl rfl ?_
      refine r_iconst (pc := 26) dX11_makers_26 (inRk rfl) ?_
      refine r_putI (pc := 27) dX11_makers_27 (k9 := 15) CL_11 (by decide) (by decide) w_603 rfl rfl (fun _ => by decide) (okO_of (N := 17) (hL.sh (i := 0) rfl (by decide) (by decide)) (by decide)) ?_
      refine nmS (fun τ8 e8 => ?_)
      replace h := h τ8 e8
      have hL := hL.wI e8 (by decide) (.inl (by decide))
      refine r_iload_n (pc := 30) dX11_makers_30 rfl rfl ?_
      refine r_if_ne (pc := 31) (tgt := 44) dX11_makers_31 (by decide) (fun c9 => ?_) (fun c9 => ?_)
      · replace h := h.1 c9
        refine r_aload_n (pc := 44) dX11_makers_44 rfl rfl ?_
        refine r_getR (pc := 45) dX11_makers_45 (k9 := 4) CL_11 (by decide) (by decide) w_592 rfl (okO_of (N := 17) (hL.sh (i := 0) rfl (by decide) (by decide)) (by decide)) ?_
        refine eqR (y := 31) (hL.rf (i := 17) rfl) ?_
        refine r_getI (pc := 48) dX11_makers_48 (k9 := 4) CL_9 (by decide) (by decide) w_274 rfl (okO_of (N := 5) (hL.sh (i := 15) rfl (by decide) (by decide)) (by decide)) (fun _ => ?_)
        exact r_ireturn (pc := 51) (ty := .int) dX11_makers_51 (by decide +kernel) rfl (nar_i _) (h hL)
      · replace h := h.2 c9
        refine r_aload_n (pc := 34) dX11_makers_34 rfl rfl ?_
        refine r_getR (pc := 35) dX11_makers_35 (k9 := 4) CL_11 (by decide) (by decide) w_592 rfl (okO_of (N := 17) (hL.sh (i := 0) rfl (by decide) (by decide)) (by decide)) ?_
        refine eqR (y := 31) (hL.rf (i := 17) rfl) ?_
        refine r_getI (pc := 38) dX11_makers_38 (k9 := 3) CL_9 (by decide) (by decide) w_272 rfl (okO_of (N := 5) (hL.sh (i := 15) rfl (by decide) (by decide)) (by decide)) (fun _ => ?_)
        refine r_goto (pc := 41) (tgt := 51) dX11_makers_41 (by decide) ?_
        exact r_ireturn (pc := 51) (ty := .int) dX11_makers_51 (by decide +kernel) rfl (nar_i _) (h hL)
  · exact TT.out (by decide +kernel) rfl h8
theorem C_X11_makers {a0 : Nat} {x1 : Int} (h : GG E mX11_makers 0 [some (vr a0), some (vi x1)] [] σ 1 6 Q) : CC E mX11_makers [vr a0, vi x1] σ Q := CC.of (by decide +kernel) rfl (by decide +kernel) (fun h9 => nomatch h9) (Nat.le_of_ble_eq_true rfl) h
theorem dX11_needBetween_0 : decode cX11_needBetween 0 = .ok (.iload_n 1, 1) := by decide +kernel
theorem dX11_needBetween_1 : decode cX11_needBetween 1 = .ok (.iload_n 2, 1) := by decide +kernel
theorem dX11_needBetween_2 : decode cX11_needBetween 2 = .ok (.if_icmp .lt 8, 3) := by decide +kernel
theorem dX11_needBetween_5 : decode cX11_needBetween 5 = .ok (.iload_n 1, 1) := by decide +kernel
theorem dX11_needBetween_6 : decode cX11_needBetween 6 = .ok (.iload_n 3, 1) := by decide +kernel
theorem dX11_needBetween_7 : decode cX11_needBetween 7 = .ok (.if_icmp .le 24, 3) := by decide +kernel
theorem dX11_needBetween_10 : decode cX11_needBetween 10 = .ok (.aload_n 0, 1) := by decide +kernel
theorem dX11_needBetween_11 : decode cX11_needBetween 11 = .ok (.getfield 87, 3) := by decide +kernel
theorem dX11_needBetween_14 : decode cX11_needBetween 14 = .ok (.iconst 1, 1) := by decide +kernel
theorem dX11_needBetween_15 : decode cX11_needBetween 15 = .ok (.dup2, 1) := by decide +kernel
theorem dX11_needBetween_16 : decode cX11_needBetween 16 = .ok (.iaload, 1) := by decide +kernel
theorem dX11_needBetween_17 : decode cX11_needBetween 17 = .ok (.iconst 1, 1) := by decide +kernel
theorem dX11_needBetween_18 : decode cX11_needBetween 18 = .ok (.iadd, 1) := by decide +kernel
theorem dX11_needBetween_19 : decode cX11_needBetween 19 = .ok (.iastore, 1) := by decide +kernel
theorem dX11_needBetween_20 : decode cX11_needBetween 20 = .ok (.new 166, 3) := by decide +kernel
theorem dX11_needBetween_23 : decode cX11_needBetween 23 = .ok (.dup, 1) := by decide +kernel
theorem dX11_needBetween_24 : decode cX11_needBetween 24 = .ok (.ldc_w 367, 3) := by decide +kernel
theorem dX11_needBetween_27 : decode cX11_needBetween 27 = .ok (.invokespecial 170, 3) := by decide +kernel
theorem dX11_needBetween_30 : decode cX11_needBetween 30 = .ok (.athrow, 1) := by decide +kernel
theorem dX11_needBetween_31 : decode cX11_needBetween 31 = .ok (.return_, 1) := by decide +kernel
theorem B_X11_needBetween_0 {g : Sg} {c t : Nat} (hL : Lay LC g c t σ) {x1 : Int} {x2 : Int} {x3 : Int} (h : ((x1 < x2 → inR ((gI σ 157 1) + 1) ∧ ∀ τ2 : Sg, τ2 = sI σ 157 1 ((gI σ 157 1) + 1) → (Lay LC g c t τ2 → 1 ≤ rc ∧ 6 ≤ rs ∧ ∀ d9, Q (.inr 1) (jk τ2 d9))) ∧ (¬ (x1 < x2) → ((x1 ≤ x3 → (Lay LC g c t σ → Q (.inl none) σ)) ∧ (¬ (x1 ≤ x3) → inR ((gI σ 157 1) + 1) ∧ ∀ τ4 : Sg, τ4 = sI σ 157 1 ((gI σ 157 1) + 1) → (Lay LC g c t τ4 → 1 ≤ rc ∧ 6 ≤ rs ∧ ∀ d9, Q (.inr 1) (jk τ4 d9))))))) : GG E mX11_needBetween 0 [some (vr 16), some (vi x1), some (vi x2), some (vi x3)] [] σ rc rs Q := by
  refine r_iload_n (pc := 0) dX11_needBetween_0 rfl rfl ?_
  refine r_iload_n (pc := 1) dX11_needBetween_1 rfl rfl ?_
  refine r_icmp_lt (pc := 2) (tgt := 10) dX11_needBetween_2 (by decide) (fun c9 => ?_) (fun c9 => ?_)
  · replace h := h.1 c9
    refine r_aload_n (pc := 10) dX11_needBetween_10 rfl rfl ?_
    refine r_getR (pc := 11) dX11_needBetween_11 (k9 := 11) CL_11 (by decide) (by decide) w_599 rfl (okO_of (N := 17) (hL.sh (i := 0) rfl (by decide) (by decide)) (by decide)) ?_
    refine eqR (y := 157) (hL.rf (i := 46) rfl) ?_
    refine r_iconst (pc := 14) dX11_needBetween_14 (inRk rfl) ?_
    refine r_dup2_11 (pc := 15) dX11_needBetween_15 (fun _ h9 => nomatch h9) (fun _ h9 => nomatch h9) ?_
    refine r_iaload (pc := 16) dX11_needBetween_16 (okA_of (c := 20) (n := 3) (hL.sh (i := 53) rfl (by decide) (by decide)) (by decide) (by decide)) ?_
    refine r_iconst (pc := 17) dX11_needBetween_17 (inRk rfl) ?_
    obtain ⟨o1, h⟩ := h
    refine r_iadd (pc := 18) dX11_needBetween_18 o1 ?_
    refine r_iastore (pc := 19) dX11_needBetween_19 (okB_of (c := 20) (n := 3) (hL.sh (i := 53) rfl (by decide) (by decide)) (by decide) (by decide)) ?_
    refine nmS (fun τ2 e2 => ?_)
    replace h := h τ2 e2
    have hL := hL.wI e2 (by decide) (.inl (by decide))
    replace h := h hL
    exact r_throwW (pc := 20) (x := 1) (names := ["java/lang/RuntimeException", "java/lang/Exception"]) (by decide +kernel) rfl (by decide) rfl dX11_needBetween_20 dX11_needBetween_23 dX11_needBetween_24 dX11_needBetween_27 dX11_needBetween_30 (by decide +kernel) (by decide +kernel) w_711 w_116 (List.mem_of_getElem? (i := 1) rfl) at_170 (by decide) (Nat.le_of_ble_eq_true rfl) h.1 h.2.1 h.2.2
  · replace h := h.2 c9
    refine r_iload_n (pc := 5) dX11_needBetween_5 rfl rfl ?_
    refine r_iload_n (pc := 6) dX11_needBetween_6 rfl rfl ?_
    refine r_icmp_le (pc := 7) (tgt := 31) dX11_needBetween_7 (by decide) (fun c9 => ?_) (fun c9 => ?_)
    · replace h := h.1 c9
      exact r_return (pc := 31) dX11_needBetween_31 (by decide +kernel) rfl (h hL)
    · replace h := h.2 c9
      refine r_aload_n (pc := 10) dX11_needBetween_10 rfl rfl ?_
      refine r_getR (pc := 11) dX11_needBetween_11 (k9 := 11) CL_11 (by decide) (by decide) w_599 rfl (okO_of (N := 17) (hL.sh (i := 0) rfl (by decide) (by decide)) (by decide)) ?_
      refine eqR (y := 157) (hL.rf (i := 46) rfl) ?_
      refine r_iconst (pc := 14) dX11_needBetween_14 (inRk rfl) ?_
      refine r_dup2_11 (pc := 15) dX11_needBetween_15 (fun _ h9 => nomatch h9) (fun _ h9 => nomatch h9) ?_
      refine r_iaload (pc := 16) dX11_needBetween_16 (okA_of (c := 20) (n := 3) (hL.sh (i := 53) rfl (by decide) (by decide)) (by decide) (by decide)) ?_
      refine r_iconst (pc := 17) dX11_needBetween_17 (inRk rfl) ?_
      obtain ⟨o3, h⟩ := h
      refine r_iadd (pc := 18) dX11_needBetween_18 o3 ?_
      refine r_iastore (pc := 19) dX11_needBetween_19 (okB_of (c := 20) (n := 3) (hL.sh (i := 53) rfl (by decide) (by decide)) (by decide) (by decide)) ?_
      refine nmS (fun τ4 e4 => ?_)
      replace h := h τ4 e4
      have hL := hL.wI e4 (by decide) (.inl (by decide))
      replace h := h hL
      exact r_throwW (pc := 20) (x := 1) (names := ["java/lang/RuntimeException", "java/lang/Exception"]) (by decide +kernel) rfl (by decide) rfl dX11_needBetween_20 dX11_needBetween_23 dX11_needBetween_24 dX11_needBetween_27 dX11_needBetween_30 (by decide +kernel) (by decide +kernel) w_711 w_116 (List.mem_of_getElem? (i := 1) rfl) at_170 (by decide) (Nat.le_of_ble_eq_true rfl) h.1 h.2.1 h.2.2
theorem C_X11_needBetween {a0 : Nat} {x1 : Int} {x2 : Int} {x3 : Int} (h : GG E mX11_needBetween 0 [some (vr a0), some (vi x1), some (vi x2), some (vi x3)] [] σ 1 6 Q) : CC E mX11_needBetween [vr a0, vi x1, vi x2, vi x3] σ Q := CC.of (by decide +kernel) rfl (by decide +kernel) (fun h9 => nomatch h9) (Nat.le_of_ble_eq_true rfl) h
theorem dX11_needCharacters_0 : decode cX11_needCharacters 0 = .ok (.aload_n 0, 1) := by decide +kernel
theorem dX11_needCharacters_1 : decode cX11_needCharacters 1 = .ok (.getfield 378, 3) := by decide +kernel
theorem dX11_needCharacters_4 : decode cX11_needCharacters 4 = .ok (.ifCond .eq 4, 3) := by decide +kernel
theorem dX11_needCharacters_7 : decode cX11_needCharacters 7 = .ok (.return_, 1) := by decide +kernel
theorem dX11_needCharacters_8 : decode cX11_needCharacters 8 = .ok (.aload_n 0, 1) := by decide +kernel
theorem dX11_needCharacters_9 : decode cX11_needCharacters 9 = .ok (.getfield 49, 3) := by decide +kernel
theorem dX11_needCharacters_12 : decode cX11_needCharacters 12 = .ok (.aload_n 0, 1) := by decide +kernel
theorem dX11_needCharacters_13 : decode cX11_needCharacters 13 = .ok (.getfield 35, 3) := by decide +kernel
theorem dX11_needCharacters_16 : decode cX11_needCharacters 16 = .ok (.aload_n 0, 1) := by decide +kernel
theorem dX11_needCharacters_17 : decode cX11_needCharacters 17 = .ok (.getfield 93, 3) := by decide +kernel
theorem dX11_needCharacters_20 : decode cX11_needCharacters 20 = .ok (.invokevirtual 381, 3) := by decide +kernel
theorem dX11_needCharacters_23 : decode cX11_needCharacters 23 = .ok (.aload_n 0, 1) := by decide +kernel
theorem dX11_needCharacters_24 : decode cX11_needCharacters 24 = .ok (.getfield 62, 3) := by decide +kernel
theorem dX11_needCharacters_27 : decode cX11_needCharacters 27 = .ok (.aload_n 0, 1) := by decide +kernel
theorem dX11_needCharacters_28 : decode cX11_needCharacters 28 = .ok (.getfield 35, 3) := by decide +kernel
theorem dX11_needCharacters_31 : decode cX11_needCharacters 31 = .ok (.invokevirtual 384, 3) := by decide +kernel
theorem dX11_needCharacters_34 : decode cX11_needCharacters 34 = .ok (.iconst 1, 1) := by decide +kernel
theorem dX11_needCharacters_35 : decode cX11_needCharacters 35 = .ok (.istore_n 1, 1) := by decide +kernel
theorem dX11_needCharacters_36 : decode cX11_needCharacters 36 = .ok (.iload_n 1, 1) := by decide +kernel
theorem dX11_needCharacters_37 : decode cX11_needCharacters 37 = .ok (.aload_n 0, 1) := by decide +kernel
theorem dX11_needCharacters_38 : decode cX11_needCharacters 38 = .ok (.getfield 62, 3) := by decide +kernel
theorem dX11_needCharacters_41 : decode cX11_needCharacters 41 = .ok (.getfield 386, 3) := by decide +kernel
theorem dX11_needCharacters_44 : decode cX11_needCharacters 44 = .ok (.if_icmp .ge 17, 3) := by decide +kernel
theorem dX11_needCharacters_47 : decode cX11_needCharacters 47 = .ok (.aload_n 0, 1) := by decide +kernel
theorem dX11_needCharacters_48 : decode cX11_needCharacters 48 = .ok (.getfield 62, 3) := by decide +kernel
theorem dX11_needCharacters_51 : decode cX11_needCharacters 51 = .ok (.iload_n 1, 1) := by decide +kernel
theorem dX11_needCharacters_52 : decode cX11_needCharacters 52 = .ok (.invokevirtual 387, 3) := by decide +kernel
theorem dX11_needCharacters_55 : decode cX11_needCharacters 55 = .ok (.iinc 1 1, 3) := by decide +kernel
theorem dX11_needCharacters_58 : decode cX11_needCharacters 58 = .ok (.goto (-22), 3) := by decide +kernel
theorem dX11_needCharacters_61 : decode cX11_needCharacters 61 = .ok (.aload_n 0, 1) := by decide +kernel
theorem dX11_needCharacters_62 : decode cX11_needCharacters 62 = .ok (.getfield 49, 3) := by decide +kernel
theorem dX11_needCharacters_65 : decode cX11_needCharacters 65 = .ok (.aload_n 0, 1) := by decide +kernel
theorem dX11_needCharacters_66 : decode cX11_needCharacters 66 = .ok (.getfield 62, 3) := by decide +kernel
theorem dX11_needCharacters_69 : decode cX11_needCharacters 69 = .ok (.getfield 390, 3) := by decide +kernel
theorem dX11_needCharacters_72 : decode cX11_needCharacters 72 = .ok (.invokevirtual 393, 3) := by decide +kernel
theorem dX11_needCharacters_75 : decode cX11_needCharacters 75 = .ok (.aload_n 0, 1) := by decide +kernel
theorem dX11_needCharacters_76 : decode cX11_needCharacters 76 = .ok (.getfield 69, 3) := by decide +kernel
theorem dX11_needCharacters_79 : decode cX11_needCharacters 79 = .ok (.aload_n 0, 1) := by decide +kernel
theorem dX11_needCharacters_80 : decode cX11_needCharacters 80 = .ok (.getfield 49, 3) := by decide +kernel
theorem dX11_needCharacters_83 : decode cX11_needCharacters 83 = .ok (.invokevirtual 396, 3) := by decide +kernel
theorem dX11_needCharacters_86 : decode cX11_needCharacters 86 = .ok (.aload_n 0, 1) := by decide +kernel
theorem dX11_needCharacters_87 : decode cX11_needCharacters 87 = .ok (.iconst 1, 1) := by decide +kernel
theorem dX11_needCharacters_88 : decode cX11_needCharacters 88 = .ok (.putfield 378, 3) := by decide +kernel
theorem dX11_needCharacters_91 : decode cX11_needCharacters 91 = .ok (.return_, 1) := by decide +kernel
theorem B_X11_needCharacters_0 {g : Sg} {c t : Nat} (hL : Lay LC g c t σ)  (h : ((gI σ 16 14 = 0 ∨ gI σ 16 14 = 1) → (((gI σ 16 14) = 0 → (Lay LC g c t σ → CC E mX0_begin [vr 34, vr 24, vr c] σ (KV (fun τ3 => Lay LC g c t τ3 ∧ (Lay LC g c t τ3 → CC E mX8_begin [vr 54, vr 24] τ3 (KV (fun τ5 => Lay LC g c t τ5 ∧ (Lay LC g c t τ5 → GG E mX11_needCharacters 36 [some (vr 16), some (vi 1)] [] τ5 rc rs Q)) (fun _ _ => False)))) (fun _ _ => False)))) ∧ (¬ ((gI σ 16 14) = 0) → (Lay LC g c t σ → Q (.inl none) σ))))) : GG E mX11_needCharacters 0 [some (vr 16), none] [] σ rc rs Q := by
  refine r_aload_n (pc := 0) dX11_needCharacters_0 rfl rfl ?_
  refine r_getI (pc := 1) dX11_needCharacters_1 (k9 := 14) CL_11 (by decide) (by decide) w_602 rfl (okO_of (N := 17) (hL.sh (i := 0) rfl (by decide) (by decide)) (by decide)) (fun z9 => ?_)
  have z1 := z9 rfl
  replace h := h z1
  refine r_if_eq (pc := 4) (tgt := 8) dX11_needCharacters_4 (by decide) (fun c9 => ?_) (fun c9 => ?_)
  · replace h := h.1 c9
    refine r_aload_n (pc := 8) dX11_needCharacters_8 rfl rfl ?_
    refine r_getR (pc := 9) dX11_needCharacters_9 (k9 := 5) CL_11 (by decide) (by decide) w_593 rfl (okO_of (N := 17) (hL.sh (i := 0) rfl (by decide) (by decide)) (by decide)) ?_
    refine eqR (y := 34) (hL.rf (i := 25) rfl) ?_
    refine r_aload_n (pc := 12) dX11_needCharacters_12 rfl rfl ?_
    refine r_getR (pc := 13) dX11_needCharacters_13 (k9 := 3) CL_11 (by decide) (by decide) w_591 rfl (okO_of (N := 17) (hL.sh (i := 0) rfl (by decide) (by decide)) (by decide)) ?_
    refine eqR (y := 24) (hL.rf (i := 14) rfl) ?_
    refine r_aload_n (pc := 16) dX11_needCharacters_16 rfl rfl ?_
    refine r_getR (pc := 17) dX11_needCharacters_17 (k9 := 12) CL_11 (by decide) (by decide) w_600 rfl (okO_of (N := 17) (hL.sh (i := 0) rfl (by decide) (by decide)) (by decide)) ?_
    refine eqR (y := c) hL.cl.1 ?_
    refine c_VV0N (M := mX11_needCharacters) (pc := 20) (As := [vr 24, vr c]) dX11_needCharacters_20 K_X0_begin w_977 ⟨by decide, by decide⟩ (Nat.le_of_ble_eq_true rfl) rfl rfl (ci := 0) rfl rfl (by decide) (okO_of (N := 10) (hL.sh (i := 18) rfl (by decide) (by decide)) (by decide)) (h hL) (fun τ3 h8 => ?_) rfl
    replace hL := h8.1
    replace h := h8.2
    refine r_aload_n (pc := 23) dX11_needCharacters_23 rfl rfl ?_
    refine r_getR (pc := 24) dX11_needCharacters_24 (k9 := 6) CL_11 (by decide) (by decide) w_594 rfl (okO_of (N := 17) (hL.sh (i := 0) rfl (by decide) (by decide)) (by decide)) ?_
    refine eqR (y := 54) (hL.rf (i := 37) rfl) ?_
    refine r_aload_n (pc := 27) dX11_needCharacters_27 rfl rfl ?_
    refine r_getR (pc := 28) dX11_needCharacters_28 (k9 := 3) CL_11 (by decide) (by decide) w_591 rfl (okO_of (N := 17) (hL.sh (i := 0) rfl (by decide) (by decide)) (by decide)) ?_
    refine eqR (y := 24) (hL.rf (i := 14) rfl) ?_
    refine c_VV0N (M := mX11_needCharacters) (pc := 31) (As := [vr 24]) dX11_needCharacters_31 K_X8_begin w_1010 ⟨by decide, by decide⟩ (Nat.le_of_ble_eq_true rfl) rfl rfl (ci := 8) rfl rfl (by decide) (okO_of (N := 15) (hL.sh (i := 27) rfl (by decide) (by decide)) (by decide)) (h hL) (fun τ5 h8 => ?_) rfl
    replace hL := h8.1
    replace h := h8.2
    refine r_iconst (pc := 34) dX11_needCharacters_34 (inRk rfl) ?_
    refine r_istore_n (pc := 35) dX11_needCharacters_35 rfl (by decide) (l2 := [some (vr 16), some (vi 1)]) rfl ?_
    exact (h hL)
  · replace h := h.2 c9
    exact r_return (pc := 7) dX11_needCharacters_7 (by decide +kernel) rfl (h hL)
theorem B_X11_needCharacters_36 {g : Sg} {c t : Nat} (hL : Lay LC g c t σ) {x1 : Int} (h : (((gI σ 54 11) ≤ x1 → (Lay LC g c t σ → CC E mX0_take [vr 34, vr 56] σ (KV (fun τ2 => Lay LC g c t τ2 ∧ (Lay LC g c t τ2 → CC E mX3_build [vr 125, vr 34] τ2 (KV (fun τ4 => Lay LC g c t τ4 ∧ ∀ τ5 : Sg, τ5 = sI τ4 16 14 1 → (Lay LC g c t τ5 → Q (.inl none) τ5)) (fun _ _ => False)))) (fun _ _ => False)))) ∧ (¬ ((gI σ 54 11) ≤ x1) → (Lay LC g c t σ → CC E mX8_splitBy [vr 54, vi x1] σ (KV (fun τ7 => Lay LC g c t τ7 ∧ inR (x1 + 1) ∧ (Lay LC g c t τ7 → GG E mX11_needCharacters 36 [some (vr 16), some (vi (x1 + 1))] [] τ7 rc rs Q)) (fun _ _ => False)))))) : GG E mX11_needCharacters 36 [some (vr 16), some (vi x1)] [] σ rc rs Q := by
  refine r_iload_n (pc := 36) dX11_needCharacters_36 rfl rfl ?_
  refine r_aload_n (pc := 37) dX11_needCharacters_37 rfl rfl ?_
  refine r_getR (pc := 38) dX11_needCharacters_38 (k9 := 6) CL_11 (by decide) (by decide) w_594 rfl (okO_of (N := 17) (hL.sh (i := 0) rfl (by decide) (by decide)) (by decide)) ?_
  refine eqR (y := 54) (hL.rf (i := 37) rfl) ?_
  refine r_getI (pc := 41) dX11_needCharacters_41 (k9 := 11) CL_8 (by decide) (by decide) w_373 rfl (okO_of (N := 15) (hL.sh (i := 27) rfl (by decide) (by decide)) (by decide)) (fun _ => ?_)
  refine r_icmp_ge (pc := 44) (tgt := 61) dX11_needCharacters_44 (by decide) (fun c9 => ?_) (fun c9 => ?_)
  · replace h := h.1 c9
    refine r_aload_n (pc := 61) dX11_needCharacters_61 rfl rfl ?_
    refine r_getR (pc := 62) dX11_needCharacters_62 (k9 := 5) CL_11 (by decide) (by decide) w_593 rfl (okO_of (N := 17) (hL.sh (i := 0) rfl (by decide) (by decide)) (by decide)) ?_
    refine eqR (y := 34) (hL.rf (i := 25) rfl) ?_
    refine r_aload_n (pc := 65) dX11_needCharacters_65 rfl rfl ?_
    refine r_getR (pc := 66) dX11_needCharacters_66 (k9 := 6) CL_11 (by decide) (by decide) w_594 rfl (okO_of (N := 17) (hL.sh (i := 0) rfl (by decide) (by decide)) (by decide)) ?_
    refine eqR (y := 54) (hL.rf (i := 37) rfl) ?_
    refine r_getR (pc := 69) dX11_needCharacters_69 (k9 := 1) CL_8 (by decide) (by decide) w_362 rfl (okO_of (N := 15) (hL.sh (i := 27) rfl (by decide) (by decide)) (by decide)) ?_
    refine eqR (y := 56) (hL.rf (i := 27) rfl) ?_
    refine c_VV0N (M := mX11_needCharacters) (pc := 72) (As := [vr 56]) dX11_needCharacters_72 K_X0_take w_1072 ⟨by decide, by decide⟩ (Nat.le_of_ble_eq_true rfl) rfl rfl (ci := 0) rfl rfl (by decide) (okO_of (N := 10) (hL.sh (i := 18) rfl (by decide) (by decide)) (by decide)) (h hL) (fun τ2 h8 => ?_) rfl
    replace hL := h8.1
    replace h := h8.2
    refine r_aload_n (pc := 75) dX11_needCharacters_75 rfl rfl ?_
    refine r_getR (pc := 76) dX11_needCharacters_76 (k9 := 7) CL_11 (by decide) (by decide) w_595 rfl (okO_of (N := 17) (hL.sh (i := 0) rfl (by decide) (by decide)) (by decide)) ?_
    refine eqR (y := 125) (hL.rf (i := 40) rfl) ?_
    refine r_aload_n (pc := 79) dX11_needCharacters_79 rfl rfl ?_
    refine r_getR (pc := 80) dX11_needCharacters_80 (k9 := 5) CL_11 (by decide) (by decide) w_593 rfl (okO_of (N := 17) (hL.sh (i := 0) rfl (by decide) (by decide)) (by decide)) ?_
    refine eqR (y := 34) (hL.rf (i := 25) rfl) ?_
    refine c_VV0N (M := mX11_needCharacters) (pc := 83) (As := [vr 34]) dX11_needCharacters_83 K_X3_build w_1096 ⟨by decide, by decide⟩ (Nat.le_of_ble_eq_true rfl) rfl rfl (ci := 3) rfl rfl (by decide) (okO_of (N := 3) (hL.sh (i := 43) rfl (by decide) (by decide)) (by decide)) (h hL) (fun τ4 h8 => ?_) rfl
    replace hL := h8.1
    replace h := h8.2
    refine r_aload_n (pc := 86) dX11_needCharacters_86 rfl rfl ?_
    refine r_iconst (pc := 87) dX11_needCharacters_87 (inRk rfl) ?_
    refine r_putI (pc := 88) dX11_needCharacters_88 (k9 := 14) CL_11 (by decide) (by decide) w_602 rfl rfl (fun _ => by decide) (okO_of (N := 17) (hL.sh (i := 0) rfl (by decide) (by decide)) (by decide)) ?_
    refine nmS (fun τ5 e5 => ?_)
    replace h := h τ5 e5
    have hL := hL.wI e5 (by decide) (.inl (by decide))
    exact r_return (pc := 91) dX11_needCharacters_91 (by decide +kernel) rfl (h hL)
  · replace h := h.2 c9
    refine r_aload_n (pc := 47) dX11_needCharacters_47 rfl rfl ?_
    refine r_getR (pc := 48) dX11_needCharacters_48 (k9 := 6) CL_11 (by decide) (by decide) w_594 rfl (okO_of (N := 17) (hL.sh (i := 0) rfl (by decide) (by decide)) (by decide)) ?_
    refine eqR (y := 54) (hL.rf (i := 37) rfl) ?_
    refine r_iload_n (pc := 51) dX11_needCharacters_51 rfl rfl ?_
    refine c_VV0N (M := mX11_needCharacters) (pc := 52) (As := [vi x1]) dX11_needCharacters_52 K_X8_splitBy w_1020 ⟨by decide, by decide⟩ (Nat.le_of_ble_eq_true rfl) rfl rfl (ci := 8) rfl rfl (by decide) (okO_of (N := 15) (hL.sh (i := 27) rfl (by decide) (by decide)) (by decide)) (h hL) (fun τ7 h8 => ?_) rfl
    replace hL := h8.1
    replace h := h8.2
    obtain ⟨o8, h⟩ := h
    refine r_iinc (pc := 55) dX11_needCharacters_55 rfl (by decide) o8 (l2 := [some (vr 16), some (vi (x1 + 1))]) rfl ?_
    refine r_goto (pc := 58) (tgt := 36) dX11_needCharacters_58 (by decide) ?_
    exact (h hL)
theorem C_X11_needCharacters {a0 : Nat} (h : GG E mX11_needCharacters 0 [some (vr a0), none] [] σ 0 0 Q) : CC E mX11_needCharacters [vr a0] σ Q := CC.of (by decide +kernel) rfl (by decide +kernel) (fun h9 => nomatch h9) (Nat.le_of_ble_eq_true rfl) h
theorem dX11_needIndex_0 : decode cX11_needIndex 0 = .ok (.iload_n 1, 1) := by decide +kernel
theorem dX11_needIndex_1 : decode cX11_needIndex 1 = .ok (.ifCond .lt 8, 3) := by decide +kernel
theorem dX11_needIndex_4 : decode cX11_needIndex 4 = .ok (.iload_n 1, 1) := by decide +kernel
theorem dX11_needIndex_5 : decode cX11_needIndex 5 = .ok (.iload_n 2, 1) := by decide +kernel
theorem dX11_needIndex_6 : decode cX11_needIndex 6 = .ok (.if_icmp .lt 24, 3) := by decide +kernel
theorem dX11_needIndex_9 : decode cX11_needIndex 9 = .ok (.aload_n 0, 1) := by decide +kernel
theorem dX11_needIndex_10 : decode cX11_needIndex 10 = .ok (.getfield 87, 3) := by decide +kernel
theorem dX11_needIndex_13 : decode cX11_needIndex 13 = .ok (.iconst 0, 1) := by decide +kernel
theorem dX11_needIndex_14 : decode cX11_needIndex 14 = .ok (.dup2, 1) := by decide +kernel
theorem dX11_needIndex_15 : decode cX11_needIndex 15 = .ok (.iaload, 1) := by decide +kernel
theorem dX11_needIndex_16 : decode cX11_needIndex 16 = .ok (.iconst 1, 1) := by decide +kernel
theorem dX11_needIndex_17 : decode cX11_needIndex 17 = .ok (.iadd, 1) := by decide +kernel
theorem dX11_needIndex_18 : decode cX11_needIndex 18 = .ok (.iastore, 1) := by decide +kernel
theorem dX11_needIndex_19 : decode cX11_needIndex 19 = .ok (.new 362, 3) := by decide +kernel
theorem dX11_needIndex_22 : decode cX11_needIndex 22 = .ok (.dup, 1) := by decide +kernel
theorem dX11_needIndex_23 : decode cX11_needIndex 23 = .ok (.ldc_w 364, 3) := by decide +kernel
theorem dX11_needIndex_26 : decode cX11_needIndex 26 = .ok (.invokespecial 366, 3) := by decide +kernel
theorem dX11_needIndex_29 : decode cX11_needIndex 29 = .ok (.athrow, 1) := by decide +kernel
theorem dX11_needIndex_30 : decode cX11_needIndex 30 = .ok (.return_, 1) := by decide +kernel
theorem B_X11_needIndex_0 {g : Sg} {c t : Nat} (hL : Lay LC g c t σ) {x1 : Int} {x2 : Int} (h : ((x1 < 0 → inR ((gI σ 157 0) + 1) ∧ ∀ τ2 : Sg, τ2 = sI σ 157 0 ((gI σ 157 0) + 1) → (Lay LC g c t τ2 → 1 ≤ rc ∧ 6 ≤ rs ∧ ∀ d9, Q (.inr 0) (jk τ2 d9))) ∧ (¬ (x1 < 0) → ((x1 < x2 → (Lay LC g c t σ → Q (.inl none) σ)) ∧ (¬ (x1 < x2) → inR ((gI σ 157 0) + 1) ∧ ∀ τ4 : Sg, τ4 = sI σ 157 0 ((gI σ 157 0) + 1) → (Lay LC g c t τ4 → 1 ≤ rc ∧ 6 ≤ rs ∧ ∀ d9, Q (.inr 0) (jk τ4 d9))))))) : GG E mX11_needIndex 0 [some (vr 16), some (vi x1), some (vi x2)] [] σ rc rs Q := by
  refine r_iload_n (pc := 0) dX11_needIndex_0 rfl rfl ?_
  refine r_if_lt (pc := 1) (tgt := 9) dX11_needIndex_1 (by decide) (fun c9 => ?_) (fun c9 => ?_)
  · replace h := h.1 c9
    refine r_aload_n (pc := 9) dX11_needIndex_9 rfl rfl ?_
    refine r_getR (pc := 10) dX11_needIndex_10 (k9 := 11) CL_11 (by decide) (by decide) w_599 rfl (okO_of (N := 17) (hL.sh (i := 0) rfl (by decide) (by decide)) (by decide)) ?_
    refine eqR (y := 157) (hL.rf (i := 46) rfl) ?_
    refine r_iconst (pc := 13) dX11_needIndex_13 (inRk rfl) ?_
    refine r_dup2_11 (pc := 14) dX11_needIndex_14 (fun _ h9 => nomatch h9) (fun _ h9 => nomatch h9) ?_
    refine r_iaload (pc := 15) dX11_needIndex_15 (okA_of (c := 20) (n := 3) (hL.sh (i := 53) rfl (by decide) (by decide)) (by decide) (by decide)) ?_
    refine r_iconst (pc := 16) dX11_needIndex_16 (inRk rfl) ?_
    obtain ⟨o1, h⟩ := h
    refine r_iadd (pc := 17) dX11_needIndex_17 o1 ?_
    refine r_iastore (pc := 18) dX11_needIndex_18 (okB_of (c := 20) (n := 3) (hL.sh (i := 53) rfl (by decide) (by decide)) (by decide) (by decide)) ?_
    refine nmS (fun τ2 e2 => ?_)
    replace h := h τ2 e2
    have hL := hL.wI e2 (by decide) (.inl (by decide))
    replace h := h hL
    exact r_throwY (pc := 19) (y1 := "java/lang/RuntimeException") (names := ["java/lang/Exception"]) (rx := prog_30_method_4_code) (by decide +kernel) (by decide +kernel) (by decide +kernel) (by decide +kernel) (by decide +kernel) (by decide +kernel) rfl rfl dX11_needIndex_19 dX11_needIndex_22 dX11_needIndex_23 dX11_needIndex_26 dX11_needIndex_29 (by decide +kernel) (by decide +kernel) w_950 w_122 (List.mem_of_getElem? (i := 0) rfl) at_366 (by decide) (Nat.le_of_ble_eq_true rfl) h.1 h.2.1 h.2.2
  · replace h := h.2 c9
    refine r_iload_n (pc := 4) dX11_needIndex_4 rfl rfl ?_
    refine r_iload_n (pc := 5) dX11_needIndex_5 rfl rfl ?_
    refine r_icmp_lt (pc := 6) (tgt := 30) dX11_needIndex_6 (by decide) (fun c9 => ?_) (fun c9 => ?_)
    · replace h := h.1 c9
      exact r_return (pc := 30) dX11_needIndex_30 (by decide +kernel) rfl (h hL)
    · replace h := h.2 c9
      refine r_aload_n (pc := 9) dX11_needIndex_9 rfl rfl ?_
      refine r_getR (pc := 10) dX11_needIndex_10 (k9 := 11) CL_11 (by decide) (by decide) w_599 rfl (okO_of (N := 17) (hL.sh (i := 0) rfl (by decide) (by decide)) (by decide)) ?_
      refine eqR (y := 157) (hL.rf (i := 46) rfl) ?_
      refine r_iconst (pc := 13) dX11_needIndex_13 (inRk rfl) ?_
      refine r_dup2_11 (pc := 14) dX11_needIndex_14 (fun _ h9 => nomatch h9) (fun _ h9 => nomatch h9) ?_
      refine r_iaload (pc := 15) dX11_needIndex_15 (okA_of (c := 20) (n := 3) (hL.sh (i := 53) rfl (by decide) (by decide)) (by decide) (by decide)) ?_
      refine r_iconst (pc := 16) dX11_needIndex_16 (inRk rfl) ?_
      obtain ⟨o3, h⟩ := h
      refine r_iadd (pc := 17) dX11_needIndex_17 o3 ?_
      refine r_iastore (pc := 18) dX11_needIndex_18 (okB_of (c := 20) (n := 3) (hL.sh (i := 53) rfl (by decide) (by decide)) (by decide) (by decide)) ?_
      refine nmS (fun τ4 e4 => ?_)
      replace h := h τ4 e4
      have hL := hL.wI e4 (by decide) (.inl (by decide))
      replace h := h hL
      exact r_throwY (pc := 19) (y1 := "java/lang/RuntimeException") (names := ["java/lang/Exception"]) (rx := prog_30_method_4_code) (by decide +kernel) (by decide +kernel) (by decide +kernel) (by decide +kernel) (by decide +kernel) (by decide +kernel) rfl rfl dX11_needIndex_19 dX11_needIndex_22 dX11_needIndex_23 dX11_needIndex_26 dX11_needIndex_29 (by decide +kernel) (by decide +kernel) w_950 w_122 (List.mem_of_getElem? (i := 0) rfl) at_366 (by decide) (Nat.le_of_ble_eq_true rfl) h.1 h.2.1 h.2.2
theorem C_X11_needIndex {a0 : Nat} {x1 : Int} {x2 : Int} (h : GG E mX11_needIndex 0 [some (vr a0), some (vi x1), some (vi x2)] [] σ 1 6 Q) : CC E mX11_needIndex [vr a0, vi x1, vi x2] σ Q := CC.of (by decide +kernel) rfl (by decide +kernel) (fun h9 => nomatch h9) (Nat.le_of_ble_eq_true rfl) h
theorem dX11_of_0 : decode cX11_of 0 = .ok (.aload_n 0, 1) := by decide +kernel
theorem dX11_of_1 : decode cX11_of 1 = .ok (.iload_n 1, 1) := by decide +kernel
theorem dX11_of_2 : decode cX11_of 2 = .ok (.aload_n 0, 1) := by decide +kernel
theorem dX11_of_3 : decode cX11_of 3 = .ok (.getfield 35, 3) := by decide +kernel
theorem dX11_of_6 : decode cX11_of 6 = .ok (.getfield 208, 3) := by decide +kernel
theorem dX11_of_9 : decode cX11_of 9 = .ok (.invokevirtual 193, 3) := by decide +kernel
theorem dX11_of_12 : decode cX11_of 12 = .ok (.aload_n 0, 1) := by decide +kernel
theorem dX11_of_13 : decode cX11_of 13 = .ok (.iload_n 2, 1) := by decide +kernel
theorem dX11_of_14 : decode cX11_of 14 = .ok (.iconst 0, 1) := by decide +kernel
theorem dX11_of_15 : decode cX11_of 15 = .ok (.bipush 6, 2) := by decide +kernel
theorem dX11_of_17 : decode cX11_of 17 = .ok (.invokevirtual 128, 3) := by decide +kernel
theorem dX11_of_20 : decode cX11_of 20 = .ok (.iload_n 2, 1) := by decide +kernel
theorem dX11_of_21 : decode cX11_of 21 = .ok (.iconst 4, 1) := by decide +kernel
theorem dX11_of_22 : decode cX11_of 22 = .ok (.if_icmp .ne 7, 3) := by decide +kernel
theorem dX11_of_25 : decode cX11_of 25 = .ok (.aload_n 0, 1) := by decide +kernel
theorem dX11_of_26 : decode cX11_of 26 = .ok (.invokevirtual 204, 3) := by decide +kernel
theorem dX11_of_29 : decode cX11_of 29 = .ok (.aload_n 0, 1) := by decide +kernel
theorem dX11_of_30 : decode cX11_of 30 = .ok (.getfield 35, 3) := by decide +kernel
theorem dX11_of_33 : decode cX11_of 33 = .ok (.getfield 269, 3) := by decide +kernel
theorem dX11_of_36 : decode cX11_of 36 = .ok (.iload_n 1, 1) := by decide +kernel
theorem dX11_of_37 : decode cX11_of 37 = .ok (.invokestatic 243, 3) := by decide +kernel
theorem dX11_of_40 : decode cX11_of 40 = .ok (.istore_n 3, 1) := by decide +kernel
theorem dX11_of_41 : decode cX11_of 41 = .ok (.iload_n 2, 1) := by decide +kernel
theorem dX11_of_42 : decode cX11_of 42 = .ok (.tableswitch 100 0 5 #[38, 50, 52, 64, 73, 85], 38) := by decide +kernel
theorem dX11_of_80 : decode cX11_of 80 = .ok (.aload_n 0, 1) := by decide +kernel
theorem dX11_of_81 : decode cX11_of 81 = .ok (.getfield 35, 3) := by decide +kernel
theorem dX11_of_84 : decode cX11_of 84 = .ok (.getfield 272, 3) := by decide +kernel
theorem dX11_of_87 : decode cX11_of 87 = .ok (.iload_n 1, 1) := by decide +kernel
theorem dX11_of_88 : decode cX11_of 88 = .ok (.invokestatic 243, 3) := by decide +kernel
theorem dX11_of_91 : decode cX11_of 91 = .ok (.ireturn, 1) := by decide +kernel
theorem dX11_of_92 : decode cX11_of 92 = .ok (.iload_n 3, 1) := by decide +kernel
theorem dX11_of_93 : decode cX11_of 93 = .ok (.ireturn, 1) := by decide +kernel
theorem dX11_of_94 : decode cX11_of 94 = .ok (.aload_n 0, 1) := by decide +kernel
theorem dX11_of_95 : decode cX11_of 95 = .ok (.getfield 35, 3) := by decide +kernel
theorem dX11_of_98 : decode cX11_of 98 = .ok (.getfield 240, 3) := by decide +kernel
theorem dX11_of_101 : decode cX11_of 101 = .ok (.iload_n 3, 1) := by decide +kernel
theorem dX11_of_102 : decode cX11_of 102 = .ok (.invokestatic 243, 3) := by decide +kernel
theorem dX11_of_105 : decode cX11_of 105 = .ok (.ireturn, 1) := by decide +kernel
theorem dX11_of_106 : decode cX11_of 106 = .ok (.aload_n 0, 1) := by decide +kernel
theorem dX11_of_107 : decode cX11_of 107 = .ok (.getfield 35, 3) := by decide +kernel
theorem dX11_of_110 : decode cX11_of 110 = .ok (.iload_n 1, 1) := by decide +kernel
theorem dX11_of_111 : decode cX11_of 111 = .ok (.invokevirtual 275, 3) := by decide +kernel
theorem dX11_of_114 : decode cX11_of 114 = .ok (.ireturn, 1) := by decide +kernel
theorem dX11_of_115 : decode cX11_of 115 = .ok (.aload_n 0, 1) := by decide +kernel
theorem dX11_of_116 : decode cX11_of 116 = .ok (.getfield 49, 3) := by decide +kernel
theorem dX11_of_119 : decode cX11_of 119 = .ok (.getfield 279, 3) := by decide +kernel
theorem dX11_of_122 : decode cX11_of 122 = .ok (.iload_n 1, 1) := by decide +kernel
theorem dX11_of_123 : decode cX11_of 123 = .ok (.invokestatic 243, 3) := by decide +kernel
theorem dX11_of_126 : decode cX11_of 126 = .ok (.ireturn, 1) := by decide +kernel
theorem dX11_of_127 : decode cX11_of 127 = .ok (.aload_n 0, 1) := by decide +kernel
theorem dX11_of_128 : decode cX11_of 128 = .ok (.getfield 93, 3) := by decide +kernel
theorem dX11_of_131 : decode cX11_of 131 = .ok (.getfield 253, 3) := by decide +kernel
theorem dX11_of_134 : decode cX11_of 134 = .ok (.iload_n 3, 1) := by decide +kernel
theorem dX11_of_135 : decode cX11_of 135 = .ok (.bipush 8, 2) := by decide +kernel
theorem dX11_of_137 : decode cX11_of 137 = .ok (.imul, 1) := by decide +kernel
theorem dX11_of_138 : decode cX11_of 138 = .ok (.invokestatic 243, 3) := by decide +kernel
theorem dX11_of_141 : decode cX11_of 141 = .ok (.ireturn, 1) := by decide +kernel
theorem dX11_of_142 : decode cX11_of 142 = .ok (.aload_n 0, 1) := by decide +kernel
theorem dX11_of_143 : decode cX11_of 143 = .ok (.getfield 93, 3) := by decide +kernel
theorem dX11_of_146 : decode cX11_of 146 = .ok (.getfield 253, 3) := by decide +kernel
theorem dX11_of_149 : decode cX11_of 149 = .ok (.iload_n 3, 1) := by decide +kernel
theorem dX11_of_150 : decode cX11_of 150 = .ok (.bipush 8, 2) := by decide +kernel
theorem dX11_of_152 : decode cX11_of 152 = .ok (.imul, 1) := by decide +kernel
theorem dX11_of_153 : decode cX11_of 153 = .ok (.iconst 1, 1) := by decide +kernel
theorem dX11_of_154 : decode cX11_of 154 = .ok (.iadd, 1) := by decide +kernel
theorem dX11_of_155 : decode cX11_of 155 = .ok (.invokestatic 243, 3) := by decide +kernel
theorem dX11_of_158 : decode cX11_of 158 = .ok (.ireturn, 1) := by decide +kernel
theorem B_X11_of_0 {g : Sg} {c t : Nat} (hL : Lay LC g c t σ) {x1 : Int} {x2 : Int} (h : 1 ≤ rc ∧ 6 ≤ rs ∧ (Lay LC g c t σ → CC E mX11_needIndex [vr 16, vi x1, vi (gI σ 24 7)] σ (KV (fun τ4 => Lay LC g c t τ4 ∧ 1 ≤ rc - 1 ∧ 6 ≤ rs - 6 ∧ (Lay LC g c t τ4 → CC E mX11_needBetween [vr 16, vi x2, vi 0, vi 6] τ4 (KV (fun τ8 => Lay LC g c t τ8 ∧ ((x2 ≠ 4 → (Lay LC g c t τ8 → GG E mX11_of 29 [some (vr 16), some (vi x1), some (vi x2), none] [] τ8 (rc - 1 - 1) (rs - 6 - 6) Q)) ∧ (x2 = 4 → (Lay LC g c t τ8 → CC E mX11_needCharacters [vr 16] τ8 (KV (fun τ10 => Lay LC g c t τ10 ∧ (Lay LC g c t τ10 → GG E mX11_of 29 [some (vr 16), some (vi x1), some (vi x2), none] [] τ10 (rc - 1 - 1) (rs - 6 - 6) Q)) (fun _ _ => False)))))) (fun k9 τ9 => Q (.inr k9) τ9)))) (fun k9 τ9 => Q (.inr k9) τ9)))) : GG E mX11_of 0 [some (vr 16), some (vi x1), some (vi x2), none] [] σ rc rs Q := by
  refine r_aload_n (pc := 0) dX11_of_0 rfl rfl ?_
  refine r_iload_n (pc := 1) dX11_of_1 rfl rfl ?_
  refine r_aload_n (pc := 2) dX11_of_2 rfl rfl ?_
  refine r_getR (pc := 3) dX11_of_3 (k9 := 3) CL_11 (by decide) (by decide) w_591 rfl (okO_of (N := 17) (hL.sh (i := 0) rfl (by decide) (by decide)) (by decide)) ?_
  refine eqR (y := 24) (hL.rf (i := 14) rfl) ?_
  refine r_getI (pc := 6) dX11_of_6 (k9 := 7) CL_4 (by decide) (by decide) w_227 rfl (okO_of (N := 12) (hL.sh (i := 8) rfl (by decide) (by decide)) (by decide)) (fun _ => ?_)
  obtain ⟨o1, h⟩ := h
  obtain ⟨o2, h⟩ := h
  refine c_VVAX (M := mX11_of) (pc := 9) (As := [vi x1, vi (gI σ 24 7)]) dX11_of_9 K_X11_needIndex w_946 ⟨by decide, by decide⟩ (Nat.le_of_ble_eq_true rfl) o1 o2 (ci := 11) rfl rfl (by decide) (okO_of (N := 17) (hL.sh (i := 0) rfl (by decide) (by decide)) (by decide)) (h hL) (fun τ4 h8 => ?_) (fun k9 τ9 hk9 h8 => ?_) rfl
  · replace hL := h8.1
    replace h := h8.2
    refine r_aload_n (pc := 12) dX11_of_12 rfl rfl ?_
    refine r_iload_n (pc := 13) dX11_of_13 rfl rfl ?_
    refine r_iconst (pc := 14) dX11_of_14 (inRk rfl) ?_
    refine r_bipush (pc := 15) dX11_of_15 (by decide) ?_
    obtain ⟨o5, h⟩ := h
    obtain ⟨o6, h⟩ := h
    refine c_VVAX (M := mX11_of) (pc := 17) (As := [vi x2, vi 0, vi 6]) dX11_of_17 K_X11_needBetween w_707 ⟨by decide, by decide⟩ (Nat.le_of_ble_eq_true rfl) o5 o6 (ci := 11) rfl rfl (by decide) (okO_of (N := 17) (hL.sh (i := 0) rfl (by decide) (by decide)) (by decide)) (h hL) (fun τ8 h8 => ?_) (fun k9 τ9 hk9 h8 => ?_) rfl
    · replace hL := h8.1
      replace h := h8.2
      refine r_iload_n (pc := 20) dX11_of_20 rfl rfl ?_
      refine r_iconst (pc := 21) dX11_of_21 (inRk rfl) ?_
      refine r_icmp_ne (pc := 22) (tgt := 29) dX11_of_22 (by decide) (fun c9 => ?_) (fun c9 => ?_)
      · replace h := h.1 c9
        exact (h hL)
      · replace h := h.2 c9
        refine r_aload_n (pc := 25) dX11_of_25 rfl rfl ?_
        refine c_VV0N (M := mX11_of) (pc := 26) (As := []) dX11_of_26 K_X11_needCharacters w_973 ⟨by decide, by decide⟩ (Nat.le_of_ble_eq_true rfl) rfl rfl (ci := 11) rfl rfl (by decide) (okO_of (N := 17) (hL.sh (i := 0) rfl (by decide) (by decide)) (by decide)) (h hL) (fun τ10 h8 => ?_) rfl
        replace hL := h8.1
        replace h := h8.2
        exact (h hL)
    · exact TT.out (by decide +kernel) rfl h8
  · exact TT.out (by decide +kernel) rfl h8
theorem B_X11_of_29 {g : Sg} {c t : Nat} (hL : Lay LC g c t σ) {x1 : Int} {x2 : Int} (h : (Lay LC g c t σ → CC E mX11_at [vr 29, vi x1] σ (KI (fun r1 τ2 => Lay LC g c t τ2 ∧ (inR r1 → ((x2 = 0 → (Lay LC g c t τ2 → CC E mX11_at [vr 30, vi x1] τ2 (KI (fun r3 τ4 => Lay LC g c t τ4 ∧ (inR r3 → (Lay LC g c t τ4 → Q (.inl (some (vi r3))) τ4))) (fun _ _ => False)))) ∧ (x2 = 1 → (Lay LC g c t τ2 → Q (.inl (some (vi r1))) τ2)) ∧ (x2 = 2 → (Lay LC g c t τ2 → CC E mX11_at [vr 27, vi r1] τ2 (KI (fun r5 τ6 => Lay LC g c t τ6 ∧ (inR r5 → (Lay LC g c t τ6 → Q (.inl (some (vi r5))) τ6))) (fun _ _ => False)))) ∧ (x2 = 3 → (Lay LC g c t τ2 → CC E mX4_inverseClass [vr 24, vi x1] τ2 (KI (fun r7 τ8 => Lay LC g c t τ8 ∧ (inR r7 → (Lay LC g c t τ8 → Q (.inl (some (vi r7))) τ8))) (fun _ _ => False)))) ∧ (x2 = 4 → (Lay LC g c t τ2 → CC E mX11_at [vr 50, vi x1] τ2 (KI (fun r9 τ10 => Lay LC g c t τ10 ∧ (inR r9 → (Lay LC g c t τ10 → Q (.inl (some (vi r9))) τ10))) (fun _ _ => False)))) ∧ (x2 = 5 → inR (r1 * 8) ∧ (Lay LC g c t τ2 → CC E mX11_at [vr (c + 2), vi (r1 * 8)] τ2 (KI (fun r12 τ13 => Lay LC g c t τ13 ∧ (inR r12 → (Lay LC g c t τ13 → Q (.inl (some (vi r12))) τ13))) (fun _ _ => False)))) ∧ ((x2 < 0 ∨ 5 < x2) → inR (r1 * 8) ∧ inR ((r1 * 8) + 1) ∧ (Lay LC g c t τ2 → CC E mX11_at [vr (c + 2), vi ((r1 * 8) + 1)] τ2 (KI (fun r16 τ17 => Lay LC g c t τ17 ∧ (inR r16 → (Lay LC g c t τ17 → Q (.inl (some (vi r16))) τ17))) (fun _ _ => False))))))) (fun _ _ => False)))) : GG E mX11_of 29 [some (vr 16), some (vi x1), some (vi x2), none] [] σ rc rs Q := by
  refine r_aload_n (pc := 29) dX11_of_29 rfl rfl ?_
  refine r_getR (pc := 30) dX11_of_30 (k9 := 3) CL_11 (by decide) (by decide) w_591 rfl (okO_of (N := 17) (hL.sh (i := 0) rfl (by decide) (by decide)) (by decide)) ?_
  refine eqR (y := 24) (hL.rf (i := 14) rfl) ?_
  refine r_getR (pc := 33) dX11_of_33 (k9 := 4) CL_4 (by decide) (by decide) w_212 rfl (okO_of (N := 12) (hL.sh (i := 8) rfl (by decide) (by decide)) (by decide)) ?_
  refine eqR (y := 29) (hL.rf (i := 12) rfl) ?_
  refine r_iload_n (pc := 36) dX11_of_36 rfl rfl ?_
  refine c_SI0N (M := mX11_of) (pc := 37) (As := [vr 29, vi x1]) dX11_of_37 K_X11_at w_690 ⟨by decide, by decide⟩ (Nat.le_of_ble_eq_true rfl) rfl rfl (h hL) (fun r1 τ2 h8 hr9 => ?_) rfl
  replace hL := h8.1
  replace h := h8.2 hr9
  refine r_istore_n (pc := 40) dX11_of_40 rfl (by decide) (l2 := [some (vr 16), some (vi x1), some (vi x2), some (vi r1)]) rfl ?_
  refine r_iload_n (pc := 41) dX11_of_41 rfl rfl ?_
  have c8 : x2 = 0 ∨ x2 = 1 ∨ x2 = 2 ∨ x2 = 3 ∨ x2 = 4 ∨ x2 = 5 ∨ (x2 < 0 ∨ 5 < x2) := by omega
  rcases c8 with c9 | c9 | c9 | c9 | c9 | c9 | c9
  · replace h := h.1 c9
    refine r_tabE (pc := 42) (tgt := 80) dX11_of_42 c9 (by decide) (by decide) rfl (by decide) ?_
    refine r_aload_n (pc := 80) dX11_of_80 rfl rfl ?_
    refine r_getR (pc := 81) dX11_of_81 (k9 := 3) CL_11 (by decide) (by decide) w_591 rfl (okO_of (N := 17) (hL.sh (i := 0) rfl (by decide) (by decide)) (by decide)) ?_
    refine eqR (y := 24) (hL.rf (i := 14) rfl) ?_
    refine r_getR (pc := 84) dX11_of_84 (k9 := 5) CL_4 (by decide) (by decide) w_216 rfl (okO_of (N := 12) (hL.sh (i := 8) rfl (by decide) (by decide)) (by decide)) ?_
    refine eqR (y := 30) (hL.rf (i := 13) rfl) ?_
    refine r_iload_n (pc := 87) dX11_of_87 rfl rfl ?_
    refine c_SI0N (M := mX11_of) (pc := 88) (As := [vr 30, vi x1]) dX11_of_88 K_X11_at w_690 ⟨by decide, by decide⟩ (Nat.le_of_ble_eq_true rfl) rfl rfl (h hL) (fun r3 τ4 h8 hr9 => ?_) rfl
    replace hL := h8.1
    replace h := h8.2 hr9
    exact r_ireturn (pc := 91) (ty := .int) dX11_of_91 (by decide +kernel) rfl (nar_i _) (h hL)
  · replace h := h.2.1 c9
    refine r_tabE (pc := 42) (tgt := 92) dX11_of_42 c9 (by decide) (by decide) rfl (by decide) ?_
    refine r_iload_n (pc := 92) dX11_of_92 rfl rfl ?_
    exact r_ireturn (pc := 93) (ty := .int) dX11_of_93 (by decide +kernel) rfl (nar_i _) (h hL)
  · replace h := h.2.2.1 c9
    refine r_tabE (pc := 42) (tgt := 94) dX11_of_42 c9 (by decide) (by decide) rfl (by decide) ?_
    refine r_aload_n (pc := 94) dX11_of_94 rfl rfl ?_
    refine r_getR (pc := 95) dX11_of_95 (k9 := 3) CL_11 (by decide) (by decide) w_591 rfl (okO_of (N := 17) (hL.sh (i := 0) rfl (by decide) (by decide)) (by decide)) ?_
    refine eqR (y := 24) (hL.rf (i := 14) rfl) ?_
    refine r_getR (pc := 98) dX11_of_98 (k9 := 2) CL_4 (by decide) (by decide) w_204 rfl (okO_of (N := 12) (hL.sh (i := 8) rfl (by decide) (by decide)) (by decide)) ?_
    refine eqR (y := 27) (hL.rf (i := 10) rfl) ?_
    refine r_iload_n (pc := 101) dX11_of_101 rfl rfl ?_
    refine c_SI0N (M := mX11_of) (pc := 102) (As := [vr 27, vi r1]) dX11_of_102 K_X11_at w_690 ⟨by decide, by decide⟩ (Nat.le_of_ble_eq_true rfl) rfl rfl (h hL) (fun r5 τ6 h8 hr9 => ?_) rfl
    replace hL := h8.1
    replace h := h8.2 hr9
    exact r_ireturn (pc := 105) (ty := .int) dX11_of_105 (by decide +kernel) rfl (nar_i _) (h hL)
  · replace h := h.2.2.2.1 c9
    refine r_tabE (pc := 42) (tgt := 106) dX11_of_42 c9 (by decide) (by decide) rfl (by decide) ?_
    refine r_aload_n (pc := 106) dX11_of_106 rfl rfl ?_
    refine r_getR (pc := 107) dX11_of_107 (k9 := 3) CL_11 (by decide) (by decide) w_591 rfl (okO_of (N := 17) (hL.sh (i := 0) rfl (by decide) (by decide)) (by decide)) ?_
    refine eqR (y := 24) (hL.rf (i := 14) rfl) ?_
    refine r_iload_n (pc := 110) dX11_of_110 rfl rfl ?_
    refine c_VI0N (M := mX11_of) (pc := 111) (As := [vi x1]) dX11_of_111 K_X4_inverseClass w_1165 ⟨by decide, by decide⟩ (Nat.le_of_ble_eq_true rfl) rfl rfl (ci := 4) rfl rfl (by decide) (okO_of (N := 12) (hL.sh (i := 8) rfl (by decide) (by decide)) (by decide)) (h hL) (fun r7 τ8 h8 hr9 => ?_) rfl
    replace hL := h8.1
    replace h := h8.2 hr9
    exact r_ireturn (pc := 114) (ty := .int) dX11_of_114 (by decide +kernel) rfl (nar_i _) (h hL)
  · replace h := h.2.2.2.2.1 c9
    refine r_tabE (pc := 42) (tgt := 115) dX11_of_42 c9 (by decide) (by decide) rfl (by decide) ?_
    refine r_aload_n (pc := 115) dX11_of_115 rfl rfl ?_
    refine r_getR (pc := 116) dX11_of_116 (k9 := 5) CL_11 (by decide) (by decide) w_593 rfl (okO_of (N := 17) (hL.sh (i := 0) rfl (by decide) (by decide)) (by decide)) ?_
    refine eqR (y := 34) (hL.rf (i := 25) rfl) ?_
    refine r_getR (pc := 119) dX11_of_119 (k9 := 3) CL_0 (by decide) (by decide) w_322 rfl (okO_of (N := 10) (hL.sh (i := 18) rfl (by decide) (by decide)) (by decide)) ?_
    refine eqR (y := 50) (hL.rf (i := 21) rfl) ?_
    refine r_iload_n (pc := 122) dX11_of_122 rfl rfl ?_
    refine c_SI0N (M := mX11_of) (pc := 123) (As := [vr 50, vi x1]) dX11_of_123 K_X11_at w_690 ⟨by decide, by decide⟩ (Nat.le_of_ble_eq_true rfl) rfl rfl (h hL) (fun r9 τ10 h8 hr9 => ?_) rfl
    replace hL := h8.1
    replace h := h8.2 hr9
    exact r_ireturn (pc := 126) (ty := .int) dX11_of_126 (by decide +kernel) rfl (nar_i _) (h hL)
  · replace h := h.2.2.2.2.2.1 c9
    refine r_tabE (pc := 42) (tgt := 127) dX11_of_42 c9 (by decide) (by decide) rfl (by decide) ?_
    refine r_aload_n (pc := 127) dX11_of_127 rfl rfl ?_
    refine r_getR (pc := 128) dX11_of_128 (k9 := 12) CL_11 (by decide) (by decide) w_600 rfl (okO_of (N := 17) (hL.sh (i := 0) rfl (by decide) (by decide)) (by decide)) ?_
    refine eqR (y := c) hL.cl.1 ?_
    refine r_getR (pc := 131) dX11_of_131 (k9 := 1) CL_1 (by decide) (by decide) w_453 rfl (okO_of (ci := 1) (N := 12) (hL.isc.r hL).1 (hL.isc.r hL).2.1) ?_
    refine eqR (y := c + 2) (hL.isc.f hL (k := 1) (by decide)) ?_
    refine r_iload_n (pc := 134) dX11_of_134 rfl rfl ?_
    refine r_bipush (pc := 135) dX11_of_135 (by decide) ?_
    obtain ⟨o11, h⟩ := h
    refine r_imul (pc := 137) dX11_of_137 o11 ?_
    refine c_SI0N (M := mX11_of) (pc := 138) (As := [vr (c + 2), vi (r1 * 8)]) dX11_of_138 K_X11_at w_690 ⟨by decide, by decide⟩ (Nat.le_of_ble_eq_true rfl) rfl rfl (h hL) (fun r12 τ13 h8 hr9 => ?_) rfl
    replace hL := h8.1
    replace h := h8.2 hr9
    exact r_ireturn (pc := 141) (ty := .int) dX11_of_141 (by decide +kernel) rfl (nar_i _) (h hL)
  · replace h := h.2.2.2.2.2.2 c9
    refine r_tabOut (pc := 42) (tgt := 142) dX11_of_42 c9 (by decide) ?_
    refine r_aload_n (pc := 142) dX11_of_142 rfl rfl ?_
    refine r_getR (pc := 143) dX11_of_143 (k9 := 12) CL_11 (by decide) (by decide) w_600 rfl (okO_of (N := 17) (hL.sh (i := 0) rfl (by decide) (by decide)) (by decide)) ?_
    refine eqR (y := c) hL.cl.1 ?_
    refine r_getR (pc := 146) dX11_of_146 (k9 := 1) CL_1 (by decide) (by decide) w_453 rfl (okO_of (ci := 1) (N := 12) (hL.isc.r hL).1 (hL.isc.r hL).2.1) ?_
    refine eqR (y := c + 2) (hL.isc.f hL (k := 1) (by decide)) ?_
    refine r_iload_n (pc := 149) dX11_of_149 rfl rfl ?_
    refine r_bipush (pc := 150) dX11_of_150 (by decide) ?_
    obtain ⟨o14, h⟩ := h
    refine r_imul (pc := 152) dX11_of_152 o14 ?_
    refine r_iconst (pc := 153) dX11_of_153 (inRk rfl) ?_
    obtain ⟨o15, h⟩ := h
    refine r_iadd (pc := 154) dX11_of_154 o15 ?_
    refine c_SI0N (M := mX11_of) (pc := 155) (As := [vr (c + 2), vi ((r1 * 8) + 1)]) dX11_of_155 K_X11_at w_690 ⟨by decide, by decide⟩ (Nat.le_of_ble_eq_true rfl) rfl rfl (h hL) (fun r16 τ17 h8 hr9 => ?_) rfl
    replace hL := h8.1
    replace h := h8.2 hr9
    exact r_ireturn (pc := 158) (ty := .int) dX11_of_158 (by decide +kernel) rfl (nar_i _) (h hL)
theorem C_X11_of {a0 : Nat} {x1 : Int} {x2 : Int} (h : GG E mX11_of 0 [some (vr a0), some (vi x1), some (vi x2), none] [] σ 2 12 Q) : CC E mX11_of [vr a0, vi x1, vi x2] σ Q := CC.of (by decide +kernel) rfl (by decide +kernel) (fun h9 => nomatch h9) (Nat.le_of_ble_eq_true rfl) h
theorem dX11_ofOrder_0 : decode cX11_ofOrder 0 = .ok (.aload_n 0, 1) := by decide +kernel
theorem dX11_ofOrder_1 : decode cX11_ofOrder 1 = .ok (.iload_n 1, 1) := by decide +kernel
theorem dX11_ofOrder_2 : decode cX11_ofOrder 2 = .ok (.iconst 1, 1) := by decide +kernel
theorem dX11_ofOrder_3 : decode cX11_ofOrder 3 = .ok (.bipush 120, 2) := by decide +kernel
theorem dX11_ofOrder_5 : decode cX11_ofOrder 5 = .ok (.invokevirtual 128, 3) := by decide +kernel
theorem dX11_ofOrder_8 : decode cX11_ofOrder 8 = .ok (.aload_n 0, 1) := by decide +kernel
theorem dX11_ofOrder_9 : decode cX11_ofOrder 9 = .ok (.iload_n 2, 1) := by decide +kernel
theorem dX11_ofOrder_10 : decode cX11_ofOrder 10 = .ok (.iconst 0, 1) := by decide +kernel
theorem dX11_ofOrder_11 : decode cX11_ofOrder 11 = .ok (.iconst 1, 1) := by decide +kernel
theorem dX11_ofOrder_12 : decode cX11_ofOrder 12 = .ok (.invokevirtual 128, 3) := by decide +kernel
theorem dX11_ofOrder_15 : decode cX11_ofOrder 15 = .ok (.iload_n 2, 1) := by decide +kernel
theorem dX11_ofOrder_16 : decode cX11_ofOrder 16 = .ok (.ifCond .ne 14, 3) := by decide +kernel
theorem dX11_ofOrder_19 : decode cX11_ofOrder 19 = .ok (.aload_n 0, 1) := by decide +kernel
theorem dX11_ofOrder_20 : decode cX11_ofOrder 20 = .ok (.getfield 35, 3) := by decide +kernel
theorem dX11_ofOrder_23 : decode cX11_ofOrder 23 = .ok (.iload_n 1, 1) := by decide +kernel
theorem dX11_ofOrder_24 : decode cX11_ofOrder 24 = .ok (.invokevirtual 340, 3) := by decide +kernel
theorem dX11_ofOrder_27 : decode cX11_ofOrder 27 = .ok (.goto 11, 3) := by decide +kernel
theorem dX11_ofOrder_30 : decode cX11_ofOrder 30 = .ok (.aload_n 0, 1) := by decide +kernel
theorem dX11_ofOrder_31 : decode cX11_ofOrder 31 = .ok (.getfield 35, 3) := by decide +kernel
theorem dX11_ofOrder_34 : decode cX11_ofOrder 34 = .ok (.iload_n 1, 1) := by decide +kernel
theorem dX11_ofOrder_35 : decode cX11_ofOrder 35 = .ok (.invokevirtual 343, 3) := by decide +kernel
theorem dX11_ofOrder_38 : decode cX11_ofOrder 38 = .ok (.ireturn, 1) := by decide +kernel
theorem B_X11_ofOrder_0 {g : Sg} {c t : Nat} (hL : Lay LC g c t σ) {x1 : Int} {x2 : Int} (h : 1 ≤ rc ∧ 6 ≤ rs ∧ (Lay LC g c t σ → CC E mX11_needBetween [vr 16, vi x1, vi 1, vi 120] σ (KV (fun τ4 => Lay LC g c t τ4 ∧ 1 ≤ rc - 1 ∧ 6 ≤ rs - 6 ∧ (Lay LC g c t τ4 → CC E mX11_needBetween [vr 16, vi x2, vi 0, vi 1] τ4 (KV (fun τ8 => Lay LC g c t τ8 ∧ ((x2 ≠ 0 → (Lay LC g c t τ8 → CC E mX4_countOfOrder [vr 24, vi x1] τ8 (KI (fun r9 τ10 => Lay LC g c t τ10 ∧ (inR r9 → (Lay LC g c t τ10 → Q (.inl (some (vi r9))) τ10))) (fun _ _ => False)))) ∧ (x2 = 0 → (Lay LC g c t τ8 → CC E mX4_leastOfOrder [vr 24, vi x1] τ8 (KI (fun r11 τ12 => Lay LC g c t τ12 ∧ (inR r11 → (Lay LC g c t τ12 → Q (.inl (some (vi r11))) τ12))) (fun _ _ => False)))))) (fun k9 τ9 => Q (.inr k9) τ9)))) (fun k9 τ9 => Q (.inr k9) τ9)))) : GG E mX11_ofOrder 0 [some (vr 16), some (vi x1), some (vi x2)] [] σ rc rs Q := by
  refine r_aload_n (pc := 0) dX11_ofOrder_0 rfl rfl ?_
  refine r_iload_n (pc := 1) dX11_ofOrder_1 rfl rfl ?_
  refine r_iconst (pc := 2) dX11_ofOrder_2 (inRk rfl) ?_
  refine r_bipush (pc := 3) dX11_ofOrder_3 (by decide) ?_
  obtain ⟨o1, h⟩ := h
  obtain ⟨o2, h⟩ := h
  refine c_VVAX (M := mX11_ofOrder) (pc := 5) (As := [vi x1, vi 1, vi 120]) dX11_ofOrder_5 K_X11_needBetween w_707 ⟨by decide, by decide⟩ (Nat.le_of_ble_eq_true rfl) o1 o2 (ci := 11) rfl rfl (by decide) (okO_of (N := 17) (hL.sh (i := 0) rfl (by decide) (by decide)) (by decide)) (h hL) (fun τ4 h8 => ?_) (fun k9 τ9 hk9 h8 => ?_) rfl
  · replace hL := h8.1
    replace h := h8.2
    refine r_aload_n (pc := 8) dX11_ofOrder_8 rfl rfl ?_
    refine r_iload_n (pc := 9) dX11_ofOrder_9 rfl rfl ?_
    refine r_iconst (pc := 10) dX11_ofOrder_10 (inRk rfl) ?_
    refine r_iconst (pc := 11) dX11_ofOrder_11 (inRk rfl) ?_
    obtain ⟨o5, h⟩ := h
    obtain ⟨o6, h⟩ := h
    refine c_VVAX (M := mX11_ofOrder) (pc := 12) (As := [vi x2, vi 0, vi 1]) dX11_ofOrder_12 K_X11_needBetween w_707 ⟨by decide, by decide⟩ (Nat.le_of_ble_eq_true rfl) o5 o6 (ci := 11) rfl rfl (by decide) (okO_of (N := 17) (hL.sh (i := 0) rfl (by decide) (by decide)) (by decide)) (h hL) (fun τ8 h8 => ?_) (fun k9 τ9 hk9 h8 => ?_) rfl
    · replace hL := h8.1
      replace h := h8.2
      refine r_iload_n (pc := 15) dX11_ofOrder_15 rfl rfl ?_
      refine r_if_ne (pc := 16) (tgt := 30) dX11_ofOrder_16 (by decide) (fun c9 => ?_) (fun c9 => ?_)
      · replace h := h.1 c9
        refine r_aload_n (pc := 30) dX11_ofOrder_30 rfl rfl ?_
        refine r_getR (pc := 31) dX11_ofOrder_31 (k9 := 3) CL_11 (by decide) (by decide) w_591 rfl (okO_of (N := 17) (hL.sh (i := 0) rfl (by decide) (by decide)) (by decide)) ?_
        refine eqR (y := 24) (hL.rf (i := 14) rfl) ?_
        refine r_iload_n (pc := 34) dX11_ofOrder_34 rfl rfl ?_
        refine c_VI0N (M := mX11_ofOrder) (pc := 35) (As := [vi x1]) dX11_ofOrder_35 K_X4_countOfOrder w_1346 ⟨by decide, by decide⟩ (Nat.le_of_ble_eq_true rfl) rfl rfl (ci := 4) rfl rfl (by decide) (okO_of (N := 12) (hL.sh (i := 8) rfl (by decide) (by decide)) (by decide)) (h hL) (fun r9 τ10 h8 hr9 => ?_) rfl
        replace hL := h8.1
        replace h := h8.2 hr9
        exact r_ireturn (pc := 38) (ty := .int) dX11_ofOrder_38 (by decide +kernel) rfl (nar_i _) (h hL)
      · replace h := h.2 c9
        refine r_aload_n (pc := 19) dX11_ofOrder_19 rfl rfl ?_
        refine r_getR (pc := 20) dX11_ofOrder_20 (k9 := 3) CL_11 (by decide) (by decide) w_591 rfl (okO_of (N := 17) (hL.sh (i := 0) rfl (by decide) (by decide)) (by decide)) ?_
        refine eqR (y := 24) (hL.rf (i := 14) rfl) ?_
        refine r_iload_n (pc := 23) dX11_ofOrder_23 rfl rfl ?_
        refine c_VI0N (M := mX11_ofOrder) (pc := 24) (As := [vi x1]) dX11_ofOrder_24 K_X4_leastOfOrder w_1342 ⟨by decide, by decide⟩ (Nat.le_of_ble_eq_true rfl) rfl rfl (ci := 4) rfl rfl (by decide) (okO_of (N := 12) (hL.sh (i := 8) rfl (by decide) (by decide)) (by decide)) (h hL) (fun r11 τ12 h8 hr9 => ?_) rfl
        replace hL := h8.1
        replace h := h8.2 hr9
        refine r_goto (pc := 27) (tgt := 38) dX11_ofOrder_27 (by decide) ?_
        exact r_ireturn (pc := 38) (ty := .int) dX11_ofOrder_38 (by decide +kernel) rfl (nar_i _) (h hL)
    · exact TT.out (by decide +kernel) rfl h8
  · exact TT.out (by decide +kernel) rfl h8
theorem C_X11_ofOrder {a0 : Nat} {x1 : Int} {x2 : Int} (h : GG E mX11_ofOrder 0 [some (vr a0), some (vi x1), some (vi x2)] [] σ 2 12 Q) : CC E mX11_ofOrder [vr a0, vi x1, vi x2] σ Q := CC.of (by decide +kernel) rfl (by decide +kernel) (fun h9 => nomatch h9) (Nat.le_of_ble_eq_true rfl) h
theorem dX11_often_0 : decode cX11_often 0 = .ok (.aload_n 0, 1) := by decide +kernel
theorem dX11_often_1 : decode cX11_often 1 = .ok (.invokevirtual 204, 3) := by decide +kernel
theorem dX11_often_4 : decode cX11_often 4 = .ok (.aload_n 0, 1) := by decide +kernel
theorem dX11_often_5 : decode cX11_often 5 = .ok (.iload_n 1, 1) := by decide +kernel
theorem dX11_often_6 : decode cX11_often 6 = .ok (.aload_n 0, 1) := by decide +kernel
theorem dX11_often_7 : decode cX11_often 7 = .ok (.getfield 49, 3) := by decide +kernel
theorem dX11_often_10 : decode cX11_often 10 = .ok (.getfield 239, 3) := by decide +kernel
theorem dX11_often_13 : decode cX11_often 13 = .ok (.invokevirtual 193, 3) := by decide +kernel
theorem dX11_often_16 : decode cX11_often 16 = .ok (.aload_n 0, 1) := by decide +kernel
theorem dX11_often_17 : decode cX11_often 17 = .ok (.iload_n 2, 1) := by decide +kernel
theorem dX11_often_18 : decode cX11_often 18 = .ok (.aload_n 0, 1) := by decide +kernel
theorem dX11_often_19 : decode cX11_often 19 = .ok (.getfield 49, 3) := by decide +kernel
theorem dX11_often_22 : decode cX11_often 22 = .ok (.getfield 239, 3) := by decide +kernel
theorem dX11_often_25 : decode cX11_often 25 = .ok (.invokevirtual 193, 3) := by decide +kernel
theorem dX11_often_28 : decode cX11_often 28 = .ok (.aload_n 0, 1) := by decide +kernel
theorem dX11_often_29 : decode cX11_often 29 = .ok (.iload_n 3, 1) := by decide +kernel
theorem dX11_often_30 : decode cX11_often 30 = .ok (.aload_n 0, 1) := by decide +kernel
theorem dX11_often_31 : decode cX11_often 31 = .ok (.getfield 49, 3) := by decide +kernel
theorem dX11_often_34 : decode cX11_often 34 = .ok (.getfield 239, 3) := by decide +kernel
theorem dX11_often_37 : decode cX11_often 37 = .ok (.invokevirtual 193, 3) := by decide +kernel
theorem dX11_often_40 : decode cX11_often 40 = .ok (.aload_n 0, 1) := by decide +kernel
theorem dX11_often_41 : decode cX11_often 41 = .ok (.getfield 49, 3) := by decide +kernel
theorem dX11_often_44 : decode cX11_often 44 = .ok (.aload_n 0, 1) := by decide +kernel
theorem dX11_often_45 : decode cX11_often 45 = .ok (.getfield 49, 3) := by decide +kernel
theorem dX11_often_48 : decode cX11_often 48 = .ok (.getfield 292, 3) := by decide +kernel
theorem dX11_often_51 : decode cX11_often 51 = .ok (.iload_n 1, 1) := by decide +kernel
theorem dX11_often_52 : decode cX11_often 52 = .ok (.aaload, 1) := by decide +kernel
theorem dX11_often_53 : decode cX11_often 53 = .ok (.aload_n 0, 1) := by decide +kernel
theorem dX11_often_54 : decode cX11_often 54 = .ok (.getfield 49, 3) := by decide +kernel
theorem dX11_often_57 : decode cX11_often 57 = .ok (.getfield 292, 3) := by decide +kernel
theorem dX11_often_60 : decode cX11_often 60 = .ok (.iload_n 2, 1) := by decide +kernel
theorem dX11_often_61 : decode cX11_often 61 = .ok (.aaload, 1) := by decide +kernel
theorem dX11_often_62 : decode cX11_often 62 = .ok (.iload_n 3, 1) := by decide +kernel
theorem dX11_often_63 : decode cX11_often 63 = .ok (.invokevirtual 296, 3) := by decide +kernel
theorem dX11_often_66 : decode cX11_often 66 = .ok (.ireturn, 1) := by decide +kernel
theorem B_X11_often_0 {g : Sg} {c t : Nat} (hL : Lay LC g c t σ) {x1 : Int} {x2 : Int} {x3 : Int} (h : (Lay LC g c t σ → CC E mX11_needCharacters [vr 16] σ (KV (fun τ2 => Lay LC g c t τ2 ∧ 1 ≤ rc ∧ 6 ≤ rs ∧ (Lay LC g c t τ2 → CC E mX11_needIndex [vr 16, vi x1, vi (gI τ2 34 7)] τ2 (KV (fun τ6 => Lay LC g c t τ6 ∧ 1 ≤ rc - 1 ∧ 6 ≤ rs - 6 ∧ (Lay LC g c t τ6 → CC E mX11_needIndex [vr 16, vi x2, vi (gI τ6 34 7)] τ6 (KV (fun τ10 => Lay LC g c t τ10 ∧ 1 ≤ rc - 1 - 1 ∧ 6 ≤ rs - 6 - 6 ∧ (Lay LC g c t τ10 → CC E mX11_needIndex [vr 16, vi x3, vi (gI τ10 34 7)] τ10 (KV (fun τ14 => Lay LC g c t τ14 ∧ (0 ≤ x1 ∧ x1 < 12) ∧ ∀ b16 : Nat, b16 = gR τ14 36 x1.toNat → (37 ≤ b16 ∧ b16 < 49) → (0 ≤ x2 ∧ x2 < 12) ∧ ∀ b19 : Nat, b19 = gR τ14 36 x2.toNat → (37 ≤ b19 ∧ b19 < 49) → (Lay LC g c t τ14 → CC E mX0_inProduct [vr 34, vr b16, vr b19, vi x3] τ14 (KI (fun r21 τ22 => Lay LC g c t τ22 ∧ (inR r21 → (Lay LC g c t τ22 → Q (.inl (some (vi r21))) τ22))) (fun _ _ => False)))) (fun k9 τ9 => Q (.inr k9) τ9)))) (fun k9 τ9 => Q (.inr k9) τ9)))) (fun k9 τ9 => Q (.inr k9) τ9)))) (fun _ _ => False)))) : GG E mX11_often 0 [some (vr 16), some (vi x1), some (vi x2), some (vi x3)] [] σ rc rs Q := by
  refine r_aload_n (pc := 0) dX11_often_0 rfl rfl ?_
  refine c_VV0N (M := mX11_often) (pc := 1) (As := []) dX11_often_1 K_X11_needCharacters w_973 ⟨by decide, by decide⟩ (Nat.le_of_ble_eq_true rfl) rfl rfl (ci := 11) rfl rfl (by decide) (okO_of (N := 17) (hL.sh (i := 0) rfl (by decide) (by decide)) (by decide)) (h hL) (fun τ2 h8 => ?_) rfl
  replace hL := h8.1
  replace h := h8.2
  refine r_aload_n (pc := 4) dX11_often_4 rfl rfl ?_
  refine r_iload_n (pc := 5) dX11_often_5 rfl rfl ?_
  refine r_aload_n (pc := 6) dX11_often_6 rfl rfl ?_
  refine r_getR (pc := 7) dX11_often_7 (k9 := 5) CL_11 (by decide) (by decide) w_593 rfl (okO_of (N := 17) (hL.sh (i := 0) rfl (by decide) (by decide)) (by decide)) ?_
  refine eqR (y := 34) (hL.rf (i := 25) rfl) ?_
  refine r_getI (pc := 10) dX11_often_10 (k9 := 7) CL_0 (by decide) (by decide) w_329 rfl (okO_of (N := 10) (hL.sh (i := 18) rfl (by decide) (by decide)) (by decide)) (fun _ => ?_)
  obtain ⟨o3, h⟩ := h
  obtain ⟨o4, h⟩ := h
  refine c_VVAX (M := mX11_often) (pc := 13) (As := [vi x1, vi (gI τ2 34 7)]) dX11_often_13 K_X11_needIndex w_946 ⟨by decide, by decide⟩ (Nat.le_of_ble_eq_true rfl) o3 o4 (ci := 11) rfl rfl (by decide) (okO_of (N := 17) (hL.sh (i := 0) rfl (by decide) (by decide)) (by decide)) (h hL) (fun τ6 h8 => ?_) (fun k9 τ9 hk9 h8 => ?_) rfl
  · replace hL := h8.1
    replace h := h8.2
    refine r_aload_n (pc := 16) dX11_often_16 rfl rfl ?_
    refine r_iload_n (pc := 17) dX11_often_17 rfl rfl ?_
    refine r_aload_n (pc := 18) dX11_often_18 rfl rfl ?_
    refine r_getR (pc := 19) dX11_often_19 (k9 := 5) CL_11 (by decide) (by decide) w_593 rfl (okO_of (N := 17) (hL.sh (i := 0) rfl (by decide) (by decide)) (by decide)) ?_
    refine eqR (y := 34) (hL.rf (i := 25) rfl) ?_
    refine r_getI (pc := 22) dX11_often_22 (k9 := 7) CL_0 (by decide) (by decide) w_329 rfl (okO_of (N := 10) (hL.sh (i := 18) rfl (by decide) (by decide)) (by decide)) (fun _ => ?_)
    obtain ⟨o7, h⟩ := h
    obtain ⟨o8, h⟩ := h
    refine c_VVAX (M := mX11_often) (pc := 25) (As := [vi x2, vi (gI τ6 34 7)]) dX11_often_25 K_X11_needIndex w_946 ⟨by decide, by decide⟩ (Nat.le_of_ble_eq_true rfl) o7 o8 (ci := 11) rfl rfl (by decide) (okO_of (N := 17) (hL.sh (i := 0) rfl (by decide) (by decide)) (by decide)) (h hL) (fun τ10 h8 => ?_) (fun k9 τ9 hk9 h8 => ?_) rfl
    · replace hL := h8.1
      replace h := h8.2
      refine r_aload_n (pc := 28) dX11_often_28 rfl rfl ?_
      refine r_iload_n (pc := 29) dX11_often_29 rfl rfl ?_
      refine r_aload_n (pc := 30) dX11_often_30 rfl rfl ?_
      refine r_getR (pc := 31) dX11_often_31 (k9 := 5) CL_11 (by decide) (by decide) w_593 rfl (okO_of (N := 17) (hL.sh (i := 0) rfl (by decide) (by decide)) (by decide)) ?_
      refine eqR (y := 34) (hL.rf (i := 25) rfl) ?_
      refine r_getI (pc := 34) dX11_often_34 (k9 := 7) CL_0 (by decide) (by decide) w_329 rfl (okO_of (N := 10) (hL.sh (i := 18) rfl (by decide) (by decide)) (by decide)) (fun _ => ?_)
      obtain ⟨o11, h⟩ := h
      obtain ⟨o12, h⟩ := h
      refine c_VVAX (M := mX11_often) (pc := 37) (As := [vi x3, vi (gI τ10 34 7)]) dX11_often_37 K_X11_needIndex w_946 ⟨by decide, by decide⟩ (Nat.le_of_ble_eq_true rfl) o11 o12 (ci := 11) rfl rfl (by decide) (okO_of (N := 17) (hL.sh (i := 0) rfl (by decide) (by decide)) (by decide)) (h hL) (fun τ14 h8 => ?_) (fun k9 τ9 hk9 h8 => ?_) rfl
      · replace hL := h8.1
        replace h := h8.2
        refine r_aload_n (pc := 40) dX11_often_40 rfl rfl ?_
        refine r_getR (pc := 41) dX11_often_41 (k9 := 5) CL_11 (by decide) (by decide) w_593 rfl (okO_of (N := 17) (hL.sh (i := 0) rfl (by decide) (by decide)) (by decide)) ?_
        refine eqR (y := 34) (hL.rf (i := 25) rfl) ?_
        refine r_aload_n (pc := 44) dX11_often_44 rfl rfl ?_
        refine r_getR (pc := 45) dX11_often_45 (k9 := 5) CL_11 (by decide) (by decide) w_593 rfl (okO_of (N := 17) (hL.sh (i := 0) rfl (by decide) (by decide)) (by decide)) ?_
        refine eqR (y := 34) (hL.rf (i := 25) rfl) ?_
        refine r_getR (pc := 48) dX11_often_48 (k9 := 1) CL_0 (by decide) (by decide) w_316 rfl (okO_of (N := 10) (hL.sh (i := 18) rfl (by decide) (by decide)) (by decide)) ?_
        refine eqR (y := 36) (hL.rf (i := 19) rfl) ?_
        refine r_iload_n (pc := 51) dX11_often_51 rfl rfl ?_
        obtain ⟨o15, h⟩ := h
        refine r_aaload (pc := 52) dX11_often_52 (okB_of (c := 24) (n := 12) (hL.sh (i := 20) rfl (by decide) (by decide)) (by decide) o15) ?_
        refine nmR (fun b16 e9 => ?_)
        have q17 : (37 ≤ b16 ∧ b16 < 49) := e9 ▸ hL.rsw (i := 0) rfl (rowC o15 (by decide))
        replace h := h b16 e9 q17
        refine r_aload_n (pc := 53) dX11_often_53 rfl rfl ?_
        refine r_getR (pc := 54) dX11_often_54 (k9 := 5) CL_11 (by decide) (by decide) w_593 rfl (okO_of (N := 17) (hL.sh (i := 0) rfl (by decide) (by decide)) (by decide)) ?_
        refine eqR (y := 34) (hL.rf (i := 25) rfl) ?_
        refine r_getR (pc := 57) dX11_often_57 (k9 := 1) CL_0 (by decide) (by decide) w_316 rfl (okO_of (N := 10) (hL.sh (i := 18) rfl (by decide) (by decide)) (by decide)) ?_
        refine eqR (y := 36) (hL.rf (i := 19) rfl) ?_
        refine r_iload_n (pc := 60) dX11_often_60 rfl rfl ?_
        obtain ⟨o18, h⟩ := h
        refine r_aaload (pc := 61) dX11_often_61 (okB_of (c := 24) (n := 12) (hL.sh (i := 20) rfl (by decide) (by decide)) (by decide) o18) ?_
        refine nmR (fun b19 e9 => ?_)
        have q20 : (37 ≤ b19 ∧ b19 < 49) := e9 ▸ hL.rsw (i := 0) rfl (rowC o18 (by decide))
        replace h := h b19 e9 q20
        refine r_iload_n (pc := 62) dX11_often_62 rfl rfl ?_
        refine c_VI0N (M := mX11_often) (pc := 63) (As := [vr b16, vr b19, vi x3]) dX11_often_63 K_X0_inProduct w_1210 ⟨by decide, by decide⟩ (Nat.le_of_ble_eq_true rfl) rfl rfl (ci := 0) rfl rfl (by decide) (okO_of (N := 10) (hL.sh (i := 18) rfl (by decide) (by decide)) (by decide)) (h hL) (fun r21 τ22 h8 hr9 => ?_) rfl
        replace hL := h8.1
        replace h := h8.2 hr9
        exact r_ireturn (pc := 66) (ty := .int) dX11_often_66 (by decide +kernel) rfl (nar_i _) (h hL)
      · exact TT.out (by decide +kernel) rfl h8
    · exact TT.out (by decide +kernel) rfl h8
  · exact TT.out (by decide +kernel) rfl h8
theorem C_X11_often {a0 : Nat} {x1 : Int} {x2 : Int} {x3 : Int} (h : GG E mX11_often 0 [some (vr a0), some (vi x1), some (vi x2), some (vi x3)] [] σ 3 18 Q) : CC E mX11_often [vr a0, vi x1, vi x2, vi x3] σ Q := CC.of (by decide +kernel) rfl (by decide +kernel) (fun h9 => nomatch h9) (Nat.le_of_ble_eq_true rfl) h
theorem dX11_opposite_0 : decode cX11_opposite 0 = .ok (.aload_n 0, 1) := by decide +kernel
theorem dX11_opposite_1 : decode cX11_opposite 1 = .ok (.invokevirtual 204, 3) := by decide +kernel
theorem dX11_opposite_4 : decode cX11_opposite 4 = .ok (.aload_n 0, 1) := by decide +kernel
theorem dX11_opposite_5 : decode cX11_opposite 5 = .ok (.iload_n 1, 1) := by decide +kernel
theorem dX11_opposite_6 : decode cX11_opposite 6 = .ok (.aload_n 0, 1) := by decide +kernel
theorem dX11_opposite_7 : decode cX11_opposite 7 = .ok (.getfield 49, 3) := by decide +kernel
theorem dX11_opposite_10 : decode cX11_opposite 10 = .ok (.getfield 239, 3) := by decide +kernel
theorem dX11_opposite_13 : decode cX11_opposite 13 = .ok (.invokevirtual 193, 3) := by decide +kernel
theorem dX11_opposite_16 : decode cX11_opposite 16 = .ok (.aload_n 0, 1) := by decide +kernel
theorem dX11_opposite_17 : decode cX11_opposite 17 = .ok (.getfield 49, 3) := by decide +kernel
theorem dX11_opposite_20 : decode cX11_opposite 20 = .ok (.iload_n 1, 1) := by decide +kernel
theorem dX11_opposite_21 : decode cX11_opposite 21 = .ok (.invokevirtual 300, 3) := by decide +kernel
theorem dX11_opposite_24 : decode cX11_opposite 24 = .ok (.ireturn, 1) := by decide +kernel
theorem B_X11_opposite_0 {g : Sg} {c t : Nat} (hL : Lay LC g c t σ) {x1 : Int} (h : (Lay LC g c t σ → CC E mX11_needCharacters [vr 16] σ (KV (fun τ2 => Lay LC g c t τ2 ∧ 1 ≤ rc ∧ 6 ≤ rs ∧ (Lay LC g c t τ2 → CC E mX11_needIndex [vr 16, vi x1, vi (gI τ2 34 7)] τ2 (KV (fun τ6 => Lay LC g c t τ6 ∧ (Lay LC g c t τ6 → CC E mX0_oppositeOf [vr 34, vi x1] τ6 (KI (fun r7 τ8 => Lay LC g c t τ8 ∧ (inR r7 → (Lay LC g c t τ8 → Q (.inl (some (vi r7))) τ8))) (fun _ _ => False)))) (fun k9 τ9 => Q (.inr k9) τ9)))) (fun _ _ => False)))) : GG E mX11_opposite 0 [some (vr 16), some (vi x1)] [] σ rc rs Q := by
  refine r_aload_n (pc := 0) dX11_opposite_0 rfl rfl ?_
  refine c_VV0N (M := mX11_opposite) (pc := 1) (As := []) dX11_opposite_1 K_X11_needCharacters w_973 ⟨by decide, by decide⟩ (Nat.le_of_ble_eq_true rfl) rfl rfl (ci := 11) rfl rfl (by decide) (okO_of (N := 17) (hL.sh (i := 0) rfl (by decide) (by decide)) (by decide)) (h hL) (fun τ2 h8 => ?_) rfl
  replace hL := h8.1
  replace h := h8.2
  refine r_aload_n (pc := 4) dX11_opposite_4 rfl rfl ?_
  refine r_iload_n (pc := 5) dX11_opposite_5 rfl rfl ?_
  refine r_aload_n (pc := 6) dX11_opposite_6 rfl rfl ?_
  refine r_getR (pc := 7) dX11_opposite_7 (k9 := 5) CL_11 (by decide) (by decide) w_593 rfl (okO_of (N := 17) (hL.sh (i := 0) rfl (by decide) (by decide)) (by decide)) ?_
  refine eqR (y := 34) (hL.rf (i := 25) rfl) ?_
  refine r_getI (pc := 10) dX11_opposite_10 (k9 := 7) CL_0 (by decide) (by decide) w_329 rfl (okO_of (N := 10) (hL.sh (i := 18) rfl (by decide) (by decide)) (by decide)) (fun _ => ?_)
  obtain ⟨o3, h⟩ := h
  obtain ⟨o4, h⟩ := h
  refine c_VVAX (M := mX11_opposite) (pc := 13) (As := [vi x1, vi (gI τ2 34 7)]) dX11_opposite_13 K_X11_needIndex w_946 ⟨by decide, by decide⟩ (Nat.le_of_ble_eq_true rfl) o3 o4 (ci := 11) rfl rfl (by decide) (okO_of (N := 17) (hL.sh (i := 0) rfl (by decide) (by decide)) (by decide)) (h hL) (fun τ6 h8 => ?_) (fun k9 τ9 hk9 h8 => ?_) rfl
  · replace hL := h8.1
    replace h := h8.2
    refine r_aload_n (pc := 16) dX11_opposite_16 rfl rfl ?_
    refine r_getR (pc := 17) dX11_opposite_17 (k9 := 5) CL_11 (by decide) (by decide) w_593 rfl (okO_of (N := 17) (hL.sh (i := 0) rfl (by decide) (by decide)) (by decide)) ?_
    refine eqR (y := 34) (hL.rf (i := 25) rfl) ?_
    refine r_iload_n (pc := 20) dX11_opposite_20 rfl rfl ?_
    refine c_VI0N (M := mX11_opposite) (pc := 21) (As := [vi x1]) dX11_opposite_21 K_X0_oppositeOf w_1218 ⟨by decide, by decide⟩ (Nat.le_of_ble_eq_true rfl) rfl rfl (ci := 0) rfl rfl (by decide) (okO_of (N := 10) (hL.sh (i := 18) rfl (by decide) (by decide)) (by decide)) (h hL) (fun r7 τ8 h8 hr9 => ?_) rfl
    replace hL := h8.1
    replace h := h8.2 hr9
    exact r_ireturn (pc := 24) (ty := .int) dX11_opposite_24 (by decide +kernel) rfl (nar_i _) (h hL)
  · exact TT.out (by decide +kernel) rfl h8
theorem C_X11_opposite {a0 : Nat} {x1 : Int} (h : GG E mX11_opposite 0 [some (vr a0), some (vi x1)] [] σ 1 6 Q) : CC E mX11_opposite [vr a0, vi x1] σ Q := CC.of (by decide +kernel) rfl (by decide +kernel) (fun h9 => nomatch h9) (Nat.le_of_ble_eq_true rfl) h
theorem dX11_power_0 : decode cX11_power 0 = .ok (.aload_n 0, 1) := by decide +kernel
theorem dX11_power_1 : decode cX11_power 1 = .ok (.iload_n 1, 1) := by decide +kernel
theorem dX11_power_2 : decode cX11_power 2 = .ok (.aload_n 0, 1) := by decide +kernel
theorem dX11_power_3 : decode cX11_power 3 = .ok (.getfield 35, 3) := by decide +kernel
theorem dX11_power_6 : decode cX11_power 6 = .ok (.getfield 207, 3) := by decide +kernel
theorem dX11_power_9 : decode cX11_power 9 = .ok (.invokevirtual 193, 3) := by decide +kernel
theorem dX11_power_12 : decode cX11_power 12 = .ok (.aload_n 0, 1) := by decide +kernel
theorem dX11_power_13 : decode cX11_power 13 = .ok (.getfield 35, 3) := by decide +kernel
theorem dX11_power_16 : decode cX11_power 16 = .ok (.getfield 240, 3) := by decide +kernel
theorem dX11_power_19 : decode cX11_power 19 = .ok (.iload_n 1, 1) := by decide +kernel
theorem dX11_power_20 : decode cX11_power 20 = .ok (.invokestatic 243, 3) := by decide +kernel
theorem dX11_power_23 : decode cX11_power 23 = .ok (.istore_n 3, 1) := by decide +kernel
theorem dX11_power_24 : decode cX11_power 24 = .ok (.iload_n 3, 1) := by decide +kernel
theorem dX11_power_25 : decode cX11_power 25 = .ok (.iconst 1, 1) := by decide +kernel
theorem dX11_power_26 : decode cX11_power 26 = .ok (.if_icmp .ge 7, 3) := by decide +kernel
theorem dX11_power_29 : decode cX11_power 29 = .ok (.iconst 0, 1) := by decide +kernel
theorem dX11_power_30 : decode cX11_power 30 = .ok (.goto 8, 3) := by decide +kernel
theorem dX11_power_33 : decode cX11_power 33 = .ok (.iload_n 2, 1) := by decide +kernel
theorem dX11_power_34 : decode cX11_power 34 = .ok (.iload_n 3, 1) := by decide +kernel
theorem dX11_power_35 : decode cX11_power 35 = .ok (.invokestatic 264, 3) := by decide +kernel
theorem dX11_power_38 : decode cX11_power 38 = .ok (.istore 4, 2) := by decide +kernel
theorem dX11_power_40 : decode cX11_power 40 = .ok (.iconst 0, 1) := by decide +kernel
theorem dX11_power_41 : decode cX11_power 41 = .ok (.istore 5, 2) := by decide +kernel
theorem dX11_power_43 : decode cX11_power 43 = .ok (.iconst 0, 1) := by decide +kernel
theorem dX11_power_44 : decode cX11_power 44 = .ok (.istore 6, 2) := by decide +kernel
theorem dX11_power_46 : decode cX11_power 46 = .ok (.iload 6, 2) := by decide +kernel
theorem dX11_power_48 : decode cX11_power 48 = .ok (.iload 4, 2) := by decide +kernel
theorem dX11_power_50 : decode cX11_power 50 = .ok (.if_icmp .ge 21, 3) := by decide +kernel
theorem dX11_power_53 : decode cX11_power 53 = .ok (.aload_n 0, 1) := by decide +kernel
theorem dX11_power_54 : decode cX11_power 54 = .ok (.getfield 35, 3) := by decide +kernel
theorem dX11_power_57 : decode cX11_power 57 = .ok (.iload 5, 2) := by decide +kernel
theorem dX11_power_59 : decode cX11_power 59 = .ok (.iload_n 1, 1) := by decide +kernel
theorem dX11_power_60 : decode cX11_power 60 = .ok (.invokevirtual 260, 3) := by decide +kernel
theorem dX11_power_63 : decode cX11_power 63 = .ok (.istore 5, 2) := by decide +kernel
theorem dX11_power_65 : decode cX11_power 65 = .ok (.iinc 6 1, 3) := by decide +kernel
theorem dX11_power_68 : decode cX11_power 68 = .ok (.goto (-22), 3) := by decide +kernel
theorem dX11_power_71 : decode cX11_power 71 = .ok (.iload 5, 2) := by decide +kernel
theorem dX11_power_73 : decode cX11_power 73 = .ok (.ireturn, 1) := by decide +kernel
theorem B_X11_power_0 {g : Sg} {c t : Nat} (hL : Lay LC g c t σ) {x1 : Int} {x2 : Int} (h : 1 ≤ rc ∧ 6 ≤ rs ∧ (Lay LC g c t σ → CC E mX11_needIndex [vr 16, vi x1, vi (gI σ 24 6)] σ (KV (fun τ4 => Lay LC g c t τ4 ∧ (Lay LC g c t τ4 → CC E mX11_at [vr 27, vi x1] τ4 (KI (fun r5 τ6 => Lay LC g c t τ6 ∧ (inR r5 → ((1 ≤ r5 → (Lay LC g c t τ6 → CC E mJ9_floorMod_7cf53 [vi x2, vi r5] τ6 (KI (fun r7 τ8 => Lay LC g c t τ8 ∧ (inR r7 → (Lay LC g c t τ8 → GG E mX11_power 46 [some (vr 16), some (vi x1), none, none, some (vi r7), some (vi 0), some (vi 0)] [] τ8 (rc - 1) (rs - 6) Q))) (fun _ _ => False)))) ∧ (¬ (1 ≤ r5) → (Lay LC g c t τ6 → GG E mX11_power 46 [some (vr 16), some (vi x1), none, none, some (vi 0), some (vi 0), some (vi 0)] [] τ6 (rc - 1) (rs - 6) Q))))) (fun _ _ => False)))) (fun k9 τ9 => Q (.inr k9) τ9)))) : GG E mX11_power 0 [some (vr 16), some (vi x1), some (vi x2), none, none, none, none] [] σ rc rs Q := by
  refine r_aload_n (pc := 0) dX11_power_0 rfl rfl ?_
  refine r_iload_n (pc := 1) dX11_power_1 rfl rfl ?_
  refine r_aload_n (pc := 2) dX11_power_2 rfl rfl ?_
  refine r_getR (pc := 3) dX11_power_3 (k9 := 3) CL_11 (by decide) (by decide) w_591 rfl (okO_of (N := 17) (hL.sh (i := 0) rfl (by decide) (by decide)) (by decide)) ?_
  refine eqR (y := 24) (hL.rf (i := 14) rfl) ?_
  refine r_getI (pc := 6) dX11_power_6 (k9 := 6) CL_4 (by decide) (by decide) w_222 rfl (okO_of (N := 12) (hL.sh (i := 8) rfl (by decide) (by decide)) (by decide)) (fun _ => ?_)
  obtain ⟨o1, h⟩ := h
  obtain ⟨o2, h⟩ := h
  refine c_VVAX (M := mX11_power) (pc := 9) (As := [vi x1, vi (gI σ 24 6)]) dX11_power_9 K_X11_needIndex w_946 ⟨by decide, by decide⟩ (Nat.le_of_ble_eq_true rfl) o1 o2 (ci := 11) rfl rfl (by decide) (okO_of (N := 17) (hL.sh (i := 0) rfl (by decide) (by decide)) (by decide)) (h hL) (fun τ4 h8 => ?_) (fun k9 τ9 hk9 h8 => ?_) rfl
  · replace hL := h8.1
    replace h := h8.2
    refine r_aload_n (pc := 12) dX11_power_12 rfl rfl ?_
    refine r_getR (pc := 13) dX11_power_13 (k9 := 3) CL_11 (by decide) (by decide) w_591 rfl (okO_of (N := 17) (hL.sh (i := 0) rfl (by decide) (by decide)) (by decide)) ?_
    refine eqR (y := 24) (hL.rf (i := 14) rfl) ?_
    refine r_getR (pc := 16) dX11_power_16 (k9 := 2) CL_4 (by decide) (by decide) w_204 rfl (okO_of (N := 12) (hL.sh (i := 8) rfl (by decide) (by decide)) (by decide)) ?_
    refine eqR (y := 27) (hL.rf (i := 10) rfl) ?_
    refine r_iload_n (pc := 19) dX11_power_19 rfl rfl ?_
    refine c_SI0N (M := mX11_power) (pc := 20) (As := [vr 27, vi x1]) dX11_power_20 K_X11_at w_690 ⟨by decide, by decide⟩ (Nat.le_of_ble_eq_true rfl) rfl rfl (h hL) (fun r5 τ6 h8 hr9 => ?_) rfl
    replace hL := h8.1
    replace h := h8.2 hr9
    refine r_istore_n (pc := 23) dX11_power_23 rfl (by decide) (l2 := [some (vr 16), some (vi x1), some (vi x2), some (vi r5), none, none, none]) rfl ?_
    refine r_iload_n (pc := 24) dX11_power_24 rfl rfl ?_
    refine r_iconst (pc := 25) dX11_power_25 (inRk rfl) ?_
    refine r_icmp_ge (pc := 26) (tgt := 33) dX11_power_26 (by decide) (fun c9 => ?_) (fun c9 => ?_)
    · replace h := h.1 c9
      refine r_iload_n (pc := 33) dX11_power_33 rfl rfl ?_
      refine r_iload_n (pc := 34) dX11_power_34 rfl rfl ?_
      refine c_SI0N (M := mX11_power) (pc := 35) (As := [vi x2, vi r5]) dX11_power_35 K_J9_floorMod_7cf53 w_1155 ⟨by decide, by decide⟩ (Nat.le_of_ble_eq_true rfl) rfl rfl (h hL) (fun r7 τ8 h8 hr9 => ?_) rfl
      replace hL := h8.1
      replace h := h8.2 hr9
      refine r_istore (pc := 38) dX11_power_38 (by decide) (l2 := [some (vr 16), some (vi x1), some (vi x2), some (vi r5), some (vi r7), none, none]) rfl ?_
      refine r_iconst (pc := 40) dX11_power_40 (inRk rfl) ?_
      refine r_istore (pc := 41) dX11_power_41 (by decide) (l2 := [some (vr 16), some (vi x1), some (vi x2), some (vi r5), some (vi r7), some (vi 0), none]) rfl ?_
      refine r_iconst (pc := 43) dX11_power_43 (inRk rfl) ?_
      refine r_istore (pc := 44) dX11_power_44 (by decide) (l2 := [some (vr 16), some (vi x1), some (vi x2), some (vi r5), some (vi r7), some (vi 0), some (vi 0)]) rfl ?_
      exact GG.msk [true, true, false, false, true, true, true] (h hL)
    · replace h := h.2 c9
      refine r_iconst (pc := 29) dX11_power_29 (inRk rfl) ?_
      refine r_goto (pc := 30) (tgt := 38) dX11_power_30 (by decide) ?_
      refine r_istore (pc := 38) dX11_power_38 (by decide) (l2 := [some (vr 16), some (vi x1), some (vi x2), some (vi r5), some (vi 0), none, none]) rfl ?_
      refine r_iconst (pc := 40) dX11_power_40 (inRk rfl) ?_
      refine r_istore (pc := 41) dX11_power_41 (by decide) (l2 := [some (vr 16), some (vi x1), some (vi x2), some (vi r5), some (vi 0), some (vi 0), none]) rfl ?_
      refine r_iconst (pc := 43) dX11_power_43 (inRk rfl) ?_
      refine r_istore (pc := 44) dX11_power_44 (by decide) (l2 := [some (vr 16), some (vi x1), some (vi x2), some (vi r5), some (vi 0), some (vi 0), some (vi 0)]) rfl ?_
      exact GG.msk [true, true, false, false, true, true, true] (h hL)
  · exact TT.out (by decide +kernel) rfl h8
theorem B_X11_power_46 {g : Sg} {c t : Nat} (hL : Lay LC g c t σ) {x1 : Int} {x4 : Int} {x5 : Int} {x6 : Int} (h : ((x4 ≤ x6 → (Lay LC g c t σ → Q (.inl (some (vi x5))) σ)) ∧ (¬ (x4 ≤ x6) → (Lay LC g c t σ → CC E mX4_times [vr 24, vi x5, vi x1] σ (KI (fun r1 τ2 => Lay LC g c t τ2 ∧ (inR r1 → inR (x6 + 1) ∧ (Lay LC g c t τ2 → GG E mX11_power 46 [some (vr 16), some (vi x1), none, none, some (vi x4), some (vi r1), some (vi (x6 + 1))] [] τ2 rc rs Q))) (fun _ _ => False)))))) : GG E mX11_power 46 [some (vr 16), some (vi x1), none, none, some (vi x4), some (vi x5), some (vi x6)] [] σ rc rs Q := by
  refine r_iload (pc := 46) dX11_power_46 rfl ?_
  refine r_iload (pc := 48) dX11_power_48 rfl ?_
  refine r_icmp_ge (pc := 50) (tgt := 71) dX11_power_50 (by decide) (fun c9 => ?_) (fun c9 => ?_)
  · replace h := h.1 c9
    refine r_iload (pc := 71) dX11_power_71 rfl ?_
    exact r_ireturn (pc := 73) (ty := .int) dX11_power_73 (by decide +kernel) rfl (nar_i _) (h hL)
  · replace h := h.2 c9
    refine r_aload_n (pc := 53) dX11_power_53 rfl rfl ?_
    refine r_getR (pc := 54) dX11_power_54 (k9 := 3) CL_11 (by decide) (by decide) w_591 rfl (okO_of (N := 17) (hL.sh (i := 0) rfl (by decide) (by decide)) (by decide)) ?_
    refine eqR (y := 24) (hL.rf (i := 14) rfl) ?_
    refine r_iload (pc := 57) dX11_power_57 rfl ?_
    refine r_iload_n (pc := 59) dX11_power_59 rfl rfl ?_
    refine c_VI0N (M := mX11_power) (pc := 60) (As := [vi x5, vi x1]) dX11_power_60 K_X4_times w_1147 ⟨by decide, by decide⟩ (Nat.le_of_ble_eq_true rfl) rfl rfl (ci := 4) rfl rfl (by decide) (okO_of (N := 12) (hL.sh (i := 8) rfl (by decide) (by decide)) (by decide)) (h hL) (fun r1 τ2 h8 hr9 => ?_) rfl
    replace hL := h8.1
    replace h := h8.2 hr9
    refine r_istore (pc := 63) dX11_power_63 (by decide) (l2 := [some (vr 16), some (vi x1), none, none, some (vi x4), some (vi r1), some (vi x6)]) rfl ?_
    obtain ⟨o3, h⟩ := h
    refine r_iinc (pc := 65) dX11_power_65 rfl (by decide) o3 (l2 := [some (vr 16), some (vi x1), none, none, some (vi x4), some (vi r1), some (vi (x6 + 1))]) rfl ?_
    refine r_goto (pc := 68) (tgt := 46) dX11_power_68 (by decide) ?_
    exact (h hL)
theorem C_X11_power {a0 : Nat} {x1 : Int} {x2 : Int} (h : GG E mX11_power 0 [some (vr a0), some (vi x1), some (vi x2), none, none, none, none] [] σ 1 6 Q) : CC E mX11_power [vr a0, vi x1, vi x2] σ Q := CC.of (by decide +kernel) rfl (by decide +kernel) (fun h9 => nomatch h9) (Nat.le_of_ble_eq_true rfl) h
theorem dX11_print_0 : decode cX11_print 0 = .ok (.lconst 0, 1) := by decide +kernel
theorem dX11_print_1 : decode cX11_print 1 = .ok (.lstore_n 1, 1) := by decide +kernel
theorem dX11_print_2 : decode cX11_print 2 = .ok (.iconst 0, 1) := by decide +kernel
theorem dX11_print_3 : decode cX11_print 3 = .ok (.istore_n 3, 1) := by decide +kernel
theorem dX11_print_4 : decode cX11_print 4 = .ok (.iload_n 3, 1) := by decide +kernel
theorem dX11_print_5 : decode cX11_print 5 = .ok (.aload_n 0, 1) := by decide +kernel
theorem dX11_print_6 : decode cX11_print 6 = .ok (.getfield 35, 3) := by decide +kernel
theorem dX11_print_9 : decode cX11_print 9 = .ok (.getfield 207, 3) := by decide +kernel
theorem dX11_print_12 : decode cX11_print 12 = .ok (.if_icmp .ge 47, 3) := by decide +kernel
theorem dX11_print_15 : decode cX11_print 15 = .ok (.ldc2_w 360, 3) := by decide +kernel
theorem dX11_print_18 : decode cX11_print 18 = .ok (.lload_n 1, 1) := by decide +kernel
theorem dX11_print_19 : decode cX11_print 19 = .ok (.lmul, 1) := by decide +kernel
theorem dX11_print_20 : decode cX11_print 20 = .ok (.aload_n 0, 1) := by decide +kernel
theorem dX11_print_21 : decode cX11_print 21 = .ok (.getfield 35, 3) := by decide +kernel
theorem dX11_print_24 : decode cX11_print 24 = .ok (.getfield 240, 3) := by decide +kernel
theorem dX11_print_27 : decode cX11_print 27 = .ok (.iload_n 3, 1) := by decide +kernel
theorem dX11_print_28 : decode cX11_print 28 = .ok (.invokestatic 243, 3) := by decide +kernel
theorem dX11_print_31 : decode cX11_print 31 = .ok (.i2l, 1) := by decide +kernel
theorem dX11_print_32 : decode cX11_print 32 = .ok (.ladd, 1) := by decide +kernel
theorem dX11_print_33 : decode cX11_print 33 = .ok (.lstore_n 1, 1) := by decide +kernel
theorem dX11_print_34 : decode cX11_print 34 = .ok (.ldc2_w 360, 3) := by decide +kernel
theorem dX11_print_37 : decode cX11_print 37 = .ok (.lload_n 1, 1) := by decide +kernel
theorem dX11_print_38 : decode cX11_print 38 = .ok (.lmul, 1) := by decide +kernel
theorem dX11_print_39 : decode cX11_print 39 = .ok (.aload_n 0, 1) := by decide +kernel
theorem dX11_print_40 : decode cX11_print 40 = .ok (.getfield 35, 3) := by decide +kernel
theorem dX11_print_43 : decode cX11_print 43 = .ok (.getfield 250, 3) := by decide +kernel
theorem dX11_print_46 : decode cX11_print 46 = .ok (.iload_n 3, 1) := by decide +kernel
theorem dX11_print_47 : decode cX11_print 47 = .ok (.invokestatic 243, 3) := by decide +kernel
theorem dX11_print_50 : decode cX11_print 50 = .ok (.i2l, 1) := by decide +kernel
theorem dX11_print_51 : decode cX11_print 51 = .ok (.ladd, 1) := by decide +kernel
theorem dX11_print_52 : decode cX11_print 52 = .ok (.lstore_n 1, 1) := by decide +kernel
theorem dX11_print_53 : decode cX11_print 53 = .ok (.iinc 3 1, 3) := by decide +kernel
theorem dX11_print_56 : decode cX11_print 56 = .ok (.goto (-52), 3) := by decide +kernel
theorem dX11_print_59 : decode cX11_print 59 = .ok (.lload_n 1, 1) := by decide +kernel
theorem dX11_print_60 : decode cX11_print 60 = .ok (.lreturn, 1) := by decide +kernel
theorem B_X11_print_0 {g : Sg} {c t : Nat} (hL : Lay LC g c t σ)  (h : (Lay LC g c t σ → GG E mX11_print 4 [some (vr 16), some (vl 0), none, some (vi 0)] [] σ rc rs Q)) : GG E mX11_print 0 [some (vr 16), none, none, none] [] σ rc rs Q := by
  refine r_lconst (pc := 0) (x := 0) dX11_print_0 rfl ?_
  refine r_lstore_n (pc := 1) dX11_print_1 rfl (by decide) (l2 := [some (vr 16), some (vl 0), none, none]) rfl ?_
  refine r_iconst (pc := 2) dX11_print_2 (inRk rfl) ?_
  refine r_istore_n (pc := 3) dX11_print_3 rfl (by decide) (l2 := [some (vr 16), some (vl 0), none, some (vi 0)]) rfl ?_
  exact (h hL)
theorem B_X11_print_4 {g : Sg} {c t : Nat} (hL : Lay LC g c t σ) {y1 : Int} {x3 : Int} (h : (((gI σ 24 6) ≤ x3 → (Lay LC g c t σ → Q (.inl (some (vl y1))) σ)) ∧ (¬ ((gI σ 24 6) ≤ x3) → (Lay LC g c t σ → CC E mX11_at [vr 27, vi x3] σ (KI (fun r1 τ2 => Lay LC g c t τ2 ∧ (inR r1 → (Lay LC g c t τ2 → CC E mX11_at [vr 28, vi x3] τ2 (KI (fun r3 τ4 => Lay LC g c t τ4 ∧ (inR r3 → ∀ v5 : Int, v5 = wL ((wL (31 * (wL ((wL (31 * y1)) + r1)))) + r3) → inR (x3 + 1) ∧ (Lay LC g c t τ4 → GG E mX11_print 4 [some (vr 16), some (vl v5), none, some (vi (x3 + 1))] [] τ4 rc rs Q))) (fun _ _ => False))))) (fun _ _ => False)))))) : GG E mX11_print 4 [some (vr 16), some (vl y1), none, some (vi x3)] [] σ rc rs Q := by
  refine r_iload_n (pc := 4) dX11_print_4 rfl rfl ?_
  refine r_aload_n (pc := 5) dX11_print_5 rfl rfl ?_
  refine r_getR (pc := 6) dX11_print_6 (k9 := 3) CL_11 (by decide) (by decide) w_591 rfl (okO_of (N := 17) (hL.sh (i := 0) rfl (by decide) (by decide)) (by decide)) ?_
  refine eqR (y := 24) (hL.rf (i := 14) rfl) ?_
  refine r_getI (pc := 9) dX11_print_9 (k9 := 6) CL_4 (by decide) (by decide) w_222 rfl (okO_of (N := 12) (hL.sh (i := 8) rfl (by decide) (by decide)) (by decide)) (fun _ => ?_)
  refine r_icmp_ge (pc := 12) (tgt := 59) dX11_print_12 (by decide) (fun c9 => ?_) (fun c9 => ?_)
  · replace h := h.1 c9
    refine r_lload_n (pc := 59) dX11_print_59 rfl rfl ?_
    exact r_lreturn (pc := 60) dX11_print_60 (by decide +kernel) rfl (h hL)
  · replace h := h.2 c9
    refine r_ldc2 (pc := 15) dX11_print_15 w_689 ?_
    change GG _ _ _ _ (vl 31 :: _) _ _ _ _
    refine r_lload_n (pc := 18) dX11_print_18 rfl rfl ?_
    refine r_lmul (pc := 19) dX11_print_19 ?_
    refine r_aload_n (pc := 20) dX11_print_20 rfl rfl ?_
    refine r_getR (pc := 21) dX11_print_21 (k9 := 3) CL_11 (by decide) (by decide) w_591 rfl (okO_of (N := 17) (hL.sh (i := 0) rfl (by decide) (by decide)) (by decide)) ?_
    refine eqR (y := 24) (hL.rf (i := 14) rfl) ?_
    refine r_getR (pc := 24) dX11_print_24 (k9 := 2) CL_4 (by decide) (by decide) w_204 rfl (okO_of (N := 12) (hL.sh (i := 8) rfl (by decide) (by decide)) (by decide)) ?_
    refine eqR (y := 27) (hL.rf (i := 10) rfl) ?_
    refine r_iload_n (pc := 27) dX11_print_27 rfl rfl ?_
    refine c_SI0N (M := mX11_print) (pc := 28) (As := [vr 27, vi x3]) dX11_print_28 K_X11_at w_690 ⟨by decide, by decide⟩ (Nat.le_of_ble_eq_true rfl) rfl rfl (h hL) (fun r1 τ2 h8 hr9 => ?_) rfl
    replace hL := h8.1
    replace h := h8.2 hr9
    refine r_i2l (pc := 31) dX11_print_31 ?_
    refine r_ladd (pc := 32) dX11_print_32 ?_
    refine r_lstore_n (pc := 33) dX11_print_33 rfl (by decide) (l2 := [some (vr 16), some (vl (wL ((wL (31 * y1)) + r1))), none, some (vi x3)]) rfl ?_
    refine r_ldc2 (pc := 34) dX11_print_34 w_689 ?_
    change GG _ _ _ _ (vl 31 :: _) _ _ _ _
    refine r_lload_n (pc := 37) dX11_print_37 rfl rfl ?_
    refine r_lmul (pc := 38) dX11_print_38 ?_
    refine r_aload_n (pc := 39) dX11_print_39 rfl rfl ?_
    refine r_getR (pc := 40) dX11_print_40 (k9 := 3) CL_11 (by decide) (by decide) w_591 rfl (okO_of (N := 17) (hL.sh (i := 0) rfl (by decide) (by decide)) (by decide)) ?_
    refine eqR (y := 24) (hL.rf (i := 14) rfl) ?_
    refine r_getR (pc := 43) dX11_print_43 (k9 := 3) CL_4 (by decide) (by decide) w_207 rfl (okO_of (N := 12) (hL.sh (i := 8) rfl (by decide) (by decide)) (by decide)) ?_
    refine eqR (y := 28) (hL.rf (i := 11) rfl) ?_
    refine r_iload_n (pc := 46) dX11_print_46 rfl rfl ?_
    refine c_SI0N (M := mX11_print) (pc := 47) (As := [vr 28, vi x3]) dX11_print_47 K_X11_at w_690 ⟨by decide, by decide⟩ (Nat.le_of_ble_eq_true rfl) rfl rfl (h hL) (fun r3 τ4 h8 hr9 => ?_) rfl
    replace hL := h8.1
    replace h := h8.2 hr9
    refine r_i2l (pc := 50) dX11_print_50 ?_
    refine r_ladd (pc := 51) dX11_print_51 ?_
    refine nmL (fun v5 e9 => ?_)
    replace h := h v5 e9
    refine r_lstore_n (pc := 52) dX11_print_52 rfl (by decide) (l2 := [some (vr 16), some (vl v5), none, some (vi x3)]) rfl ?_
    obtain ⟨o6, h⟩ := h
    refine r_iinc (pc := 53) dX11_print_53 rfl (by decide) o6 (l2 := [some (vr 16), some (vl v5), none, some (vi (x3 + 1))]) rfl ?_
    refine r_goto (pc := 56) (tgt := 4) dX11_print_56 (by decide) ?_
    exact (h hL)
theorem C_X11_print {a0 : Nat} (h : GG E mX11_print 0 [some (vr a0), none, none, none] [] σ 0 0 Q) : CC E mX11_print [vr a0] σ Q := CC.of (by decide +kernel) rfl (by decide +kernel) (fun h9 => nomatch h9) (Nat.le_of_ble_eq_true rfl) h
theorem dX11_product_0 : decode cX11_product 0 = .ok (.aload_n 0, 1) := by decide +kernel
theorem dX11_product_1 : decode cX11_product 1 = .ok (.iload_n 1, 1) := by decide +kernel
theorem dX11_product_2 : decode cX11_product 2 = .ok (.aload_n 0, 1) := by decide +kernel
theorem dX11_product_3 : decode cX11_product 3 = .ok (.getfield 35, 3) := by decide +kernel
theorem dX11_product_6 : decode cX11_product 6 = .ok (.getfield 207, 3) := by decide +kernel
theorem dX11_product_9 : decode cX11_product 9 = .ok (.invokevirtual 193, 3) := by decide +kernel
theorem dX11_product_12 : decode cX11_product 12 = .ok (.aload_n 0, 1) := by decide +kernel
theorem dX11_product_13 : decode cX11_product 13 = .ok (.iload_n 2, 1) := by decide +kernel
theorem dX11_product_14 : decode cX11_product 14 = .ok (.aload_n 0, 1) := by decide +kernel
theorem dX11_product_15 : decode cX11_product 15 = .ok (.getfield 35, 3) := by decide +kernel
theorem dX11_product_18 : decode cX11_product 18 = .ok (.getfield 207, 3) := by decide +kernel
theorem dX11_product_21 : decode cX11_product 21 = .ok (.invokevirtual 193, 3) := by decide +kernel
theorem dX11_product_24 : decode cX11_product 24 = .ok (.aload_n 0, 1) := by decide +kernel
theorem dX11_product_25 : decode cX11_product 25 = .ok (.getfield 35, 3) := by decide +kernel
theorem dX11_product_28 : decode cX11_product 28 = .ok (.iload_n 1, 1) := by decide +kernel
theorem dX11_product_29 : decode cX11_product 29 = .ok (.iload_n 2, 1) := by decide +kernel
theorem dX11_product_30 : decode cX11_product 30 = .ok (.invokevirtual 260, 3) := by decide +kernel
theorem dX11_product_33 : decode cX11_product 33 = .ok (.ireturn, 1) := by decide +kernel
theorem B_X11_product_0 {g : Sg} {c t : Nat} (hL : Lay LC g c t σ) {x1 : Int} {x2 : Int} (h : 1 ≤ rc ∧ 6 ≤ rs ∧ (Lay LC g c t σ → CC E mX11_needIndex [vr 16, vi x1, vi (gI σ 24 6)] σ (KV (fun τ4 => Lay LC g c t τ4 ∧ 1 ≤ rc - 1 ∧ 6 ≤ rs - 6 ∧ (Lay LC g c t τ4 → CC E mX11_needIndex [vr 16, vi x2, vi (gI τ4 24 6)] τ4 (KV (fun τ8 => Lay LC g c t τ8 ∧ (Lay LC g c t τ8 → CC E mX4_times [vr 24, vi x1, vi x2] τ8 (KI (fun r9 τ10 => Lay LC g c t τ10 ∧ (inR r9 → (Lay LC g c t τ10 → Q (.inl (some (vi r9))) τ10))) (fun _ _ => False)))) (fun k9 τ9 => Q (.inr k9) τ9)))) (fun k9 τ9 => Q (.inr k9) τ9)))) : GG E mX11_product 0 [some (vr 16), some (vi x1), some (vi x2)] [] σ rc rs Q := by
  refine r_aload_n (pc := 0) dX11_product_0 rfl rfl ?_
  refine r_iload_n (pc := 1) dX11_product_1 rfl rfl ?_
  refine r_aload_n (pc := 2) dX11_product_2 rfl rfl ?_
  refine r_getR (pc := 3) dX11_product_3 (k9 := 3) CL_11 (by decide) (by decide) w_591 rfl (okO_of (N := 17) (hL.sh (i := 0) rfl (by decide) (by decide)) (by decide)) ?_
  refine eqR (y := 24) (hL.rf (i := 14) rfl) ?_
  refine r_getI (pc := 6) dX11_product_6 (k9 := 6) CL_4 (by decide) (by decide) w_222 rfl (okO_of (N := 12) (hL.sh (i := 8) rfl (by decide) (by decide)) (by decide)) (fun _ => ?_)
  obtain ⟨o1, h⟩ := h
  obtain ⟨o2, h⟩ := h
  refine c_VVAX (M := mX11_product) (pc := 9) (As := [vi x1, vi (gI σ 24 6)]) dX11_product_9 K_X11_needIndex w_946 ⟨by decide, by decide⟩ (Nat.le_of_ble_eq_true rfl) o1 o2 (ci := 11) rfl rfl (by decide) (okO_of (N := 17) (hL.sh (i := 0) rfl (by decide) (by decide)) (by decide)) (h hL) (fun τ4 h8 => ?_) (fun k9 τ9 hk9 h8 => ?_) rfl
  · replace hL := h8.1
    replace h := h8.2
    refine r_aload_n (pc := 12) dX11_product_12 rfl rfl ?_
    refine r_iload_n (pc := 13) dX11_product_13 rfl rfl ?_
    refine r_aload_n (pc := 14) dX11_product_14 rfl rfl ?_
    refine r_getR (pc := 15) dX11_product_15 (k9 := 3) CL_11 (by decide) (by decide) w_591 rfl (okO_of (N := 17) (hL.sh (i := 0) rfl (by decide) (by decide)) (by decide)) ?_
    refine eqR (y := 24) (hL.rf (i := 14) rfl) ?_
    refine r_getI (pc := 18) dX11_product_18 (k9 := 6) CL_4 (by decide) (by decide) w_222 rfl (okO_of (N := 12) (hL.sh (i := 8) rfl (by decide) (by decide)) (by decide)) (fun _ => ?_)
    obtain ⟨o5, h⟩ := h
    obtain ⟨o6, h⟩ := h
    refine c_VVAX (M := mX11_product) (pc := 21) (As := [vi x2, vi (gI τ4 24 6)]) dX11_product_21 K_X11_needIndex w_946 ⟨by decide, by decide⟩ (Nat.le_of_ble_eq_true rfl) o5 o6 (ci := 11) rfl rfl (by decide) (okO_of (N := 17) (hL.sh (i := 0) rfl (by decide) (by decide)) (by decide)) (h hL) (fun τ8 h8 => ?_) (fun k9 τ9 hk9 h8 => ?_) rfl
    · replace hL := h8.1
      replace h := h8.2
      refine r_aload_n (pc := 24) dX11_product_24 rfl rfl ?_
      refine r_getR (pc := 25) dX11_product_25 (k9 := 3) CL_11 (by decide) (by decide) w_591 rfl (okO_of (N := 17) (hL.sh (i := 0) rfl (by decide) (by decide)) (by decide)) ?_
      refine eqR (y := 24) (hL.rf (i := 14) rfl) ?_
      refine r_iload_n (pc := 28) dX11_product_28 rfl rfl ?_
      refine r_iload_n (pc := 29) dX11_product_29 rfl rfl ?_
      refine c_VI0N (M := mX11_product) (pc := 30) (As := [vi x1, vi x2]) dX11_product_30 K_X4_times w_1147 ⟨by decide, by decide⟩ (Nat.le_of_ble_eq_true rfl) rfl rfl (ci := 4) rfl rfl (by decide) (okO_of (N := 12) (hL.sh (i := 8) rfl (by decide) (by decide)) (by decide)) (h hL) (fun r9 τ10 h8 hr9 => ?_) rfl
      replace hL := h8.1
      replace h := h8.2 hr9
      exact r_ireturn (pc := 33) (ty := .int) dX11_product_33 (by decide +kernel) rfl (nar_i _) (h hL)
    · exact TT.out (by decide +kernel) rfl h8
  · exact TT.out (by decide +kernel) rfl h8
theorem C_X11_product {a0 : Nat} {x1 : Int} {x2 : Int} (h : GG E mX11_product 0 [some (vr a0), some (vi x1), some (vi x2)] [] σ 2 12 Q) : CC E mX11_product [vr a0, vi x1, vi x2] σ Q := CC.of (by decide +kernel) rfl (by decide +kernel) (fun h9 => nomatch h9) (Nat.le_of_ble_eq_true rfl) h
theorem dX11_row_0 : decode cX11_row 0 = .ok (.aload_n 0, 1) := by decide +kernel
theorem dX11_row_1 : decode cX11_row 1 = .ok (.invokevirtual 204, 3) := by decide +kernel
theorem dX11_row_4 : decode cX11_row 4 = .ok (.aload_n 0, 1) := by decide +kernel
theorem dX11_row_5 : decode cX11_row 5 = .ok (.iload_n 1, 1) := by decide +kernel
theorem dX11_row_6 : decode cX11_row 6 = .ok (.aload_n 0, 1) := by decide +kernel
theorem dX11_row_7 : decode cX11_row 7 = .ok (.getfield 49, 3) := by decide +kernel
theorem dX11_row_10 : decode cX11_row 10 = .ok (.getfield 239, 3) := by decide +kernel
theorem dX11_row_13 : decode cX11_row 13 = .ok (.invokevirtual 193, 3) := by decide +kernel
theorem dX11_row_16 : decode cX11_row 16 = .ok (.aload_n 0, 1) := by decide +kernel
theorem dX11_row_17 : decode cX11_row 17 = .ok (.getfield 76, 3) := by decide +kernel
theorem dX11_row_20 : decode cX11_row 20 = .ok (.aload_n 0, 1) := by decide +kernel
theorem dX11_row_21 : decode cX11_row 21 = .ok (.getfield 49, 3) := by decide +kernel
theorem dX11_row_24 : decode cX11_row 24 = .ok (.iload_n 1, 1) := by decide +kernel
theorem dX11_row_25 : decode cX11_row 25 = .ok (.iload_n 2, 1) := by decide +kernel
theorem dX11_row_26 : decode cX11_row 26 = .ok (.invokevirtual 321, 3) := by decide +kernel
theorem dX11_row_29 : decode cX11_row 29 = .ok (.ireturn, 1) := by decide +kernel
theorem B_X11_row_0 {g : Sg} {c t : Nat} (hL : Lay LC g c t σ) {x1 : Int} {x2 : Int} (h : (Lay LC g c t σ → CC E mX11_needCharacters [vr 16] σ (KV (fun τ2 => Lay LC g c t τ2 ∧ 1 ≤ rc ∧ 6 ≤ rs ∧ (Lay LC g c t τ2 → CC E mX11_needIndex [vr 16, vi x1, vi (gI τ2 34 7)] τ2 (KV (fun τ6 => Lay LC g c t τ6 ∧ (Lay LC g c t τ6 → CC E mX6_rowWith [vr 152, vr 34, vi x1, vi x2] τ6 (KI (fun r7 τ8 => Lay LC g c t τ8 ∧ (inR r7 → (Lay LC g c t τ8 → Q (.inl (some (vi r7))) τ8))) (fun _ _ => False)))) (fun k9 τ9 => Q (.inr k9) τ9)))) (fun _ _ => False)))) : GG E mX11_row 0 [some (vr 16), some (vi x1), some (vi x2)] [] σ rc rs Q := by
  refine r_aload_n (pc := 0) dX11_row_0 rfl rfl ?_
  refine c_VV0N (M := mX11_row) (pc := 1) (As := []) dX11_row_1 K_X11_needCharacters w_973 ⟨by decide, by decide⟩ (Nat.le_of_ble_eq_true rfl) rfl rfl (ci := 11) rfl rfl (by decide) (okO_of (N := 17) (hL.sh (i := 0) rfl (by decide) (by decide)) (by decide)) (h hL) (fun τ2 h8 => ?_) rfl
  replace hL := h8.1
  replace h := h8.2
  refine r_aload_n (pc := 4) dX11_row_4 rfl rfl ?_
  refine r_iload_n (pc := 5) dX11_row_5 rfl rfl ?_
  refine r_aload_n (pc := 6) dX11_row_6 rfl rfl ?_
  refine r_getR (pc := 7) dX11_row_7 (k9 := 5) CL_11 (by decide) (by decide) w_593 rfl (okO_of (N := 17) (hL.sh (i := 0) rfl (by decide) (by decide)) (by decide)) ?_
  refine eqR (y := 34) (hL.rf (i := 25) rfl) ?_
  refine r_getI (pc := 10) dX11_row_10 (k9 := 7) CL_0 (by decide) (by decide) w_329 rfl (okO_of (N := 10) (hL.sh (i := 18) rfl (by decide) (by decide)) (by decide)) (fun _ => ?_)
  obtain ⟨o3, h⟩ := h
  obtain ⟨o4, h⟩ := h
  refine c_VVAX (M := mX11_row) (pc := 13) (As := [vi x1, vi (gI τ2 34 7)]) dX11_row_13 K_X11_needIndex w_946 ⟨by decide, by decide⟩ (Nat.le_of_ble_eq_true rfl) o3 o4 (ci := 11) rfl rfl (by decide) (okO_of (N := 17) (hL.sh (i := 0) rfl (by decide) (by decide)) (by decide)) (h hL) (fun τ6 h8 => ?_) (fun k9 τ9 hk9 h8 => ?_) rfl
  · replace hL := h8.1
    replace h := h8.2
    refine r_aload_n (pc := 16) dX11_row_16 rfl rfl ?_
    refine r_getR (pc := 17) dX11_row_17 (k9 := 8) CL_11 (by decide) (by decide) w_596 rfl (okO_of (N := 17) (hL.sh (i := 0) rfl (by decide) (by decide)) (by decide)) ?_
    refine eqR (y := 152) (hL.rf (i := 43) rfl) ?_
    refine r_aload_n (pc := 20) dX11_row_20 rfl rfl ?_
    refine r_getR (pc := 21) dX11_row_21 (k9 := 5) CL_11 (by decide) (by decide) w_593 rfl (okO_of (N := 17) (hL.sh (i := 0) rfl (by decide) (by decide)) (by decide)) ?_
    refine eqR (y := 34) (hL.rf (i := 25) rfl) ?_
    refine r_iload_n (pc := 24) dX11_row_24 rfl rfl ?_
    refine r_iload_n (pc := 25) dX11_row_25 rfl rfl ?_
    refine c_VI0N (M := mX11_row) (pc := 26) (As := [vr 34, vi x1, vi x2]) dX11_row_26 K_X6_rowWith w_1287 ⟨by decide, by decide⟩ (Nat.le_of_ble_eq_true rfl) rfl rfl (ci := 6) rfl rfl (by decide) (okO_of (N := 2) (hL.sh (i := 48) rfl (by decide) (by decide)) (by decide)) (h hL) (fun r7 τ8 h8 hr9 => ?_) rfl
    replace hL := h8.1
    replace h := h8.2 hr9
    exact r_ireturn (pc := 29) (ty := .int) dX11_row_29 (by decide +kernel) rfl (nar_i _) (h hL)
  · exact TT.out (by decide +kernel) rfl h8
theorem C_X11_row {a0 : Nat} {x1 : Int} {x2 : Int} (h : GG E mX11_row 0 [some (vr a0), some (vi x1), some (vi x2)] [] σ 1 6 Q) : CC E mX11_row [vr a0, vi x1, vi x2] σ Q := CC.of (by decide +kernel) rfl (by decide +kernel) (fun h9 => nomatch h9) (Nat.le_of_ble_eq_true rfl) h
theorem dX11_status_0 : decode cX11_status 0 = .ok (.iload_n 1, 1) := by decide +kernel
theorem dX11_status_1 : decode cX11_status 1 = .ok (.ifCond .lt 21, 3) := by decide +kernel
theorem dX11_status_4 : decode cX11_status 4 = .ok (.iload_n 1, 1) := by decide +kernel
theorem dX11_status_5 : decode cX11_status 5 = .ok (.aload_n 0, 1) := by decide +kernel
theorem dX11_status_6 : decode cX11_status 6 = .ok (.getfield 87, 3) := by decide +kernel
theorem dX11_status_9 : decode cX11_status 9 = .ok (.arraylength, 1) := by decide +kernel
theorem dX11_status_10 : decode cX11_status 10 = .ok (.if_icmp .ge 12, 3) := by decide +kernel
theorem dX11_status_13 : decode cX11_status 13 = .ok (.aload_n 0, 1) := by decide +kernel
theorem dX11_status_14 : decode cX11_status 14 = .ok (.getfield 87, 3) := by decide +kernel
theorem dX11_status_17 : decode cX11_status 17 = .ok (.iload_n 1, 1) := by decide +kernel
theorem dX11_status_18 : decode cX11_status 18 = .ok (.iaload, 1) := by decide +kernel
theorem dX11_status_19 : decode cX11_status 19 = .ok (.goto 4, 3) := by decide +kernel
theorem dX11_status_22 : decode cX11_status 22 = .ok (.iconst (-1), 1) := by decide +kernel
theorem dX11_status_23 : decode cX11_status 23 = .ok (.ireturn, 1) := by decide +kernel
theorem B_X11_status_0 {g : Sg} {c t : Nat} (hL : Lay LC g c t σ) {x1 : Int} (h : ((x1 < 0 → (Lay LC g c t σ → Q (.inl (some (vi (-1)))) σ)) ∧ (¬ (x1 < 0) → ((3 ≤ x1 → (Lay LC g c t σ → Q (.inl (some (vi (-1)))) σ)) ∧ (¬ (3 ≤ x1) → (0 ≤ x1 ∧ x1 < 3) ∧ (Lay LC g c t σ → Q (.inl (some (vi (gI σ 157 x1.toNat)))) σ)))))) : GG E mX11_status 0 [some (vr 16), some (vi x1)] [] σ rc rs Q := by
  refine r_iload_n (pc := 0) dX11_status_0 rfl rfl ?_
  refine r_if_lt (pc := 1) (tgt := 22) dX11_status_1 (by decide) (fun c9 => ?_) (fun c9 => ?_)
  · replace h := h.1 c9
    refine r_iconst (pc := 22) dX11_status_22 (inRk rfl) ?_
    exact r_ireturn (pc := 23) (ty := .int) dX11_status_23 (by decide +kernel) rfl (nar_i _) (h hL)
  · replace h := h.2 c9
    refine r_iload_n (pc := 4) dX11_status_4 rfl rfl ?_
    refine r_aload_n (pc := 5) dX11_status_5 rfl rfl ?_
    refine r_getR (pc := 6) dX11_status_6 (k9 := 11) CL_11 (by decide) (by decide) w_599 rfl (okO_of (N := 17) (hL.sh (i := 0) rfl (by decide) (by decide)) (by decide)) ?_
    refine eqR (y := 157) (hL.rf (i := 46) rfl) ?_
    have o2 : okN σ 157 := okN_of (hL.sh (i := 53) rfl (by decide) (by decide)) (by decide) (by decide) (by decide)
    refine r_alen (pc := 9) dX11_status_9 o2.1 o2.2 ?_
    refine eqI (y := 3) (by rw [(hL.sh (i := 53) rfl (by decide) (by decide))] <;> rfl) ?_
    refine r_icmp_ge (pc := 10) (tgt := 22) dX11_status_10 (by decide) (fun c9 => ?_) (fun c9 => ?_)
    · replace h := h.1 c9
      refine r_iconst (pc := 22) dX11_status_22 (inRk rfl) ?_
      exact r_ireturn (pc := 23) (ty := .int) dX11_status_23 (by decide +kernel) rfl (nar_i _) (h hL)
    · replace h := h.2 c9
      refine r_aload_n (pc := 13) dX11_status_13 rfl rfl ?_
      refine r_getR (pc := 14) dX11_status_14 (k9 := 11) CL_11 (by decide) (by decide) w_599 rfl (okO_of (N := 17) (hL.sh (i := 0) rfl (by decide) (by decide)) (by decide)) ?_
      refine eqR (y := 157) (hL.rf (i := 46) rfl) ?_
      refine r_iload_n (pc := 17) dX11_status_17 rfl rfl ?_
      obtain ⟨o1, h⟩ := h
      refine r_iaload (pc := 18) dX11_status_18 (okA_of (c := 20) (n := 3) (hL.sh (i := 53) rfl (by decide) (by decide)) (by decide) o1) ?_
      refine r_goto (pc := 19) (tgt := 23) dX11_status_19 (by decide) ?_
      exact r_ireturn (pc := 23) (ty := .int) dX11_status_23 (by decide +kernel) rfl (nar_i _) (h hL)
theorem C_X11_status {a0 : Nat} {x1 : Int} (h : GG E mX11_status 0 [some (vr a0), some (vi x1)] [] σ 0 0 Q) : CC E mX11_status [vr a0, vi x1] σ Q := CC.of (by decide +kernel) rfl (by decide +kernel) (fun h9 => nomatch h9) (Nat.le_of_ble_eq_true rfl) h
theorem dX11_takeTrial_0 : decode cX11_takeTrial 0 = .ok (.aload_n 0, 1) := by decide +kernel
theorem dX11_takeTrial_1 : decode cX11_takeTrial 1 = .ok (.getfield 93, 3) := by decide +kernel
theorem dX11_takeTrial_4 : decode cX11_takeTrial 4 = .ok (.astore_n 1, 1) := by decide +kernel
theorem dX11_takeTrial_5 : decode cX11_takeTrial 5 = .ok (.aload_n 0, 1) := by decide +kernel
theorem dX11_takeTrial_6 : decode cX11_takeTrial 6 = .ok (.aload_n 0, 1) := by decide +kernel
theorem dX11_takeTrial_7 : decode cX11_takeTrial 7 = .ok (.getfield 97, 3) := by decide +kernel
theorem dX11_takeTrial_10 : decode cX11_takeTrial 10 = .ok (.putfield 93, 3) := by decide +kernel
theorem dX11_takeTrial_13 : decode cX11_takeTrial 13 = .ok (.aload_n 0, 1) := by decide +kernel
theorem dX11_takeTrial_14 : decode cX11_takeTrial 14 = .ok (.aload_n 1, 1) := by decide +kernel
theorem dX11_takeTrial_15 : decode cX11_takeTrial 15 = .ok (.putfield 97, 3) := by decide +kernel
theorem dX11_takeTrial_18 : decode cX11_takeTrial 18 = .ok (.aload_n 0, 1) := by decide +kernel
theorem dX11_takeTrial_19 : decode cX11_takeTrial 19 = .ok (.getfield 35, 3) := by decide +kernel
theorem dX11_takeTrial_22 : decode cX11_takeTrial 22 = .ok (.aload_n 0, 1) := by decide +kernel
theorem dX11_takeTrial_23 : decode cX11_takeTrial 23 = .ok (.getfield 93, 3) := by decide +kernel
theorem dX11_takeTrial_26 : decode cX11_takeTrial 26 = .ok (.invokevirtual 112, 3) := by decide +kernel
theorem dX11_takeTrial_29 : decode cX11_takeTrial 29 = .ok (.aload_n 0, 1) := by decide +kernel
theorem dX11_takeTrial_30 : decode cX11_takeTrial 30 = .ok (.iconst 0, 1) := by decide +kernel
theorem dX11_takeTrial_31 : decode cX11_takeTrial 31 = .ok (.putfield 378, 3) := by decide +kernel
theorem dX11_takeTrial_34 : decode cX11_takeTrial 34 = .ok (.aload_n 0, 1) := by decide +kernel
theorem dX11_takeTrial_35 : decode cX11_takeTrial 35 = .ok (.iconst 0, 1) := by decide +kernel
theorem dX11_takeTrial_36 : decode cX11_takeTrial 36 = .ok (.putfield 346, 3) := by decide +kernel
theorem dX11_takeTrial_39 : decode cX11_takeTrial 39 = .ok (.return_, 1) := by decide +kernel
theorem B_X11_takeTrial_0 {a0 : Nat} (h : okO σ a0 11 ∧ ∀ τ2 : Sg, τ2 = sR σ a0 12 (gR σ a0 13) → okO τ2 a0 11 ∧ ∀ τ4 : Sg, τ4 = sR τ2 a0 13 (gR σ a0 12) → okO τ4 a0 11 ∧ okO τ4 (gR τ4 a0 3) 4 ∧ CC E mX4_build [vr (gR τ4 a0 3), vr (gR τ4 a0 12)] τ4 (KV (fun τ7 => okO τ7 a0 11 ∧ ∀ τ9 : Sg, τ9 = sI τ7 a0 14 0 → okO τ9 a0 11 ∧ ∀ τ11 : Sg, τ11 = sI τ9 a0 15 0 → Q (.inl none) τ11) (fun _ _ => False))) : GG E mX11_takeTrial 0 [some (vr a0), none] [] σ rc rs Q := by
  refine r_aload_n (pc := 0) dX11_takeTrial_0 rfl rfl ?_
  obtain ⟨o1, h⟩ := h
  refine r_getR (pc := 1) dX11_takeTrial_1 (k9 := 12) CL_11 (by decide) (by decide) w_600 rfl o1 ?_
  refine r_astore_n (pc := 4) dX11_takeTrial_4 rfl (by decide) (l2 := [some (vr a0), some (vr (gR σ a0 12))]) rfl ?_
  refine r_aload_n (pc := 5) dX11_takeTrial_5 rfl rfl ?_
  refine r_aload_n (pc := 6) dX11_takeTrial_6 rfl rfl ?_
  refine r_getR (pc := 7) dX11_takeTrial_7 (k9 := 13) CL_11 (by decide) (by decide) w_601 rfl o1 ?_
  refine r_putR (pc := 10) dX11_takeTrial_10 (k9 := 12) CL_11 (by decide) (by decide) w_600 rfl rfl o1 ?_
  refine nmS (fun τ2 e2 => ?_)
  replace h := h τ2 e2
  refine r_aload_n (pc := 13) dX11_takeTrial_13 rfl rfl ?_
  refine r_aload_n (pc := 14) dX11_takeTrial_14 rfl rfl ?_
  obtain ⟨o3, h⟩ := h
  refine r_putR (pc := 15) dX11_takeTrial_15 (k9 := 13) CL_11 (by decide) (by decide) w_601 rfl rfl o3 ?_
  refine nmS (fun τ4 e4 => ?_)
  replace h := h τ4 e4
  refine r_aload_n (pc := 18) dX11_takeTrial_18 rfl rfl ?_
  obtain ⟨o5, h⟩ := h
  refine r_getR (pc := 19) dX11_takeTrial_19 (k9 := 3) CL_11 (by decide) (by decide) w_591 rfl o5 ?_
  refine r_aload_n (pc := 22) dX11_takeTrial_22 rfl rfl ?_
  refine r_getR (pc := 23) dX11_takeTrial_23 (k9 := 12) CL_11 (by decide) (by decide) w_600 rfl o5 ?_
  refine c_VV0N (M := mX11_takeTrial) (pc := 26) (As := [vr (gR τ4 a0 12)]) dX11_takeTrial_26 K_X4_build w_544 ⟨by decide, by decide⟩ (Nat.le_of_ble_eq_true rfl) rfl rfl (ci := 4) rfl rfl (by decide) h.1 h.2 (fun τ7 h8 => ?_) rfl
  replace h := h8
  refine r_aload_n (pc := 29) dX11_takeTrial_29 rfl rfl ?_
  refine r_iconst (pc := 30) dX11_takeTrial_30 (inRk rfl) ?_
  obtain ⟨o8, h⟩ := h
  refine r_putI (pc := 31) dX11_takeTrial_31 (k9 := 14) CL_11 (by decide) (by decide) w_602 rfl rfl (fun _ => by decide) o8 ?_
  refine nmS (fun τ9 e9 => ?_)
  replace h := h τ9 e9
  refine r_aload_n (pc := 34) dX11_takeTrial_34 rfl rfl ?_
  refine r_iconst (pc := 35) dX11_takeTrial_35 (inRk rfl) ?_
  obtain ⟨o10, h⟩ := h
  refine r_putI (pc := 36) dX11_takeTrial_36 (k9 := 15) CL_11 (by decide) (by decide) w_603 rfl rfl (fun _ => by decide) o10 ?_
  refine nmS (fun τ11 e11 => ?_)
  replace h := h τ11 e11
  exact r_return (pc := 39) dX11_takeTrial_39 (by decide +kernel) rfl h
theorem C_X11_takeTrial {a0 : Nat} (h : GG E mX11_takeTrial 0 [some (vr a0), none] [] σ 0 0 Q) : CC E mX11_takeTrial [vr a0] σ Q := CC.of (by decide +kernel) rfl (by decide +kernel) (fun h9 => nomatch h9) (Nat.le_of_ble_eq_true rfl) h
theorem dX11_text_0 : decode cX11_text 0 = .ok (.aload_n 0, 1) := by decide +kernel
theorem dX11_text_1 : decode cX11_text 1 = .ok (.invokevirtual 125, 3) := by decide +kernel
theorem dX11_text_4 : decode cX11_text 4 = .ok (.aload_n 0, 1) := by decide +kernel
theorem dX11_text_5 : decode cX11_text 5 = .ok (.iload_n 1, 1) := by decide +kernel
theorem dX11_text_6 : decode cX11_text 6 = .ok (.iconst 0, 1) := by decide +kernel
theorem dX11_text_7 : decode cX11_text 7 = .ok (.aload_n 0, 1) := by decide +kernel
theorem dX11_text_8 : decode cX11_text 8 = .ok (.getfield 10, 3) := by decide +kernel
theorem dX11_text_11 : decode cX11_text 11 = .ok (.getfield 122, 3) := by decide +kernel
theorem dX11_text_14 : decode cX11_text 14 = .ok (.invokevirtual 128, 3) := by decide +kernel
theorem dX11_text_17 : decode cX11_text 17 = .ok (.aload_n 0, 1) := by decide +kernel
theorem dX11_text_18 : decode cX11_text 18 = .ok (.getfield 21, 3) := by decide +kernel
theorem dX11_text_21 : decode cX11_text 21 = .ok (.iload_n 1, 1) := by decide +kernel
theorem dX11_text_22 : decode cX11_text 22 = .ok (.aload_n 0, 1) := by decide +kernel
theorem dX11_text_23 : decode cX11_text 23 = .ok (.getfield 97, 3) := by decide +kernel
theorem dX11_text_26 : decode cX11_text 26 = .ok (.invokevirtual 132, 3) := by decide +kernel
theorem dX11_text_29 : decode cX11_text 29 = .ok (.istore_n 2, 1) := by decide +kernel
theorem dX11_text_30 : decode cX11_text 30 = .ok (.aload_n 0, 1) := by decide +kernel
theorem dX11_text_31 : decode cX11_text 31 = .ok (.getfield 10, 3) := by decide +kernel
theorem dX11_text_34 : decode cX11_text 34 = .ok (.invokevirtual 136, 3) := by decide +kernel
theorem dX11_text_37 : decode cX11_text 37 = .ok (.aload_n 0, 1) := by decide +kernel
theorem dX11_text_38 : decode cX11_text 38 = .ok (.aload_n 0, 1) := by decide +kernel
theorem dX11_text_39 : decode cX11_text 39 = .ok (.getfield 21, 3) := by decide +kernel
theorem dX11_text_42 : decode cX11_text 42 = .ok (.getfield 139, 3) := by decide +kernel
theorem dX11_text_45 : decode cX11_text 45 = .ok (.putfield 100, 3) := by decide +kernel
theorem dX11_text_48 : decode cX11_text 48 = .ok (.iload_n 2, 1) := by decide +kernel
theorem dX11_text_49 : decode cX11_text 49 = .ok (.ifCond .ne 29, 3) := by decide +kernel
theorem dX11_text_52 : decode cX11_text 52 = .ok (.aload_n 0, 1) := by decide +kernel
theorem dX11_text_53 : decode cX11_text 53 = .ok (.getfield 21, 3) := by decide +kernel
theorem dX11_text_56 : decode cX11_text 56 = .ok (.getfield 140, 3) := by decide +kernel
theorem dX11_text_59 : decode cX11_text 59 = .ok (.iconst 5, 1) := by decide +kernel
theorem dX11_text_60 : decode cX11_text 60 = .ok (.if_icmp .ne 7, 3) := by decide +kernel
theorem dX11_text_63 : decode cX11_text 63 = .ok (.aload_n 0, 1) := by decide +kernel
theorem dX11_text_64 : decode cX11_text 64 = .ok (.invokevirtual 143, 3) := by decide +kernel
theorem dX11_text_67 : decode cX11_text 67 = .ok (.aload_n 0, 1) := by decide +kernel
theorem dX11_text_68 : decode cX11_text 68 = .ok (.getfield 21, 3) := by decide +kernel
theorem dX11_text_71 : decode cX11_text 71 = .ok (.getfield 140, 3) := by decide +kernel
theorem dX11_text_74 : decode cX11_text 74 = .ok (.bipush 10, 2) := by decide +kernel
theorem dX11_text_76 : decode cX11_text 76 = .ok (.isub, 1) := by decide +kernel
theorem dX11_text_77 : decode cX11_text 77 = .ok (.ireturn, 1) := by decide +kernel
theorem dX11_text_78 : decode cX11_text 78 = .ok (.aload_n 0, 1) := by decide +kernel
theorem dX11_text_79 : decode cX11_text 79 = .ok (.getfield 28, 3) := by decide +kernel
theorem dX11_text_82 : decode cX11_text 82 = .ok (.invokevirtual 146, 3) := by decide +kernel
theorem dX11_text_85 : decode cX11_text 85 = .ok (.aload_n 0, 1) := by decide +kernel
theorem dX11_text_86 : decode cX11_text 86 = .ok (.invokevirtual 147, 3) := by decide +kernel
theorem dX11_text_89 : decode cX11_text 89 = .ok (.aload_n 0, 1) := by decide +kernel
theorem dX11_text_90 : decode cX11_text 90 = .ok (.getfield 93, 3) := by decide +kernel
theorem dX11_text_93 : decode cX11_text 93 = .ok (.getfield 150, 3) := by decide +kernel
theorem dX11_text_96 : decode cX11_text 96 = .ok (.ireturn, 1) := by decide +kernel
theorem B_X11_text_0 {g : Sg} {c t : Nat} (hL : Lay LC g c t σ) {x1 : Int} (h : (Lay LC g c t σ → CC E mX11_forgetReasons [vr 16] σ (KV (fun τ2 => Lay LC g c t τ2 ∧ 1 ≤ rc ∧ 6 ≤ rs ∧ (Lay LC g c t τ2 → CC E mX11_needBetween [vr 16, vi x1, vi 0, vi (gI τ2 17 1)] τ2 (KV (fun τ6 => Lay LC g c t τ6 ∧ (Lay LC g c t τ6 → CC E mX7_read [vr 19, vi x1, vr t] τ6 (KI (fun r7 τ8 => Lay LC g c t τ8 ∧ (inR r7 → (Lay LC g c t τ8 → CC E mX10_clear [vr 17] τ8 (KV (fun τ10 => Lay LC g c t τ10 ∧ ∀ τ11 : Sg, τ11 = sI τ10 16 16 (gI τ10 19 5) → ((r7 ≠ 0 → (Lay LC g c t τ11 → CC E mX5_clear [vr 21] τ11 (KV (fun τ13 => Lay LC g c t τ13 ∧ (Lay LC g c t τ13 → CC E mX11_takeTrial [vr 16] τ13 (KV (fun τ15 => Lay LC g c t τ15 ∧ (Lay LC g c t τ15 → Q (.inl (some (vi (gI τ15 c 8)))) τ15)) (fun _ _ => False)))) (fun _ _ => False)))) ∧ (r7 = 0 → (((gI τ11 19 4) ≠ 5 → inR ((gI τ11 19 4) - 10) ∧ (Lay LC g c t τ11 → Q (.inl (some (vi ((gI τ11 19 4) - 10)))) τ11)) ∧ ((gI τ11 19 4) = 5 → (Lay LC g c t τ11 → CC E mX11_keepReasons [vr 16] τ11 (KV (fun τ18 => Lay LC g c t τ18 ∧ inR ((gI τ18 19 4) - 10) ∧ (Lay LC g c t τ18 → Q (.inl (some (vi ((gI τ18 19 4) - 10)))) τ18)) (fun _ _ => False)))))))) (fun _ _ => False))))) (fun _ _ => False)))) (fun k9 τ9 => Q (.inr k9) τ9)))) (fun _ _ => False)))) : GG E mX11_text 0 [some (vr 16), some (vi x1), none] [] σ rc rs Q := by
  refine r_aload_n (pc := 0) dX11_text_0 rfl rfl ?_
  refine c_VV0N (M := mX11_text) (pc := 1) (As := []) dX11_text_1 K_X11_forgetReasons w_703 ⟨by decide, by decide⟩ (Nat.le_of_ble_eq_true rfl) rfl rfl (ci := 11) rfl rfl (by decide) (okO_of (N := 17) (hL.sh (i := 0) rfl (by decide) (by decide)) (by decide)) (h hL) (fun τ2 h8 => ?_) rfl
  replace hL := h8.1
  replace h := h8.2
  refine r_aload_n (pc := 4) dX11_text_4 rfl rfl ?_
  refine r_iload_n (pc := 5) dX11_text_5 rfl rfl ?_
  refine r_iconst (pc := 6) dX11_text_6 (inRk rfl) ?_
  refine r_aload_n (pc := 7) dX11_text_7 rfl rfl ?_
  refine r_getR (pc := 8) dX11_text_8 (k9 := 0) CL_11 (by decide) (by decide) w_588 rfl (okO_of (N := 17) (hL.sh (i := 0) rfl (by decide) (by decide)) (by decide)) ?_
  refine eqR (y := 17) (hL.rf (i := 1) rfl) ?_
  refine r_getI (pc := 11) dX11_text_11 (k9 := 1) CL_10 (by decide) (by decide) w_140 rfl (okO_of (N := 2) (hL.sh (i := 1) rfl (by decide) (by decide)) (by decide)) (fun _ => ?_)
  obtain ⟨o3, h⟩ := h
  obtain ⟨o4, h⟩ := h
  refine c_VVAX (M := mX11_text) (pc := 14) (As := [vi x1, vi 0, vi (gI τ2 17 1)]) dX11_text_14 K_X11_needBetween w_707 ⟨by decide, by decide⟩ (Nat.le_of_ble_eq_true rfl) o3 o4 (ci := 11) rfl rfl (by decide) (okO_of (N := 17) (hL.sh (i := 0) rfl (by decide) (by decide)) (by decide)) (h hL) (fun τ6 h8 => ?_) (fun k9 τ9 hk9 h8 => ?_) rfl
  · replace hL := h8.1
    replace h := h8.2
    refine r_aload_n (pc := 17) dX11_text_17 rfl rfl ?_
    refine r_getR (pc := 18) dX11_text_18 (k9 := 1) CL_11 (by decide) (by decide) w_589 rfl (okO_of (N := 17) (hL.sh (i := 0) rfl (by decide) (by decide)) (by decide)) ?_
    refine eqR (y := 19) (hL.rf (i := 4) rfl) ?_
    refine r_iload_n (pc := 21) dX11_text_21 rfl rfl ?_
    refine r_aload_n (pc := 22) dX11_text_22 rfl rfl ?_
    refine r_getR (pc := 23) dX11_text_23 (k9 := 13) CL_11 (by decide) (by decide) w_601 rfl (okO_of (N := 17) (hL.sh (i := 0) rfl (by decide) (by decide)) (by decide)) ?_
    refine eqR (y := t) hL.cl.2 ?_
    refine c_VI0N (M := mX11_text) (pc := 26) (As := [vi x1, vr t]) dX11_text_26 K_X7_read w_778 ⟨by decide, by decide⟩ (Nat.le_of_ble_eq_true rfl) rfl rfl (ci := 7) rfl rfl (by decide) (okO_of (N := 6) (hL.sh (i := 3) rfl (by decide) (by decide)) (by decide)) (h hL) (fun r7 τ8 h8 hr9 => ?_) rfl
    replace hL := h8.1
    replace h := h8.2 hr9
    refine r_istore_n (pc := 29) dX11_text_29 rfl (by decide) (l2 := [some (vr 16), some (vi x1), some (vi r7)]) rfl ?_
    refine r_aload_n (pc := 30) dX11_text_30 rfl rfl ?_
    refine r_getR (pc := 31) dX11_text_31 (k9 := 0) CL_11 (by decide) (by decide) w_588 rfl (okO_of (N := 17) (hL.sh (i := 0) rfl (by decide) (by decide)) (by decide)) ?_
    refine eqR (y := 17) (hL.rf (i := 1) rfl) ?_
    refine c_VV0N (M := mX11_text) (pc := 34) (As := []) dX11_text_34 K_X10_clear w_880 ⟨by decide, by decide⟩ (Nat.le_of_ble_eq_true rfl) rfl rfl (ci := 10) rfl rfl (by decide) (okO_of (N := 2) (hL.sh (i := 1) rfl (by decide) (by decide)) (by decide)) (h hL) (fun τ10 h8 => ?_) rfl
    replace hL := h8.1
    replace h := h8.2
    refine r_aload_n (pc := 37) dX11_text_37 rfl rfl ?_
    refine r_aload_n (pc := 38) dX11_text_38 rfl rfl ?_
    refine r_getR (pc := 39) dX11_text_39 (k9 := 1) CL_11 (by decide) (by decide) w_589 rfl (okO_of (N := 17) (hL.sh (i := 0) rfl (by decide) (by decide)) (by decide)) ?_
    refine eqR (y := 19) (hL.rf (i := 4) rfl) ?_
    refine r_getI (pc := 42) dX11_text_42 (k9 := 5) CL_7 (by decide) (by decide) w_161 rfl (okO_of (N := 6) (hL.sh (i := 3) rfl (by decide) (by decide)) (by decide)) (fun _ => ?_)
    refine r_putI (pc := 45) dX11_text_45 (k9 := 16) CL_11 (by decide) (by decide) w_604 rfl rfl (fun h9 => absurd h9 (by decide +kernel)) (okO_of (N := 17) (hL.sh (i := 0) rfl (by decide) (by decide)) (by decide)) ?_
    refine nmS (fun τ11 e11 => ?_)
    replace h := h τ11 e11
    have hL := hL.wI e11 (by decide) (.inl (by decide))
    refine r_iload_n (pc := 48) dX11_text_48 rfl rfl ?_
    refine r_if_ne (pc := 49) (tgt := 78) dX11_text_49 (by decide) (fun c9 => ?_) (fun c9 => ?_)
    · replace h := h.1 c9
      refine r_aload_n (pc := 78) dX11_text_78 rfl rfl ?_
      refine r_getR (pc := 79) dX11_text_79 (k9 := 2) CL_11 (by decide) (by decide) w_590 rfl (okO_of (N := 17) (hL.sh (i := 0) rfl (by decide) (by decide)) (by decide)) ?_
      refine eqR (y := 21) (hL.rf (i := 7) rfl) ?_
      refine c_VV0N (M := mX11_text) (pc := 82) (As := []) dX11_text_82 K_X5_clear w_888 ⟨by decide, by decide⟩ (Nat.le_of_ble_eq_true rfl) rfl rfl (ci := 5) rfl rfl (by decide) (okO_of (N := 3) (hL.sh (i := 5) rfl (by decide) (by decide)) (by decide)) (h hL) (fun τ13 h8 => ?_) rfl
      replace hL := h8.1
      replace h := h8.2
      refine r_aload_n (pc := 85) dX11_text_85 rfl rfl ?_
      refine c_VV0N (M := mX11_text) (pc := 86) (As := []) dX11_text_86 K_X11_takeTrial w_668 ⟨by decide, by decide⟩ (Nat.le_of_ble_eq_true rfl) rfl rfl (ci := 11) rfl rfl (by decide) (okO_of (N := 17) (hL.sh (i := 0) rfl (by decide) (by decide)) (by decide)) (h hL) (fun τ15 h8 => ?_) rfl
      replace hL := h8.1
      replace h := h8.2
      refine r_aload_n (pc := 89) dX11_text_89 rfl rfl ?_
      refine r_getR (pc := 90) dX11_text_90 (k9 := 12) CL_11 (by decide) (by decide) w_600 rfl (okO_of (N := 17) (hL.sh (i := 0) rfl (by decide) (by decide)) (by decide)) ?_
      refine eqR (y := c) hL.cl.1 ?_
      refine r_getI (pc := 93) dX11_text_93 (k9 := 8) CL_1 (by decide) (by decide) w_471 rfl (okO_of (ci := 1) (N := 12) (hL.isc.r hL).1 (hL.isc.r hL).2.1) (fun _ => ?_)
      exact r_ireturn (pc := 96) (ty := .int) dX11_text_96 (by decide +kernel) rfl (nar_i _) (h hL)
    · replace h := h.2 c9
      refine r_aload_n (pc := 52) dX11_text_52 rfl rfl ?_
      refine r_getR (pc := 53) dX11_text_53 (k9 := 1) CL_11 (by decide) (by decide) w_589 rfl (okO_of (N := 17) (hL.sh (i := 0) rfl (by decide) (by decide)) (by decide)) ?_
      refine eqR (y := 19) (hL.rf (i := 4) rfl) ?_
      refine r_getI (pc := 56) dX11_text_56 (k9 := 4) CL_7 (by decide) (by decide) w_159 rfl (okO_of (N := 6) (hL.sh (i := 3) rfl (by decide) (by decide)) (by decide)) (fun _ => ?_)
      refine r_iconst (pc := 59) dX11_text_59 (inRk rfl) ?_
      refine r_icmp_ne (pc := 60) (tgt := 67) dX11_text_60 (by decide) (fun c9 => ?_) (fun c9 => ?_)
      · replace h := h.1 c9
        refine r_aload_n (pc := 67) dX11_text_67 rfl rfl ?_
        refine r_getR (pc := 68) dX11_text_68 (k9 := 1) CL_11 (by decide) (by decide) w_589 rfl (okO_of (N := 17) (hL.sh (i := 0) rfl (by decide) (by decide)) (by decide)) ?_
        refine eqR (y := 19) (hL.rf (i := 4) rfl) ?_
        refine r_getI (pc := 71) dX11_text_71 (k9 := 4) CL_7 (by decide) (by decide) w_159 rfl (okO_of (N := 6) (hL.sh (i := 3) rfl (by decide) (by decide)) (by decide)) (fun _ => ?_)
        refine r_bipush (pc := 74) dX11_text_74 (by decide) ?_
        obtain ⟨o16, h⟩ := h
        refine r_isub (pc := 76) dX11_text_76 o16 ?_
        exact r_ireturn (pc := 77) (ty := .int) dX11_text_77 (by decide +kernel) rfl (nar_i _) (h hL)
      · replace h := h.2 c9
        refine r_aload_n (pc := 63) dX11_text_63 rfl rfl ?_
        refine c_VV0N (M := mX11_text) (pc := 64) (As := []) dX11_text_64 K_X11_keepReasons w_884 ⟨by decide, by decide⟩ (Nat.le_of_ble_eq_true rfl) rfl rfl (ci := 11) rfl rfl (by decide) (okO_of (N := 17) (hL.sh (i := 0) rfl (by decide) (by decide)) (by decide)) (h hL) (fun τ18 h8 => ?_) rfl
        replace hL := h8.1
        replace h := h8.2
        refine r_aload_n (pc := 67) dX11_text_67 rfl rfl ?_
        refine r_getR (pc := 68) dX11_text_68 (k9 := 1) CL_11 (by decide) (by decide) w_589 rfl (okO_of (N := 17) (hL.sh (i := 0) rfl (by decide) (by decide)) (by decide)) ?_
        refine eqR (y := 19) (hL.rf (i := 4) rfl) ?_
        refine r_getI (pc := 71) dX11_text_71 (k9 := 4) CL_7 (by decide) (by decide) w_159 rfl (okO_of (N := 6) (hL.sh (i := 3) rfl (by decide) (by decide)) (by decide)) (fun _ => ?_)
        refine r_bipush (pc := 74) dX11_text_74 (by decide) ?_
        obtain ⟨o19, h⟩ := h
        refine r_isub (pc := 76) dX11_text_76 o19 ?_
        exact r_ireturn (pc := 77) (ty := .int) dX11_text_77 (by decide +kernel) rfl (nar_i _) (h hL)
  · exact TT.out (by decide +kernel) rfl h8
theorem C_X11_text {a0 : Nat} {x1 : Int} (h : GG E mX11_text 0 [some (vr a0), some (vi x1), none] [] σ 1 6 Q) : CC E mX11_text [vr a0, vi x1] σ Q := CC.of (by decide +kernel) rfl (by decide +kernel) (fun h9 => nomatch h9) (Nat.le_of_ble_eq_true rfl) h
theorem dX11_told_0 : decode cX11_told 0 = .ok (.aload_n 0, 1) := by decide +kernel
theorem dX11_told_1 : decode cX11_told 1 = .ok (.iload_n 1, 1) := by decide +kernel
theorem dX11_told_2 : decode cX11_told 2 = .ok (.iconst 0, 1) := by decide +kernel
theorem dX11_told_3 : decode cX11_told 3 = .ok (.bipush 15, 2) := by decide +kernel
theorem dX11_told_5 : decode cX11_told 5 = .ok (.invokevirtual 128, 3) := by decide +kernel
theorem dX11_told_8 : decode cX11_told 8 = .ok (.iload_n 1, 1) := by decide +kernel
theorem dX11_told_9 : decode cX11_told 9 = .ok (.bipush 10, 2) := by decide +kernel
theorem dX11_told_11 : decode cX11_told 11 = .ok (.if_icmp .lt 13, 3) := by decide +kernel
theorem dX11_told_14 : decode cX11_told 14 = .ok (.iload_n 1, 1) := by decide +kernel
theorem dX11_told_15 : decode cX11_told 15 = .ok (.bipush 13, 2) := by decide +kernel
theorem dX11_told_17 : decode cX11_told 17 = .ok (.if_icmp .gt 7, 3) := by decide +kernel
theorem dX11_told_20 : decode cX11_told 20 = .ok (.aload_n 0, 1) := by decide +kernel
theorem dX11_told_21 : decode cX11_told 21 = .ok (.invokevirtual 204, 3) := by decide +kernel
theorem dX11_told_24 : decode cX11_told 24 = .ok (.iload_n 1, 1) := by decide +kernel
theorem dX11_told_25 : decode cX11_told 25 = .ok (.tableswitch 211 0 14 #[75, 83, 91, 99, 107, 115, 123, 131, 139, 155, 163, 174, 185, 193, 203], 75) := by decide +kernel
theorem dX11_told_100 : decode cX11_told 100 = .ok (.aload_n 0, 1) := by decide +kernel
theorem dX11_told_101 : decode cX11_told 101 = .ok (.getfield 93, 3) := by decide +kernel
theorem dX11_told_104 : decode cX11_told 104 = .ok (.getfield 159, 3) := by decide +kernel
theorem dX11_told_107 : decode cX11_told 107 = .ok (.ireturn, 1) := by decide +kernel
theorem dX11_told_108 : decode cX11_told 108 = .ok (.aload_n 0, 1) := by decide +kernel
theorem dX11_told_109 : decode cX11_told 109 = .ok (.getfield 93, 3) := by decide +kernel
theorem dX11_told_112 : decode cX11_told 112 = .ok (.getfield 173, 3) := by decide +kernel
theorem dX11_told_115 : decode cX11_told 115 = .ok (.ireturn, 1) := by decide +kernel
theorem dX11_told_116 : decode cX11_told 116 = .ok (.aload_n 0, 1) := by decide +kernel
theorem dX11_told_117 : decode cX11_told 117 = .ok (.getfield 35, 3) := by decide +kernel
theorem dX11_told_120 : decode cX11_told 120 = .ok (.getfield 207, 3) := by decide +kernel
theorem dX11_told_123 : decode cX11_told 123 = .ok (.ireturn, 1) := by decide +kernel
theorem dX11_told_124 : decode cX11_told 124 = .ok (.aload_n 0, 1) := by decide +kernel
theorem dX11_told_125 : decode cX11_told 125 = .ok (.getfield 35, 3) := by decide +kernel
theorem dX11_told_128 : decode cX11_told 128 = .ok (.getfield 208, 3) := by decide +kernel
theorem dX11_told_131 : decode cX11_told 131 = .ok (.ireturn, 1) := by decide +kernel
theorem dX11_told_132 : decode cX11_told 132 = .ok (.aload_n 0, 1) := by decide +kernel
theorem dX11_told_133 : decode cX11_told 133 = .ok (.getfield 35, 3) := by decide +kernel
theorem dX11_told_136 : decode cX11_told 136 = .ok (.getfield 211, 3) := by decide +kernel
theorem dX11_told_139 : decode cX11_told 139 = .ok (.ireturn, 1) := by decide +kernel
theorem dX11_told_140 : decode cX11_told 140 = .ok (.aload_n 0, 1) := by decide +kernel
theorem dX11_told_141 : decode cX11_told 141 = .ok (.getfield 35, 3) := by decide +kernel
theorem dX11_told_144 : decode cX11_told 144 = .ok (.getfield 214, 3) := by decide +kernel
theorem dX11_told_147 : decode cX11_told 147 = .ok (.ireturn, 1) := by decide +kernel
theorem dX11_told_148 : decode cX11_told 148 = .ok (.aload_n 0, 1) := by decide +kernel
theorem dX11_told_149 : decode cX11_told 149 = .ok (.getfield 35, 3) := by decide +kernel
theorem dX11_told_152 : decode cX11_told 152 = .ok (.invokevirtual 217, 3) := by decide +kernel
theorem dX11_told_155 : decode cX11_told 155 = .ok (.ireturn, 1) := by decide +kernel
theorem dX11_told_156 : decode cX11_told 156 = .ok (.aload_n 0, 1) := by decide +kernel
theorem dX11_told_157 : decode cX11_told 157 = .ok (.getfield 35, 3) := by decide +kernel
theorem dX11_told_160 : decode cX11_told 160 = .ok (.invokevirtual 221, 3) := by decide +kernel
theorem dX11_told_163 : decode cX11_told 163 = .ok (.ireturn, 1) := by decide +kernel
theorem dX11_told_164 : decode cX11_told 164 = .ok (.aload_n 0, 1) := by decide +kernel
theorem dX11_told_165 : decode cX11_told 165 = .ok (.getfield 35, 3) := by decide +kernel
theorem dX11_told_168 : decode cX11_told 168 = .ok (.getfield 207, 3) := by decide +kernel
theorem dX11_told_171 : decode cX11_told 171 = .ok (.aload_n 0, 1) := by decide +kernel
theorem dX11_told_172 : decode cX11_told 172 = .ok (.getfield 35, 3) := by decide +kernel
theorem dX11_told_175 : decode cX11_told 175 = .ok (.invokevirtual 224, 3) := by decide +kernel
theorem dX11_told_178 : decode cX11_told 178 = .ok (.idiv, 1) := by decide +kernel
theorem dX11_told_179 : decode cX11_told 179 = .ok (.ireturn, 1) := by decide +kernel
theorem dX11_told_180 : decode cX11_told 180 = .ok (.aload_n 0, 1) := by decide +kernel
theorem dX11_told_181 : decode cX11_told 181 = .ok (.getfield 35, 3) := by decide +kernel
theorem dX11_told_184 : decode cX11_told 184 = .ok (.getfield 227, 3) := by decide +kernel
theorem dX11_told_187 : decode cX11_told 187 = .ok (.ireturn, 1) := by decide +kernel
theorem dX11_told_188 : decode cX11_told 188 = .ok (.aload_n 0, 1) := by decide +kernel
theorem dX11_told_189 : decode cX11_told 189 = .ok (.getfield 49, 3) := by decide +kernel
theorem dX11_told_192 : decode cX11_told 192 = .ok (.getfield 55, 3) := by decide +kernel
theorem dX11_told_195 : decode cX11_told 195 = .ok (.getfield 230, 3) := by decide +kernel
theorem dX11_told_198 : decode cX11_told 198 = .ok (.ireturn, 1) := by decide +kernel
theorem dX11_told_199 : decode cX11_told 199 = .ok (.aload_n 0, 1) := by decide +kernel
theorem dX11_told_200 : decode cX11_told 200 = .ok (.getfield 49, 3) := by decide +kernel
theorem dX11_told_203 : decode cX11_told 203 = .ok (.getfield 55, 3) := by decide +kernel
theorem dX11_told_206 : decode cX11_told 206 = .ok (.getfield 235, 3) := by decide +kernel
theorem dX11_told_209 : decode cX11_told 209 = .ok (.ireturn, 1) := by decide +kernel
theorem dX11_told_210 : decode cX11_told 210 = .ok (.aload_n 0, 1) := by decide +kernel
theorem dX11_told_211 : decode cX11_told 211 = .ok (.getfield 69, 3) := by decide +kernel
theorem dX11_told_214 : decode cX11_told 214 = .ok (.invokevirtual 236, 3) := by decide +kernel
theorem dX11_told_217 : decode cX11_told 217 = .ok (.ireturn, 1) := by decide +kernel
theorem dX11_told_218 : decode cX11_told 218 = .ok (.aload_n 0, 1) := by decide +kernel
theorem dX11_told_219 : decode cX11_told 219 = .ok (.getfield 49, 3) := by decide +kernel
theorem dX11_told_222 : decode cX11_told 222 = .ok (.getfield 239, 3) := by decide +kernel
theorem dX11_told_225 : decode cX11_told 225 = .ok (.iconst 1, 1) := by decide +kernel
theorem dX11_told_226 : decode cX11_told 226 = .ok (.isub, 1) := by decide +kernel
theorem dX11_told_227 : decode cX11_told 227 = .ok (.ireturn, 1) := by decide +kernel
theorem dX11_told_228 : decode cX11_told 228 = .ok (.aload_n 0, 1) := by decide +kernel
theorem dX11_told_229 : decode cX11_told 229 = .ok (.getfield 28, 3) := by decide +kernel
theorem dX11_told_232 : decode cX11_told 232 = .ok (.getfield 200, 3) := by decide +kernel
theorem dX11_told_235 : decode cX11_told 235 = .ok (.ireturn, 1) := by decide +kernel
theorem dX11_told_236 : decode cX11_told 236 = .ok (.aload_n 0, 1) := by decide +kernel
theorem dX11_told_237 : decode cX11_told 237 = .ok (.getfield 10, 3) := by decide +kernel
theorem dX11_told_240 : decode cX11_told 240 = .ok (.getfield 122, 3) := by decide +kernel
theorem dX11_told_243 : decode cX11_told 243 = .ok (.ireturn, 1) := by decide +kernel
theorem B_X11_told_0 {g : Sg} {c t : Nat} (hL : Lay LC g c t σ) {x1 : Int} (h : 1 ≤ rc ∧ 6 ≤ rs ∧ (Lay LC g c t σ → CC E mX11_needBetween [vr 16, vi x1, vi 0, vi 15] σ (KV (fun τ4 => Lay LC g c t τ4 ∧ ((x1 < 10 → (Lay LC g c t τ4 → GG E mX11_told 24 [some (vr 16), some (vi x1)] [] τ4 (rc - 1) (rs - 6) Q)) ∧ (¬ (x1 < 10) → ((13 < x1 → (Lay LC g c t τ4 → GG E mX11_told 24 [some (vr 16), some (vi x1)] [] τ4 (rc - 1) (rs - 6) Q)) ∧ (¬ (13 < x1) → (Lay LC g c t τ4 → CC E mX11_needCharacters [vr 16] τ4 (KV (fun τ6 => Lay LC g c t τ6 ∧ (Lay LC g c t τ6 → GG E mX11_told 24 [some (vr 16), some (vi x1)] [] τ6 (rc - 1) (rs - 6) Q)) (fun _ _ => False)))))))) (fun k9 τ9 => Q (.inr k9) τ9)))) : GG E mX11_told 0 [some (vr 16), some (vi x1)] [] σ rc rs Q := by
  refine r_aload_n (pc := 0) dX11_told_0 rfl rfl ?_
  refine r_iload_n (pc := 1) dX11_told_1 rfl rfl ?_
  refine r_iconst (pc := 2) dX11_told_2 (inRk rfl) ?_
  refine r_bipush (pc := 3) dX11_told_3 (by decide) ?_
  obtain ⟨o1, h⟩ := h
  obtain ⟨o2, h⟩ := h
  refine c_VVAX (M := mX11_told) (pc := 5) (As := [vi x1, vi 0, vi 15]) dX11_told_5 K_X11_needBetween w_707 ⟨by decide, by decide⟩ (Nat.le_of_ble_eq_true rfl) o1 o2 (ci := 11) rfl rfl (by decide) (okO_of (N := 17) (hL.sh (i := 0) rfl (by decide) (by decide)) (by decide)) (h hL) (fun τ4 h8 => ?_) (fun k9 τ9 hk9 h8 => ?_) rfl
  · replace hL := h8.1
    replace h := h8.2
    refine r_iload_n (pc := 8) dX11_told_8 rfl rfl ?_
    refine r_bipush (pc := 9) dX11_told_9 (by decide) ?_
    refine r_icmp_lt (pc := 11) (tgt := 24) dX11_told_11 (by decide) (fun c9 => ?_) (fun c9 => ?_)
    · replace h := h.1 c9
      exact (h hL)
    · replace h := h.2 c9
      refine r_iload_n (pc := 14) dX11_told_14 rfl rfl ?_
      refine r_bipush (pc := 15) dX11_told_15 (by decide) ?_
      refine r_icmp_gt (pc := 17) (tgt := 24) dX11_told_17 (by decide) (fun c9 => ?_) (fun c9 => ?_)
      · replace h := h.1 c9
        exact (h hL)
      · replace h := h.2 c9
        refine r_aload_n (pc := 20) dX11_told_20 rfl rfl ?_
        refine c_VV0N (M := mX11_told) (pc := 21) (As := []) dX11_told_21 K_X11_needCharacters w_973 ⟨by decide, by decide⟩ (Nat.le_of_ble_eq_true rfl) rfl rfl (ci := 11) rfl rfl (by decide) (okO_of (N := 17) (hL.sh (i := 0) rfl (by decide) (by decide)) (by decide)) (h hL) (fun τ6 h8 => ?_) rfl
        replace hL := h8.1
        replace h := h8.2
        exact (h hL)
  · exact TT.out (by decide +kernel) rfl h8
theorem B_X11_told_24 {g : Sg} {c t : Nat} (hL : Lay LC g c t σ) {x1 : Int} (h : ((x1 = 0 → (Lay LC g c t σ → Q (.inl (some (vi (gI σ c 6)))) σ)) ∧ (x1 = 1 → (Lay LC g c t σ → Q (.inl (some (vi (gI σ c 7)))) σ)) ∧ (x1 = 2 → (Lay LC g c t σ → Q (.inl (some (vi (gI σ 24 6)))) σ)) ∧ (x1 = 3 → (Lay LC g c t σ → Q (.inl (some (vi (gI σ 24 7)))) σ)) ∧ (x1 = 4 → (Lay LC g c t σ → Q (.inl (some (vi (gI σ 24 8)))) σ)) ∧ (x1 = 5 → (Lay LC g c t σ → Q (.inl (some (vi (gI σ 24 9)))) σ)) ∧ (x1 = 6 → (Lay LC g c t σ → CC E mX4_kind [vr 24] σ (KI (fun r1 τ2 => Lay LC g c t τ2 ∧ (inR r1 → (Lay LC g c t τ2 → Q (.inl (some (vi r1))) τ2))) (fun _ _ => False)))) ∧ (x1 = 7 → (Lay LC g c t σ → CC E mX4_kindNumber [vr 24] σ (KI (fun r3 τ4 => Lay LC g c t τ4 ∧ (inR r3 → (Lay LC g c t τ4 → Q (.inl (some (vi r3))) τ4))) (fun _ _ => False)))) ∧ (x1 = 8 → (Lay LC g c t σ → CC E mX4_halves [vr 24] σ (KI (fun r5 τ6 => Lay LC g c t τ6 ∧ (inR r5 → r5 ≠ 0 ∧ inR ((gI σ 24 6).tdiv r5) ∧ (Lay LC g c t τ6 → Q (.inl (some (vi ((gI σ 24 6).tdiv r5)))) τ6))) (fun _ _ => False)))) ∧ (x1 = 9 → (Lay LC g c t σ → Q (.inl (some (vi (gI σ 24 11)))) σ)) ∧ (x1 = 10 → (Lay LC g c t σ → Q (.inl (some (vi (gI σ 35 0)))) σ)) ∧ (x1 = 11 → (Lay LC g c t σ → Q (.inl (some (vi (gI σ 35 1)))) σ)) ∧ (x1 = 12 → (Lay LC g c t σ → CC E mX3_diagram [vr 125] σ (KI (fun r9 τ10 => Lay LC g c t τ10 ∧ (inR r9 → (Lay LC g c t τ10 → Q (.inl (some (vi r9))) τ10))) (fun _ _ => False)))) ∧ (x1 = 13 → inR ((gI σ 34 7) - 1) ∧ (Lay LC g c t σ → Q (.inl (some (vi ((gI σ 34 7) - 1)))) σ)) ∧ (x1 = 14 → (Lay LC g c t σ → Q (.inl (some (vi (gI σ 21 2)))) σ)) ∧ ((x1 < 0 ∨ 14 < x1) → (Lay LC g c t σ → Q (.inl (some (vi (gI σ 17 1)))) σ)))) : GG E mX11_told 24 [some (vr 16), some (vi x1)] [] σ rc rs Q := by
  refine r_iload_n (pc := 24) dX11_told_24 rfl rfl ?_
  have c8 : x1 = 0 ∨ x1 = 1 ∨ x1 = 2 ∨ x1 = 3 ∨ x1 = 4 ∨ x1 = 5 ∨ x1 = 6 ∨ x1 = 7 ∨ x1 = 8 ∨ x1 = 9 ∨ x1 = 10 ∨ x1 = 11 ∨ x1 = 12 ∨ x1 = 13 ∨ x1 = 14 ∨ (x1 < 0 ∨ 14 < x1) := by omega
  rcases c8 with c9 | c9 | c9 | c9 | c9 | c9 | c9 | c9 | c9 | c9 | c9 | c9 | c9 | c9 | c9 | c9
  · replace h := h.1 c9
    refine r_tabE (pc := 25) (tgt := 100) dX11_told_25 c9 (by decide) (by decide) rfl (by decide) ?_
    refine r_aload_n (pc := 100) dX11_told_100 rfl rfl ?_
    refine r_getR (pc := 101) dX11_told_101 (k9 := 12) CL_11 (by decide) (by decide) w_600 rfl (okO_of (N := 17) (hL.sh (i := 0) rfl (by decide) (by decide)) (by decide)) ?_
    refine eqR (y := c) hL.cl.1 ?_
    refine r_getI (pc := 104) dX11_told_104 (k9 := 6) CL_1 (by decide) (by decide) w_465 rfl (okO_of (ci := 1) (N := 12) (hL.isc.r hL).1 (hL.isc.r hL).2.1) (fun _ => ?_)
    exact r_ireturn (pc := 107) (ty := .int) dX11_told_107 (by decide +kernel) rfl (nar_i _) (h hL)
  · replace h := h.2.1 c9
    refine r_tabE (pc := 25) (tgt := 108) dX11_told_25 c9 (by decide) (by decide) rfl (by decide) ?_
    refine r_aload_n (pc := 108) dX11_told_108 rfl rfl ?_
    refine r_getR (pc := 109) dX11_told_109 (k9 := 12) CL_11 (by decide) (by decide) w_600 rfl (okO_of (N := 17) (hL.sh (i := 0) rfl (by decide) (by decide)) (by decide)) ?_
    refine eqR (y := c) hL.cl.1 ?_
    refine r_getI (pc := 112) dX11_told_112 (k9 := 7) CL_1 (by decide) (by decide) w_469 rfl (okO_of (ci := 1) (N := 12) (hL.isc.r hL).1 (hL.isc.r hL).2.1) (fun _ => ?_)
    exact r_ireturn (pc := 115) (ty := .int) dX11_told_115 (by decide +kernel) rfl (nar_i _) (h hL)
  · replace h := h.2.2.1 c9
    refine r_tabE (pc := 25) (tgt := 116) dX11_told_25 c9 (by decide) (by decide) rfl (by decide) ?_
    refine r_aload_n (pc := 116) dX11_told_116 rfl rfl ?_
    refine r_getR (pc := 117) dX11_told_117 (k9 := 3) CL_11 (by decide) (by decide) w_591 rfl (okO_of (N := 17) (hL.sh (i := 0) rfl (by decide) (by decide)) (by decide)) ?_
    refine eqR (y := 24) (hL.rf (i := 14) rfl) ?_
    refine r_getI (pc := 120) dX11_told_120 (k9 := 6) CL_4 (by decide) (by decide) w_222 rfl (okO_of (N := 12) (hL.sh (i := 8) rfl (by decide) (by decide)) (by decide)) (fun _ => ?_)
    exact r_ireturn (pc := 123) (ty := .int) dX11_told_123 (by decide +kernel) rfl (nar_i _) (h hL)
  · replace h := h.2.2.2.1 c9
    refine r_tabE (pc := 25) (tgt := 124) dX11_told_25 c9 (by decide) (by decide) rfl (by decide) ?_
    refine r_aload_n (pc := 124) dX11_told_124 rfl rfl ?_
    refine r_getR (pc := 125) dX11_told_125 (k9 := 3) CL_11 (by decide) (by decide) w_591 rfl (okO_of (N := 17) (hL.sh (i := 0) rfl (by decide) (by decide)) (by decide)) ?_
    refine eqR (y := 24) (hL.rf (i := 14) rfl) ?_
    refine r_getI (pc := 128) dX11_told_128 (k9 := 7) CL_4 (by decide) (by decide) w_227 rfl (okO_of (N := 12) (hL.sh (i := 8) rfl (by decide) (by decide)) (by decide)) (fun _ => ?_)
    exact r_ireturn (pc := 131) (ty := .int) dX11_told_131 (by decide +kernel) rfl (nar_i _) (h hL)
  · replace h := h.2.2.2.2.1 c9
    refine r_tabE (pc := 25) (tgt := 132) dX11_told_25 c9 (by decide) (by decide) rfl (by decide) ?_
    refine r_aload_n (pc := 132) dX11_told_132 rfl rfl ?_
    refine r_getR (pc := 133) dX11_told_133 (k9 := 3) CL_11 (by decide) (by decide) w_591 rfl (okO_of (N := 17) (hL.sh (i := 0) rfl (by decide) (by decide)) (by decide)) ?_
    refine eqR (y := 24) (hL.rf (i := 14) rfl) ?_
    refine r_getI (pc := 136) dX11_told_136 (k9 := 8) CL_4 (by decide) (by decide) w_229 rfl (okO_of (N := 12) (hL.sh (i := 8) rfl (by decide) (by decide)) (by decide)) (fun _ => ?_)
    exact r_ireturn (pc := 139) (ty := .int) dX11_told_139 (by decide +kernel) rfl (nar_i _) (h hL)
  · replace h := h.2.2.2.2.2.1 c9
    refine r_tabE (pc := 25) (tgt := 140) dX11_told_25 c9 (by decide) (by decide) rfl (by decide) ?_
    refine r_aload_n (pc := 140) dX11_told_140 rfl rfl ?_
    refine r_getR (pc := 141) dX11_told_141 (k9 := 3) CL_11 (by decide) (by decide) w_591 rfl (okO_of (N := 17) (hL.sh (i := 0) rfl (by decide) (by decide)) (by decide)) ?_
    refine eqR (y := 24) (hL.rf (i := 14) rfl) ?_
    refine r_getI (pc := 144) dX11_told_144 (k9 := 9) CL_4 (by decide) (by decide) w_232 rfl (okO_of (N := 12) (hL.sh (i := 8) rfl (by decide) (by decide)) (by decide)) (fun _ => ?_)
    exact r_ireturn (pc := 147) (ty := .int) dX11_told_147 (by decide +kernel) rfl (nar_i _) (h hL)
  · replace h := h.2.2.2.2.2.2.1 c9
    refine r_tabE (pc := 25) (tgt := 148) dX11_told_25 c9 (by decide) (by decide) rfl (by decide) ?_
    refine r_aload_n (pc := 148) dX11_told_148 rfl rfl ?_
    refine r_getR (pc := 149) dX11_told_149 (k9 := 3) CL_11 (by decide) (by decide) w_591 rfl (okO_of (N := 17) (hL.sh (i := 0) rfl (by decide) (by decide)) (by decide)) ?_
    refine eqR (y := 24) (hL.rf (i := 14) rfl) ?_
    refine c_VI0N (M := mX11_told) (pc := 152) (As := []) dX11_told_152 K_X4_kind w_1112 ⟨by decide, by decide⟩ (Nat.le_of_ble_eq_true rfl) rfl rfl (ci := 4) rfl rfl (by decide) (okO_of (N := 12) (hL.sh (i := 8) rfl (by decide) (by decide)) (by decide)) (h hL) (fun r1 τ2 h8 hr9 => ?_) rfl
    replace hL := h8.1
    replace h := h8.2 hr9
    exact r_ireturn (pc := 155) (ty := .int) dX11_told_155 (by decide +kernel) rfl (nar_i _) (h hL)
  · replace h := h.2.2.2.2.2.2.2.1 c9
    refine r_tabE (pc := 25) (tgt := 156) dX11_told_25 c9 (by decide) (by decide) rfl (by decide) ?_
    refine r_aload_n (pc := 156) dX11_told_156 rfl rfl ?_
    refine r_getR (pc := 157) dX11_told_157 (k9 := 3) CL_11 (by decide) (by decide) w_591 rfl (okO_of (N := 17) (hL.sh (i := 0) rfl (by decide) (by decide)) (by decide)) ?_
    refine eqR (y := 24) (hL.rf (i := 14) rfl) ?_
    refine c_VI0N (M := mX11_told) (pc := 160) (As := []) dX11_told_160 K_X4_kindNumber w_1116 ⟨by decide, by decide⟩ (Nat.le_of_ble_eq_true rfl) rfl rfl (ci := 4) rfl rfl (by decide) (okO_of (N := 12) (hL.sh (i := 8) rfl (by decide) (by decide)) (by decide)) (h hL) (fun r3 τ4 h8 hr9 => ?_) rfl
    replace hL := h8.1
    replace h := h8.2 hr9
    exact r_ireturn (pc := 163) (ty := .int) dX11_told_163 (by decide +kernel) rfl (nar_i _) (h hL)
  · replace h := h.2.2.2.2.2.2.2.2.1 c9
    refine r_tabE (pc := 25) (tgt := 164) dX11_told_25 c9 (by decide) (by decide) rfl (by decide) ?_
    refine r_aload_n (pc := 164) dX11_told_164 rfl rfl ?_
    refine r_getR (pc := 165) dX11_told_165 (k9 := 3) CL_11 (by decide) (by decide) w_591 rfl (okO_of (N := 17) (hL.sh (i := 0) rfl (by decide) (by decide)) (by decide)) ?_
    refine eqR (y := 24) (hL.rf (i := 14) rfl) ?_
    refine r_getI (pc := 168) dX11_told_168 (k9 := 6) CL_4 (by decide) (by decide) w_222 rfl (okO_of (N := 12) (hL.sh (i := 8) rfl (by decide) (by decide)) (by decide)) (fun _ => ?_)
    refine r_aload_n (pc := 171) dX11_told_171 rfl rfl ?_
    refine r_getR (pc := 172) dX11_told_172 (k9 := 3) CL_11 (by decide) (by decide) w_591 rfl (okO_of (N := 17) (hL.sh (i := 0) rfl (by decide) (by decide)) (by decide)) ?_
    refine eqR (y := 24) (hL.rf (i := 14) rfl) ?_
    refine c_VI0N (M := mX11_told) (pc := 175) (As := []) dX11_told_175 K_X4_halves w_1121 ⟨by decide, by decide⟩ (Nat.le_of_ble_eq_true rfl) rfl rfl (ci := 4) rfl rfl (by decide) (okO_of (N := 12) (hL.sh (i := 8) rfl (by decide) (by decide)) (by decide)) (h hL) (fun r5 τ6 h8 hr9 => ?_) rfl
    replace hL := h8.1
    replace h := h8.2 hr9
    obtain ⟨o7, h⟩ := h
    obtain ⟨o8, h⟩ := h
    refine r_idiv (pc := 178) dX11_told_178 o7 o8 ?_
    exact r_ireturn (pc := 179) (ty := .int) dX11_told_179 (by decide +kernel) rfl (nar_i _) (h hL)
  · replace h := h.2.2.2.2.2.2.2.2.2.1 c9
    refine r_tabE (pc := 25) (tgt := 180) dX11_told_25 c9 (by decide) (by decide) rfl (by decide) ?_
    refine r_aload_n (pc := 180) dX11_told_180 rfl rfl ?_
    refine r_getR (pc := 181) dX11_told_181 (k9 := 3) CL_11 (by decide) (by decide) w_591 rfl (okO_of (N := 17) (hL.sh (i := 0) rfl (by decide) (by decide)) (by decide)) ?_
    refine eqR (y := 24) (hL.rf (i := 14) rfl) ?_
    refine r_getI (pc := 184) dX11_told_184 (k9 := 11) CL_4 (by decide) (by decide) w_235 rfl (okO_of (N := 12) (hL.sh (i := 8) rfl (by decide) (by decide)) (by decide)) (fun _ => ?_)
    exact r_ireturn (pc := 187) (ty := .int) dX11_told_187 (by decide +kernel) rfl (nar_i _) (h hL)
  · replace h := h.2.2.2.2.2.2.2.2.2.2.1 c9
    refine r_tabE (pc := 25) (tgt := 188) dX11_told_25 c9 (by decide) (by decide) rfl (by decide) ?_
    refine r_aload_n (pc := 188) dX11_told_188 rfl rfl ?_
    refine r_getR (pc := 189) dX11_told_189 (k9 := 5) CL_11 (by decide) (by decide) w_593 rfl (okO_of (N := 17) (hL.sh (i := 0) rfl (by decide) (by decide)) (by decide)) ?_
    refine eqR (y := 34) (hL.rf (i := 25) rfl) ?_
    refine r_getR (pc := 192) dX11_told_192 (k9 := 0) CL_0 (by decide) (by decide) w_312 rfl (okO_of (N := 10) (hL.sh (i := 18) rfl (by decide) (by decide)) (by decide)) ?_
    refine eqR (y := 35) (hL.rf (i := 18) rfl) ?_
    refine r_getI (pc := 195) dX11_told_195 (k9 := 0) CL_2 (by decide) (by decide) w_300 rfl (okO_of (N := 2) (hL.sh (i := 19) rfl (by decide) (by decide)) (by decide)) (fun _ => ?_)
    exact r_ireturn (pc := 198) (ty := .int) dX11_told_198 (by decide +kernel) rfl (nar_i _) (h hL)
  · replace h := h.2.2.2.2.2.2.2.2.2.2.2.1 c9
    refine r_tabE (pc := 25) (tgt := 199) dX11_told_25 c9 (by decide) (by decide) rfl (by decide) ?_
    refine r_aload_n (pc := 199) dX11_told_199 rfl rfl ?_
    refine r_getR (pc := 200) dX11_told_200 (k9 := 5) CL_11 (by decide) (by decide) w_593 rfl (okO_of (N := 17) (hL.sh (i := 0) rfl (by decide) (by decide)) (by decide)) ?_
    refine eqR (y := 34) (hL.rf (i := 25) rfl) ?_
    refine r_getR (pc := 203) dX11_told_203 (k9 := 0) CL_0 (by decide) (by decide) w_312 rfl (okO_of (N := 10) (hL.sh (i := 18) rfl (by decide) (by decide)) (by decide)) ?_
    refine eqR (y := 35) (hL.rf (i := 18) rfl) ?_
    refine r_getI (pc := 206) dX11_told_206 (k9 := 1) CL_2 (by decide) (by decide) w_303 rfl (okO_of (N := 2) (hL.sh (i := 19) rfl (by decide) (by decide)) (by decide)) (fun _ => ?_)
    exact r_ireturn (pc := 209) (ty := .int) dX11_told_209 (by decide +kernel) rfl (nar_i _) (h hL)
  · replace h := h.2.2.2.2.2.2.2.2.2.2.2.2.1 c9
    refine r_tabE (pc := 25) (tgt := 210) dX11_told_25 c9 (by decide) (by decide) rfl (by decide) ?_
    refine r_aload_n (pc := 210) dX11_told_210 rfl rfl ?_
    refine r_getR (pc := 211) dX11_told_211 (k9 := 7) CL_11 (by decide) (by decide) w_595 rfl (okO_of (N := 17) (hL.sh (i := 0) rfl (by decide) (by decide)) (by decide)) ?_
    refine eqR (y := 125) (hL.rf (i := 40) rfl) ?_
    refine c_VI0N (M := mX11_told) (pc := 214) (As := []) dX11_told_214 K_X3_diagram w_1125 ⟨by decide, by decide⟩ (Nat.le_of_ble_eq_true rfl) rfl rfl (ci := 3) rfl rfl (by decide) (okO_of (N := 3) (hL.sh (i := 43) rfl (by decide) (by decide)) (by decide)) (h hL) (fun r9 τ10 h8 hr9 => ?_) rfl
    replace hL := h8.1
    replace h := h8.2 hr9
    exact r_ireturn (pc := 217) (ty := .int) dX11_told_217 (by decide +kernel) rfl (nar_i _) (h hL)
  · replace h := h.2.2.2.2.2.2.2.2.2.2.2.2.2.1 c9
    refine r_tabE (pc := 25) (tgt := 218) dX11_told_25 c9 (by decide) (by decide) rfl (by decide) ?_
    refine r_aload_n (pc := 218) dX11_told_218 rfl rfl ?_
    refine r_getR (pc := 219) dX11_told_219 (k9 := 5) CL_11 (by decide) (by decide) w_593 rfl (okO_of (N := 17) (hL.sh (i := 0) rfl (by decide) (by decide)) (by decide)) ?_
    refine eqR (y := 34) (hL.rf (i := 25) rfl) ?_
    refine r_getI (pc := 222) dX11_told_222 (k9 := 7) CL_0 (by decide) (by decide) w_329 rfl (okO_of (N := 10) (hL.sh (i := 18) rfl (by decide) (by decide)) (by decide)) (fun _ => ?_)
    refine r_iconst (pc := 225) dX11_told_225 (inRk rfl) ?_
    obtain ⟨o11, h⟩ := h
    refine r_isub (pc := 226) dX11_told_226 o11 ?_
    exact r_ireturn (pc := 227) (ty := .int) dX11_told_227 (by decide +kernel) rfl (nar_i _) (h hL)
  · replace h := h.2.2.2.2.2.2.2.2.2.2.2.2.2.2.1 c9
    refine r_tabE (pc := 25) (tgt := 228) dX11_told_25 c9 (by decide) (by decide) rfl (by decide) ?_
    refine r_aload_n (pc := 228) dX11_told_228 rfl rfl ?_
    refine r_getR (pc := 229) dX11_told_229 (k9 := 2) CL_11 (by decide) (by decide) w_590 rfl (okO_of (N := 17) (hL.sh (i := 0) rfl (by decide) (by decide)) (by decide)) ?_
    refine eqR (y := 21) (hL.rf (i := 7) rfl) ?_
    refine r_getI (pc := 232) dX11_told_232 (k9 := 2) CL_5 (by decide) (by decide) w_185 rfl (okO_of (N := 3) (hL.sh (i := 5) rfl (by decide) (by decide)) (by decide)) (fun _ => ?_)
    exact r_ireturn (pc := 235) (ty := .int) dX11_told_235 (by decide +kernel) rfl (nar_i _) (h hL)
  · replace h := h.2.2.2.2.2.2.2.2.2.2.2.2.2.2.2 c9
    refine r_tabOut (pc := 25) (tgt := 236) dX11_told_25 c9 (by decide) ?_
    refine r_aload_n (pc := 236) dX11_told_236 rfl rfl ?_
    refine r_getR (pc := 237) dX11_told_237 (k9 := 0) CL_11 (by decide) (by decide) w_588 rfl (okO_of (N := 17) (hL.sh (i := 0) rfl (by decide) (by decide)) (by decide)) ?_
    refine eqR (y := 17) (hL.rf (i := 1) rfl) ?_
    refine r_getI (pc := 240) dX11_told_240 (k9 := 1) CL_10 (by decide) (by decide) w_140 rfl (okO_of (N := 2) (hL.sh (i := 1) rfl (by decide) (by decide)) (by decide)) (fun _ => ?_)
    exact r_ireturn (pc := 243) (ty := .int) dX11_told_243 (by decide +kernel) rfl (nar_i _) (h hL)
theorem C_X11_told {a0 : Nat} {x1 : Int} (h : GG E mX11_told 0 [some (vr a0), some (vi x1)] [] σ 1 6 Q) : CC E mX11_told [vr a0, vi x1] σ Q := CC.of (by decide +kernel) rfl (by decide +kernel) (fun h9 => nomatch h9) (Nat.le_of_ble_eq_true rfl) h
theorem dX11_undo_0 : decode cX11_undo 0 = .ok (.aload_n 0, 1) := by decide +kernel
theorem dX11_undo_1 : decode cX11_undo 1 = .ok (.getfield 28, 3) := by decide +kernel
theorem dX11_undo_4 : decode cX11_undo 4 = .ok (.getfield 200, 3) := by decide +kernel
theorem dX11_undo_7 : decode cX11_undo 7 = .ok (.iconst 1, 1) := by decide +kernel
theorem dX11_undo_8 : decode cX11_undo 8 = .ok (.if_icmp .ge 5, 3) := by decide +kernel
theorem dX11_undo_11 : decode cX11_undo 11 = .ok (.iconst (-1), 1) := by decide +kernel
theorem dX11_undo_12 : decode cX11_undo 12 = .ok (.ireturn, 1) := by decide +kernel
theorem dX11_undo_13 : decode cX11_undo 13 = .ok (.aload_n 0, 1) := by decide +kernel
theorem dX11_undo_14 : decode cX11_undo 14 = .ok (.getfield 97, 3) := by decide +kernel
theorem dX11_undo_17 : decode cX11_undo 17 = .ok (.aload_n 0, 1) := by decide +kernel
theorem dX11_undo_18 : decode cX11_undo 18 = .ok (.getfield 93, 3) := by decide +kernel
theorem dX11_undo_21 : decode cX11_undo 21 = .ok (.getfield 159, 3) := by decide +kernel
theorem dX11_undo_24 : decode cX11_undo 24 = .ok (.invokevirtual 104, 3) := by decide +kernel
theorem dX11_undo_27 : decode cX11_undo 27 = .ok (.aload_n 0, 1) := by decide +kernel
theorem dX11_undo_28 : decode cX11_undo 28 = .ok (.getfield 28, 3) := by decide +kernel
theorem dX11_undo_31 : decode cX11_undo 31 = .ok (.aload_n 0, 1) := by decide +kernel
theorem dX11_undo_32 : decode cX11_undo 32 = .ok (.getfield 97, 3) := by decide +kernel
theorem dX11_undo_35 : decode cX11_undo 35 = .ok (.invokevirtual 201, 3) := by decide +kernel
theorem dX11_undo_38 : decode cX11_undo 38 = .ok (.aload_n 0, 1) := by decide +kernel
theorem dX11_undo_39 : decode cX11_undo 39 = .ok (.getfield 97, 3) := by decide +kernel
theorem dX11_undo_42 : decode cX11_undo 42 = .ok (.invokevirtual 108, 3) := by decide +kernel
theorem dX11_undo_45 : decode cX11_undo 45 = .ok (.pop, 1) := by decide +kernel
theorem dX11_undo_46 : decode cX11_undo 46 = .ok (.aload_n 0, 1) := by decide +kernel
theorem dX11_undo_47 : decode cX11_undo 47 = .ok (.invokevirtual 147, 3) := by decide +kernel
theorem dX11_undo_50 : decode cX11_undo 50 = .ok (.aload_n 0, 1) := by decide +kernel
theorem dX11_undo_51 : decode cX11_undo 51 = .ok (.getfield 28, 3) := by decide +kernel
theorem dX11_undo_54 : decode cX11_undo 54 = .ok (.getfield 200, 3) := by decide +kernel
theorem dX11_undo_57 : decode cX11_undo 57 = .ok (.ireturn, 1) := by decide +kernel
theorem B_X11_undo_0 {g : Sg} {c t : Nat} (hL : Lay LC g c t σ)  (h : ((1 ≤ (gI σ 21 2) → (Lay LC g c t σ → CC E mX1_begin [vr t, vi (gI σ c 6)] σ (KV (fun τ2 => Lay LC g c t τ2 ∧ (Lay LC g c t τ2 → CC E mX5_giveBack [vr 21, vr t] τ2 (KV (fun τ4 => Lay LC g c t τ4 ∧ (Lay LC g c t τ4 → CC E mX1_close [vr t] τ4 (KI (fun r5 τ6 => Lay LC g c t τ6 ∧ (inR r5 → (Lay LC g c t τ6 → CC E mX11_takeTrial [vr 16] τ6 (KV (fun τ8 => Lay LC g c t τ8 ∧ (Lay LC g c t τ8 → Q (.inl (some (vi (gI τ8 21 2)))) τ8)) (fun _ _ => False))))) (fun _ _ => False)))) (fun _ _ => False)))) (fun _ _ => False)))) ∧ (¬ (1 ≤ (gI σ 21 2)) → (Lay LC g c t σ → Q (.inl (some (vi (-1)))) σ)))) : GG E mX11_undo 0 [some (vr 16)] [] σ rc rs Q := by
  refine r_aload_n (pc := 0) dX11_undo_0 rfl rfl ?_
  refine r_getR (pc := 1) dX11_undo_1 (k9 := 2) CL_11 (by decide) (by decide) w_590 rfl (okO_of (N := 17) (hL.sh (i := 0) rfl (by decide) (by decide)) (by decide)) ?_
  refine eqR (y := 21) (hL.rf (i := 7) rfl) ?_
  refine r_getI (pc := 4) dX11_undo_4 (k9 := 2) CL_5 (by decide) (by decide) w_185 rfl (okO_of (N := 3) (hL.sh (i := 5) rfl (by decide) (by decide)) (by decide)) (fun _ => ?_)
  refine r_iconst (pc := 7) dX11_undo_7 (inRk rfl) ?_
  refine r_icmp_ge (pc := 8) (tgt := 13) dX11_undo_8 (by decide) (fun c9 => ?_) (fun c9 => ?_)
  · replace h := h.1 c9
    refine r_aload_n (pc := 13) dX11_undo_13 rfl rfl ?_
    refine r_getR (pc := 14) dX11_undo_14 (k9 := 13) CL_11 (by decide) (by decide) w_601 rfl (okO_of (N := 17) (hL.sh (i := 0) rfl (by decide) (by decide)) (by decide)) ?_
    refine eqR (y := t) hL.cl.2 ?_
    refine r_aload_n (pc := 17) dX11_undo_17 rfl rfl ?_
    refine r_getR (pc := 18) dX11_undo_18 (k9 := 12) CL_11 (by decide) (by decide) w_600 rfl (okO_of (N := 17) (hL.sh (i := 0) rfl (by decide) (by decide)) (by decide)) ?_
    refine eqR (y := c) hL.cl.1 ?_
    refine r_getI (pc := 21) dX11_undo_21 (k9 := 6) CL_1 (by decide) (by decide) w_465 rfl (okO_of (ci := 1) (N := 12) (hL.isc.r hL).1 (hL.isc.r hL).2.1) (fun _ => ?_)
    refine c_VV0N (M := mX11_undo) (pc := 24) (As := [vi (gI σ c 6)]) dX11_undo_24 K_X1_begin w_504 ⟨by decide, by decide⟩ (Nat.le_of_ble_eq_true rfl) rfl rfl (ci := 1) rfl rfl (by decide) (okO_of (ci := 1) (N := 12) (hL.ist.r hL).1 (hL.ist.r hL).2.1) (h hL) (fun τ2 h8 => ?_) rfl
    replace hL := h8.1
    replace h := h8.2
    refine r_aload_n (pc := 27) dX11_undo_27 rfl rfl ?_
    refine r_getR (pc := 28) dX11_undo_28 (k9 := 2) CL_11 (by decide) (by decide) w_590 rfl (okO_of (N := 17) (hL.sh (i := 0) rfl (by decide) (by decide)) (by decide)) ?_
    refine eqR (y := 21) (hL.rf (i := 7) rfl) ?_
    refine r_aload_n (pc := 31) dX11_undo_31 rfl rfl ?_
    refine r_getR (pc := 32) dX11_undo_32 (k9 := 13) CL_11 (by decide) (by decide) w_601 rfl (okO_of (N := 17) (hL.sh (i := 0) rfl (by decide) (by decide)) (by decide)) ?_
    refine eqR (y := t) hL.cl.2 ?_
    refine c_VV0N (M := mX11_undo) (pc := 35) (As := [vr t]) dX11_undo_35 K_X5_giveBack w_660 ⟨by decide, by decide⟩ (Nat.le_of_ble_eq_true rfl) rfl rfl (ci := 5) rfl rfl (by decide) (okO_of (N := 3) (hL.sh (i := 5) rfl (by decide) (by decide)) (by decide)) (h hL) (fun τ4 h8 => ?_) rfl
    replace hL := h8.1
    replace h := h8.2
    refine r_aload_n (pc := 38) dX11_undo_38 rfl rfl ?_
    refine r_getR (pc := 39) dX11_undo_39 (k9 := 13) CL_11 (by decide) (by decide) w_601 rfl (okO_of (N := 17) (hL.sh (i := 0) rfl (by decide) (by decide)) (by decide)) ?_
    refine eqR (y := t) hL.cl.2 ?_
    refine c_VI0N (M := mX11_undo) (pc := 42) (As := []) dX11_undo_42 K_X1_close w_508 ⟨by decide, by decide⟩ (Nat.le_of_ble_eq_true rfl) rfl rfl (ci := 1) rfl rfl (by decide) (okO_of (ci := 1) (N := 12) (hL.ist.r hL).1 (hL.ist.r hL).2.1) (h hL) (fun r5 τ6 h8 hr9 => ?_) rfl
    replace hL := h8.1
    replace h := h8.2 hr9
    refine r_pop (pc := 45) dX11_undo_45 (fun _ h9 => nomatch h9) ?_
    refine r_aload_n (pc := 46) dX11_undo_46 rfl rfl ?_
    refine c_VV0N (M := mX11_undo) (pc := 47) (As := []) dX11_undo_47 K_X11_takeTrial w_668 ⟨by decide, by decide⟩ (Nat.le_of_ble_eq_true rfl) rfl rfl (ci := 11) rfl rfl (by decide) (okO_of (N := 17) (hL.sh (i := 0) rfl (by decide) (by decide)) (by decide)) (h hL) (fun τ8 h8 => ?_) rfl
    replace hL := h8.1
    replace h := h8.2
    refine r_aload_n (pc := 50) dX11_undo_50 rfl rfl ?_
    refine r_getR (pc := 51) dX11_undo_51 (k9 := 2) CL_11 (by decide) (by decide) w_590 rfl (okO_of (N := 17) (hL.sh (i := 0) rfl (by decide) (by decide)) (by decide)) ?_
    refine eqR (y := 21) (hL.rf (i := 7) rfl) ?_
    refine r_getI (pc := 54) dX11_undo_54 (k9 := 2) CL_5 (by decide) (by decide) w_185 rfl (okO_of (N := 3) (hL.sh (i := 5) rfl (by decide) (by decide)) (by decide)) (fun _ => ?_)
    exact r_ireturn (pc := 57) (ty := .int) dX11_undo_57 (by decide +kernel) rfl (nar_i _) (h hL)
  · replace h := h.2 c9
    refine r_iconst (pc := 11) dX11_undo_11 (inRk rfl) ?_
    exact r_ireturn (pc := 12) (ty := .int) dX11_undo_12 (by decide +kernel) rfl (nar_i _) (h hL)
theorem C_X11_undo {a0 : Nat} (h : GG E mX11_undo 0 [some (vr a0)] [] σ 0 0 Q) : CC E mX11_undo [vr a0] σ Q := CC.of (by decide +kernel) rfl (by decide +kernel) (fun h9 => nomatch h9) (Nat.le_of_ble_eq_true rfl) h
theorem dX11_value_0 : decode cX11_value 0 = .ok (.aload_n 0, 1) := by decide +kernel
theorem dX11_value_1 : decode cX11_value 1 = .ok (.invokevirtual 204, 3) := by decide +kernel
theorem dX11_value_4 : decode cX11_value 4 = .ok (.aload_n 0, 1) := by decide +kernel
theorem dX11_value_5 : decode cX11_value 5 = .ok (.iload_n 1, 1) := by decide +kernel
theorem dX11_value_6 : decode cX11_value 6 = .ok (.aload_n 0, 1) := by decide +kernel
theorem dX11_value_7 : decode cX11_value 7 = .ok (.getfield 49, 3) := by decide +kernel
theorem dX11_value_10 : decode cX11_value 10 = .ok (.getfield 239, 3) := by decide +kernel
theorem dX11_value_13 : decode cX11_value 13 = .ok (.invokevirtual 193, 3) := by decide +kernel
theorem dX11_value_16 : decode cX11_value 16 = .ok (.aload_n 0, 1) := by decide +kernel
theorem dX11_value_17 : decode cX11_value 17 = .ok (.iload_n 2, 1) := by decide +kernel
theorem dX11_value_18 : decode cX11_value 18 = .ok (.aload_n 0, 1) := by decide +kernel
theorem dX11_value_19 : decode cX11_value 19 = .ok (.getfield 35, 3) := by decide +kernel
theorem dX11_value_22 : decode cX11_value 22 = .ok (.getfield 208, 3) := by decide +kernel
theorem dX11_value_25 : decode cX11_value 25 = .ok (.invokevirtual 193, 3) := by decide +kernel
theorem dX11_value_28 : decode cX11_value 28 = .ok (.aload_n 0, 1) := by decide +kernel
theorem dX11_value_29 : decode cX11_value 29 = .ok (.getfield 49, 3) := by decide +kernel
theorem dX11_value_32 : decode cX11_value 32 = .ok (.getfield 292, 3) := by decide +kernel
theorem dX11_value_35 : decode cX11_value 35 = .ok (.iload_n 1, 1) := by decide +kernel
theorem dX11_value_36 : decode cX11_value 36 = .ok (.aaload, 1) := by decide +kernel
theorem dX11_value_37 : decode cX11_value 37 = .ok (.iload_n 2, 1) := by decide +kernel
theorem dX11_value_38 : decode cX11_value 38 = .ok (.invokestatic 243, 3) := by decide +kernel
theorem dX11_value_41 : decode cX11_value 41 = .ok (.ireturn, 1) := by decide +kernel
theorem B_X11_value_0 {g : Sg} {c t : Nat} (hL : Lay LC g c t σ) {x1 : Int} {x2 : Int} (h : (Lay LC g c t σ → CC E mX11_needCharacters [vr 16] σ (KV (fun τ2 => Lay LC g c t τ2 ∧ 1 ≤ rc ∧ 6 ≤ rs ∧ (Lay LC g c t τ2 → CC E mX11_needIndex [vr 16, vi x1, vi (gI τ2 34 7)] τ2 (KV (fun τ6 => Lay LC g c t τ6 ∧ 1 ≤ rc - 1 ∧ 6 ≤ rs - 6 ∧ (Lay LC g c t τ6 → CC E mX11_needIndex [vr 16, vi x2, vi (gI τ6 24 7)] τ6 (KV (fun τ10 => Lay LC g c t τ10 ∧ (0 ≤ x1 ∧ x1 < 12) ∧ ∀ b12 : Nat, b12 = gR τ10 36 x1.toNat → (37 ≤ b12 ∧ b12 < 49) → (Lay LC g c t τ10 → CC E mX11_at [vr b12, vi x2] τ10 (KI (fun r14 τ15 => Lay LC g c t τ15 ∧ (inR r14 → (Lay LC g c t τ15 → Q (.inl (some (vi r14))) τ15))) (fun _ _ => False)))) (fun k9 τ9 => Q (.inr k9) τ9)))) (fun k9 τ9 => Q (.inr k9) τ9)))) (fun _ _ => False)))) : GG E mX11_value 0 [some (vr 16), some (vi x1), some (vi x2)] [] σ rc rs Q := by
  refine r_aload_n (pc := 0) dX11_value_0 rfl rfl ?_
  refine c_VV0N (M := mX11_value) (pc := 1) (As := []) dX11_value_1 K_X11_needCharacters w_973 ⟨by decide, by decide⟩ (Nat.le_of_ble_eq_true rfl) rfl rfl (ci := 11) rfl rfl (by decide) (okO_of (N := 17) (hL.sh (i := 0) rfl (by decide) (by decide)) (by decide)) (h hL) (fun τ2 h8 => ?_) rfl
  replace hL := h8.1
  replace h := h8.2
  refine r_aload_n (pc := 4) dX11_value_4 rfl rfl ?_
  refine r_iload_n (pc := 5) dX11_value_5 rfl rfl ?_
  refine r_aload_n (pc := 6) dX11_value_6 rfl rfl ?_
  refine r_getR (pc := 7) dX11_value_7 (k9 := 5) CL_11 (by decide) (by decide) w_593 rfl (okO_of (N := 17) (hL.sh (i := 0) rfl (by decide) (by decide)) (by decide)) ?_
  refine eqR (y := 34) (hL.rf (i := 25) rfl) ?_
  refine r_getI (pc := 10) dX11_value_10 (k9 := 7) CL_0 (by decide) (by decide) w_329 rfl (okO_of (N := 10) (hL.sh (i := 18) rfl (by decide) (by decide)) (by decide)) (fun _ => ?_)
  obtain ⟨o3, h⟩ := h
  obtain ⟨o4, h⟩ := h
  refine c_VVAX (M := mX11_value) (pc := 13) (As := [vi x1, vi (gI τ2 34 7)]) dX11_value_13 K_X11_needIndex w_946 ⟨by decide, by decide⟩ (Nat.le_of_ble_eq_true rfl) o3 o4 (ci := 11) rfl rfl (by decide) (okO_of (N := 17) (hL.sh (i := 0) rfl (by decide) (by decide)) (by decide)) (h hL) (fun τ6 h8 => ?_) (fun k9 τ9 hk9 h8 => ?_) rfl
  · replace hL := h8.1
    replace h := h8.2
    refine r_aload_n (pc := 16) dX11_value_16 rfl rfl ?_
    refine r_iload_n (pc := 17) dX11_value_17 rfl rfl ?_
    refine r_aload_n (pc := 18) dX11_value_18 rfl rfl ?_
    refine r_getR (pc := 19) dX11_value_19 (k9 := 3) CL_11 (by decide) (by decide) w_591 rfl (okO_of (N := 17) (hL.sh (i := 0) rfl (by decide) (by decide)) (by decide)) ?_
    refine eqR (y := 24) (hL.rf (i := 14) rfl) ?_
    refine r_getI (pc := 22) dX11_value_22 (k9 := 7) CL_4 (by decide) (by decide) w_227 rfl (okO_of (N := 12) (hL.sh (i := 8) rfl (by decide) (by decide)) (by decide)) (fun _ => ?_)
    obtain ⟨o7, h⟩ := h
    obtain ⟨o8, h⟩ := h
    refine c_VVAX (M := mX11_value) (pc := 25) (As := [vi x2, vi (gI τ6 24 7)]) dX11_value_25 K_X11_needIndex w_946 ⟨by decide, by decide⟩ (Nat.le_of_ble_eq_true rfl) o7 o8 (ci := 11) rfl rfl (by decide) (okO_of (N := 17) (hL.sh (i := 0) rfl (by decide) (by decide)) (by decide)) (h hL) (fun τ10 h8 => ?_) (fun k9 τ9 hk9 h8 => ?_) rfl
    · replace hL := h8.1
      replace h := h8.2
      refine r_aload_n (pc := 28) dX11_value_28 rfl rfl ?_
      refine r_getR (pc := 29) dX11_value_29 (k9 := 5) CL_11 (by decide) (by decide) w_593 rfl (okO_of (N := 17) (hL.sh (i := 0) rfl (by decide) (by decide)) (by decide)) ?_
      refine eqR (y := 34) (hL.rf (i := 25) rfl) ?_
      refine r_getR (pc := 32) dX11_value_32 (k9 := 1) CL_0 (by decide) (by decide) w_316 rfl (okO_of (N := 10) (hL.sh (i := 18) rfl (by decide) (by decide)) (by decide)) ?_
      refine eqR (y := 36) (hL.rf (i := 19) rfl) ?_
      refine r_iload_n (pc := 35) dX11_value_35 rfl rfl ?_
      obtain ⟨o11, h⟩ := h
      refine r_aaload (pc := 36) dX11_value_36 (okB_of (c := 24) (n := 12) (hL.sh (i := 20) rfl (by decide) (by decide)) (by decide) o11) ?_
      refine nmR (fun b12 e9 => ?_)
      have q13 : (37 ≤ b12 ∧ b12 < 49) := e9 ▸ hL.rsw (i := 0) rfl (rowC o11 (by decide))
      replace h := h b12 e9 q13
      refine r_iload_n (pc := 37) dX11_value_37 rfl rfl ?_
      refine c_SI0N (M := mX11_value) (pc := 38) (As := [vr b12, vi x2]) dX11_value_38 K_X11_at w_690 ⟨by decide, by decide⟩ (Nat.le_of_ble_eq_true rfl) rfl rfl (h hL) (fun r14 τ15 h8 hr9 => ?_) rfl
      replace hL := h8.1
      replace h := h8.2 hr9
      exact r_ireturn (pc := 41) (ty := .int) dX11_value_41 (by decide +kernel) rfl (nar_i _) (h hL)
    · exact TT.out (by decide +kernel) rfl h8
  · exact TT.out (by decide +kernel) rfl h8
theorem C_X11_value {a0 : Nat} {x1 : Int} {x2 : Int} (h : GG E mX11_value 0 [some (vr a0), some (vi x1), some (vi x2)] [] σ 2 12 Q) : CC E mX11_value [vr a0, vi x1, vi x2] σ Q := CC.of (by decide +kernel) rfl (by decide +kernel) (fun h9 => nomatch h9) (Nat.le_of_ble_eq_true rfl) h
theorem dX11_ways_0 : decode cX11_ways 0 = .ok (.aload_n 0, 1) := by decide +kernel
theorem dX11_ways_1 : decode cX11_ways 1 = .ok (.invokevirtual 204, 3) := by decide +kernel
theorem dX11_ways_4 : decode cX11_ways 4 = .ok (.aload_n 0, 1) := by decide +kernel
theorem dX11_ways_5 : decode cX11_ways 5 = .ok (.iload_n 1, 1) := by decide +kernel
theorem dX11_ways_6 : decode cX11_ways 6 = .ok (.aload_n 0, 1) := by decide +kernel
theorem dX11_ways_7 : decode cX11_ways 7 = .ok (.getfield 69, 3) := by decide +kernel
theorem dX11_ways_10 : decode cX11_ways 10 = .ok (.getfield 303, 3) := by decide +kernel
theorem dX11_ways_13 : decode cX11_ways 13 = .ok (.invokevirtual 193, 3) := by decide +kernel
theorem dX11_ways_16 : decode cX11_ways 16 = .ok (.aload_n 0, 1) := by decide +kernel
theorem dX11_ways_17 : decode cX11_ways 17 = .ok (.iload_n 2, 1) := by decide +kernel
theorem dX11_ways_18 : decode cX11_ways 18 = .ok (.aload_n 0, 1) := by decide +kernel
theorem dX11_ways_19 : decode cX11_ways 19 = .ok (.getfield 69, 3) := by decide +kernel
theorem dX11_ways_22 : decode cX11_ways 22 = .ok (.getfield 303, 3) := by decide +kernel
theorem dX11_ways_25 : decode cX11_ways 25 = .ok (.invokevirtual 193, 3) := by decide +kernel
theorem dX11_ways_28 : decode cX11_ways 28 = .ok (.aload_n 0, 1) := by decide +kernel
theorem dX11_ways_29 : decode cX11_ways 29 = .ok (.getfield 69, 3) := by decide +kernel
theorem dX11_ways_32 : decode cX11_ways 32 = .ok (.getfield 304, 3) := by decide +kernel
theorem dX11_ways_35 : decode cX11_ways 35 = .ok (.iload_n 1, 1) := by decide +kernel
theorem dX11_ways_36 : decode cX11_ways 36 = .ok (.aaload, 1) := by decide +kernel
theorem dX11_ways_37 : decode cX11_ways 37 = .ok (.iload_n 2, 1) := by decide +kernel
theorem dX11_ways_38 : decode cX11_ways 38 = .ok (.invokestatic 243, 3) := by decide +kernel
theorem dX11_ways_41 : decode cX11_ways 41 = .ok (.ireturn, 1) := by decide +kernel
theorem B_X11_ways_0 {g : Sg} {c t : Nat} (hL : Lay LC g c t σ) {x1 : Int} {x2 : Int} (h : (Lay LC g c t σ → CC E mX11_needCharacters [vr 16] σ (KV (fun τ2 => Lay LC g c t τ2 ∧ 1 ≤ rc ∧ 6 ≤ rs ∧ (Lay LC g c t τ2 → CC E mX11_needIndex [vr 16, vi x1, vi (gI τ2 125 2)] τ2 (KV (fun τ6 => Lay LC g c t τ6 ∧ 1 ≤ rc - 1 ∧ 6 ≤ rs - 6 ∧ (Lay LC g c t τ6 → CC E mX11_needIndex [vr 16, vi x2, vi (gI τ6 125 2)] τ6 (KV (fun τ10 => Lay LC g c t τ10 ∧ (0 ≤ x1 ∧ x1 < 12) ∧ (Lay LC g c t τ10 → CC E mX11_at [vr (127 + x1.toNat), vi x2] τ10 (KI (fun r13 τ14 => Lay LC g c t τ14 ∧ (inR r13 → (Lay LC g c t τ14 → Q (.inl (some (vi r13))) τ14))) (fun _ _ => False)))) (fun k9 τ9 => Q (.inr k9) τ9)))) (fun k9 τ9 => Q (.inr k9) τ9)))) (fun _ _ => False)))) : GG E mX11_ways 0 [some (vr 16), some (vi x1), some (vi x2)] [] σ rc rs Q := by
  refine r_aload_n (pc := 0) dX11_ways_0 rfl rfl ?_
  refine c_VV0N (M := mX11_ways) (pc := 1) (As := []) dX11_ways_1 K_X11_needCharacters w_973 ⟨by decide, by decide⟩ (Nat.le_of_ble_eq_true rfl) rfl rfl (ci := 11) rfl rfl (by decide) (okO_of (N := 17) (hL.sh (i := 0) rfl (by decide) (by decide)) (by decide)) (h hL) (fun τ2 h8 => ?_) rfl
  replace hL := h8.1
  replace h := h8.2
  refine r_aload_n (pc := 4) dX11_ways_4 rfl rfl ?_
  refine r_iload_n (pc := 5) dX11_ways_5 rfl rfl ?_
  refine r_aload_n (pc := 6) dX11_ways_6 rfl rfl ?_
  refine r_getR (pc := 7) dX11_ways_7 (k9 := 7) CL_11 (by decide) (by decide) w_595 rfl (okO_of (N := 17) (hL.sh (i := 0) rfl (by decide) (by decide)) (by decide)) ?_
  refine eqR (y := 125) (hL.rf (i := 40) rfl) ?_
  refine r_getI (pc := 10) dX11_ways_10 (k9 := 2) CL_3 (by decide) (by decide) w_420 rfl (okO_of (N := 3) (hL.sh (i := 43) rfl (by decide) (by decide)) (by decide)) (fun _ => ?_)
  obtain ⟨o3, h⟩ := h
  obtain ⟨o4, h⟩ := h
  refine c_VVAX (M := mX11_ways) (pc := 13) (As := [vi x1, vi (gI τ2 125 2)]) dX11_ways_13 K_X11_needIndex w_946 ⟨by decide, by decide⟩ (Nat.le_of_ble_eq_true rfl) o3 o4 (ci := 11) rfl rfl (by decide) (okO_of (N := 17) (hL.sh (i := 0) rfl (by decide) (by decide)) (by decide)) (h hL) (fun τ6 h8 => ?_) (fun k9 τ9 hk9 h8 => ?_) rfl
  · replace hL := h8.1
    replace h := h8.2
    refine r_aload_n (pc := 16) dX11_ways_16 rfl rfl ?_
    refine r_iload_n (pc := 17) dX11_ways_17 rfl rfl ?_
    refine r_aload_n (pc := 18) dX11_ways_18 rfl rfl ?_
    refine r_getR (pc := 19) dX11_ways_19 (k9 := 7) CL_11 (by decide) (by decide) w_595 rfl (okO_of (N := 17) (hL.sh (i := 0) rfl (by decide) (by decide)) (by decide)) ?_
    refine eqR (y := 125) (hL.rf (i := 40) rfl) ?_
    refine r_getI (pc := 22) dX11_ways_22 (k9 := 2) CL_3 (by decide) (by decide) w_420 rfl (okO_of (N := 3) (hL.sh (i := 43) rfl (by decide) (by decide)) (by decide)) (fun _ => ?_)
    obtain ⟨o7, h⟩ := h
    obtain ⟨o8, h⟩ := h
    refine c_VVAX (M := mX11_ways) (pc := 25) (As := [vi x2, vi (gI τ6 125 2)]) dX11_ways_25 K_X11_needIndex w_946 ⟨by decide, by decide⟩ (Nat.le_of_ble_eq_true rfl) o7 o8 (ci := 11) rfl rfl (by decide) (okO_of (N := 17) (hL.sh (i := 0) rfl (by decide) (by decide)) (by decide)) (h hL) (fun τ10 h8 => ?_) (fun k9 τ9 hk9 h8 => ?_) rfl
    · replace hL := h8.1
      replace h := h8.2
      refine r_aload_n (pc := 28) dX11_ways_28 rfl rfl ?_
      refine r_getR (pc := 29) dX11_ways_29 (k9 := 7) CL_11 (by decide) (by decide) w_595 rfl (okO_of (N := 17) (hL.sh (i := 0) rfl (by decide) (by decide)) (by decide)) ?_
      refine eqR (y := 125) (hL.rf (i := 40) rfl) ?_
      refine r_getR (pc := 32) dX11_ways_32 (k9 := 0) CL_3 (by decide) (by decide) w_416 rfl (okO_of (N := 3) (hL.sh (i := 43) rfl (by decide) (by decide)) (by decide)) ?_
      refine eqR (y := 126) (hL.rf (i := 38) rfl) ?_
      refine r_iload_n (pc := 35) dX11_ways_35 rfl rfl ?_
      obtain ⟨o11, h⟩ := h
      refine r_aaload (pc := 36) dX11_ways_36 (okB_of (c := 24) (n := 12) (hL.sh (i := 44) rfl (by decide) (by decide)) (by decide) o11) ?_
      have q12 : 127 ≤ 127 + x1.toNat ∧ 127 + x1.toNat < 139 := ⟨Nat.le_add_right _ _, rowB o11 (by decide)⟩
      refine eqR (y := 127 + x1.toNat) (hL.rx (i := 3) rfl (rowC o11 (by decide))) ?_
      refine r_iload_n (pc := 37) dX11_ways_37 rfl rfl ?_
      refine c_SI0N (M := mX11_ways) (pc := 38) (As := [vr (127 + x1.toNat), vi x2]) dX11_ways_38 K_X11_at w_690 ⟨by decide, by decide⟩ (Nat.le_of_ble_eq_true rfl) rfl rfl (h hL) (fun r13 τ14 h8 hr9 => ?_) rfl
      replace hL := h8.1
      replace h := h8.2 hr9
      exact r_ireturn (pc := 41) (ty := .int) dX11_ways_41 (by decide +kernel) rfl (nar_i _) (h hL)
    · exact TT.out (by decide +kernel) rfl h8
  · exact TT.out (by decide +kernel) rfl h8
theorem C_X11_ways {a0 : Nat} {x1 : Int} {x2 : Int} (h : GG E mX11_ways 0 [some (vr a0), some (vi x1), some (vi x2)] [] σ 2 12 Q) : CC E mX11_ways [vr a0, vi x1, vi x2] σ Q := CC.of (by decide +kernel) rfl (by decide +kernel) (fun h9 => nomatch h9) (Nat.le_of_ble_eq_true rfl) h
theorem dX11_why_0 : decode cX11_why 0 = .ok (.iload_n 1, 1) := by decide +kernel
theorem dX11_why_1 : decode cX11_why 1 = .ok (.ifCond .lt 21, 3) := by decide +kernel
theorem dX11_why_4 : decode cX11_why 4 = .ok (.iload_n 1, 1) := by decide +kernel
theorem dX11_why_5 : decode cX11_why 5 = .ok (.aload_n 0, 1) := by decide +kernel
theorem dX11_why_6 : decode cX11_why 6 = .ok (.getfield 84, 3) := by decide +kernel
theorem dX11_why_9 : decode cX11_why 9 = .ok (.arraylength, 1) := by decide +kernel
theorem dX11_why_10 : decode cX11_why 10 = .ok (.if_icmp .ge 12, 3) := by decide +kernel
theorem dX11_why_13 : decode cX11_why 13 = .ok (.aload_n 0, 1) := by decide +kernel
theorem dX11_why_14 : decode cX11_why 14 = .ok (.getfield 84, 3) := by decide +kernel
theorem dX11_why_17 : decode cX11_why 17 = .ok (.iload_n 1, 1) := by decide +kernel
theorem dX11_why_18 : decode cX11_why 18 = .ok (.iaload, 1) := by decide +kernel
theorem dX11_why_19 : decode cX11_why 19 = .ok (.goto 4, 3) := by decide +kernel
theorem dX11_why_22 : decode cX11_why 22 = .ok (.iconst (-1), 1) := by decide +kernel
theorem dX11_why_23 : decode cX11_why 23 = .ok (.ireturn, 1) := by decide +kernel
theorem B_X11_why_0 {g : Sg} {c t : Nat} (hL : Lay LC g c t σ) {x1 : Int} (h : ((x1 < 0 → (Lay LC g c t σ → Q (.inl (some (vi (-1)))) σ)) ∧ (¬ (x1 < 0) → ((4 ≤ x1 → (Lay LC g c t σ → Q (.inl (some (vi (-1)))) σ)) ∧ (¬ (4 ≤ x1) → (0 ≤ x1 ∧ x1 < 4) ∧ (Lay LC g c t σ → Q (.inl (some (vi (gI σ 156 x1.toNat)))) σ)))))) : GG E mX11_why 0 [some (vr 16), some (vi x1)] [] σ rc rs Q := by
  refine r_iload_n (pc := 0) dX11_why_0 rfl rfl ?_
  refine r_if_lt (pc := 1) (tgt := 22) dX11_why_1 (by decide) (fun c9 => ?_) (fun c9 => ?_)
  · replace h := h.1 c9
    refine r_iconst (pc := 22) dX11_why_22 (inRk rfl) ?_
    exact r_ireturn (pc := 23) (ty := .int) dX11_why_23 (by decide +kernel) rfl (nar_i _) (h hL)
  · replace h := h.2 c9
    refine r_iload_n (pc := 4) dX11_why_4 rfl rfl ?_
    refine r_aload_n (pc := 5) dX11_why_5 rfl rfl ?_
    refine r_getR (pc := 6) dX11_why_6 (k9 := 10) CL_11 (by decide) (by decide) w_598 rfl (okO_of (N := 17) (hL.sh (i := 0) rfl (by decide) (by decide)) (by decide)) ?_
    refine eqR (y := 156) (hL.rf (i := 45) rfl) ?_
    have o2 : okN σ 156 := okN_of (hL.sh (i := 52) rfl (by decide) (by decide)) (by decide) (by decide) (by decide)
    refine r_alen (pc := 9) dX11_why_9 o2.1 o2.2 ?_
    refine eqI (y := 4) (by rw [(hL.sh (i := 52) rfl (by decide) (by decide))] <;> rfl) ?_
    refine r_icmp_ge (pc := 10) (tgt := 22) dX11_why_10 (by decide) (fun c9 => ?_) (fun c9 => ?_)
    · replace h := h.1 c9
      refine r_iconst (pc := 22) dX11_why_22 (inRk rfl) ?_
      exact r_ireturn (pc := 23) (ty := .int) dX11_why_23 (by decide +kernel) rfl (nar_i _) (h hL)
    · replace h := h.2 c9
      refine r_aload_n (pc := 13) dX11_why_13 rfl rfl ?_
      refine r_getR (pc := 14) dX11_why_14 (k9 := 10) CL_11 (by decide) (by decide) w_598 rfl (okO_of (N := 17) (hL.sh (i := 0) rfl (by decide) (by decide)) (by decide)) ?_
      refine eqR (y := 156) (hL.rf (i := 45) rfl) ?_
      refine r_iload_n (pc := 17) dX11_why_17 rfl rfl ?_
      obtain ⟨o1, h⟩ := h
      refine r_iaload (pc := 18) dX11_why_18 (okA_of (c := 20) (n := 4) (hL.sh (i := 52) rfl (by decide) (by decide)) (by decide) o1) ?_
      refine r_goto (pc := 19) (tgt := 23) dX11_why_19 (by decide) ?_
      exact r_ireturn (pc := 23) (ty := .int) dX11_why_23 (by decide +kernel) rfl (nar_i _) (h hL)
theorem C_X11_why {a0 : Nat} {x1 : Int} (h : GG E mX11_why 0 [some (vr a0), some (vi x1)] [] σ 0 0 Q) : CC E mX11_why [vr a0, vi x1] σ Q := CC.of (by decide +kernel) rfl (by decide +kernel) (fun h9 => nomatch h9) (Nat.le_of_ble_eq_true rfl) h
theorem dX11_withWays_0 : decode cX11_withWays 0 = .ok (.aload_n 0, 1) := by decide +kernel
theorem dX11_withWays_1 : decode cX11_withWays 1 = .ok (.iload_n 1, 1) := by decide +kernel
theorem dX11_withWays_2 : decode cX11_withWays 2 = .ok (.iconst 0, 1) := by decide +kernel
theorem dX11_withWays_3 : decode cX11_withWays 3 = .ok (.iconst 4, 1) := by decide +kernel
theorem dX11_withWays_4 : decode cX11_withWays 4 = .ok (.invokevirtual 128, 3) := by decide +kernel
theorem dX11_withWays_7 : decode cX11_withWays 7 = .ok (.aload_n 0, 1) := by decide +kernel
theorem dX11_withWays_8 : decode cX11_withWays 8 = .ok (.invokevirtual 204, 3) := by decide +kernel
theorem dX11_withWays_11 : decode cX11_withWays 11 = .ok (.aload_n 0, 1) := by decide +kernel
theorem dX11_withWays_12 : decode cX11_withWays 12 = .ok (.getfield 69, 3) := by decide +kernel
theorem dX11_withWays_15 : decode cX11_withWays 15 = .ok (.iload_n 1, 1) := by decide +kernel
theorem dX11_withWays_16 : decode cX11_withWays 16 = .ok (.invokevirtual 310, 3) := by decide +kernel
theorem dX11_withWays_19 : decode cX11_withWays 19 = .ok (.ireturn, 1) := by decide +kernel
theorem B_X11_withWays_0 {g : Sg} {c t : Nat} (hL : Lay LC g c t σ) {x1 : Int} (h : 1 ≤ rc ∧ 6 ≤ rs ∧ (Lay LC g c t σ → CC E mX11_needBetween [vr 16, vi x1, vi 0, vi 4] σ (KV (fun τ4 => Lay LC g c t τ4 ∧ (Lay LC g c t τ4 → CC E mX11_needCharacters [vr 16] τ4 (KV (fun τ6 => Lay LC g c t τ6 ∧ (Lay LC g c t τ6 → CC E mX3_countWith [vr 125, vi x1] τ6 (KI (fun r7 τ8 => Lay LC g c t τ8 ∧ (inR r7 → (Lay LC g c t τ8 → Q (.inl (some (vi r7))) τ8))) (fun _ _ => False)))) (fun _ _ => False)))) (fun k9 τ9 => Q (.inr k9) τ9)))) : GG E mX11_withWays 0 [some (vr 16), some (vi x1)] [] σ rc rs Q := by
  refine r_aload_n (pc := 0) dX11_withWays_0 rfl rfl ?_
  refine r_iload_n (pc := 1) dX11_withWays_1 rfl rfl ?_
  refine r_iconst (pc := 2) dX11_withWays_2 (inRk rfl) ?_
  refine r_iconst (pc := 3) dX11_withWays_3 (inRk rfl) ?_
  obtain ⟨o1, h⟩ := h
  obtain ⟨o2, h⟩ := h
  refine c_VVAX (M := mX11_withWays) (pc := 4) (As := [vi x1, vi 0, vi 4]) dX11_withWays_4 K_X11_needBetween w_707 ⟨by decide, by decide⟩ (Nat.le_of_ble_eq_true rfl) o1 o2 (ci := 11) rfl rfl (by decide) (okO_of (N := 17) (hL.sh (i := 0) rfl (by decide) (by decide)) (by decide)) (h hL) (fun τ4 h8 => ?_) (fun k9 τ9 hk9 h8 => ?_) rfl
  · replace hL := h8.1
    replace h := h8.2
    refine r_aload_n (pc := 7) dX11_withWays_7 rfl rfl ?_
    refine c_VV0N (M := mX11_withWays) (pc := 8) (As := []) dX11_withWays_8 K_X11_needCharacters w_973 ⟨by decide, by decide⟩ (Nat.le_of_ble_eq_true rfl) rfl rfl (ci := 11) rfl rfl (by decide) (okO_of (N := 17) (hL.sh (i := 0) rfl (by decide) (by decide)) (by decide)) (h hL) (fun τ6 h8 => ?_) rfl
    replace hL := h8.1
    replace h := h8.2
    refine r_aload_n (pc := 11) dX11_withWays_11 rfl rfl ?_
    refine r_getR (pc := 12) dX11_withWays_12 (k9 := 7) CL_11 (by decide) (by decide) w_595 rfl (okO_of (N := 17) (hL.sh (i := 0) rfl (by decide) (by decide)) (by decide)) ?_
    refine eqR (y := 125) (hL.rf (i := 40) rfl) ?_
    refine r_iload_n (pc := 15) dX11_withWays_15 rfl rfl ?_
    refine c_VI0N (M := mX11_withWays) (pc := 16) (As := [vi x1]) dX11_withWays_16 K_X3_countWith w_1243 ⟨by decide, by decide⟩ (Nat.le_of_ble_eq_true rfl) rfl rfl (ci := 3) rfl rfl (by decide) (okO_of (N := 3) (hL.sh (i := 43) rfl (by decide) (by decide)) (by decide)) (h hL) (fun r7 τ8 h8 hr9 => ?_) rfl
    replace hL := h8.1
    replace h := h8.2 hr9
    exact r_ireturn (pc := 19) (ty := .int) dX11_withWays_19 (by decide +kernel) rfl (nar_i _) (h hL)
  · exact TT.out (by decide +kernel) rfl h8
theorem C_X11_withWays {a0 : Nat} {x1 : Int} (h : GG E mX11_withWays 0 [some (vr a0), some (vi x1)] [] σ 1 6 Q) : CC E mX11_withWays [vr a0, vi x1] σ Q := CC.of (by decide +kernel) rfl (by decide +kernel) (fun h9 => nomatch h9) (Nat.le_of_ble_eq_true rfl) h
end G27
