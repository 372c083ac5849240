/-! ===== decode rows and trees: 25.field ===== -/
section G25
variable {E : Ev} {σ : Sg} {rc rs : Nat} {Q : NO → Sg → Prop}
theorem dX0_begin_0 : decode cX0_begin 0 = .ok (.aload_n 0, 1) := by decide +kernel
theorem dX0_begin_1 : decode cX0_begin 1 = .ok (.getfield 12, 3) := by decide +kernel
theorem dX0_begin_4 : decode cX0_begin 4 = .ok (.aload_n 1, 1) := by decide +kernel
theorem dX0_begin_5 : decode cX0_begin 5 = .ok (.getfield 39, 3) := by decide +kernel
theorem dX0_begin_8 : decode cX0_begin 8 = .ok (.aload_n 1, 1) := by decide +kernel
theorem dX0_begin_9 : decode cX0_begin 9 = .ok (.getfield 45, 3) := by decide +kernel
theorem dX0_begin_12 : decode cX0_begin 12 = .ok (.aload_n 2, 1) := by decide +kernel
theorem dX0_begin_13 : decode cX0_begin 13 = .ok (.getfield 48, 3) := by decide +kernel
theorem dX0_begin_16 : decode cX0_begin 16 = .ok (.invokevirtual 53, 3) := by decide +kernel
theorem dX0_begin_19 : decode cX0_begin 19 = .ok (.aload_n 0, 1) := by decide +kernel
theorem dX0_begin_20 : decode cX0_begin 20 = .ok (.aload_n 1, 1) := by decide +kernel
theorem dX0_begin_21 : decode cX0_begin 21 = .ok (.getfield 57, 3) := by decide +kernel
theorem dX0_begin_24 : decode cX0_begin 24 = .ok (.bipush 12, 2) := by decide +kernel
theorem dX0_begin_26 : decode cX0_begin 26 = .ok (.invokestatic 60, 3) := by decide +kernel
theorem dX0_begin_29 : decode cX0_begin 29 = .ok (.putfield 66, 3) := by decide +kernel
theorem dX0_begin_32 : decode cX0_begin 32 = .ok (.aload_n 0, 1) := by decide +kernel
theorem dX0_begin_33 : decode cX0_begin 33 = .ok (.aload_n 1, 1) := by decide +kernel
theorem dX0_begin_34 : decode cX0_begin 34 = .ok (.getfield 39, 3) := by decide +kernel
theorem dX0_begin_37 : decode cX0_begin 37 = .ok (.putfield 67, 3) := by decide +kernel
theorem dX0_begin_40 : decode cX0_begin 40 = .ok (.aload_n 0, 1) := by decide +kernel
theorem dX0_begin_41 : decode cX0_begin 41 = .ok (.aload_n 0, 1) := by decide +kernel
theorem dX0_begin_42 : decode cX0_begin 42 = .ok (.getfield 12, 3) := by decide +kernel
theorem dX0_begin_45 : decode cX0_begin 45 = .ok (.aload_n 0, 1) := by decide +kernel
theorem dX0_begin_46 : decode cX0_begin 46 = .ok (.getfield 67, 3) := by decide +kernel
theorem dX0_begin_49 : decode cX0_begin 49 = .ok (.invokevirtual 70, 3) := by decide +kernel
theorem dX0_begin_52 : decode cX0_begin 52 = .ok (.putfield 74, 3) := by decide +kernel
theorem dX0_begin_55 : decode cX0_begin 55 = .ok (.iconst 0, 1) := by decide +kernel
theorem dX0_begin_56 : decode cX0_begin 56 = .ok (.istore_n 3, 1) := by decide +kernel
theorem dX0_begin_57 : decode cX0_begin 57 = .ok (.iload_n 3, 1) := by decide +kernel
theorem dX0_begin_58 : decode cX0_begin 58 = .ok (.aload_n 0, 1) := by decide +kernel
theorem dX0_begin_59 : decode cX0_begin 59 = .ok (.getfield 66, 3) := by decide +kernel
theorem dX0_begin_62 : decode cX0_begin 62 = .ok (.if_icmp .ge 120, 3) := by decide +kernel
theorem dX0_begin_65 : decode cX0_begin 65 = .ok (.aload_n 1, 1) := by decide +kernel
theorem dX0_begin_66 : decode cX0_begin 66 = .ok (.getfield 77, 3) := by decide +kernel
theorem dX0_begin_69 : decode cX0_begin 69 = .ok (.iload_n 3, 1) := by decide +kernel
theorem dX0_begin_70 : decode cX0_begin 70 = .ok (.invokestatic 80, 3) := by decide +kernel
theorem dX0_begin_73 : decode cX0_begin 73 = .ok (.istore 4, 2) := by decide +kernel
theorem dX0_begin_75 : decode cX0_begin 75 = .ok (.aload_n 2, 1) := by decide +kernel
theorem dX0_begin_76 : decode cX0_begin 76 = .ok (.getfield 84, 3) := by decide +kernel
theorem dX0_begin_79 : decode cX0_begin 79 = .ok (.iload 4, 2) := by decide +kernel
theorem dX0_begin_81 : decode cX0_begin 81 = .ok (.bipush 8, 2) := by decide +kernel
theorem dX0_begin_83 : decode cX0_begin 83 = .ok (.imul, 1) := by decide +kernel
theorem dX0_begin_84 : decode cX0_begin 84 = .ok (.invokestatic 80, 3) := by decide +kernel
theorem dX0_begin_87 : decode cX0_begin 87 = .ok (.istore 5, 2) := by decide +kernel
theorem dX0_begin_89 : decode cX0_begin 89 = .ok (.aload_n 2, 1) := by decide +kernel
theorem dX0_begin_90 : decode cX0_begin 90 = .ok (.getfield 84, 3) := by decide +kernel
theorem dX0_begin_93 : decode cX0_begin 93 = .ok (.iload 4, 2) := by decide +kernel
theorem dX0_begin_95 : decode cX0_begin 95 = .ok (.bipush 8, 2) := by decide +kernel
theorem dX0_begin_97 : decode cX0_begin 97 = .ok (.imul, 1) := by decide +kernel
theorem dX0_begin_98 : decode cX0_begin 98 = .ok (.iconst 1, 1) := by decide +kernel
theorem dX0_begin_99 : decode cX0_begin 99 = .ok (.iadd, 1) := by decide +kernel
theorem dX0_begin_100 : decode cX0_begin 100 = .ok (.invokestatic 80, 3) := by decide +kernel
theorem dX0_begin_103 : decode cX0_begin 103 = .ok (.istore 6, 2) := by decide +kernel
theorem dX0_begin_105 : decode cX0_begin 105 = .ok (.aload_n 0, 1) := by decide +kernel
theorem dX0_begin_106 : decode cX0_begin 106 = .ok (.getfield 27, 3) := by decide +kernel
theorem dX0_begin_109 : decode cX0_begin 109 = .ok (.iload_n 3, 1) := by decide +kernel
theorem dX0_begin_110 : decode cX0_begin 110 = .ok (.aload_n 0, 1) := by decide +kernel
theorem dX0_begin_111 : decode cX0_begin 111 = .ok (.getfield 12, 3) := by decide +kernel
theorem dX0_begin_114 : decode cX0_begin 114 = .ok (.aload_n 0, 1) := by decide +kernel
theorem dX0_begin_115 : decode cX0_begin 115 = .ok (.getfield 12, 3) := by decide +kernel
theorem dX0_begin_118 : decode cX0_begin 118 = .ok (.iload 5, 2) := by decide +kernel
theorem dX0_begin_120 : decode cX0_begin 120 = .ok (.iload 6, 2) := by decide +kernel
theorem dX0_begin_122 : decode cX0_begin 122 = .ok (.aload_n 0, 1) := by decide +kernel
theorem dX0_begin_123 : decode cX0_begin 123 = .ok (.getfield 12, 3) := by decide +kernel
theorem dX0_begin_126 : decode cX0_begin 126 = .ok (.getfield 87, 3) := by decide +kernel
theorem dX0_begin_129 : decode cX0_begin 129 = .ok (.imul, 1) := by decide +kernel
theorem dX0_begin_130 : decode cX0_begin 130 = .ok (.iadd, 1) := by decide +kernel
theorem dX0_begin_131 : decode cX0_begin 131 = .ok (.invokevirtual 88, 3) := by decide +kernel
theorem dX0_begin_134 : decode cX0_begin 134 = .ok (.aload_n 0, 1) := by decide +kernel
theorem dX0_begin_135 : decode cX0_begin 135 = .ok (.getfield 12, 3) := by decide +kernel
theorem dX0_begin_138 : decode cX0_begin 138 = .ok (.iconst 2, 1) := by decide +kernel
theorem dX0_begin_139 : decode cX0_begin 139 = .ok (.invokevirtual 70, 3) := by decide +kernel
theorem dX0_begin_142 : decode cX0_begin 142 = .ok (.invokevirtual 91, 3) := by decide +kernel
theorem dX0_begin_145 : decode cX0_begin 145 = .ok (.iastore, 1) := by decide +kernel
theorem dX0_begin_146 : decode cX0_begin 146 = .ok (.aload_n 0, 1) := by decide +kernel
theorem dX0_begin_147 : decode cX0_begin 147 = .ok (.getfield 30, 3) := by decide +kernel
theorem dX0_begin_150 : decode cX0_begin 150 = .ok (.iload_n 3, 1) := by decide +kernel
theorem dX0_begin_151 : decode cX0_begin 151 = .ok (.aload_n 1, 1) := by decide +kernel
theorem dX0_begin_152 : decode cX0_begin 152 = .ok (.getfield 94, 3) := by decide +kernel
theorem dX0_begin_155 : decode cX0_begin 155 = .ok (.iload_n 3, 1) := by decide +kernel
theorem dX0_begin_156 : decode cX0_begin 156 = .ok (.invokestatic 80, 3) := by decide +kernel
theorem dX0_begin_159 : decode cX0_begin 159 = .ok (.iastore, 1) := by decide +kernel
theorem dX0_begin_160 : decode cX0_begin 160 = .ok (.aload_n 0, 1) := by decide +kernel
theorem dX0_begin_161 : decode cX0_begin 161 = .ok (.getfield 33, 3) := by decide +kernel
theorem dX0_begin_164 : decode cX0_begin 164 = .ok (.iload_n 3, 1) := by decide +kernel
theorem dX0_begin_165 : decode cX0_begin 165 = .ok (.aload_n 1, 1) := by decide +kernel
theorem dX0_begin_166 : decode cX0_begin 166 = .ok (.iload_n 3, 1) := by decide +kernel
theorem dX0_begin_167 : decode cX0_begin 167 = .ok (.invokevirtual 95, 3) := by decide +kernel
theorem dX0_begin_170 : decode cX0_begin 170 = .ok (.bipush 11, 2) := by decide +kernel
theorem dX0_begin_172 : decode cX0_begin 172 = .ok (.invokestatic 60, 3) := by decide +kernel
theorem dX0_begin_175 : decode cX0_begin 175 = .ok (.iastore, 1) := by decide +kernel
theorem dX0_begin_176 : decode cX0_begin 176 = .ok (.iinc 3 1, 3) := by decide +kernel
theorem dX0_begin_179 : decode cX0_begin 179 = .ok (.goto (-122), 3) := by decide +kernel
theorem dX0_begin_182 : decode cX0_begin 182 = .ok (.return_, 1) := by decide +kernel
theorem B_X0_begin_0 {g : Sg} {c t : Nat} (hL : Lay LC g c t σ) {a2 : Nat} (qa2 : isCl a2) (h : (Lay LC g c t σ → CC E mX2_choose [vr 35, vi (gI σ 24 6), vi (gI σ 24 9), vi (gI σ a2 6)] σ (KV (fun τ2 => Lay LC g c t τ2 ∧ ∀ v3 : Int, v3 = (if 12 < (gI τ2 24 7) then 12 else (gI τ2 24 7)) → ∀ τ4 : Sg, τ4 = sI τ2 34 7 v3 → ∀ τ5 : Sg, τ5 = sI τ4 34 8 (gI τ4 24 6) → (Lay LC g c t τ5 → CC E mX2_inverse [vr 35, vi (gI τ5 34 8)] τ5 (KI (fun r6 τ7 => Lay LC g c t τ7 ∧ (inR r6 → ∀ τ8 : Sg, τ8 = sI τ7 34 9 r6 → (Lay LC g c t τ8 → GG E mX0_begin 57 [some (vr 34), some (vr 24), some (vr a2), some (vi 0), none, none, none] [] τ8 rc rs Q))) (fun _ _ => False)))) (fun _ _ => False)))) : GG E mX0_begin 0 [some (vr 34), some (vr 24), some (vr a2), none, none, none, none] [] σ rc rs Q := by
  refine r_aload_n (pc := 0) dX0_begin_0 rfl rfl ?_
  refine r_getR (pc := 1) dX0_begin_1 (k9 := 0) CL_0 (by decide) (by decide) w_311 rfl (okO_of (N := 10) (hL.sh (i := 18) rfl (by decide) (by decide)) (by decide)) ?_
  refine eqR (y := 35) (hL.rf (i := 18) rfl) ?_
  refine r_aload_n (pc := 4) dX0_begin_4 rfl rfl ?_
  refine r_getI (pc := 5) dX0_begin_5 (k9 := 6) CL_4 (by decide) (by decide) w_217 rfl (okO_of (N := 12) (hL.sh (i := 8) rfl (by decide) (by decide)) (by decide)) (fun _ => ?_)
  refine r_aload_n (pc := 8) dX0_begin_8 rfl rfl ?_
  refine r_getI (pc := 9) dX0_begin_9 (k9 := 9) CL_4 (by decide) (by decide) w_230 rfl (okO_of (N := 12) (hL.sh (i := 8) rfl (by decide) (by decide)) (by decide)) (fun _ => ?_)
  refine r_aload_n (pc := 12) dX0_begin_12 rfl rfl ?_
  refine r_getI (pc := 13) dX0_begin_13 (k9 := 6) CL_1 (by decide) (by decide) w_462 rfl (okO_of (ci := 1) (N := 12) (qa2.r hL).1 (qa2.r hL).2.1) (fun _ => ?_)
  refine c_VV0N (M := mX0_begin) (pc := 16) (As := [vi (gI σ 24 6), vi (gI σ 24 9), vi (gI σ a2 6)]) dX0_begin_16 K_X2_choose w_981 ⟨by decide, by decide⟩ (Nat.le_of_ble_eq_true rfl) rfl rfl (ci := 2) rfl rfl (by decide) (okO_of (N := 2) (hL.sh (i := 19) rfl (by decide) (by decide)) (by decide)) (h hL) (fun τ2 h8 => ?_) rfl
  replace hL := h8.1
  replace h := h8.2
  refine r_aload_n (pc := 19) dX0_begin_19 rfl rfl ?_
  refine r_aload_n (pc := 20) dX0_begin_20 rfl rfl ?_
  refine r_getI (pc := 21) dX0_begin_21 (k9 := 7) CL_4 (by decide) (by decide) w_224 rfl (okO_of (N := 12) (hL.sh (i := 8) rfl (by decide) (by decide)) (by decide)) (fun _ => ?_)
  refine r_bipush (pc := 24) dX0_begin_24 (by decide) ?_
  refine r_mmin (pc := 26) dX0_begin_26 w_991 w_549 w_111 w_550 (by decide) (Nat.le_of_ble_eq_true rfl) ?_
  refine nmI (fun v3 e9 => ?_)
  replace h := h v3 e9
  refine r_putI (pc := 29) dX0_begin_29 (k9 := 7) CL_0 (by decide) (by decide) w_328 rfl rfl (fun h9 => absurd h9 (by decide +kernel)) (okO_of (N := 10) (hL.sh (i := 18) rfl (by decide) (by decide)) (by decide)) ?_
  refine nmS (fun τ4 e4 => ?_)
  replace h := h τ4 e4
  have hL := hL.wI e4 (by decide) (.inl (by decide))
  refine r_aload_n (pc := 32) dX0_begin_32 rfl rfl ?_
  refine r_aload_n (pc := 33) dX0_begin_33 rfl rfl ?_
  refine r_getI (pc := 34) dX0_begin_34 (k9 := 6) CL_4 (by decide) (by decide) w_217 rfl (okO_of (N := 12) (hL.sh (i := 8) rfl (by decide) (by decide)) (by decide)) (fun _ => ?_)
  refine r_putI (pc := 37) dX0_begin_37 (k9 := 8) CL_0 (by decide) (by decide) w_330 rfl rfl (fun h9 => absurd h9 (by decide +kernel)) (okO_of (N := 10) (hL.sh (i := 18) rfl (by decide) (by decide)) (by decide)) ?_
  refine nmS (fun τ5 e5 => ?_)
  replace h := h τ5 e5
  have hL := hL.wI e5 (by decide) (.inl (by decide))
  refine r_aload_n (pc := 40) dX0_begin_40 rfl rfl ?_
  refine r_aload_n (pc := 41) dX0_begin_41 rfl rfl ?_
  refine r_getR (pc := 42) dX0_begin_42 (k9 := 0) CL_0 (by decide) (by decide) w_311 rfl (okO_of (N := 10) (hL.sh (i := 18) rfl (by decide) (by decide)) (by decide)) ?_
  refine eqR (y := 35) (hL.rf (i := 18) rfl) ?_
  refine r_aload_n (pc := 45) dX0_begin_45 rfl rfl ?_
  refine r_getI (pc := 46) dX0_begin_46 (k9 := 8) CL_0 (by decide) (by decide) w_330 rfl (okO_of (N := 10) (hL.sh (i := 18) rfl (by decide) (by decide)) (by decide)) (fun _ => ?_)
  refine c_VI0N (M := mX0_begin) (pc := 49) (As := [vi (gI τ5 34 8)]) dX0_begin_49 K_X2_inverse w_992 ⟨by decide, by decide⟩ (Nat.le_of_ble_eq_true rfl) rfl rfl (ci := 2) rfl rfl (by decide) (okO_of (N := 2) (hL.sh (i := 19) rfl (by decide) (by decide)) (by decide)) (h hL) (fun r6 τ7 h8 hr9 => ?_) rfl
  replace hL := h8.1
  replace h := h8.2 hr9
  refine r_putI (pc := 52) dX0_begin_52 (k9 := 9) CL_0 (by decide) (by decide) w_331 rfl rfl (fun h9 => absurd h9 (by decide +kernel)) (okO_of (N := 10) (hL.sh (i := 18) rfl (by decide) (by decide)) (by decide)) ?_
  refine nmS (fun τ8 e8 => ?_)
  replace h := h τ8 e8
  have hL := hL.wI e8 (by decide) (.inl (by decide))
  refine r_iconst (pc := 55) dX0_begin_55 (inRk rfl) ?_
  refine r_istore_n (pc := 56) dX0_begin_56 rfl (by decide) (l2 := [some (vr 34), some (vr 24), some (vr a2), some (vi 0), none, none, none]) rfl ?_
  exact (h hL)
theorem B_X0_begin_57 {g : Sg} {c t : Nat} (hL : Lay LC g c t σ) {a2 : Nat} (qa2 : isCl a2) {x3 : Int} (h : (((gI σ 34 7) ≤ x3 → (Lay LC g c t σ → Q (.inl none) σ)) ∧ (¬ ((gI σ 34 7) ≤ x3) → (Lay LC g c t σ → CC E mX11_at [vr 29, vi x3] σ (KI (fun r1 τ2 => Lay LC g c t τ2 ∧ (inR r1 → inR (r1 * 8) ∧ (Lay LC g c t τ2 → CC E mX11_at [vr (a2 + 2), vi (r1 * 8)] τ2 (KI (fun r4 τ5 => Lay LC g c t τ5 ∧ (inR r4 → inR ((r1 * 8) + 1) ∧ (Lay LC g c t τ5 → CC E mX11_at [vr (a2 + 2), vi ((r1 * 8) + 1)] τ5 (KI (fun r7 τ8 => Lay LC g c t τ8 ∧ (inR r7 → inR (r7 * (gI τ8 35 1)) ∧ inR (r4 + (r7 * (gI τ8 35 1))) ∧ (Lay LC g c t τ8 → CC E mX2_mod [vr 35, vi (r4 + (r7 * (gI τ8 35 1)))] τ8 (KI (fun r11 τ12 => Lay LC g c t τ12 ∧ (inR r11 → (Lay LC g c t τ12 → CC E mX2_inverse [vr 35, vi 2] τ12 (KI (fun r13 τ14 => Lay LC g c t τ14 ∧ (inR r13 → (Lay LC g c t τ14 → CC E mX2_times [vr 35, vi r11, vi r13] τ14 (KI (fun r15 τ16 => Lay LC g c t τ16 ∧ (inR r15 → (0 ≤ x3 ∧ x3 < 12) ∧ ∀ τ18 : Sg, τ18 = sI τ16 50 x3.toNat r15 → (Lay LC g c t τ18 → CC E mX11_at [vr 30, vi x3] τ18 (KI (fun r19 τ20 => Lay LC g c t τ20 ∧ (inR r19 → ∀ τ21 : Sg, τ21 = sI τ20 51 x3.toNat r19 → (Lay LC g c t τ21 → CC E mX4_inverseClass [vr 24, vi x3] τ21 (KI (fun r22 τ23 => Lay LC g c t τ23 ∧ (inR r22 → ∀ v24 : Int, v24 = (if 11 < r22 then 11 else r22) → ∀ τ25 : Sg, τ25 = sI τ23 52 x3.toNat v24 → inR (x3 + 1) ∧ (Lay LC g c t τ25 → GG E mX0_begin 57 [some (vr 34), some (vr 24), some (vr a2), some (vi (x3 + 1)), none, none, none] [] τ25 rc rs Q))) (fun _ _ => False))))) (fun _ _ => False))))) (fun _ _ => False))))) (fun _ _ => False))))) (fun _ _ => False))))) (fun _ _ => False))))) (fun _ _ => False))))) (fun _ _ => False)))))) : GG E mX0_begin 57 [some (vr 34), some (vr 24), some (vr a2), some (vi x3), none, none, none] [] σ rc rs Q := by
  refine r_iload_n (pc := 57) dX0_begin_57 rfl rfl ?_
  refine r_aload_n (pc := 58) dX0_begin_58 rfl rfl ?_
  refine r_getI (pc := 59) dX0_begin_59 (k9 := 7) CL_0 (by decide) (by decide) w_328 rfl (okO_of (N := 10) (hL.sh (i := 18) rfl (by decide) (by decide)) (by decide)) (fun _ => ?_)
  refine r_icmp_ge (pc := 62) (tgt := 182) dX0_begin_62 (by decide) (fun c9 => ?_) (fun c9 => ?_)
  · replace h := h.1 c9
    exact r_return (pc := 182) dX0_begin_182 (by decide +kernel) rfl (h hL)
  · replace h := h.2 c9
    refine r_aload_n (pc := 65) dX0_begin_65 rfl rfl ?_
    refine r_getR (pc := 66) dX0_begin_66 (k9 := 4) CL_4 (by decide) (by decide) w_209 rfl (okO_of (N := 12) (hL.sh (i := 8) rfl (by decide) (by decide)) (by decide)) ?_
    refine eqR (y := 29) (hL.rf (i := 12) rfl) ?_
    refine r_iload_n (pc := 69) dX0_begin_69 rfl rfl ?_
    refine c_SNI0N (M := mX0_begin) (pc := 70) (As := [vr 29, vi x3]) dX0_begin_70 K_X11_at wt_1000 ⟨by decide, by decide⟩ (Nat.le_of_ble_eq_true rfl) rfl rfl (h hL) (fun r1 τ2 h8 hr9 => ?_) rfl
    replace hL := h8.1
    replace h := h8.2 hr9
    refine r_istore (pc := 73) dX0_begin_73 (by decide) (l2 := [some (vr 34), some (vr 24), some (vr a2), some (vi x3), some (vi r1), none, none]) rfl ?_
    refine r_aload_n (pc := 75) dX0_begin_75 rfl rfl ?_
    refine r_getR (pc := 76) dX0_begin_76 (k9 := 1) CL_1 (by decide) (by decide) w_451 rfl (okO_of (ci := 1) (N := 12) (qa2.r hL).1 (qa2.r hL).2.1) ?_
    refine eqR (y := a2 + 2) (qa2.f hL (k := 1) (by decide)) ?_
    refine r_iload (pc := 79) dX0_begin_79 rfl ?_
    refine r_bipush (pc := 81) dX0_begin_81 (by decide) ?_
    obtain ⟨o3, h⟩ := h
    refine r_imul (pc := 83) dX0_begin_83 o3 ?_
    refine c_SNI0N (M := mX0_begin) (pc := 84) (As := [vr (a2 + 2), vi (r1 * 8)]) dX0_begin_84 K_X11_at wt_1000 ⟨by decide, by decide⟩ (Nat.le_of_ble_eq_true rfl) rfl rfl (h hL) (fun r4 τ5 h8 hr9 => ?_) rfl
    replace hL := h8.1
    replace h := h8.2 hr9
    refine r_istore (pc := 87) dX0_begin_87 (by decide) (l2 := [some (vr 34), some (vr 24), some (vr a2), some (vi x3), some (vi r1), some (vi r4), none]) rfl ?_
    refine r_aload_n (pc := 89) dX0_begin_89 rfl rfl ?_
    refine r_getR (pc := 90) dX0_begin_90 (k9 := 1) CL_1 (by decide) (by decide) w_451 rfl (okO_of (ci := 1) (N := 12) (qa2.r hL).1 (qa2.r hL).2.1) ?_
    refine eqR (y := a2 + 2) (qa2.f hL (k := 1) (by decide)) ?_
    refine r_iload (pc := 93) dX0_begin_93 rfl ?_
    refine r_bipush (pc := 95) dX0_begin_95 (by decide) ?_
    refine r_imul (pc := 97) dX0_begin_97 o3 ?_
    refine r_iconst (pc := 98) dX0_begin_98 (inRk rfl) ?_
    obtain ⟨o6, h⟩ := h
    refine r_iadd (pc := 99) dX0_begin_99 o6 ?_
    refine c_SNI0N (M := mX0_begin) (pc := 100) (As := [vr (a2 + 2), vi ((r1 * 8) + 1)]) dX0_begin_100 K_X11_at wt_1000 ⟨by decide, by decide⟩ (Nat.le_of_ble_eq_true rfl) rfl rfl (h hL) (fun r7 τ8 h8 hr9 => ?_) rfl
    replace hL := h8.1
    replace h := h8.2 hr9
    refine r_istore (pc := 103) dX0_begin_103 (by decide) (l2 := [some (vr 34), some (vr 24), some (vr a2), some (vi x3), some (vi r1), some (vi r4), some (vi r7)]) rfl ?_
    refine r_aload_n (pc := 105) dX0_begin_105 rfl rfl ?_
    refine r_getR (pc := 106) dX0_begin_106 (k9 := 3) CL_0 (by decide) (by decide) w_319 rfl (okO_of (N := 10) (hL.sh (i := 18) rfl (by decide) (by decide)) (by decide)) ?_
    refine eqR (y := 50) (hL.rf (i := 21) rfl) ?_
    refine r_iload_n (pc := 109) dX0_begin_109 rfl rfl ?_
    refine r_aload_n (pc := 110) dX0_begin_110 rfl rfl ?_
    refine r_getR (pc := 111) dX0_begin_111 (k9 := 0) CL_0 (by decide) (by decide) w_311 rfl (okO_of (N := 10) (hL.sh (i := 18) rfl (by decide) (by decide)) (by decide)) ?_
    refine eqR (y := 35) (hL.rf (i := 18) rfl) ?_
    refine r_aload_n (pc := 114) dX0_begin_114 rfl rfl ?_
    refine r_getR (pc := 115) dX0_begin_115 (k9 := 0) CL_0 (by decide) (by decide) w_311 rfl (okO_of (N := 10) (hL.sh (i := 18) rfl (by decide) (by decide)) (by decide)) ?_
    refine eqR (y := 35) (hL.rf (i := 18) rfl) ?_
    refine r_iload (pc := 118) dX0_begin_118 rfl ?_
    refine r_iload (pc := 120) dX0_begin_120 rfl ?_
    refine r_aload_n (pc := 122) dX0_begin_122 rfl rfl ?_
    refine r_getR (pc := 123) dX0_begin_123 (k9 := 0) CL_0 (by decide) (by decide) w_311 rfl (okO_of (N := 10) (hL.sh (i := 18) rfl (by decide) (by decide)) (by decide)) ?_
    refine eqR (y := 35) (hL.rf (i := 18) rfl) ?_
    refine r_getI (pc := 126) dX0_begin_126 (k9 := 1) CL_2 (by decide) (by decide) w_302 rfl (okO_of (N := 2) (hL.sh (i := 19) rfl (by decide) (by decide)) (by decide)) (fun _ => ?_)
    obtain ⟨o9, h⟩ := h
    refine r_imul (pc := 129) dX0_begin_129 o9 ?_
    obtain ⟨o10, h⟩ := h
    refine r_iadd (pc := 130) dX0_begin_130 o10 ?_
    refine c_VI0N (M := mX0_begin) (pc := 131) (As := [vi (r4 + (r7 * (gI τ8 35 1)))]) dX0_begin_131 K_X2_mod w_1001 ⟨by decide, by decide⟩ (Nat.le_of_ble_eq_true rfl) rfl rfl (ci := 2) rfl rfl (by decide) (okO_of (N := 2) (hL.sh (i := 19) rfl (by decide) (by decide)) (by decide)) (h hL) (fun r11 τ12 h8 hr9 => ?_) rfl
    replace hL := h8.1
    replace h := h8.2 hr9
    refine r_aload_n (pc := 134) dX0_begin_134 rfl rfl ?_
    refine r_getR (pc := 135) dX0_begin_135 (k9 := 0) CL_0 (by decide) (by decide) w_311 rfl (okO_of (N := 10) (hL.sh (i := 18) rfl (by decide) (by decide)) (by decide)) ?_
    refine eqR (y := 35) (hL.rf (i := 18) rfl) ?_
    refine r_iconst (pc := 138) dX0_begin_138 (inRk rfl) ?_
    refine c_VI0N (M := mX0_begin) (pc := 139) (As := [vi 2]) dX0_begin_139 K_X2_inverse w_992 ⟨by decide, by decide⟩ (Nat.le_of_ble_eq_true rfl) rfl rfl (ci := 2) rfl rfl (by decide) (okO_of (N := 2) (hL.sh (i := 19) rfl (by decide) (by decide)) (by decide)) (h hL) (fun r13 τ14 h8 hr9 => ?_) rfl
    replace hL := h8.1
    replace h := h8.2 hr9
    refine c_VI0N (M := mX0_begin) (pc := 142) (As := [vi r11, vi r13]) dX0_begin_142 K_X2_times w_1002 ⟨by decide, by decide⟩ (Nat.le_of_ble_eq_true rfl) rfl rfl (ci := 2) rfl rfl (by decide) (okO_of (N := 2) (hL.sh (i := 19) rfl (by decide) (by decide)) (by decide)) (h hL) (fun r15 τ16 h8 hr9 => ?_) rfl
    replace hL := h8.1
    replace h := h8.2 hr9
    obtain ⟨o17, h⟩ := h
    refine r_iastore (pc := 145) dX0_begin_145 (okB_of (c := 20) (n := 12) (hL.sh (i := 23) rfl (by decide) (by decide)) (by decide) o17) ?_
    refine nmS (fun τ18 e18 => ?_)
    replace h := h τ18 e18
    have hL := hL.wI e18 (by decide) (.inl (by decide))
    refine r_aload_n (pc := 146) dX0_begin_146 rfl rfl ?_
    refine r_getR (pc := 147) dX0_begin_147 (k9 := 4) CL_0 (by decide) (by decide) w_323 rfl (okO_of (N := 10) (hL.sh (i := 18) rfl (by decide) (by decide)) (by decide)) ?_
    refine eqR (y := 51) (hL.rf (i := 22) rfl) ?_
    refine r_iload_n (pc := 150) dX0_begin_150 rfl rfl ?_
    refine r_aload_n (pc := 151) dX0_begin_151 rfl rfl ?_
    refine r_getR (pc := 152) dX0_begin_152 (k9 := 5) CL_4 (by decide) (by decide) w_214 rfl (okO_of (N := 12) (hL.sh (i := 8) rfl (by decide) (by decide)) (by decide)) ?_
    refine eqR (y := 30) (hL.rf (i := 13) rfl) ?_
    refine r_iload_n (pc := 155) dX0_begin_155 rfl rfl ?_
    refine c_SNI0N (M := mX0_begin) (pc := 156) (As := [vr 30, vi x3]) dX0_begin_156 K_X11_at wt_1000 ⟨by decide, by decide⟩ (Nat.le_of_ble_eq_true rfl) rfl rfl (h hL) (fun r19 τ20 h8 hr9 => ?_) rfl
    replace hL := h8.1
    replace h := h8.2 hr9
    refine r_iastore (pc := 159) dX0_begin_159 (okB_of (c := 20) (n := 12) (hL.sh (i := 24) rfl (by decide) (by decide)) (by decide) o17) ?_
    refine nmS (fun τ21 e21 => ?_)
    replace h := h τ21 e21
    have hL := hL.wI e21 (by decide) (.inl (by decide))
    refine r_aload_n (pc := 160) dX0_begin_160 rfl rfl ?_
    refine r_getR (pc := 161) dX0_begin_161 (k9 := 5) CL_0 (by decide) (by decide) w_324 rfl (okO_of (N := 10) (hL.sh (i := 18) rfl (by decide) (by decide)) (by decide)) ?_
    refine eqR (y := 52) (hL.rf (i := 23) rfl) ?_
    refine r_iload_n (pc := 164) dX0_begin_164 rfl rfl ?_
    refine r_aload_n (pc := 165) dX0_begin_165 rfl rfl ?_
    refine r_iload_n (pc := 166) dX0_begin_166 rfl rfl ?_
    refine c_VI0N (M := mX0_begin) (pc := 167) (As := [vi x3]) dX0_begin_167 K_X4_inverseClass w_1006 ⟨by decide, by decide⟩ (Nat.le_of_ble_eq_true rfl) rfl rfl (ci := 4) rfl rfl (by decide) (okO_of (N := 12) (hL.sh (i := 8) rfl (by decide) (by decide)) (by decide)) (h hL) (fun r22 τ23 h8 hr9 => ?_) rfl
    replace hL := h8.1
    replace h := h8.2 hr9
    refine r_bipush (pc := 170) dX0_begin_170 (by decide) ?_
    refine r_mmin (pc := 172) dX0_begin_172 w_991 w_549 w_111 w_550 (by decide) (Nat.le_of_ble_eq_true rfl) ?_
    refine nmI (fun v24 e9 => ?_)
    replace h := h v24 e9
    refine r_iastore (pc := 175) dX0_begin_175 (okB_of (c := 20) (n := 12) (hL.sh (i := 25) rfl (by decide) (by decide)) (by decide) o17) ?_
    refine nmS (fun τ25 e25 => ?_)
    replace h := h τ25 e25
    have hL := hL.wI e25 (by decide) (.inl (by decide))
    obtain ⟨o26, h⟩ := h
    refine r_iinc (pc := 176) dX0_begin_176 rfl (by decide) o26 (l2 := [some (vr 34), some (vr 24), some (vr a2), some (vi (x3 + 1)), some (vi r1), some (vi r4), some (vi r7)]) rfl ?_
    refine r_goto (pc := 179) (tgt := 57) dX0_begin_179 (by decide) ?_
    exact GG.msk [true, true, true, true, false, false, false] (h hL)
theorem C_X0_begin {a0 : Nat} {a1 : Nat} {a2 : Nat} (h : GG E mX0_begin 0 [some (vr a0), some (vr a1), some (vr a2), none, none, none, none] [] σ 0 0 Q) : CC E mX0_begin [vr a0, vr a1, vr a2] σ Q := CC.of (by decide +kernel) rfl (by decide +kernel) (fun h9 => nomatch h9) (Nat.le_of_ble_eq_true rfl) h
theorem dX0_comesAhead_0 : decode cX0_comesAhead 0 = .ok (.aload_n 0, 1) := by decide +kernel
theorem dX0_comesAhead_1 : decode cX0_comesAhead 1 = .ok (.iload_n 2, 1) := by decide +kernel
theorem dX0_comesAhead_2 : decode cX0_comesAhead 2 = .ok (.invokevirtual 112, 3) := by decide +kernel
theorem dX0_comesAhead_5 : decode cX0_comesAhead 5 = .ok (.ifCond .eq 5, 3) := by decide +kernel
theorem dX0_comesAhead_8 : decode cX0_comesAhead 8 = .ok (.iconst 0, 1) := by decide +kernel
theorem dX0_comesAhead_9 : decode cX0_comesAhead 9 = .ok (.ireturn, 1) := by decide +kernel
theorem dX0_comesAhead_10 : decode cX0_comesAhead 10 = .ok (.aload_n 0, 1) := by decide +kernel
theorem dX0_comesAhead_11 : decode cX0_comesAhead 11 = .ok (.iload_n 1, 1) := by decide +kernel
theorem dX0_comesAhead_12 : decode cX0_comesAhead 12 = .ok (.invokevirtual 112, 3) := by decide +kernel
theorem dX0_comesAhead_15 : decode cX0_comesAhead 15 = .ok (.ifCond .ne 18, 3) := by decide +kernel
theorem dX0_comesAhead_18 : decode cX0_comesAhead 18 = .ok (.aload_n 0, 1) := by decide +kernel
theorem dX0_comesAhead_19 : decode cX0_comesAhead 19 = .ok (.getfield 23, 3) := by decide +kernel
theorem dX0_comesAhead_22 : decode cX0_comesAhead 22 = .ok (.iload_n 1, 1) := by decide +kernel
theorem dX0_comesAhead_23 : decode cX0_comesAhead 23 = .ok (.iaload, 1) := by decide +kernel
theorem dX0_comesAhead_24 : decode cX0_comesAhead 24 = .ok (.aload_n 0, 1) := by decide +kernel
theorem dX0_comesAhead_25 : decode cX0_comesAhead 25 = .ok (.getfield 23, 3) := by decide +kernel
theorem dX0_comesAhead_28 : decode cX0_comesAhead 28 = .ok (.iload_n 2, 1) := by decide +kernel
theorem dX0_comesAhead_29 : decode cX0_comesAhead 29 = .ok (.iaload, 1) := by decide +kernel
theorem dX0_comesAhead_30 : decode cX0_comesAhead 30 = .ok (.if_icmp .eq 32, 3) := by decide +kernel
theorem dX0_comesAhead_33 : decode cX0_comesAhead 33 = .ok (.aload_n 0, 1) := by decide +kernel
theorem dX0_comesAhead_34 : decode cX0_comesAhead 34 = .ok (.iload_n 1, 1) := by decide +kernel
theorem dX0_comesAhead_35 : decode cX0_comesAhead 35 = .ok (.invokevirtual 112, 3) := by decide +kernel
theorem dX0_comesAhead_38 : decode cX0_comesAhead 38 = .ok (.ifCond .ne 18, 3) := by decide +kernel
theorem dX0_comesAhead_41 : decode cX0_comesAhead 41 = .ok (.aload_n 0, 1) := by decide +kernel
theorem dX0_comesAhead_42 : decode cX0_comesAhead 42 = .ok (.getfield 23, 3) := by decide +kernel
theorem dX0_comesAhead_45 : decode cX0_comesAhead 45 = .ok (.iload_n 1, 1) := by decide +kernel
theorem dX0_comesAhead_46 : decode cX0_comesAhead 46 = .ok (.iaload, 1) := by decide +kernel
theorem dX0_comesAhead_47 : decode cX0_comesAhead 47 = .ok (.aload_n 0, 1) := by decide +kernel
theorem dX0_comesAhead_48 : decode cX0_comesAhead 48 = .ok (.getfield 23, 3) := by decide +kernel
theorem dX0_comesAhead_51 : decode cX0_comesAhead 51 = .ok (.iload_n 2, 1) := by decide +kernel
theorem dX0_comesAhead_52 : decode cX0_comesAhead 52 = .ok (.iaload, 1) := by decide +kernel
theorem dX0_comesAhead_53 : decode cX0_comesAhead 53 = .ok (.if_icmp .ge 7, 3) := by decide +kernel
theorem dX0_comesAhead_56 : decode cX0_comesAhead 56 = .ok (.iconst 1, 1) := by decide +kernel
theorem dX0_comesAhead_57 : decode cX0_comesAhead 57 = .ok (.goto 4, 3) := by decide +kernel
theorem dX0_comesAhead_60 : decode cX0_comesAhead 60 = .ok (.iconst 0, 1) := by decide +kernel
theorem dX0_comesAhead_61 : decode cX0_comesAhead 61 = .ok (.ireturn, 1) := by decide +kernel
theorem dX0_comesAhead_62 : decode cX0_comesAhead 62 = .ok (.iconst 0, 1) := by decide +kernel
theorem dX0_comesAhead_63 : decode cX0_comesAhead 63 = .ok (.istore_n 3, 1) := by decide +kernel
theorem dX0_comesAhead_64 : decode cX0_comesAhead 64 = .ok (.iload_n 3, 1) := by decide +kernel
theorem dX0_comesAhead_65 : decode cX0_comesAhead 65 = .ok (.aload_n 0, 1) := by decide +kernel
theorem dX0_comesAhead_66 : decode cX0_comesAhead 66 = .ok (.getfield 66, 3) := by decide +kernel
theorem dX0_comesAhead_69 : decode cX0_comesAhead 69 = .ok (.if_icmp .ge 53, 3) := by decide +kernel
theorem dX0_comesAhead_72 : decode cX0_comesAhead 72 = .ok (.aload_n 0, 1) := by decide +kernel
theorem dX0_comesAhead_73 : decode cX0_comesAhead 73 = .ok (.getfield 20, 3) := by decide +kernel
theorem dX0_comesAhead_76 : decode cX0_comesAhead 76 = .ok (.iload_n 1, 1) := by decide +kernel
theorem dX0_comesAhead_77 : decode cX0_comesAhead 77 = .ok (.aaload, 1) := by decide +kernel
theorem dX0_comesAhead_78 : decode cX0_comesAhead 78 = .ok (.iload_n 3, 1) := by decide +kernel
theorem dX0_comesAhead_79 : decode cX0_comesAhead 79 = .ok (.iaload, 1) := by decide +kernel
theorem dX0_comesAhead_80 : decode cX0_comesAhead 80 = .ok (.aload_n 0, 1) := by decide +kernel
theorem dX0_comesAhead_81 : decode cX0_comesAhead 81 = .ok (.getfield 20, 3) := by decide +kernel
theorem dX0_comesAhead_84 : decode cX0_comesAhead 84 = .ok (.iload_n 2, 1) := by decide +kernel
theorem dX0_comesAhead_85 : decode cX0_comesAhead 85 = .ok (.aaload, 1) := by decide +kernel
theorem dX0_comesAhead_86 : decode cX0_comesAhead 86 = .ok (.iload_n 3, 1) := by decide +kernel
theorem dX0_comesAhead_87 : decode cX0_comesAhead 87 = .ok (.iaload, 1) := by decide +kernel
theorem dX0_comesAhead_88 : decode cX0_comesAhead 88 = .ok (.if_icmp .eq 28, 3) := by decide +kernel
theorem dX0_comesAhead_91 : decode cX0_comesAhead 91 = .ok (.aload_n 0, 1) := by decide +kernel
theorem dX0_comesAhead_92 : decode cX0_comesAhead 92 = .ok (.getfield 20, 3) := by decide +kernel
theorem dX0_comesAhead_95 : decode cX0_comesAhead 95 = .ok (.iload_n 1, 1) := by decide +kernel
theorem dX0_comesAhead_96 : decode cX0_comesAhead 96 = .ok (.aaload, 1) := by decide +kernel
theorem dX0_comesAhead_97 : decode cX0_comesAhead 97 = .ok (.iload_n 3, 1) := by decide +kernel
theorem dX0_comesAhead_98 : decode cX0_comesAhead 98 = .ok (.iaload, 1) := by decide +kernel
theorem dX0_comesAhead_99 : decode cX0_comesAhead 99 = .ok (.aload_n 0, 1) := by decide +kernel
theorem dX0_comesAhead_100 : decode cX0_comesAhead 100 = .ok (.getfield 20, 3) := by decide +kernel
theorem dX0_comesAhead_103 : decode cX0_comesAhead 103 = .ok (.iload_n 2, 1) := by decide +kernel
theorem dX0_comesAhead_104 : decode cX0_comesAhead 104 = .ok (.aaload, 1) := by decide +kernel
theorem dX0_comesAhead_105 : decode cX0_comesAhead 105 = .ok (.iload_n 3, 1) := by decide +kernel
theorem dX0_comesAhead_106 : decode cX0_comesAhead 106 = .ok (.iaload, 1) := by decide +kernel
theorem dX0_comesAhead_107 : decode cX0_comesAhead 107 = .ok (.if_icmp .ge 7, 3) := by decide +kernel
theorem dX0_comesAhead_110 : decode cX0_comesAhead 110 = .ok (.iconst 1, 1) := by decide +kernel
theorem dX0_comesAhead_111 : decode cX0_comesAhead 111 = .ok (.goto 4, 3) := by decide +kernel
theorem dX0_comesAhead_114 : decode cX0_comesAhead 114 = .ok (.iconst 0, 1) := by decide +kernel
theorem dX0_comesAhead_115 : decode cX0_comesAhead 115 = .ok (.ireturn, 1) := by decide +kernel
theorem dX0_comesAhead_116 : decode cX0_comesAhead 116 = .ok (.iinc 3 1, 3) := by decide +kernel
theorem dX0_comesAhead_119 : decode cX0_comesAhead 119 = .ok (.goto (-55), 3) := by decide +kernel
theorem dX0_comesAhead_122 : decode cX0_comesAhead 122 = .ok (.iconst 0, 1) := by decide +kernel
theorem dX0_comesAhead_123 : decode cX0_comesAhead 123 = .ok (.ireturn, 1) := by decide +kernel
theorem B_X0_comesAhead_0 {g : Sg} {c t : Nat} (hL : Lay LC g c t σ) {x1 : Int} {x2 : Int} (h : (Lay LC g c t σ → CC E mX0_isOneEverywhere [vr 34, vi x2] σ (KI (fun r1 τ2 => Lay LC g c t τ2 ∧ (inR r1 → ((r1 = 0 → (Lay LC g c t τ2 → CC E mX0_isOneEverywhere [vr 34, vi x1] τ2 (KI (fun r3 τ4 => Lay LC g c t τ4 ∧ (inR r3 → ((r3 ≠ 0 → (Lay LC g c t τ4 → CC E mX0_isOneEverywhere [vr 34, vi x1] τ4 (KI (fun r5 τ6 => Lay LC g c t τ6 ∧ (inR r5 → ((r5 ≠ 0 → (Lay LC g c t τ6 → Q (.inl (some (vi 1))) τ6)) ∧ (r5 = 0 → (0 ≤ x1 ∧ x1 < 12) ∧ (0 ≤ x2 ∧ x2 < 12) ∧ (((gI τ6 49 x2.toNat) ≤ (gI τ6 49 x1.toNat) → (Lay LC g c t τ6 → Q (.inl (some (vi 0))) τ6)) ∧ (¬ ((gI τ6 49 x2.toNat) ≤ (gI τ6 49 x1.toNat)) → (Lay LC g c t τ6 → Q (.inl (some (vi 1))) τ6))))))) (fun _ _ => False)))) ∧ (r3 = 0 → (0 ≤ x1 ∧ x1 < 12) ∧ (0 ≤ x2 ∧ x2 < 12) ∧ (((gI τ4 49 x1.toNat) = (gI τ4 49 x2.toNat) → (Lay LC g c t τ4 → GG E mX0_comesAhead 64 [some (vr 34), some (vi x1), some (vi x2), some (vi 0)] [] τ4 rc rs Q)) ∧ (¬ ((gI τ4 49 x1.toNat) = (gI τ4 49 x2.toNat)) → (Lay LC g c t τ4 → CC E mX0_isOneEverywhere [vr 34, vi x1] τ4 (KI (fun r11 τ12 => Lay LC g c t τ12 ∧ (inR r11 → ((r11 ≠ 0 → (Lay LC g c t τ12 → Q (.inl (some (vi 1))) τ12)) ∧ (r11 = 0 → (((gI τ12 49 x2.toNat) ≤ (gI τ12 49 x1.toNat) → (Lay LC g c t τ12 → Q (.inl (some (vi 0))) τ12)) ∧ (¬ ((gI τ12 49 x2.toNat) ≤ (gI τ12 49 x1.toNat)) → (Lay LC g c t τ12 → Q (.inl (some (vi 1))) τ12))))))) (fun _ _ => False))))))))) (fun _ _ => False)))) ∧ (¬ (r1 = 0) → (Lay LC g c t τ2 → Q (.inl (some (vi 0))) τ2))))) (fun _ _ => False)))) : GG E mX0_comesAhead 0 [some (vr 34), some (vi x1), some (vi x2), none] [] σ rc rs Q := by
  refine r_aload_n (pc := 0) dX0_comesAhead_0 rfl rfl ?_
  refine r_iload_n (pc := 1) dX0_comesAhead_1 rfl rfl ?_
  refine c_VI0N (M := mX0_comesAhead) (pc := 2) (As := [vi x2]) dX0_comesAhead_2 K_X0_isOneEverywhere w_1092 ⟨by decide, by decide⟩ (Nat.le_of_ble_eq_true rfl) rfl rfl (ci := 0) rfl rfl (by decide) (okO_of (N := 10) (hL.sh (i := 18) rfl (by decide) (by decide)) (by decide)) (h hL) (fun r1 τ2 h8 hr9 => ?_) rfl
  replace hL := h8.1
  replace h := h8.2 hr9
  refine r_if_eq (pc := 5) (tgt := 10) dX0_comesAhead_5 (by decide) (fun c9 => ?_) (fun c9 => ?_)
  · replace h := h.1 c9
    refine r_aload_n (pc := 10) dX0_comesAhead_10 rfl rfl ?_
    refine r_iload_n (pc := 11) dX0_comesAhead_11 rfl rfl ?_
    refine c_VI0N (M := mX0_comesAhead) (pc := 12) (As := [vi x1]) dX0_comesAhead_12 K_X0_isOneEverywhere w_1092 ⟨by decide, by decide⟩ (Nat.le_of_ble_eq_true rfl) rfl rfl (ci := 0) rfl rfl (by decide) (okO_of (N := 10) (hL.sh (i := 18) rfl (by decide) (by decide)) (by decide)) (h hL) (fun r3 τ4 h8 hr9 => ?_) rfl
    replace hL := h8.1
    replace h := h8.2 hr9
    refine r_if_ne (pc := 15) (tgt := 33) dX0_comesAhead_15 (by decide) (fun c9 => ?_) (fun c9 => ?_)
    · replace h := h.1 c9
      refine r_aload_n (pc := 33) dX0_comesAhead_33 rfl rfl ?_
      refine r_iload_n (pc := 34) dX0_comesAhead_34 rfl rfl ?_
      refine c_VI0N (M := mX0_comesAhead) (pc := 35) (As := [vi x1]) dX0_comesAhead_35 K_X0_isOneEverywhere w_1092 ⟨by decide, by decide⟩ (Nat.le_of_ble_eq_true rfl) rfl rfl (ci := 0) rfl rfl (by decide) (okO_of (N := 10) (hL.sh (i := 18) rfl (by decide) (by decide)) (by decide)) (h hL) (fun r5 τ6 h8 hr9 => ?_) rfl
      replace hL := h8.1
      replace h := h8.2 hr9
      refine r_if_ne (pc := 38) (tgt := 56) dX0_comesAhead_38 (by decide) (fun c9 => ?_) (fun c9 => ?_)
      · replace h := h.1 c9
        refine r_iconst (pc := 56) dX0_comesAhead_56 (inRk rfl) ?_
        refine r_goto (pc := 57) (tgt := 61) dX0_comesAhead_57 (by decide) ?_
        exact r_ireturn (pc := 61) (ty := .boolean) dX0_comesAhead_61 (by decide +kernel) rfl (nar_bool (by decide)) (h hL)
      · replace h := h.2 c9
        refine r_aload_n (pc := 41) dX0_comesAhead_41 rfl rfl ?_
        refine r_getR (pc := 42) dX0_comesAhead_42 (k9 := 2) CL_0 (by decide) (by decide) w_317 rfl (okO_of (N := 10) (hL.sh (i := 18) rfl (by decide) (by decide)) (by decide)) ?_
        refine eqR (y := 49) (hL.rf (i := 20) rfl) ?_
        refine r_iload_n (pc := 45) dX0_comesAhead_45 rfl rfl ?_
        obtain ⟨o7, h⟩ := h
        refine r_iaload (pc := 46) dX0_comesAhead_46 (okA_of (c := 20) (n := 12) (hL.sh (i := 22) rfl (by decide) (by decide)) (by decide) o7) ?_
        refine r_aload_n (pc := 47) dX0_comesAhead_47 rfl rfl ?_
        refine r_getR (pc := 48) dX0_comesAhead_48 (k9 := 2) CL_0 (by decide) (by decide) w_317 rfl (okO_of (N := 10) (hL.sh (i := 18) rfl (by decide) (by decide)) (by decide)) ?_
        refine eqR (y := 49) (hL.rf (i := 20) rfl) ?_
        refine r_iload_n (pc := 51) dX0_comesAhead_51 rfl rfl ?_
        obtain ⟨o8, h⟩ := h
        refine r_iaload (pc := 52) dX0_comesAhead_52 (okA_of (c := 20) (n := 12) (hL.sh (i := 22) rfl (by decide) (by decide)) (by decide) o8) ?_
        refine r_icmp_ge (pc := 53) (tgt := 60) dX0_comesAhead_53 (by decide) (fun c9 => ?_) (fun c9 => ?_)
        · replace h := h.1 c9
          refine r_iconst (pc := 60) dX0_comesAhead_60 (inRk rfl) ?_
          exact r_ireturn (pc := 61) (ty := .boolean) dX0_comesAhead_61 (by decide +kernel) rfl (nar_bool (by decide)) (h hL)
        · replace h := h.2 c9
          refine r_iconst (pc := 56) dX0_comesAhead_56 (inRk rfl) ?_
          refine r_goto (pc := 57) (tgt := 61) dX0_comesAhead_57 (by decide) ?_
          exact r_ireturn (pc := 61) (ty := .boolean) dX0_comesAhead_61 (by decide +kernel) rfl (nar_bool (by decide)) (h hL)
    · replace h := h.2 c9
      refine r_aload_n (pc := 18) dX0_comesAhead_18 rfl rfl ?_
      refine r_getR (pc := 19) dX0_comesAhead_19 (k9 := 2) CL_0 (by decide) (by decide) w_317 rfl (okO_of (N := 10) (hL.sh (i := 18) rfl (by decide) (by decide)) (by decide)) ?_
      refine eqR (y := 49) (hL.rf (i := 20) rfl) ?_
      refine r_iload_n (pc := 22) dX0_comesAhead_22 rfl rfl ?_
      obtain ⟨o9, h⟩ := h
      refine r_iaload (pc := 23) dX0_comesAhead_23 (okA_of (c := 20) (n := 12) (hL.sh (i := 22) rfl (by decide) (by decide)) (by decide) o9) ?_
      refine r_aload_n (pc := 24) dX0_comesAhead_24 rfl rfl ?_
      refine r_getR (pc := 25) dX0_comesAhead_25 (k9 := 2) CL_0 (by decide) (by decide) w_317 rfl (okO_of (N := 10) (hL.sh (i := 18) rfl (by decide) (by decide)) (by decide)) ?_
      refine eqR (y := 49) (hL.rf (i := 20) rfl) ?_
      refine r_iload_n (pc := 28) dX0_comesAhead_28 rfl rfl ?_
      obtain ⟨o10, h⟩ := h
      refine r_iaload (pc := 29) dX0_comesAhead_29 (okA_of (c := 20) (n := 12) (hL.sh (i := 22) rfl (by decide) (by decide)) (by decide) o10) ?_
      refine r_icmp_eq (pc := 30) (tgt := 62) dX0_comesAhead_30 (by decide) (fun c9 => ?_) (fun c9 => ?_)
      · replace h := h.1 c9
        refine r_iconst (pc := 62) dX0_comesAhead_62 (inRk rfl) ?_
        refine r_istore_n (pc := 63) dX0_comesAhead_63 rfl (by decide) (l2 := [some (vr 34), some (vi x1), some (vi x2), some (vi 0)]) rfl ?_
        exact (h hL)
      · replace h := h.2 c9
        refine r_aload_n (pc := 33) dX0_comesAhead_33 rfl rfl ?_
        refine r_iload_n (pc := 34) dX0_comesAhead_34 rfl rfl ?_
        refine c_VI0N (M := mX0_comesAhead) (pc := 35) (As := [vi x1]) dX0_comesAhead_35 K_X0_isOneEverywhere w_1092 ⟨by decide, by decide⟩ (Nat.le_of_ble_eq_true rfl) rfl rfl (ci := 0) rfl rfl (by decide) (okO_of (N := 10) (hL.sh (i := 18) rfl (by decide) (by decide)) (by decide)) (h hL) (fun r11 τ12 h8 hr9 => ?_) rfl
        replace hL := h8.1
        replace h := h8.2 hr9
        refine r_if_ne (pc := 38) (tgt := 56) dX0_comesAhead_38 (by decide) (fun c9 => ?_) (fun c9 => ?_)
        · replace h := h.1 c9
          refine r_iconst (pc := 56) dX0_comesAhead_56 (inRk rfl) ?_
          refine r_goto (pc := 57) (tgt := 61) dX0_comesAhead_57 (by decide) ?_
          exact r_ireturn (pc := 61) (ty := .boolean) dX0_comesAhead_61 (by decide +kernel) rfl (nar_bool (by decide)) (h hL)
        · replace h := h.2 c9
          refine r_aload_n (pc := 41) dX0_comesAhead_41 rfl rfl ?_
          refine r_getR (pc := 42) dX0_comesAhead_42 (k9 := 2) CL_0 (by decide) (by decide) w_317 rfl (okO_of (N := 10) (hL.sh (i := 18) rfl (by decide) (by decide)) (by decide)) ?_
          refine eqR (y := 49) (hL.rf (i := 20) rfl) ?_
          refine r_iload_n (pc := 45) dX0_comesAhead_45 rfl rfl ?_
          refine r_iaload (pc := 46) dX0_comesAhead_46 (okA_of (c := 20) (n := 12) (hL.sh (i := 22) rfl (by decide) (by decide)) (by decide) o9) ?_
          refine r_aload_n (pc := 47) dX0_comesAhead_47 rfl rfl ?_
          refine r_getR (pc := 48) dX0_comesAhead_48 (k9 := 2) CL_0 (by decide) (by decide) w_317 rfl (okO_of (N := 10) (hL.sh (i := 18) rfl (by decide) (by decide)) (by decide)) ?_
          refine eqR (y := 49) (hL.rf (i := 20) rfl) ?_
          refine r_iload_n (pc := 51) dX0_comesAhead_51 rfl rfl ?_
          refine r_iaload (pc := 52) dX0_comesAhead_52 (okA_of (c := 20) (n := 12) (hL.sh (i := 22) rfl (by decide) (by decide)) (by decide) o10) ?_
          refine r_icmp_ge (pc := 53) (tgt := 60) dX0_comesAhead_53 (by decide) (fun c9 => ?_) (fun c9 => ?_)
          · replace h := h.1 c9
            refine r_iconst (pc := 60) dX0_comesAhead_60 (inRk rfl) ?_
            exact r_ireturn (pc := 61) (ty := .boolean) dX0_comesAhead_61 (by decide +kernel) rfl (nar_bool (by decide)) (h hL)
          · replace h := h.2 c9
            refine r_iconst (pc := 56) dX0_comesAhead_56 (inRk rfl) ?_
            refine r_goto (pc := 57) (tgt := 61) dX0_comesAhead_57 (by decide) ?_
            exact r_ireturn (pc := 61) (ty := .boolean) dX0_comesAhead_61 (by decide +kernel) rfl (nar_bool (by decide)) (h hL)
  · replace h := h.2 c9
    refine r_iconst (pc := 8) dX0_comesAhead_8 (inRk rfl) ?_
    exact r_ireturn (pc := 9) (ty := .boolean) dX0_comesAhead_9 (by decide +kernel) rfl (nar_bool (by decide)) (h hL)
theorem B_X0_comesAhead_64 {g : Sg} {c t : Nat} (hL : Lay LC g c t σ) {x1 : Int} {x2 : Int} {x3 : Int} (h : (((gI σ 34 7) ≤ x3 → (Lay LC g c t σ → Q (.inl (some (vi 0))) σ)) ∧ (¬ ((gI σ 34 7) ≤ x3) → (0 ≤ x1 ∧ x1 < 12) ∧ ∀ b2 : Nat, b2 = gR σ 36 x1.toNat → (37 ≤ b2 ∧ b2 < 49) → (0 ≤ x3 ∧ x3 < 12) ∧ (0 ≤ x2 ∧ x2 < 12) ∧ ∀ b6 : Nat, b6 = gR σ 36 x2.toNat → (37 ≤ b6 ∧ b6 < 49) → (((gI σ b2 x3.toNat) = (gI σ b6 x3.toNat) → inR (x3 + 1) ∧ (Lay LC g c t σ → GG E mX0_comesAhead 64 [some (vr 34), some (vi x1), some (vi x2), some (vi (x3 + 1))] [] σ rc rs Q)) ∧ (¬ ((gI σ b2 x3.toNat) = (gI σ b6 x3.toNat)) → ∀ b9 : Nat, b9 = gR σ 36 x1.toNat → (37 ≤ b9 ∧ b9 < 49) → ∀ b11 : Nat, b11 = gR σ 36 x2.toNat → (37 ≤ b11 ∧ b11 < 49) → (((gI σ b11 x3.toNat) ≤ (gI σ b9 x3.toNat) → (Lay LC g c t σ → Q (.inl (some (vi 0))) σ)) ∧ (¬ ((gI σ b11 x3.toNat) ≤ (gI σ b9 x3.toNat)) → (Lay LC g c t σ → Q (.inl (some (vi 1))) σ)))))))) : GG E mX0_comesAhead 64 [some (vr 34), some (vi x1), some (vi x2), some (vi x3)] [] σ rc rs Q := by
  refine r_iload_n (pc := 64) dX0_comesAhead_64 rfl rfl ?_
  refine r_aload_n (pc := 65) dX0_comesAhead_65 rfl rfl ?_
  refine r_getI (pc := 66) dX0_comesAhead_66 (k9 := 7) CL_0 (by decide) (by decide) w_328 rfl (okO_of (N := 10) (hL.sh (i := 18) rfl (by decide) (by decide)) (by decide)) (fun _ => ?_)
  refine r_icmp_ge (pc := 69) (tgt := 122) dX0_comesAhead_69 (by decide) (fun c9 => ?_) (fun c9 => ?_)
  · replace h := h.1 c9
    refine r_iconst (pc := 122) dX0_comesAhead_122 (inRk rfl) ?_
    exact r_ireturn (pc := 123) (ty := .boolean) dX0_comesAhead_123 (by decide +kernel) rfl (nar_bool (by decide)) (h hL)
  · replace h := h.2 c9
    refine r_aload_n (pc := 72) dX0_comesAhead_72 rfl rfl ?_
    refine r_getR (pc := 73) dX0_comesAhead_73 (k9 := 1) CL_0 (by decide) (by decide) w_314 rfl (okO_of (N := 10) (hL.sh (i := 18) rfl (by decide) (by decide)) (by decide)) ?_
    refine eqR (y := 36) (hL.rf (i := 19) rfl) ?_
    refine r_iload_n (pc := 76) dX0_comesAhead_76 rfl rfl ?_
    obtain ⟨o1, h⟩ := h
    refine r_aaload (pc := 77) dX0_comesAhead_77 (okB_of (c := 24) (n := 12) (hL.sh (i := 20) rfl (by decide) (by decide)) (by decide) o1) ?_
    refine nmR (fun b2 e9 => ?_)
    have q3 : (37 ≤ b2 ∧ b2 < 49) := e9 ▸ hL.rsw (i := 0) rfl (rowC o1 (by decide))
    replace h := h b2 e9 q3
    refine r_iload_n (pc := 78) dX0_comesAhead_78 rfl rfl ?_
    obtain ⟨o4, h⟩ := h
    refine r_iaload (pc := 79) dX0_comesAhead_79 (okA_of (c := 20) (n := 12) (hL.sh (i := 21) rfl q3.1 q3.2) (Nat.le_trans (by decide) q3.1) o4) ?_
    refine r_aload_n (pc := 80) dX0_comesAhead_80 rfl rfl ?_
    refine r_getR (pc := 81) dX0_comesAhead_81 (k9 := 1) CL_0 (by decide) (by decide) w_314 rfl (okO_of (N := 10) (hL.sh (i := 18) rfl (by decide) (by decide)) (by decide)) ?_
    refine eqR (y := 36) (hL.rf (i := 19) rfl) ?_
    refine r_iload_n (pc := 84) dX0_comesAhead_84 rfl rfl ?_
    obtain ⟨o5, h⟩ := h
    refine r_aaload (pc := 85) dX0_comesAhead_85 (okB_of (c := 24) (n := 12) (hL.sh (i := 20) rfl (by decide) (by decide)) (by decide) o5) ?_
    refine nmR (fun b6 e9 => ?_)
    have q7 : (37 ≤ b6 ∧ b6 < 49) := e9 ▸ hL.rsw (i := 0) rfl (rowC o5 (by decide))
    replace h := h b6 e9 q7
    refine r_iload_n (pc := 86) dX0_comesAhead_86 rfl rfl ?_
    refine r_iaload (pc := 87) dX0_comesAhead_87 (okA_of (c := 20) (n := 12) (hL.sh (i := 21) rfl q7.1 q7.2) (Nat.le_trans (by decide) q7.1) o4) ?_
    refine r_icmp_eq (pc := 88) (tgt := 116) dX0_comesAhead_88 (by decide) (fun c9 => ?_) (fun c9 => ?_)
    · replace h := h.1 c9
      obtain ⟨o8, h⟩ := h
      refine r_iinc (pc := 116) dX0_comesAhead_116 rfl (by decide) o8 (l2 := [some (vr 34), some (vi x1), some (vi x2), some (vi (x3 + 1))]) rfl ?_
      refine r_goto (pc := 119) (tgt := 64) dX0_comesAhead_119 (by decide) ?_
      exact (h hL)
    · replace h := h.2 c9
      refine r_aload_n (pc := 91) dX0_comesAhead_91 rfl rfl ?_
      refine r_getR (pc := 92) dX0_comesAhead_92 (k9 := 1) CL_0 (by decide) (by decide) w_314 rfl (okO_of (N := 10) (hL.sh (i := 18) rfl (by decide) (by decide)) (by decide)) ?_
      refine eqR (y := 36) (hL.rf (i := 19) rfl) ?_
      refine r_iload_n (pc := 95) dX0_comesAhead_95 rfl rfl ?_
      refine r_aaload (pc := 96) dX0_comesAhead_96 (okB_of (c := 24) (n := 12) (hL.sh (i := 20) rfl (by decide) (by decide)) (by decide) o1) ?_
      refine nmR (fun b9 e9 => ?_)
      have q10 : (37 ≤ b9 ∧ b9 < 49) := e9 ▸ hL.rsw (i := 0) rfl (rowC o1 (by decide))
      replace h := h b9 e9 q10
      refine r_iload_n (pc := 97) dX0_comesAhead_97 rfl rfl ?_
      refine r_iaload (pc := 98) dX0_comesAhead_98 (okA_of (c := 20) (n := 12) (hL.sh (i := 21) rfl q10.1 q10.2) (Nat.le_trans (by decide) q10.1) o4) ?_
      refine r_aload_n (pc := 99) dX0_comesAhead_99 rfl rfl ?_
      refine r_getR (pc := 100) dX0_comesAhead_100 (k9 := 1) CL_0 (by decide) (by decide) w_314 rfl (okO_of (N := 10) (hL.sh (i := 18) rfl (by decide) (by decide)) (by decide)) ?_
      refine eqR (y := 36) (hL.rf (i := 19) rfl) ?_
      refine r_iload_n (pc := 103) dX0_comesAhead_103 rfl rfl ?_
      refine r_aaload (pc := 104) dX0_comesAhead_104 (okB_of (c := 24) (n := 12) (hL.sh (i := 20) rfl (by decide) (by decide)) (by decide) o5) ?_
      refine nmR (fun b11 e9 => ?_)
      have q12 : (37 ≤ b11 ∧ b11 < 49) := e9 ▸ hL.rsw (i := 0) rfl (rowC o5 (by decide))
      replace h := h b11 e9 q12
      refine r_iload_n (pc := 105) dX0_comesAhead_105 rfl rfl ?_
      refine r_iaload (pc := 106) dX0_comesAhead_106 (okA_of (c := 20) (n := 12) (hL.sh (i := 21) rfl q12.1 q12.2) (Nat.le_trans (by decide) q12.1) o4) ?_
      refine r_icmp_ge (pc := 107) (tgt := 114) dX0_comesAhead_107 (by decide) (fun c9 => ?_) (fun c9 => ?_)
      · replace h := h.1 c9
        refine r_iconst (pc := 114) dX0_comesAhead_114 (inRk rfl) ?_
        exact r_ireturn (pc := 115) (ty := .boolean) dX0_comesAhead_115 (by decide +kernel) rfl (nar_bool (by decide)) (h hL)
      · replace h := h.2 c9
        refine r_iconst (pc := 110) dX0_comesAhead_110 (inRk rfl) ?_
        refine r_goto (pc := 111) (tgt := 115) dX0_comesAhead_111 (by decide) ?_
        exact r_ireturn (pc := 115) (ty := .boolean) dX0_comesAhead_115 (by decide +kernel) rfl (nar_bool (by decide)) (h hL)
theorem C_X0_comesAhead {a0 : Nat} {x1 : Int} {x2 : Int} (h : GG E mX0_comesAhead 0 [some (vr a0), some (vi x1), some (vi x2), none] [] σ 0 0 Q) : CC E mX0_comesAhead [vr a0, vi x1, vi x2] σ Q := CC.of (by decide +kernel) rfl (by decide +kernel) (fun h9 => nomatch h9) (Nat.le_of_ble_eq_true rfl) h
theorem dX0_degreeBy_0 : decode cX0_degreeBy 0 = .ok (.iconst 1, 1) := by decide +kernel
theorem dX0_degreeBy_1 : decode cX0_degreeBy 1 = .ok (.istore_n 2, 1) := by decide +kernel
theorem dX0_degreeBy_2 : decode cX0_degreeBy 2 = .ok (.iload_n 2, 1) := by decide +kernel
theorem dX0_degreeBy_3 : decode cX0_degreeBy 3 = .ok (.bipush 10, 2) := by decide +kernel
theorem dX0_degreeBy_5 : decode cX0_degreeBy 5 = .ok (.if_icmp .gt 36, 3) := by decide +kernel
theorem dX0_degreeBy_8 : decode cX0_degreeBy 8 = .ok (.aload_n 0, 1) := by decide +kernel
theorem dX0_degreeBy_9 : decode cX0_degreeBy 9 = .ok (.getfield 12, 3) := by decide +kernel
theorem dX0_degreeBy_12 : decode cX0_degreeBy 12 = .ok (.iload_n 2, 1) := by decide +kernel
theorem dX0_degreeBy_13 : decode cX0_degreeBy 13 = .ok (.iload_n 2, 1) := by decide +kernel
theorem dX0_degreeBy_14 : decode cX0_degreeBy 14 = .ok (.imul, 1) := by decide +kernel
theorem dX0_degreeBy_15 : decode cX0_degreeBy 15 = .ok (.iload_n 1, 1) := by decide +kernel
theorem dX0_degreeBy_16 : decode cX0_degreeBy 16 = .ok (.invokevirtual 91, 3) := by decide +kernel
theorem dX0_degreeBy_19 : decode cX0_degreeBy 19 = .ok (.aload_n 0, 1) := by decide +kernel
theorem dX0_degreeBy_20 : decode cX0_degreeBy 20 = .ok (.getfield 12, 3) := by decide +kernel
theorem dX0_degreeBy_23 : decode cX0_degreeBy 23 = .ok (.aload_n 0, 1) := by decide +kernel
theorem dX0_degreeBy_24 : decode cX0_degreeBy 24 = .ok (.getfield 67, 3) := by decide +kernel
theorem dX0_degreeBy_27 : decode cX0_degreeBy 27 = .ok (.invokevirtual 88, 3) := by decide +kernel
theorem dX0_degreeBy_30 : decode cX0_degreeBy 30 = .ok (.if_icmp .ne 5, 3) := by decide +kernel
theorem dX0_degreeBy_33 : decode cX0_degreeBy 33 = .ok (.iload_n 2, 1) := by decide +kernel
theorem dX0_degreeBy_34 : decode cX0_degreeBy 34 = .ok (.ireturn, 1) := by decide +kernel
theorem dX0_degreeBy_35 : decode cX0_degreeBy 35 = .ok (.iinc 2 1, 3) := by decide +kernel
theorem dX0_degreeBy_38 : decode cX0_degreeBy 38 = .ok (.goto (-36), 3) := by decide +kernel
theorem dX0_degreeBy_41 : decode cX0_degreeBy 41 = .ok (.iconst 0, 1) := by decide +kernel
theorem dX0_degreeBy_42 : decode cX0_degreeBy 42 = .ok (.ireturn, 1) := by decide +kernel
theorem B_X0_degreeBy_0 {g : Sg} {c t : Nat} (hL : Lay LC g c t σ) {x1 : Int} (h : (Lay LC g c t σ → GG E mX0_degreeBy 2 [some (vr 34), some (vi x1), some (vi 1)] [] σ rc rs Q)) : GG E mX0_degreeBy 0 [some (vr 34), some (vi x1), none] [] σ rc rs Q := by
  refine r_iconst (pc := 0) dX0_degreeBy_0 (inRk rfl) ?_
  refine r_istore_n (pc := 1) dX0_degreeBy_1 rfl (by decide) (l2 := [some (vr 34), some (vi x1), some (vi 1)]) rfl ?_
  exact (h hL)
theorem B_X0_degreeBy_2 {g : Sg} {c t : Nat} (hL : Lay LC g c t σ) {x1 : Int} {x2 : Int} (h : ((10 < x2 → (Lay LC g c t σ → Q (.inl (some (vi 0))) σ)) ∧ (¬ (10 < x2) → inR (x2 * x2) ∧ (Lay LC g c t σ → CC E mX2_times [vr 35, vi (x2 * x2), vi x1] σ (KI (fun r2 τ3 => Lay LC g c t τ3 ∧ (inR r2 → (Lay LC g c t τ3 → CC E mX2_mod [vr 35, vi (gI τ3 34 8)] τ3 (KI (fun r4 τ5 => Lay LC g c t τ5 ∧ (inR r4 → ((r2 ≠ r4 → inR (x2 + 1) ∧ (Lay LC g c t τ5 → GG E mX0_degreeBy 2 [some (vr 34), some (vi x1), some (vi (x2 + 1))] [] τ5 rc rs Q)) ∧ (r2 = r4 → (Lay LC g c t τ5 → Q (.inl (some (vi x2))) τ5))))) (fun _ _ => False))))) (fun _ _ => False)))))) : GG E mX0_degreeBy 2 [some (vr 34), some (vi x1), some (vi x2)] [] σ rc rs Q := by
  refine r_iload_n (pc := 2) dX0_degreeBy_2 rfl rfl ?_
  refine r_bipush (pc := 3) dX0_degreeBy_3 (by decide) ?_
  refine r_icmp_gt (pc := 5) (tgt := 41) dX0_degreeBy_5 (by decide) (fun c9 => ?_) (fun c9 => ?_)
  · replace h := h.1 c9
    refine r_iconst (pc := 41) dX0_degreeBy_41 (inRk rfl) ?_
    exact r_ireturn (pc := 42) (ty := .int) dX0_degreeBy_42 (by decide +kernel) rfl (nar_i _) (h hL)
  · replace h := h.2 c9
    refine r_aload_n (pc := 8) dX0_degreeBy_8 rfl rfl ?_
    refine r_getR (pc := 9) dX0_degreeBy_9 (k9 := 0) CL_0 (by decide) (by decide) w_311 rfl (okO_of (N := 10) (hL.sh (i := 18) rfl (by decide) (by decide)) (by decide)) ?_
    refine eqR (y := 35) (hL.rf (i := 18) rfl) ?_
    refine r_iload_n (pc := 12) dX0_degreeBy_12 rfl rfl ?_
    refine r_iload_n (pc := 13) dX0_degreeBy_13 rfl rfl ?_
    obtain ⟨o1, h⟩ := h
    refine r_imul (pc := 14) dX0_degreeBy_14 o1 ?_
    refine r_iload_n (pc := 15) dX0_degreeBy_15 rfl rfl ?_
    refine c_VI0N (M := mX0_degreeBy) (pc := 16) (As := [vi (x2 * x2), vi x1]) dX0_degreeBy_16 K_X2_times w_1002 ⟨by decide, by decide⟩ (Nat.le_of_ble_eq_true rfl) rfl rfl (ci := 2) rfl rfl (by decide) (okO_of (N := 2) (hL.sh (i := 19) rfl (by decide) (by decide)) (by decide)) (h hL) (fun r2 τ3 h8 hr9 => ?_) rfl
    replace hL := h8.1
    replace h := h8.2 hr9
    refine r_aload_n (pc := 19) dX0_degreeBy_19 rfl rfl ?_
    refine r_getR (pc := 20) dX0_degreeBy_20 (k9 := 0) CL_0 (by decide) (by decide) w_311 rfl (okO_of (N := 10) (hL.sh (i := 18) rfl (by decide) (by decide)) (by decide)) ?_
    refine eqR (y := 35) (hL.rf (i := 18) rfl) ?_
    refine r_aload_n (pc := 23) dX0_degreeBy_23 rfl rfl ?_
    refine r_getI (pc := 24) dX0_degreeBy_24 (k9 := 8) CL_0 (by decide) (by decide) w_330 rfl (okO_of (N := 10) (hL.sh (i := 18) rfl (by decide) (by decide)) (by decide)) (fun _ => ?_)
    refine c_VI0N (M := mX0_degreeBy) (pc := 27) (As := [vi (gI τ3 34 8)]) dX0_degreeBy_27 K_X2_mod w_1001 ⟨by decide, by decide⟩ (Nat.le_of_ble_eq_true rfl) rfl rfl (ci := 2) rfl rfl (by decide) (okO_of (N := 2) (hL.sh (i := 19) rfl (by decide) (by decide)) (by decide)) (h hL) (fun r4 τ5 h8 hr9 => ?_) rfl
    replace hL := h8.1
    replace h := h8.2 hr9
    refine r_icmp_ne (pc := 30) (tgt := 35) dX0_degreeBy_30 (by decide) (fun c9 => ?_) (fun c9 => ?_)
    · replace h := h.1 c9
      obtain ⟨o6, h⟩ := h
      refine r_iinc (pc := 35) dX0_degreeBy_35 rfl (by decide) o6 (l2 := [some (vr 34), some (vi x1), some (vi (x2 + 1))]) rfl ?_
      refine r_goto (pc := 38) (tgt := 2) dX0_degreeBy_38 (by decide) ?_
      exact (h hL)
    · replace h := h.2 c9
      refine r_iload_n (pc := 33) dX0_degreeBy_33 rfl rfl ?_
      exact r_ireturn (pc := 34) (ty := .int) dX0_degreeBy_34 (by decide +kernel) rfl (nar_i _) (h hL)
theorem C_X0_degreeBy {a0 : Nat} {x1 : Int} (h : GG E mX0_degreeBy 0 [some (vr a0), some (vi x1), none] [] σ 0 0 Q) : CC E mX0_degreeBy [vr a0, vi x1] σ Q := CC.of (by decide +kernel) rfl (by decide +kernel) (fun h9 => nomatch h9) (Nat.le_of_ble_eq_true rfl) h
theorem dX0_fillCharacter_0 : decode cX0_fillCharacter 0 = .ok (.aload_n 0, 1) := by decide +kernel
theorem dX0_fillCharacter_1 : decode cX0_fillCharacter 1 = .ok (.getfield 12, 3) := by decide +kernel
theorem dX0_fillCharacter_4 : decode cX0_fillCharacter 4 = .ok (.aload_n 2, 1) := by decide +kernel
theorem dX0_fillCharacter_5 : decode cX0_fillCharacter 5 = .ok (.iconst 0, 1) := by decide +kernel
theorem dX0_fillCharacter_6 : decode cX0_fillCharacter 6 = .ok (.iaload, 1) := by decide +kernel
theorem dX0_fillCharacter_7 : decode cX0_fillCharacter 7 = .ok (.invokevirtual 70, 3) := by decide +kernel
theorem dX0_fillCharacter_10 : decode cX0_fillCharacter 10 = .ok (.istore_n 3, 1) := by decide +kernel
theorem dX0_fillCharacter_11 : decode cX0_fillCharacter 11 = .ok (.iconst 0, 1) := by decide +kernel
theorem dX0_fillCharacter_12 : decode cX0_fillCharacter 12 = .ok (.istore 4, 2) := by decide +kernel
theorem dX0_fillCharacter_14 : decode cX0_fillCharacter 14 = .ok (.iload 4, 2) := by decide +kernel
theorem dX0_fillCharacter_16 : decode cX0_fillCharacter 16 = .ok (.aload_n 0, 1) := by decide +kernel
theorem dX0_fillCharacter_17 : decode cX0_fillCharacter 17 = .ok (.getfield 66, 3) := by decide +kernel
theorem dX0_fillCharacter_20 : decode cX0_fillCharacter 20 = .ok (.if_icmp .ge 28, 3) := by decide +kernel
theorem dX0_fillCharacter_23 : decode cX0_fillCharacter 23 = .ok (.aload_n 0, 1) := by decide +kernel
theorem dX0_fillCharacter_24 : decode cX0_fillCharacter 24 = .ok (.getfield 36, 3) := by decide +kernel
theorem dX0_fillCharacter_27 : decode cX0_fillCharacter 27 = .ok (.iload 4, 2) := by decide +kernel
theorem dX0_fillCharacter_29 : decode cX0_fillCharacter 29 = .ok (.aload_n 0, 1) := by decide +kernel
theorem dX0_fillCharacter_30 : decode cX0_fillCharacter 30 = .ok (.getfield 12, 3) := by decide +kernel
theorem dX0_fillCharacter_33 : decode cX0_fillCharacter 33 = .ok (.aload_n 2, 1) := by decide +kernel
theorem dX0_fillCharacter_34 : decode cX0_fillCharacter 34 = .ok (.iload 4, 2) := by decide +kernel
theorem dX0_fillCharacter_36 : decode cX0_fillCharacter 36 = .ok (.iaload, 1) := by decide +kernel
theorem dX0_fillCharacter_37 : decode cX0_fillCharacter 37 = .ok (.iload_n 3, 1) := by decide +kernel
theorem dX0_fillCharacter_38 : decode cX0_fillCharacter 38 = .ok (.invokevirtual 91, 3) := by decide +kernel
theorem dX0_fillCharacter_41 : decode cX0_fillCharacter 41 = .ok (.iastore, 1) := by decide +kernel
theorem dX0_fillCharacter_42 : decode cX0_fillCharacter 42 = .ok (.iinc 4 1, 3) := by decide +kernel
theorem dX0_fillCharacter_45 : decode cX0_fillCharacter 45 = .ok (.goto (-31), 3) := by decide +kernel
theorem dX0_fillCharacter_48 : decode cX0_fillCharacter 48 = .ok (.iconst 0, 1) := by decide +kernel
theorem dX0_fillCharacter_49 : decode cX0_fillCharacter 49 = .ok (.istore 4, 2) := by decide +kernel
theorem dX0_fillCharacter_51 : decode cX0_fillCharacter 51 = .ok (.iconst 0, 1) := by decide +kernel
theorem dX0_fillCharacter_52 : decode cX0_fillCharacter 52 = .ok (.istore 5, 2) := by decide +kernel
theorem dX0_fillCharacter_54 : decode cX0_fillCharacter 54 = .ok (.iload 5, 2) := by decide +kernel
theorem dX0_fillCharacter_56 : decode cX0_fillCharacter 56 = .ok (.aload_n 0, 1) := by decide +kernel
theorem dX0_fillCharacter_57 : decode cX0_fillCharacter 57 = .ok (.getfield 66, 3) := by decide +kernel
theorem dX0_fillCharacter_60 : decode cX0_fillCharacter 60 = .ok (.if_icmp .ge 74, 3) := by decide +kernel
theorem dX0_fillCharacter_63 : decode cX0_fillCharacter 63 = .ok (.aload_n 0, 1) := by decide +kernel
theorem dX0_fillCharacter_64 : decode cX0_fillCharacter 64 = .ok (.getfield 12, 3) := by decide +kernel
theorem dX0_fillCharacter_67 : decode cX0_fillCharacter 67 = .ok (.aload_n 0, 1) := by decide +kernel
theorem dX0_fillCharacter_68 : decode cX0_fillCharacter 68 = .ok (.getfield 36, 3) := by decide +kernel
theorem dX0_fillCharacter_71 : decode cX0_fillCharacter 71 = .ok (.iload 5, 2) := by decide +kernel
theorem dX0_fillCharacter_73 : decode cX0_fillCharacter 73 = .ok (.iaload, 1) := by decide +kernel
theorem dX0_fillCharacter_74 : decode cX0_fillCharacter 74 = .ok (.aload_n 0, 1) := by decide +kernel
theorem dX0_fillCharacter_75 : decode cX0_fillCharacter 75 = .ok (.getfield 36, 3) := by decide +kernel
theorem dX0_fillCharacter_78 : decode cX0_fillCharacter 78 = .ok (.aload_n 0, 1) := by decide +kernel
theorem dX0_fillCharacter_79 : decode cX0_fillCharacter 79 = .ok (.getfield 33, 3) := by decide +kernel
theorem dX0_fillCharacter_82 : decode cX0_fillCharacter 82 = .ok (.iload 5, 2) := by decide +kernel
theorem dX0_fillCharacter_84 : decode cX0_fillCharacter 84 = .ok (.iaload, 1) := by decide +kernel
theorem dX0_fillCharacter_85 : decode cX0_fillCharacter 85 = .ok (.invokestatic 80, 3) := by decide +kernel
theorem dX0_fillCharacter_88 : decode cX0_fillCharacter 88 = .ok (.invokevirtual 91, 3) := by decide +kernel
theorem dX0_fillCharacter_91 : decode cX0_fillCharacter 91 = .ok (.istore 6, 2) := by decide +kernel
theorem dX0_fillCharacter_93 : decode cX0_fillCharacter 93 = .ok (.aload_n 0, 1) := by decide +kernel
theorem dX0_fillCharacter_94 : decode cX0_fillCharacter 94 = .ok (.getfield 12, 3) := by decide +kernel
theorem dX0_fillCharacter_97 : decode cX0_fillCharacter 97 = .ok (.iload 4, 2) := by decide +kernel
theorem dX0_fillCharacter_99 : decode cX0_fillCharacter 99 = .ok (.aload_n 0, 1) := by decide +kernel
theorem dX0_fillCharacter_100 : decode cX0_fillCharacter 100 = .ok (.getfield 12, 3) := by decide +kernel
theorem dX0_fillCharacter_103 : decode cX0_fillCharacter 103 = .ok (.iload 6, 2) := by decide +kernel
theorem dX0_fillCharacter_105 : decode cX0_fillCharacter 105 = .ok (.aload_n 0, 1) := by decide +kernel
theorem dX0_fillCharacter_106 : decode cX0_fillCharacter 106 = .ok (.getfield 12, 3) := by decide +kernel
theorem dX0_fillCharacter_109 : decode cX0_fillCharacter 109 = .ok (.aload_n 0, 1) := by decide +kernel
theorem dX0_fillCharacter_110 : decode cX0_fillCharacter 110 = .ok (.getfield 30, 3) := by decide +kernel
theorem dX0_fillCharacter_113 : decode cX0_fillCharacter 113 = .ok (.iload 5, 2) := by decide +kernel
theorem dX0_fillCharacter_115 : decode cX0_fillCharacter 115 = .ok (.iaload, 1) := by decide +kernel
theorem dX0_fillCharacter_116 : decode cX0_fillCharacter 116 = .ok (.invokevirtual 70, 3) := by decide +kernel
theorem dX0_fillCharacter_119 : decode cX0_fillCharacter 119 = .ok (.invokevirtual 91, 3) := by decide +kernel
theorem dX0_fillCharacter_122 : decode cX0_fillCharacter 122 = .ok (.iadd, 1) := by decide +kernel
theorem dX0_fillCharacter_123 : decode cX0_fillCharacter 123 = .ok (.invokevirtual 88, 3) := by decide +kernel
theorem dX0_fillCharacter_126 : decode cX0_fillCharacter 126 = .ok (.istore 4, 2) := by decide +kernel
theorem dX0_fillCharacter_128 : decode cX0_fillCharacter 128 = .ok (.iinc 5 1, 3) := by decide +kernel
theorem dX0_fillCharacter_131 : decode cX0_fillCharacter 131 = .ok (.goto (-77), 3) := by decide +kernel
theorem dX0_fillCharacter_134 : decode cX0_fillCharacter 134 = .ok (.aload_n 0, 1) := by decide +kernel
theorem dX0_fillCharacter_135 : decode cX0_fillCharacter 135 = .ok (.getfield 23, 3) := by decide +kernel
theorem dX0_fillCharacter_138 : decode cX0_fillCharacter 138 = .ok (.iload_n 1, 1) := by decide +kernel
theorem dX0_fillCharacter_139 : decode cX0_fillCharacter 139 = .ok (.aload_n 0, 1) := by decide +kernel
theorem dX0_fillCharacter_140 : decode cX0_fillCharacter 140 = .ok (.iload 4, 2) := by decide +kernel
theorem dX0_fillCharacter_142 : decode cX0_fillCharacter 142 = .ok (.invokevirtual 105, 3) := by decide +kernel
theorem dX0_fillCharacter_145 : decode cX0_fillCharacter 145 = .ok (.iastore, 1) := by decide +kernel
theorem dX0_fillCharacter_146 : decode cX0_fillCharacter 146 = .ok (.iconst 0, 1) := by decide +kernel
theorem dX0_fillCharacter_147 : decode cX0_fillCharacter 147 = .ok (.istore 5, 2) := by decide +kernel
theorem dX0_fillCharacter_149 : decode cX0_fillCharacter 149 = .ok (.iload 5, 2) := by decide +kernel
theorem dX0_fillCharacter_151 : decode cX0_fillCharacter 151 = .ok (.aload_n 0, 1) := by decide +kernel
theorem dX0_fillCharacter_152 : decode cX0_fillCharacter 152 = .ok (.getfield 66, 3) := by decide +kernel
theorem dX0_fillCharacter_155 : decode cX0_fillCharacter 155 = .ok (.if_icmp .ge 59, 3) := by decide +kernel
theorem dX0_fillCharacter_158 : decode cX0_fillCharacter 158 = .ok (.aload_n 0, 1) := by decide +kernel
theorem dX0_fillCharacter_159 : decode cX0_fillCharacter 159 = .ok (.getfield 20, 3) := by decide +kernel
theorem dX0_fillCharacter_162 : decode cX0_fillCharacter 162 = .ok (.iload_n 1, 1) := by decide +kernel
theorem dX0_fillCharacter_163 : decode cX0_fillCharacter 163 = .ok (.aaload, 1) := by decide +kernel
theorem dX0_fillCharacter_164 : decode cX0_fillCharacter 164 = .ok (.iload 5, 2) := by decide +kernel
theorem dX0_fillCharacter_166 : decode cX0_fillCharacter 166 = .ok (.aload_n 0, 1) := by decide +kernel
theorem dX0_fillCharacter_167 : decode cX0_fillCharacter 167 = .ok (.getfield 12, 3) := by decide +kernel
theorem dX0_fillCharacter_170 : decode cX0_fillCharacter 170 = .ok (.aload_n 0, 1) := by decide +kernel
theorem dX0_fillCharacter_171 : decode cX0_fillCharacter 171 = .ok (.getfield 12, 3) := by decide +kernel
theorem dX0_fillCharacter_174 : decode cX0_fillCharacter 174 = .ok (.aload_n 0, 1) := by decide +kernel
theorem dX0_fillCharacter_175 : decode cX0_fillCharacter 175 = .ok (.getfield 23, 3) := by decide +kernel
theorem dX0_fillCharacter_178 : decode cX0_fillCharacter 178 = .ok (.iload_n 1, 1) := by decide +kernel
theorem dX0_fillCharacter_179 : decode cX0_fillCharacter 179 = .ok (.iaload, 1) := by decide +kernel
theorem dX0_fillCharacter_180 : decode cX0_fillCharacter 180 = .ok (.aload_n 0, 1) := by decide +kernel
theorem dX0_fillCharacter_181 : decode cX0_fillCharacter 181 = .ok (.getfield 36, 3) := by decide +kernel
theorem dX0_fillCharacter_184 : decode cX0_fillCharacter 184 = .ok (.iload 5, 2) := by decide +kernel
theorem dX0_fillCharacter_186 : decode cX0_fillCharacter 186 = .ok (.iaload, 1) := by decide +kernel
theorem dX0_fillCharacter_187 : decode cX0_fillCharacter 187 = .ok (.invokevirtual 91, 3) := by decide +kernel
theorem dX0_fillCharacter_190 : decode cX0_fillCharacter 190 = .ok (.aload_n 0, 1) := by decide +kernel
theorem dX0_fillCharacter_191 : decode cX0_fillCharacter 191 = .ok (.getfield 12, 3) := by decide +kernel
theorem dX0_fillCharacter_194 : decode cX0_fillCharacter 194 = .ok (.aload_n 0, 1) := by decide +kernel
theorem dX0_fillCharacter_195 : decode cX0_fillCharacter 195 = .ok (.getfield 30, 3) := by decide +kernel
theorem dX0_fillCharacter_198 : decode cX0_fillCharacter 198 = .ok (.iload 5, 2) := by decide +kernel
theorem dX0_fillCharacter_200 : decode cX0_fillCharacter 200 = .ok (.iaload, 1) := by decide +kernel
theorem dX0_fillCharacter_201 : decode cX0_fillCharacter 201 = .ok (.invokevirtual 70, 3) := by decide +kernel
theorem dX0_fillCharacter_204 : decode cX0_fillCharacter 204 = .ok (.invokevirtual 91, 3) := by decide +kernel
theorem dX0_fillCharacter_207 : decode cX0_fillCharacter 207 = .ok (.iastore, 1) := by decide +kernel
theorem dX0_fillCharacter_208 : decode cX0_fillCharacter 208 = .ok (.iinc 5 1, 3) := by decide +kernel
theorem dX0_fillCharacter_211 : decode cX0_fillCharacter 211 = .ok (.goto (-62), 3) := by decide +kernel
theorem dX0_fillCharacter_214 : decode cX0_fillCharacter 214 = .ok (.return_, 1) := by decide +kernel
theorem B_X0_fillCharacter_0 {g : Sg} {c t : Nat} (hL : Lay LC g c t σ) {x1 : Int} {a2 : Nat} {n2 : Nat} (p2 : PA LC a2 n2) (h : (0 ≤ (0 : Int) ∧ (0 : Int) < (n2 : Int)) ∧ (Lay LC g c t σ → CC E mX2_inverse [vr 35, vi (gI σ a2 0)] σ (KI (fun r2 τ3 => Lay LC g c t τ3 ∧ (inR r2 → (Lay LC g c t τ3 → GG E mX0_fillCharacter 14 [some (vr 34), some (vi x1), some (vr a2), some (vi r2), some (vi 0), none, none] [] τ3 rc rs Q))) (fun _ _ => False)))) : GG E mX0_fillCharacter 0 [some (vr 34), some (vi x1), some (vr a2), none, none, none, none] [] σ rc rs Q := by
  refine r_aload_n (pc := 0) dX0_fillCharacter_0 rfl rfl ?_
  refine r_getR (pc := 1) dX0_fillCharacter_1 (k9 := 0) CL_0 (by decide) (by decide) w_311 rfl (okO_of (N := 10) (hL.sh (i := 18) rfl (by decide) (by decide)) (by decide)) ?_
  refine eqR (y := 35) (hL.rf (i := 18) rfl) ?_
  refine r_aload_n (pc := 4) dX0_fillCharacter_4 rfl rfl ?_
  refine r_iconst (pc := 5) dX0_fillCharacter_5 (inRk rfl) ?_
  obtain ⟨o1, h⟩ := h
  refine r_iaload (pc := 6) dX0_fillCharacter_6 (okA_of (c := 20) (n := n2) (p2.sh hL) p2.2.2.1 o1) ?_
  refine c_VI0N (M := mX0_fillCharacter) (pc := 7) (As := [vi (gI σ a2 0)]) dX0_fillCharacter_7 K_X2_inverse w_992 ⟨by decide, by decide⟩ (Nat.le_of_ble_eq_true rfl) rfl rfl (ci := 2) rfl rfl (by decide) (okO_of (N := 2) (hL.sh (i := 19) rfl (by decide) (by decide)) (by decide)) (h hL) (fun r2 τ3 h8 hr9 => ?_) rfl
  replace hL := h8.1
  replace h := h8.2 hr9
  refine r_istore_n (pc := 10) dX0_fillCharacter_10 rfl (by decide) (l2 := [some (vr 34), some (vi x1), some (vr a2), some (vi r2), none, none, none]) rfl ?_
  refine r_iconst (pc := 11) dX0_fillCharacter_11 (inRk rfl) ?_
  refine r_istore (pc := 12) dX0_fillCharacter_12 (by decide) (l2 := [some (vr 34), some (vi x1), some (vr a2), some (vi r2), some (vi 0), none, none]) rfl ?_
  exact (h hL)
theorem B_X0_fillCharacter_14 {g : Sg} {c t : Nat} (hL : Lay LC g c t σ) {x1 : Int} {a2 : Nat} {n2 : Nat} (p2 : PA LC a2 n2) {x3 : Int} {x4 : Int} (h : (((gI σ 34 7) ≤ x4 → (Lay LC g c t σ → GG E mX0_fillCharacter 54 [some (vr 34), some (vi x1), none, none, some (vi 0), some (vi 0), none] [] σ rc rs Q)) ∧ (¬ ((gI σ 34 7) ≤ x4) → (0 ≤ x4 ∧ x4 < (n2 : Int)) ∧ (Lay LC g c t σ → CC E mX2_times [vr 35, vi (gI σ a2 x4.toNat), vi x3] σ (KI (fun r2 τ3 => Lay LC g c t τ3 ∧ (inR r2 → (0 ≤ x4 ∧ x4 < 12) ∧ ∀ τ5 : Sg, τ5 = sI τ3 53 x4.toNat r2 → inR (x4 + 1) ∧ (Lay LC g c t τ5 → GG E mX0_fillCharacter 14 [some (vr 34), some (vi x1), some (vr a2), some (vi x3), some (vi (x4 + 1)), none, none] [] τ5 rc rs Q))) (fun _ _ => False)))))) : GG E mX0_fillCharacter 14 [some (vr 34), some (vi x1), some (vr a2), some (vi x3), some (vi x4), none, none] [] σ rc rs Q := by
  refine r_iload (pc := 14) dX0_fillCharacter_14 rfl ?_
  refine r_aload_n (pc := 16) dX0_fillCharacter_16 rfl rfl ?_
  refine r_getI (pc := 17) dX0_fillCharacter_17 (k9 := 7) CL_0 (by decide) (by decide) w_328 rfl (okO_of (N := 10) (hL.sh (i := 18) rfl (by decide) (by decide)) (by decide)) (fun _ => ?_)
  refine r_icmp_ge (pc := 20) (tgt := 48) dX0_fillCharacter_20 (by decide) (fun c9 => ?_) (fun c9 => ?_)
  · replace h := h.1 c9
    refine r_iconst (pc := 48) dX0_fillCharacter_48 (inRk rfl) ?_
    refine r_istore (pc := 49) dX0_fillCharacter_49 (by decide) (l2 := [some (vr 34), some (vi x1), some (vr a2), some (vi x3), some (vi 0), none, none]) rfl ?_
    refine r_iconst (pc := 51) dX0_fillCharacter_51 (inRk rfl) ?_
    refine r_istore (pc := 52) dX0_fillCharacter_52 (by decide) (l2 := [some (vr 34), some (vi x1), some (vr a2), some (vi x3), some (vi 0), some (vi 0), none]) rfl ?_
    exact GG.msk [true, true, false, false, true, true, false] (h hL)
  · replace h := h.2 c9
    refine r_aload_n (pc := 23) dX0_fillCharacter_23 rfl rfl ?_
    refine r_getR (pc := 24) dX0_fillCharacter_24 (k9 := 6) CL_0 (by decide) (by decide) w_325 rfl (okO_of (N := 10) (hL.sh (i := 18) rfl (by decide) (by decide)) (by decide)) ?_
    refine eqR (y := 53) (hL.rf (i := 24) rfl) ?_
    refine r_iload (pc := 27) dX0_fillCharacter_27 rfl ?_
    refine r_aload_n (pc := 29) dX0_fillCharacter_29 rfl rfl ?_
    refine r_getR (pc := 30) dX0_fillCharacter_30 (k9 := 0) CL_0 (by decide) (by decide) w_311 rfl (okO_of (N := 10) (hL.sh (i := 18) rfl (by decide) (by decide)) (by decide)) ?_
    refine eqR (y := 35) (hL.rf (i := 18) rfl) ?_
    refine r_aload_n (pc := 33) dX0_fillCharacter_33 rfl rfl ?_
    refine r_iload (pc := 34) dX0_fillCharacter_34 rfl ?_
    obtain ⟨o1, h⟩ := h
    refine r_iaload (pc := 36) dX0_fillCharacter_36 (okA_of (c := 20) (n := n2) (p2.sh hL) p2.2.2.1 o1) ?_
    refine r_iload_n (pc := 37) dX0_fillCharacter_37 rfl rfl ?_
    refine c_VI0N (M := mX0_fillCharacter) (pc := 38) (As := [vi (gI σ a2 x4.toNat), vi x3]) dX0_fillCharacter_38 K_X2_times w_1002 ⟨by decide, by decide⟩ (Nat.le_of_ble_eq_true rfl) rfl rfl (ci := 2) rfl rfl (by decide) (okO_of (N := 2) (hL.sh (i := 19) rfl (by decide) (by decide)) (by decide)) (h hL) (fun r2 τ3 h8 hr9 => ?_) rfl
    replace hL := h8.1
    replace h := h8.2 hr9
    obtain ⟨o4, h⟩ := h
    refine r_iastore (pc := 41) dX0_fillCharacter_41 (okB_of (c := 20) (n := 12) (hL.sh (i := 26) rfl (by decide) (by decide)) (by decide) o4) ?_
    refine nmS (fun τ5 e5 => ?_)
    replace h := h τ5 e5
    have hL := hL.wI e5 (by decide) (.inl (by decide))
    obtain ⟨o6, h⟩ := h
    refine r_iinc (pc := 42) dX0_fillCharacter_42 rfl (by decide) o6 (l2 := [some (vr 34), some (vi x1), some (vr a2), some (vi x3), some (vi (x4 + 1)), none, none]) rfl ?_
    refine r_goto (pc := 45) (tgt := 14) dX0_fillCharacter_45 (by decide) ?_
    exact (h hL)
theorem B_X0_fillCharacter_54 {g : Sg} {c t : Nat} (hL : Lay LC g c t σ) {x1 : Int} {x4 : Int} {x5 : Int} (h : (((gI σ 34 7) ≤ x5 → (Lay LC g c t σ → CC E mX0_degreeBy [vr 34, vi x4] σ (KI (fun r1 τ2 => Lay LC g c t τ2 ∧ (inR r1 → (0 ≤ x1 ∧ x1 < 12) ∧ ∀ τ4 : Sg, τ4 = sI τ2 49 x1.toNat r1 → (Lay LC g c t τ4 → GG E mX0_fillCharacter 149 [some (vr 34), some (vi x1), none, none, none, some (vi 0), none] [] τ4 rc rs Q))) (fun _ _ => False)))) ∧ (¬ ((gI σ 34 7) ≤ x5) → (0 ≤ x5 ∧ x5 < 12) ∧ (Lay LC g c t σ → CC E mX11_at [vr 53, vi (gI σ 52 x5.toNat)] σ (KI (fun r6 τ7 => Lay LC g c t τ7 ∧ (inR r6 → (Lay LC g c t τ7 → CC E mX2_times [vr 35, vi (gI σ 53 x5.toNat), vi r6] τ7 (KI (fun r8 τ9 => Lay LC g c t τ9 ∧ (inR r8 → (Lay LC g c t τ9 → CC E mX2_inverse [vr 35, vi (gI τ9 51 x5.toNat)] τ9 (KI (fun r10 τ11 => Lay LC g c t τ11 ∧ (inR r10 → (Lay LC g c t τ11 → CC E mX2_times [vr 35, vi r8, vi r10] τ11 (KI (fun r12 τ13 => Lay LC g c t τ13 ∧ (inR r12 → inR (x4 + r12) ∧ (Lay LC g c t τ13 → CC E mX2_mod [vr 35, vi (x4 + r12)] τ13 (KI (fun r15 τ16 => Lay LC g c t τ16 ∧ (inR r15 → inR (x5 + 1) ∧ (Lay LC g c t τ16 → GG E mX0_fillCharacter 54 [some (vr 34), some (vi x1), none, none, some (vi r15), some (vi (x5 + 1)), none] [] τ16 rc rs Q))) (fun _ _ => False))))) (fun _ _ => False))))) (fun _ _ => False))))) (fun _ _ => False))))) (fun _ _ => False)))))) : GG E mX0_fillCharacter 54 [some (vr 34), some (vi x1), none, none, some (vi x4), some (vi x5), none] [] σ rc rs Q := by
  refine r_iload (pc := 54) dX0_fillCharacter_54 rfl ?_
  refine r_aload_n (pc := 56) dX0_fillCharacter_56 rfl rfl ?_
  refine r_getI (pc := 57) dX0_fillCharacter_57 (k9 := 7) CL_0 (by decide) (by decide) w_328 rfl (okO_of (N := 10) (hL.sh (i := 18) rfl (by decide) (by decide)) (by decide)) (fun _ => ?_)
  refine r_icmp_ge (pc := 60) (tgt := 134) dX0_fillCharacter_60 (by decide) (fun c9 => ?_) (fun c9 => ?_)
  · replace h := h.1 c9
    refine r_aload_n (pc := 134) dX0_fillCharacter_134 rfl rfl ?_
    refine r_getR (pc := 135) dX0_fillCharacter_135 (k9 := 2) CL_0 (by decide) (by decide) w_317 rfl (okO_of (N := 10) (hL.sh (i := 18) rfl (by decide) (by decide)) (by decide)) ?_
    refine eqR (y := 49) (hL.rf (i := 20) rfl) ?_
    refine r_iload_n (pc := 138) dX0_fillCharacter_138 rfl rfl ?_
    refine r_aload_n (pc := 139) dX0_fillCharacter_139 rfl rfl ?_
    refine r_iload (pc := 140) dX0_fillCharacter_140 rfl ?_
    refine c_VI0N (M := mX0_fillCharacter) (pc := 142) (As := [vi x4]) dX0_fillCharacter_142 K_X0_degreeBy w_1080 ⟨by decide, by decide⟩ (Nat.le_of_ble_eq_true rfl) rfl rfl (ci := 0) rfl rfl (by decide) (okO_of (N := 10) (hL.sh (i := 18) rfl (by decide) (by decide)) (by decide)) (h hL) (fun r1 τ2 h8 hr9 => ?_) rfl
    replace hL := h8.1
    replace h := h8.2 hr9
    obtain ⟨o3, h⟩ := h
    refine r_iastore (pc := 145) dX0_fillCharacter_145 (okB_of (c := 20) (n := 12) (hL.sh (i := 22) rfl (by decide) (by decide)) (by decide) o3) ?_
    refine nmS (fun τ4 e4 => ?_)
    replace h := h τ4 e4
    have hL := hL.wI e4 (by decide) (.inl (by decide))
    refine r_iconst (pc := 146) dX0_fillCharacter_146 (inRk rfl) ?_
    refine r_istore (pc := 147) dX0_fillCharacter_147 (by decide) (l2 := [some (vr 34), some (vi x1), none, none, some (vi x4), some (vi 0), none]) rfl ?_
    exact GG.msk [true, true, false, false, false, true, false] (h hL)
  · replace h := h.2 c9
    refine r_aload_n (pc := 63) dX0_fillCharacter_63 rfl rfl ?_
    refine r_getR (pc := 64) dX0_fillCharacter_64 (k9 := 0) CL_0 (by decide) (by decide) w_311 rfl (okO_of (N := 10) (hL.sh (i := 18) rfl (by decide) (by decide)) (by decide)) ?_
    refine eqR (y := 35) (hL.rf (i := 18) rfl) ?_
    refine r_aload_n (pc := 67) dX0_fillCharacter_67 rfl rfl ?_
    refine r_getR (pc := 68) dX0_fillCharacter_68 (k9 := 6) CL_0 (by decide) (by decide) w_325 rfl (okO_of (N := 10) (hL.sh (i := 18) rfl (by decide) (by decide)) (by decide)) ?_
    refine eqR (y := 53) (hL.rf (i := 24) rfl) ?_
    refine r_iload (pc := 71) dX0_fillCharacter_71 rfl ?_
    obtain ⟨o5, h⟩ := h
    refine r_iaload (pc := 73) dX0_fillCharacter_73 (okA_of (c := 20) (n := 12) (hL.sh (i := 26) rfl (by decide) (by decide)) (by decide) o5) ?_
    refine r_aload_n (pc := 74) dX0_fillCharacter_74 rfl rfl ?_
    refine r_getR (pc := 75) dX0_fillCharacter_75 (k9 := 6) CL_0 (by decide) (by decide) w_325 rfl (okO_of (N := 10) (hL.sh (i := 18) rfl (by decide) (by decide)) (by decide)) ?_
    refine eqR (y := 53) (hL.rf (i := 24) rfl) ?_
    refine r_aload_n (pc := 78) dX0_fillCharacter_78 rfl rfl ?_
    refine r_getR (pc := 79) dX0_fillCharacter_79 (k9 := 5) CL_0 (by decide) (by decide) w_324 rfl (okO_of (N := 10) (hL.sh (i := 18) rfl (by decide) (by decide)) (by decide)) ?_
    refine eqR (y := 52) (hL.rf (i := 23) rfl) ?_
    refine r_iload (pc := 82) dX0_fillCharacter_82 rfl ?_
    refine r_iaload (pc := 84) dX0_fillCharacter_84 (okA_of (c := 20) (n := 12) (hL.sh (i := 25) rfl (by decide) (by decide)) (by decide) o5) ?_
    refine c_SNI0N (M := mX0_fillCharacter) (pc := 85) (As := [vr 53, vi (gI σ 52 x5.toNat)]) dX0_fillCharacter_85 K_X11_at wt_1000 ⟨by decide, by decide⟩ (Nat.le_of_ble_eq_true rfl) rfl rfl (h hL) (fun r6 τ7 h8 hr9 => ?_) rfl
    replace hL := h8.1
    replace h := h8.2 hr9
    refine c_VI0N (M := mX0_fillCharacter) (pc := 88) (As := [vi (gI σ 53 x5.toNat), vi r6]) dX0_fillCharacter_88 K_X2_times w_1002 ⟨by decide, by decide⟩ (Nat.le_of_ble_eq_true rfl) rfl rfl (ci := 2) rfl rfl (by decide) (okO_of (N := 2) (hL.sh (i := 19) rfl (by decide) (by decide)) (by decide)) (h hL) (fun r8 τ9 h8 hr9 => ?_) rfl
    replace hL := h8.1
    replace h := h8.2 hr9
    refine r_istore (pc := 91) dX0_fillCharacter_91 (by decide) (l2 := [some (vr 34), some (vi x1), none, none, some (vi x4), some (vi x5), some (vi r8)]) rfl ?_
    refine r_aload_n (pc := 93) dX0_fillCharacter_93 rfl rfl ?_
    refine r_getR (pc := 94) dX0_fillCharacter_94 (k9 := 0) CL_0 (by decide) (by decide) w_311 rfl (okO_of (N := 10) (hL.sh (i := 18) rfl (by decide) (by decide)) (by decide)) ?_
    refine eqR (y := 35) (hL.rf (i := 18) rfl) ?_
    refine r_iload (pc := 97) dX0_fillCharacter_97 rfl ?_
    refine r_aload_n (pc := 99) dX0_fillCharacter_99 rfl rfl ?_
    refine r_getR (pc := 100) dX0_fillCharacter_100 (k9 := 0) CL_0 (by decide) (by decide) w_311 rfl (okO_of (N := 10) (hL.sh (i := 18) rfl (by decide) (by decide)) (by decide)) ?_
    refine eqR (y := 35) (hL.rf (i := 18) rfl) ?_
    refine r_iload (pc := 103) dX0_fillCharacter_103 rfl ?_
    refine r_aload_n (pc := 105) dX0_fillCharacter_105 rfl rfl ?_
    refine r_getR (pc := 106) dX0_fillCharacter_106 (k9 := 0) CL_0 (by decide) (by decide) w_311 rfl (okO_of (N := 10) (hL.sh (i := 18) rfl (by decide) (by decide)) (by decide)) ?_
    refine eqR (y := 35) (hL.rf (i := 18) rfl) ?_
    refine r_aload_n (pc := 109) dX0_fillCharacter_109 rfl rfl ?_
    refine r_getR (pc := 110) dX0_fillCharacter_110 (k9 := 4) CL_0 (by decide) (by decide) w_323 rfl (okO_of (N := 10) (hL.sh (i := 18) rfl (by decide) (by decide)) (by decide)) ?_
    refine eqR (y := 51) (hL.rf (i := 22) rfl) ?_
    refine r_iload (pc := 113) dX0_fillCharacter_113 rfl ?_
    refine r_iaload (pc := 115) dX0_fillCharacter_115 (okA_of (c := 20) (n := 12) (hL.sh (i := 24) rfl (by decide) (by decide)) (by decide) o5) ?_
    refine c_VI0N (M := mX0_fillCharacter) (pc := 116) (As := [vi (gI τ9 51 x5.toNat)]) dX0_fillCharacter_116 K_X2_inverse w_992 ⟨by decide, by decide⟩ (Nat.le_of_ble_eq_true rfl) rfl rfl (ci := 2) rfl rfl (by decide) (okO_of (N := 2) (hL.sh (i := 19) rfl (by decide) (by decide)) (by decide)) (h hL) (fun r10 τ11 h8 hr9 => ?_) rfl
    replace hL := h8.1
    replace h := h8.2 hr9
    refine c_VI0N (M := mX0_fillCharacter) (pc := 119) (As := [vi r8, vi r10]) dX0_fillCharacter_119 K_X2_times w_1002 ⟨by decide, by decide⟩ (Nat.le_of_ble_eq_true rfl) rfl rfl (ci := 2) rfl rfl (by decide) (okO_of (N := 2) (hL.sh (i := 19) rfl (by decide) (by decide)) (by decide)) (h hL) (fun r12 τ13 h8 hr9 => ?_) rfl
    replace hL := h8.1
    replace h := h8.2 hr9
    obtain ⟨o14, h⟩ := h
    refine r_iadd (pc := 122) dX0_fillCharacter_122 o14 ?_
    refine c_VI0N (M := mX0_fillCharacter) (pc := 123) (As := [vi (x4 + r12)]) dX0_fillCharacter_123 K_X2_mod w_1001 ⟨by decide, by decide⟩ (Nat.le_of_ble_eq_true rfl) rfl rfl (ci := 2) rfl rfl (by decide) (okO_of (N := 2) (hL.sh (i := 19) rfl (by decide) (by decide)) (by decide)) (h hL) (fun r15 τ16 h8 hr9 => ?_) rfl
    replace hL := h8.1
    replace h := h8.2 hr9
    refine r_istore (pc := 126) dX0_fillCharacter_126 (by decide) (l2 := [some (vr 34), some (vi x1), none, none, some (vi r15), some (vi x5), some (vi r8)]) rfl ?_
    obtain ⟨o17, h⟩ := h
    refine r_iinc (pc := 128) dX0_fillCharacter_128 rfl (by decide) o17 (l2 := [some (vr 34), some (vi x1), none, none, some (vi r15), some (vi (x5 + 1)), some (vi r8)]) rfl ?_
    refine r_goto (pc := 131) (tgt := 54) dX0_fillCharacter_131 (by decide) ?_
    exact GG.msk [true, true, false, false, true, true, false] (h hL)
theorem B_X0_fillCharacter_149 {g : Sg} {c t : Nat} (hL : Lay LC g c t σ) {x1 : Int} {x5 : Int} (h : (((gI σ 34 7) ≤ x5 → (Lay LC g c t σ → Q (.inl none) σ)) ∧ (¬ ((gI σ 34 7) ≤ x5) → (0 ≤ x1 ∧ x1 < 12) ∧ ∀ b2 : Nat, b2 = gR σ 36 x1.toNat → (37 ≤ b2 ∧ b2 < 49) → (0 ≤ x5 ∧ x5 < 12) ∧ (Lay LC g c t σ → CC E mX2_times [vr 35, vi (gI σ 49 x1.toNat), vi (gI σ 53 x5.toNat)] σ (KI (fun r5 τ6 => Lay LC g c t τ6 ∧ (inR r5 → (Lay LC g c t τ6 → CC E mX2_inverse [vr 35, vi (gI τ6 51 x5.toNat)] τ6 (KI (fun r7 τ8 => Lay LC g c t τ8 ∧ (inR r7 → (Lay LC g c t τ8 → CC E mX2_times [vr 35, vi r5, vi r7] τ8 (KI (fun r9 τ10 => Lay LC g c t τ10 ∧ (inR r9 → ∀ τ11 : Sg, τ11 = sI τ10 b2 x5.toNat r9 → inR (x5 + 1) ∧ (Lay LC g c t τ11 → GG E mX0_fillCharacter 149 [some (vr 34), some (vi x1), none, none, none, some (vi (x5 + 1)), none] [] τ11 rc rs Q))) (fun _ _ => False))))) (fun _ _ => False))))) (fun _ _ => False)))))) : GG E mX0_fillCharacter 149 [some (vr 34), some (vi x1), none, none, none, some (vi x5), none] [] σ rc rs Q := by
  refine r_iload (pc := 149) dX0_fillCharacter_149 rfl ?_
  refine r_aload_n (pc := 151) dX0_fillCharacter_151 rfl rfl ?_
  refine r_getI (pc := 152) dX0_fillCharacter_152 (k9 := 7) CL_0 (by decide) (by decide) w_328 rfl (okO_of (N := 10) (hL.sh (i := 18) rfl (by decide) (by decide)) (by decide)) (fun _ => ?_)
  refine r_icmp_ge (pc := 155) (tgt := 214) dX0_fillCharacter_155 (by decide) (fun c9 => ?_) (fun c9 => ?_)
  · replace h := h.1 c9
    exact r_return (pc := 214) dX0_fillCharacter_214 (by decide +kernel) rfl (h hL)
  · replace h := h.2 c9
    refine r_aload_n (pc := 158) dX0_fillCharacter_158 rfl rfl ?_
    refine r_getR (pc := 159) dX0_fillCharacter_159 (k9 := 1) CL_0 (by decide) (by decide) w_314 rfl (okO_of (N := 10) (hL.sh (i := 18) rfl (by decide) (by decide)) (by decide)) ?_
    refine eqR (y := 36) (hL.rf (i := 19) rfl) ?_
    refine r_iload_n (pc := 162) dX0_fillCharacter_162 rfl rfl ?_
    obtain ⟨o1, h⟩ := h
    refine r_aaload (pc := 163) dX0_fillCharacter_163 (okB_of (c := 24) (n := 12) (hL.sh (i := 20) rfl (by decide) (by decide)) (by decide) o1) ?_
    refine nmR (fun b2 e9 => ?_)
    have q3 : (37 ≤ b2 ∧ b2 < 49) := e9 ▸ hL.rsw (i := 0) rfl (rowC o1 (by decide))
    replace h := h b2 e9 q3
    refine r_iload (pc := 164) dX0_fillCharacter_164 rfl ?_
    refine r_aload_n (pc := 166) dX0_fillCharacter_166 rfl rfl ?_
    refine r_getR (pc := 167) dX0_fillCharacter_167 (k9 := 0) CL_0 (by decide) (by decide) w_311 rfl (okO_of (N := 10) (hL.sh (i := 18) rfl (by decide) (by decide)) (by decide)) ?_
    refine eqR (y := 35) (hL.rf (i := 18) rfl) ?_
    refine r_aload_n (pc := 170) dX0_fillCharacter_170 rfl rfl ?_
    refine r_getR (pc := 171) dX0_fillCharacter_171 (k9 := 0) CL_0 (by decide) (by decide) w_311 rfl (okO_of (N := 10) (hL.sh (i := 18) rfl (by decide) (by decide)) (by decide)) ?_
    refine eqR (y := 35) (hL.rf (i := 18) rfl) ?_
    refine r_aload_n (pc := 174) dX0_fillCharacter_174 rfl rfl ?_
    refine r_getR (pc := 175) dX0_fillCharacter_175 (k9 := 2) CL_0 (by decide) (by decide) w_317 rfl (okO_of (N := 10) (hL.sh (i := 18) rfl (by decide) (by decide)) (by decide)) ?_
    refine eqR (y := 49) (hL.rf (i := 20) rfl) ?_
    refine r_iload_n (pc := 178) dX0_fillCharacter_178 rfl rfl ?_
    refine r_iaload (pc := 179) dX0_fillCharacter_179 (okA_of (c := 20) (n := 12) (hL.sh (i := 22) rfl (by decide) (by decide)) (by decide) o1) ?_
    refine r_aload_n (pc := 180) dX0_fillCharacter_180 rfl rfl ?_
    refine r_getR (pc := 181) dX0_fillCharacter_181 (k9 := 6) CL_0 (by decide) (by decide) w_325 rfl (okO_of (N := 10) (hL.sh (i := 18) rfl (by decide) (by decide)) (by decide)) ?_
    refine eqR (y := 53) (hL.rf (i := 24) rfl) ?_
    refine r_iload (pc := 184) dX0_fillCharacter_184 rfl ?_
    obtain ⟨o4, h⟩ := h
    refine r_iaload (pc := 186) dX0_fillCharacter_186 (okA_of (c := 20) (n := 12) (hL.sh (i := 26) rfl (by decide) (by decide)) (by decide) o4) ?_
    refine c_VI0N (M := mX0_fillCharacter) (pc := 187) (As := [vi (gI σ 49 x1.toNat), vi (gI σ 53 x5.toNat)]) dX0_fillCharacter_187 K_X2_times w_1002 ⟨by decide, by decide⟩ (Nat.le_of_ble_eq_true rfl) rfl rfl (ci := 2) rfl rfl (by decide) (okO_of (N := 2) (hL.sh (i := 19) rfl (by decide) (by decide)) (by decide)) (h hL) (fun r5 τ6 h8 hr9 => ?_) rfl
    replace hL := h8.1
    replace h := h8.2 hr9
    refine r_aload_n (pc := 190) dX0_fillCharacter_190 rfl rfl ?_
    refine r_getR (pc := 191) dX0_fillCharacter_191 (k9 := 0) CL_0 (by decide) (by decide) w_311 rfl (okO_of (N := 10) (hL.sh (i := 18) rfl (by decide) (by decide)) (by decide)) ?_
    refine eqR (y := 35) (hL.rf (i := 18) rfl) ?_
    refine r_aload_n (pc := 194) dX0_fillCharacter_194 rfl rfl ?_
    refine r_getR (pc := 195) dX0_fillCharacter_195 (k9 := 4) CL_0 (by decide) (by decide) w_323 rfl (okO_of (N := 10) (hL.sh (i := 18) rfl (by decide) (by decide)) (by decide)) ?_
    refine eqR (y := 51) (hL.rf (i := 22) rfl) ?_
    refine r_iload (pc := 198) dX0_fillCharacter_198 rfl ?_
    refine r_iaload (pc := 200) dX0_fillCharacter_200 (okA_of (c := 20) (n := 12) (hL.sh (i := 24) rfl (by decide) (by decide)) (by decide) o4) ?_
    refine c_VI0N (M := mX0_fillCharacter) (pc := 201) (As := [vi (gI τ6 51 x5.toNat)]) dX0_fillCharacter_201 K_X2_inverse w_992 ⟨by decide, by decide⟩ (Nat.le_of_ble_eq_true rfl) rfl rfl (ci := 2) rfl rfl (by decide) (okO_of (N := 2) (hL.sh (i := 19) rfl (by decide) (by decide)) (by decide)) (h hL) (fun r7 τ8 h8 hr9 => ?_) rfl
    replace hL := h8.1
    replace h := h8.2 hr9
    refine c_VI0N (M := mX0_fillCharacter) (pc := 204) (As := [vi r5, vi r7]) dX0_fillCharacter_204 K_X2_times w_1002 ⟨by decide, by decide⟩ (Nat.le_of_ble_eq_true rfl) rfl rfl (ci := 2) rfl rfl (by decide) (okO_of (N := 2) (hL.sh (i := 19) rfl (by decide) (by decide)) (by decide)) (h hL) (fun r9 τ10 h8 hr9 => ?_) rfl
    replace hL := h8.1
    replace h := h8.2 hr9
    refine r_iastore (pc := 207) dX0_fillCharacter_207 (okB_of (c := 20) (n := 12) (hL.sh (i := 21) rfl q3.1 q3.2) (Nat.le_trans (by decide) q3.1) o4) ?_
    refine nmS (fun τ11 e11 => ?_)
    replace h := h τ11 e11
    have hL := hL.wI e11 (Nat.le_trans (by decide) q3.1) (.inl ⟨Nat.le_trans (by decide) q3.1, Nat.lt_of_lt_of_le q3.2 (by decide)⟩)
    obtain ⟨o12, h⟩ := h
    refine r_iinc (pc := 208) dX0_fillCharacter_208 rfl (by decide) o12 (l2 := [some (vr 34), some (vi x1), none, none, none, some (vi (x5 + 1)), none]) rfl ?_
    refine r_goto (pc := 211) (tgt := 149) dX0_fillCharacter_211 (by decide) ?_
    exact (h hL)
theorem C_X0_fillCharacter {a0 : Nat} {x1 : Int} {a2 : Nat} (h : GG E mX0_fillCharacter 0 [some (vr a0), some (vi x1), some (vr a2), none, none, none, none] [] σ 0 0 Q) : CC E mX0_fillCharacter [vr a0, vi x1, vr a2] σ Q := CC.of (by decide +kernel) rfl (by decide +kernel) (fun h9 => nomatch h9) (Nat.le_of_ble_eq_true rfl) h
theorem dX0_inProduct_0 : decode cX0_inProduct 0 = .ok (.iconst 0, 1) := by decide +kernel
theorem dX0_inProduct_1 : decode cX0_inProduct 1 = .ok (.istore 4, 2) := by decide +kernel
theorem dX0_inProduct_3 : decode cX0_inProduct 3 = .ok (.iload 4, 2) := by decide +kernel
theorem dX0_inProduct_5 : decode cX0_inProduct 5 = .ok (.aload_n 0, 1) := by decide +kernel
theorem dX0_inProduct_6 : decode cX0_inProduct 6 = .ok (.getfield 66, 3) := by decide +kernel
theorem dX0_inProduct_9 : decode cX0_inProduct 9 = .ok (.if_icmp .ge 31, 3) := by decide +kernel
theorem dX0_inProduct_12 : decode cX0_inProduct 12 = .ok (.aload_n 0, 1) := by decide +kernel
theorem dX0_inProduct_13 : decode cX0_inProduct 13 = .ok (.getfield 36, 3) := by decide +kernel
theorem dX0_inProduct_16 : decode cX0_inProduct 16 = .ok (.iload 4, 2) := by decide +kernel
theorem dX0_inProduct_18 : decode cX0_inProduct 18 = .ok (.aload_n 0, 1) := by decide +kernel
theorem dX0_inProduct_19 : decode cX0_inProduct 19 = .ok (.getfield 12, 3) := by decide +kernel
theorem dX0_inProduct_22 : decode cX0_inProduct 22 = .ok (.aload_n 1, 1) := by decide +kernel
theorem dX0_inProduct_23 : decode cX0_inProduct 23 = .ok (.iload 4, 2) := by decide +kernel
theorem dX0_inProduct_25 : decode cX0_inProduct 25 = .ok (.iaload, 1) := by decide +kernel
theorem dX0_inProduct_26 : decode cX0_inProduct 26 = .ok (.aload_n 2, 1) := by decide +kernel
theorem dX0_inProduct_27 : decode cX0_inProduct 27 = .ok (.iload 4, 2) := by decide +kernel
theorem dX0_inProduct_29 : decode cX0_inProduct 29 = .ok (.iaload, 1) := by decide +kernel
theorem dX0_inProduct_30 : decode cX0_inProduct 30 = .ok (.invokevirtual 91, 3) := by decide +kernel
theorem dX0_inProduct_33 : decode cX0_inProduct 33 = .ok (.iastore, 1) := by decide +kernel
theorem dX0_inProduct_34 : decode cX0_inProduct 34 = .ok (.iinc 4 1, 3) := by decide +kernel
theorem dX0_inProduct_37 : decode cX0_inProduct 37 = .ok (.goto (-34), 3) := by decide +kernel
theorem dX0_inProduct_40 : decode cX0_inProduct 40 = .ok (.aload_n 0, 1) := by decide +kernel
theorem dX0_inProduct_41 : decode cX0_inProduct 41 = .ok (.aload_n 0, 1) := by decide +kernel
theorem dX0_inProduct_42 : decode cX0_inProduct 42 = .ok (.getfield 36, 3) := by decide +kernel
theorem dX0_inProduct_45 : decode cX0_inProduct 45 = .ok (.iload_n 3, 1) := by decide +kernel
theorem dX0_inProduct_46 : decode cX0_inProduct 46 = .ok (.invokevirtual 116, 3) := by decide +kernel
theorem dX0_inProduct_49 : decode cX0_inProduct 49 = .ok (.ireturn, 1) := by decide +kernel
theorem B_X0_inProduct_0 {g : Sg} {c t : Nat} (hL : Lay LC g c t σ) {a1 : Nat} {n1 : Nat} (p1 : PA LC a1 n1) {a2 : Nat} {n2 : Nat} (p2 : PA LC a2 n2) {x3 : Int} (h : (Lay LC g c t σ → GG E mX0_inProduct 3 [some (vr 34), some (vr a1), some (vr a2), some (vi x3), some (vi 0)] [] σ rc rs Q)) : GG E mX0_inProduct 0 [some (vr 34), some (vr a1), some (vr a2), some (vi x3), none] [] σ rc rs Q := by
  refine r_iconst (pc := 0) dX0_inProduct_0 (inRk rfl) ?_
  refine r_istore (pc := 1) dX0_inProduct_1 (by decide) (l2 := [some (vr 34), some (vr a1), some (vr a2), some (vi x3), some (vi 0)]) rfl ?_
  exact (h hL)
theorem B_X0_inProduct_3 {g : Sg} {c t : Nat} (hL : Lay LC g c t σ) {a1 : Nat} {n1 : Nat} (p1 : PA LC a1 n1) {a2 : Nat} {n2 : Nat} (p2 : PA LC a2 n2) {x3 : Int} {x4 : Int} (h : (((gI σ 34 7) ≤ x4 → (Lay LC g c t σ → CC E mX0_inRowOf [vr 34, vr 53, vi x3] σ (KI (fun r1 τ2 => Lay LC g c t τ2 ∧ (inR r1 → (Lay LC g c t τ2 → Q (.inl (some (vi r1))) τ2))) (fun _ _ => False)))) ∧ (¬ ((gI σ 34 7) ≤ x4) → (0 ≤ x4 ∧ x4 < (n1 : Int)) ∧ (0 ≤ x4 ∧ x4 < (n2 : Int)) ∧ (Lay LC g c t σ → CC E mX2_times [vr 35, vi (gI σ a1 x4.toNat), vi (gI σ a2 x4.toNat)] σ (KI (fun r5 τ6 => Lay LC g c t τ6 ∧ (inR r5 → (0 ≤ x4 ∧ x4 < 12) ∧ ∀ τ8 : Sg, τ8 = sI τ6 53 x4.toNat r5 → inR (x4 + 1) ∧ (Lay LC g c t τ8 → GG E mX0_inProduct 3 [some (vr 34), some (vr a1), some (vr a2), some (vi x3), some (vi (x4 + 1))] [] τ8 rc rs Q))) (fun _ _ => False)))))) : GG E mX0_inProduct 3 [some (vr 34), some (vr a1), some (vr a2), some (vi x3), some (vi x4)] [] σ rc rs Q := by
  refine r_iload (pc := 3) dX0_inProduct_3 rfl ?_
  refine r_aload_n (pc := 5) dX0_inProduct_5 rfl rfl ?_
  refine r_getI (pc := 6) dX0_inProduct_6 (k9 := 7) CL_0 (by decide) (by decide) w_328 rfl (okO_of (N := 10) (hL.sh (i := 18) rfl (by decide) (by decide)) (by decide)) (fun _ => ?_)
  refine r_icmp_ge (pc := 9) (tgt := 40) dX0_inProduct_9 (by decide) (fun c9 => ?_) (fun c9 => ?_)
  · replace h := h.1 c9
    refine r_aload_n (pc := 40) dX0_inProduct_40 rfl rfl ?_
    refine r_aload_n (pc := 41) dX0_inProduct_41 rfl rfl ?_
    refine r_getR (pc := 42) dX0_inProduct_42 (k9 := 6) CL_0 (by decide) (by decide) w_325 rfl (okO_of (N := 10) (hL.sh (i := 18) rfl (by decide) (by decide)) (by decide)) ?_
    refine eqR (y := 53) (hL.rf (i := 24) rfl) ?_
    refine r_iload_n (pc := 45) dX0_inProduct_45 rfl rfl ?_
    refine c_VI0N (M := mX0_inProduct) (pc := 46) (As := [vr 53, vi x3]) dX0_inProduct_46 K_X0_inRowOf w_1104 ⟨by decide, by decide⟩ (Nat.le_of_ble_eq_true rfl) rfl rfl (ci := 0) rfl rfl (by decide) (okO_of (N := 10) (hL.sh (i := 18) rfl (by decide) (by decide)) (by decide)) (h hL) (fun r1 τ2 h8 hr9 => ?_) rfl
    replace hL := h8.1
    replace h := h8.2 hr9
    exact r_ireturn (pc := 49) (ty := .int) dX0_inProduct_49 (by decide +kernel) rfl (nar_i _) (h hL)
  · replace h := h.2 c9
    refine r_aload_n (pc := 12) dX0_inProduct_12 rfl rfl ?_
    refine r_getR (pc := 13) dX0_inProduct_13 (k9 := 6) CL_0 (by decide) (by decide) w_325 rfl (okO_of (N := 10) (hL.sh (i := 18) rfl (by decide) (by decide)) (by decide)) ?_
    refine eqR (y := 53) (hL.rf (i := 24) rfl) ?_
    refine r_iload (pc := 16) dX0_inProduct_16 rfl ?_
    refine r_aload_n (pc := 18) dX0_inProduct_18 rfl rfl ?_
    refine r_getR (pc := 19) dX0_inProduct_19 (k9 := 0) CL_0 (by decide) (by decide) w_311 rfl (okO_of (N := 10) (hL.sh (i := 18) rfl (by decide) (by decide)) (by decide)) ?_
    refine eqR (y := 35) (hL.rf (i := 18) rfl) ?_
    refine r_aload_n (pc := 22) dX0_inProduct_22 rfl rfl ?_
    refine r_iload (pc := 23) dX0_inProduct_23 rfl ?_
    obtain ⟨o3, h⟩ := h
    refine r_iaload (pc := 25) dX0_inProduct_25 (okA_of (c := 20) (n := n1) (p1.sh hL) p1.2.2.1 o3) ?_
    refine r_aload_n (pc := 26) dX0_inProduct_26 rfl rfl ?_
    refine r_iload (pc := 27) dX0_inProduct_27 rfl ?_
    obtain ⟨o4, h⟩ := h
    refine r_iaload (pc := 29) dX0_inProduct_29 (okA_of (c := 20) (n := n2) (p2.sh hL) p2.2.2.1 o4) ?_
    refine c_VI0N (M := mX0_inProduct) (pc := 30) (As := [vi (gI σ a1 x4.toNat), vi (gI σ a2 x4.toNat)]) dX0_inProduct_30 K_X2_times w_1002 ⟨by decide, by decide⟩ (Nat.le_of_ble_eq_true rfl) rfl rfl (ci := 2) rfl rfl (by decide) (okO_of (N := 2) (hL.sh (i := 19) rfl (by decide) (by decide)) (by decide)) (h hL) (fun r5 τ6 h8 hr9 => ?_) rfl
    replace hL := h8.1
    replace h := h8.2 hr9
    obtain ⟨o7, h⟩ := h
    refine r_iastore (pc := 33) dX0_inProduct_33 (okB_of (c := 20) (n := 12) (hL.sh (i := 26) rfl (by decide) (by decide)) (by decide) o7) ?_
    refine nmS (fun τ8 e8 => ?_)
    replace h := h τ8 e8
    have hL := hL.wI e8 (by decide) (.inl (by decide))
    obtain ⟨o9, h⟩ := h
    refine r_iinc (pc := 34) dX0_inProduct_34 rfl (by decide) o9 (l2 := [some (vr 34), some (vr a1), some (vr a2), some (vi x3), some (vi (x4 + 1))]) rfl ?_
    refine r_goto (pc := 37) (tgt := 3) dX0_inProduct_37 (by decide) ?_
    exact (h hL)
theorem C_X0_inProduct {a0 : Nat} {a1 : Nat} {a2 : Nat} {x3 : Int} (h : GG E mX0_inProduct 0 [some (vr a0), some (vr a1), some (vr a2), some (vi x3), none] [] σ 0 0 Q) : CC E mX0_inProduct [vr a0, vr a1, vr a2, vi x3] σ Q := CC.of (by decide +kernel) rfl (by decide +kernel) (fun h9 => nomatch h9) (Nat.le_of_ble_eq_true rfl) h
theorem dX0_inRowOf_0 : decode cX0_inRowOf 0 = .ok (.iconst 0, 1) := by decide +kernel
theorem dX0_inRowOf_1 : decode cX0_inRowOf 1 = .ok (.istore_n 3, 1) := by decide +kernel
theorem dX0_inRowOf_2 : decode cX0_inRowOf 2 = .ok (.iconst 0, 1) := by decide +kernel
theorem dX0_inRowOf_3 : decode cX0_inRowOf 3 = .ok (.istore 4, 2) := by decide +kernel
theorem dX0_inRowOf_5 : decode cX0_inRowOf 5 = .ok (.iload 4, 2) := by decide +kernel
theorem dX0_inRowOf_7 : decode cX0_inRowOf 7 = .ok (.aload_n 0, 1) := by decide +kernel
theorem dX0_inRowOf_8 : decode cX0_inRowOf 8 = .ok (.getfield 66, 3) := by decide +kernel
theorem dX0_inRowOf_11 : decode cX0_inRowOf 11 = .ok (.if_icmp .ge 47, 3) := by decide +kernel
theorem dX0_inRowOf_14 : decode cX0_inRowOf 14 = .ok (.iload_n 3, 1) := by decide +kernel
theorem dX0_inRowOf_15 : decode cX0_inRowOf 15 = .ok (.aload_n 0, 1) := by decide +kernel
theorem dX0_inRowOf_16 : decode cX0_inRowOf 16 = .ok (.getfield 30, 3) := by decide +kernel
theorem dX0_inRowOf_19 : decode cX0_inRowOf 19 = .ok (.iload 4, 2) := by decide +kernel
theorem dX0_inRowOf_21 : decode cX0_inRowOf 21 = .ok (.iaload, 1) := by decide +kernel
theorem dX0_inRowOf_22 : decode cX0_inRowOf 22 = .ok (.aload_n 0, 1) := by decide +kernel
theorem dX0_inRowOf_23 : decode cX0_inRowOf 23 = .ok (.getfield 12, 3) := by decide +kernel
theorem dX0_inRowOf_26 : decode cX0_inRowOf 26 = .ok (.aload_n 1, 1) := by decide +kernel
theorem dX0_inRowOf_27 : decode cX0_inRowOf 27 = .ok (.iload 4, 2) := by decide +kernel
theorem dX0_inRowOf_29 : decode cX0_inRowOf 29 = .ok (.iaload, 1) := by decide +kernel
theorem dX0_inRowOf_30 : decode cX0_inRowOf 30 = .ok (.aload_n 0, 1) := by decide +kernel
theorem dX0_inRowOf_31 : decode cX0_inRowOf 31 = .ok (.getfield 20, 3) := by decide +kernel
theorem dX0_inRowOf_34 : decode cX0_inRowOf 34 = .ok (.iload_n 2, 1) := by decide +kernel
theorem dX0_inRowOf_35 : decode cX0_inRowOf 35 = .ok (.aaload, 1) := by decide +kernel
theorem dX0_inRowOf_36 : decode cX0_inRowOf 36 = .ok (.aload_n 0, 1) := by decide +kernel
theorem dX0_inRowOf_37 : decode cX0_inRowOf 37 = .ok (.getfield 33, 3) := by decide +kernel
theorem dX0_inRowOf_40 : decode cX0_inRowOf 40 = .ok (.iload 4, 2) := by decide +kernel
theorem dX0_inRowOf_42 : decode cX0_inRowOf 42 = .ok (.iaload, 1) := by decide +kernel
theorem dX0_inRowOf_43 : decode cX0_inRowOf 43 = .ok (.invokestatic 80, 3) := by decide +kernel
theorem dX0_inRowOf_46 : decode cX0_inRowOf 46 = .ok (.invokevirtual 91, 3) := by decide +kernel
theorem dX0_inRowOf_49 : decode cX0_inRowOf 49 = .ok (.imul, 1) := by decide +kernel
theorem dX0_inRowOf_50 : decode cX0_inRowOf 50 = .ok (.iadd, 1) := by decide +kernel
theorem dX0_inRowOf_51 : decode cX0_inRowOf 51 = .ok (.istore_n 3, 1) := by decide +kernel
theorem dX0_inRowOf_52 : decode cX0_inRowOf 52 = .ok (.iinc 4 1, 3) := by decide +kernel
theorem dX0_inRowOf_55 : decode cX0_inRowOf 55 = .ok (.goto (-50), 3) := by decide +kernel
theorem dX0_inRowOf_58 : decode cX0_inRowOf 58 = .ok (.aload_n 0, 1) := by decide +kernel
theorem dX0_inRowOf_59 : decode cX0_inRowOf 59 = .ok (.getfield 12, 3) := by decide +kernel
theorem dX0_inRowOf_62 : decode cX0_inRowOf 62 = .ok (.aload_n 0, 1) := by decide +kernel
theorem dX0_inRowOf_63 : decode cX0_inRowOf 63 = .ok (.getfield 12, 3) := by decide +kernel
theorem dX0_inRowOf_66 : decode cX0_inRowOf 66 = .ok (.iload_n 3, 1) := by decide +kernel
theorem dX0_inRowOf_67 : decode cX0_inRowOf 67 = .ok (.invokevirtual 88, 3) := by decide +kernel
theorem dX0_inRowOf_70 : decode cX0_inRowOf 70 = .ok (.aload_n 0, 1) := by decide +kernel
theorem dX0_inRowOf_71 : decode cX0_inRowOf 71 = .ok (.getfield 74, 3) := by decide +kernel
theorem dX0_inRowOf_74 : decode cX0_inRowOf 74 = .ok (.invokevirtual 91, 3) := by decide +kernel
theorem dX0_inRowOf_77 : decode cX0_inRowOf 77 = .ok (.ireturn, 1) := by decide +kernel
theorem B_X0_inRowOf_0 {g : Sg} {c t : Nat} (hL : Lay LC g c t σ) {a1 : Nat} {n1 : Nat} (p1 : PA LC a1 n1) {x2 : Int} (h : (Lay LC g c t σ → GG E mX0_inRowOf 5 [some (vr 34), some (vr a1), some (vi x2), some (vi 0), some (vi 0)] [] σ rc rs Q)) : GG E mX0_inRowOf 0 [some (vr 34), some (vr a1), some (vi x2), none, none] [] σ rc rs Q := by
  refine r_iconst (pc := 0) dX0_inRowOf_0 (inRk rfl) ?_
  refine r_istore_n (pc := 1) dX0_inRowOf_1 rfl (by decide) (l2 := [some (vr 34), some (vr a1), some (vi x2), some (vi 0), none]) rfl ?_
  refine r_iconst (pc := 2) dX0_inRowOf_2 (inRk rfl) ?_
  refine r_istore (pc := 3) dX0_inRowOf_3 (by decide) (l2 := [some (vr 34), some (vr a1), some (vi x2), some (vi 0), some (vi 0)]) rfl ?_
  exact (h hL)
theorem B_X0_inRowOf_5 {g : Sg} {c t : Nat} (hL : Lay LC g c t σ) {a1 : Nat} {n1 : Nat} (p1 : PA LC a1 n1) {x2 : Int} {x3 : Int} {x4 : Int} (h : (((gI σ 34 7) ≤ x4 → (Lay LC g c t σ → CC E mX2_mod [vr 35, vi x3] σ (KI (fun r1 τ2 => Lay LC g c t τ2 ∧ (inR r1 → (Lay LC g c t τ2 → CC E mX2_times [vr 35, vi r1, vi (gI τ2 34 9)] τ2 (KI (fun r3 τ4 => Lay LC g c t τ4 ∧ (inR r3 → (Lay LC g c t τ4 → Q (.inl (some (vi r3))) τ4))) (fun _ _ => False))))) (fun _ _ => False)))) ∧ (¬ ((gI σ 34 7) ≤ x4) → (0 ≤ x4 ∧ x4 < 12) ∧ (0 ≤ x4 ∧ x4 < (n1 : Int)) ∧ (0 ≤ x2 ∧ x2 < 12) ∧ ∀ b8 : Nat, b8 = gR σ 36 x2.toNat → (37 ≤ b8 ∧ b8 < 49) → (Lay LC g c t σ → CC E mX11_at [vr b8, vi (gI σ 52 x4.toNat)] σ (KI (fun r10 τ11 => Lay LC g c t τ11 ∧ (inR r10 → (Lay LC g c t τ11 → CC E mX2_times [vr 35, vi (gI σ a1 x4.toNat), vi r10] τ11 (KI (fun r12 τ13 => Lay LC g c t τ13 ∧ (inR r12 → inR ((gI σ 51 x4.toNat) * r12) ∧ inR (x3 + ((gI σ 51 x4.toNat) * r12)) ∧ inR (x4 + 1) ∧ (Lay LC g c t τ13 → GG E mX0_inRowOf 5 [some (vr 34), some (vr a1), some (vi x2), some (vi (x3 + ((gI σ 51 x4.toNat) * r12))), some (vi (x4 + 1))] [] τ13 rc rs Q))) (fun _ _ => False))))) (fun _ _ => False)))))) : GG E mX0_inRowOf 5 [some (vr 34), some (vr a1), some (vi x2), some (vi x3), some (vi x4)] [] σ rc rs Q := by
  refine r_iload (pc := 5) dX0_inRowOf_5 rfl ?_
  refine r_aload_n (pc := 7) dX0_inRowOf_7 rfl rfl ?_
  refine r_getI (pc := 8) dX0_inRowOf_8 (k9 := 7) CL_0 (by decide) (by decide) w_328 rfl (okO_of (N := 10) (hL.sh (i := 18) rfl (by decide) (by decide)) (by decide)) (fun _ => ?_)
  refine r_icmp_ge (pc := 11) (tgt := 58) dX0_inRowOf_11 (by decide) (fun c9 => ?_) (fun c9 => ?_)
  · replace h := h.1 c9
    refine r_aload_n (pc := 58) dX0_inRowOf_58 rfl rfl ?_
    refine r_getR (pc := 59) dX0_inRowOf_59 (k9 := 0) CL_0 (by decide) (by decide) w_311 rfl (okO_of (N := 10) (hL.sh (i := 18) rfl (by decide) (by decide)) (by decide)) ?_
    refine eqR (y := 35) (hL.rf (i := 18) rfl) ?_
    refine r_aload_n (pc := 62) dX0_inRowOf_62 rfl rfl ?_
    refine r_getR (pc := 63) dX0_inRowOf_63 (k9 := 0) CL_0 (by decide) (by decide) w_311 rfl (okO_of (N := 10) (hL.sh (i := 18) rfl (by decide) (by decide)) (by decide)) ?_
    refine eqR (y := 35) (hL.rf (i := 18) rfl) ?_
    refine r_iload_n (pc := 66) dX0_inRowOf_66 rfl rfl ?_
    refine c_VI0N (M := mX0_inRowOf) (pc := 67) (As := [vi x3]) dX0_inRowOf_67 K_X2_mod w_1001 ⟨by decide, by decide⟩ (Nat.le_of_ble_eq_true rfl) rfl rfl (ci := 2) rfl rfl (by decide) (okO_of (N := 2) (hL.sh (i := 19) rfl (by decide) (by decide)) (by decide)) (h hL) (fun r1 τ2 h8 hr9 => ?_) rfl
    replace hL := h8.1
    replace h := h8.2 hr9
    refine r_aload_n (pc := 70) dX0_inRowOf_70 rfl rfl ?_
    refine r_getI (pc := 71) dX0_inRowOf_71 (k9 := 9) CL_0 (by decide) (by decide) w_331 rfl (okO_of (N := 10) (hL.sh (i := 18) rfl (by decide) (by decide)) (by decide)) (fun _ => ?_)
    refine c_VI0N (M := mX0_inRowOf) (pc := 74) (As := [vi r1, vi (gI τ2 34 9)]) dX0_inRowOf_74 K_X2_times w_1002 ⟨by decide, by decide⟩ (Nat.le_of_ble_eq_true rfl) rfl rfl (ci := 2) rfl rfl (by decide) (okO_of (N := 2) (hL.sh (i := 19) rfl (by decide) (by decide)) (by decide)) (h hL) (fun r3 τ4 h8 hr9 => ?_) rfl
    replace hL := h8.1
    replace h := h8.2 hr9
    exact r_ireturn (pc := 77) (ty := .int) dX0_inRowOf_77 (by decide +kernel) rfl (nar_i _) (h hL)
  · replace h := h.2 c9
    refine r_iload_n (pc := 14) dX0_inRowOf_14 rfl rfl ?_
    refine r_aload_n (pc := 15) dX0_inRowOf_15 rfl rfl ?_
    refine r_getR (pc := 16) dX0_inRowOf_16 (k9 := 4) CL_0 (by decide) (by decide) w_323 rfl (okO_of (N := 10) (hL.sh (i := 18) rfl (by decide) (by decide)) (by decide)) ?_
    refine eqR (y := 51) (hL.rf (i := 22) rfl) ?_
    refine r_iload (pc := 19) dX0_inRowOf_19 rfl ?_
    obtain ⟨o5, h⟩ := h
    refine r_iaload (pc := 21) dX0_inRowOf_21 (okA_of (c := 20) (n := 12) (hL.sh (i := 24) rfl (by decide) (by decide)) (by decide) o5) ?_
    refine r_aload_n (pc := 22) dX0_inRowOf_22 rfl rfl ?_
    refine r_getR (pc := 23) dX0_inRowOf_23 (k9 := 0) CL_0 (by decide) (by decide) w_311 rfl (okO_of (N := 10) (hL.sh (i := 18) rfl (by decide) (by decide)) (by decide)) ?_
    refine eqR (y := 35) (hL.rf (i := 18) rfl) ?_
    refine r_aload_n (pc := 26) dX0_inRowOf_26 rfl rfl ?_
    refine r_iload (pc := 27) dX0_inRowOf_27 rfl ?_
    obtain ⟨o6, h⟩ := h
    refine r_iaload (pc := 29) dX0_inRowOf_29 (okA_of (c := 20) (n := n1) (p1.sh hL) p1.2.2.1 o6) ?_
    refine r_aload_n (pc := 30) dX0_inRowOf_30 rfl rfl ?_
    refine r_getR (pc := 31) dX0_inRowOf_31 (k9 := 1) CL_0 (by decide) (by decide) w_314 rfl (okO_of (N := 10) (hL.sh (i := 18) rfl (by decide) (by decide)) (by decide)) ?_
    refine eqR (y := 36) (hL.rf (i := 19) rfl) ?_
    refine r_iload_n (pc := 34) dX0_inRowOf_34 rfl rfl ?_
    obtain ⟨o7, h⟩ := h
    refine r_aaload (pc := 35) dX0_inRowOf_35 (okB_of (c := 24) (n := 12) (hL.sh (i := 20) rfl (by decide) (by decide)) (by decide) o7) ?_
    refine nmR (fun b8 e9 => ?_)
    have q9 : (37 ≤ b8 ∧ b8 < 49) := e9 ▸ hL.rsw (i := 0) rfl (rowC o7 (by decide))
    replace h := h b8 e9 q9
    refine r_aload_n (pc := 36) dX0_inRowOf_36 rfl rfl ?_
    refine r_getR (pc := 37) dX0_inRowOf_37 (k9 := 5) CL_0 (by decide) (by decide) w_324 rfl (okO_of (N := 10) (hL.sh (i := 18) rfl (by decide) (by decide)) (by decide)) ?_
    refine eqR (y := 52) (hL.rf (i := 23) rfl) ?_
    refine r_iload (pc := 40) dX0_inRowOf_40 rfl ?_
    refine r_iaload (pc := 42) dX0_inRowOf_42 (okA_of (c := 20) (n := 12) (hL.sh (i := 25) rfl (by decide) (by decide)) (by decide) o5) ?_
    refine c_SNI0N (M := mX0_inRowOf) (pc := 43) (As := [vr b8, vi (gI σ 52 x4.toNat)]) dX0_inRowOf_43 K_X11_at wt_1000 ⟨by decide, by decide⟩ (Nat.le_of_ble_eq_true rfl) rfl rfl (h hL) (fun r10 τ11 h8 hr9 => ?_) rfl
    replace hL := h8.1
    replace h := h8.2 hr9
    refine c_VI0N (M := mX0_inRowOf) (pc := 46) (As := [vi (gI σ a1 x4.toNat), vi r10]) dX0_inRowOf_46 K_X2_times w_1002 ⟨by decide, by decide⟩ (Nat.le_of_ble_eq_true rfl) rfl rfl (ci := 2) rfl rfl (by decide) (okO_of (N := 2) (hL.sh (i := 19) rfl (by decide) (by decide)) (by decide)) (h hL) (fun r12 τ13 h8 hr9 => ?_) rfl
    replace hL := h8.1
    replace h := h8.2 hr9
    obtain ⟨o14, h⟩ := h
    refine r_imul (pc := 49) dX0_inRowOf_49 o14 ?_
    obtain ⟨o15, h⟩ := h
    refine r_iadd (pc := 50) dX0_inRowOf_50 o15 ?_
    refine r_istore_n (pc := 51) dX0_inRowOf_51 rfl (by decide) (l2 := [some (vr 34), some (vr a1), some (vi x2), some (vi (x3 + ((gI σ 51 x4.toNat) * r12))), some (vi x4)]) rfl ?_
    obtain ⟨o16, h⟩ := h
    refine r_iinc (pc := 52) dX0_inRowOf_52 rfl (by decide) o16 (l2 := [some (vr 34), some (vr a1), some (vi x2), some (vi (x3 + ((gI σ 51 x4.toNat) * r12))), some (vi (x4 + 1))]) rfl ?_
    refine r_goto (pc := 55) (tgt := 5) dX0_inRowOf_55 (by decide) ?_
    exact (h hL)
theorem C_X0_inRowOf {a0 : Nat} {a1 : Nat} {x2 : Int} (h : GG E mX0_inRowOf 0 [some (vr a0), some (vr a1), some (vi x2), none, none] [] σ 0 0 Q) : CC E mX0_inRowOf [vr a0, vr a1, vi x2] σ Q := CC.of (by decide +kernel) rfl (by decide +kernel) (fun h9 => nomatch h9) (Nat.le_of_ble_eq_true rfl) h
theorem dX0_init_0 : decode cX0_init 0 = .ok (.aload_n 0, 1) := by decide +kernel
theorem dX0_init_1 : decode cX0_init 1 = .ok (.invokespecial 3, 3) := by decide +kernel
theorem dX0_init_4 : decode cX0_init 4 = .ok (.aload_n 0, 1) := by decide +kernel
theorem dX0_init_5 : decode cX0_init 5 = .ok (.new 9, 3) := by decide +kernel
theorem dX0_init_8 : decode cX0_init 8 = .ok (.dup, 1) := by decide +kernel
theorem dX0_init_9 : decode cX0_init 9 = .ok (.invokespecial 11, 3) := by decide +kernel
theorem dX0_init_12 : decode cX0_init 12 = .ok (.putfield 12, 3) := by decide +kernel
theorem dX0_init_15 : decode cX0_init 15 = .ok (.aload_n 0, 1) := by decide +kernel
theorem dX0_init_16 : decode cX0_init 16 = .ok (.bipush 12, 2) := by decide +kernel
theorem dX0_init_18 : decode cX0_init 18 = .ok (.bipush 12, 2) := by decide +kernel
theorem dX0_init_20 : decode cX0_init 20 = .ok (.multianewarray 18 2, 4) := by decide +kernel
theorem dX0_init_24 : decode cX0_init 24 = .ok (.putfield 20, 3) := by decide +kernel
theorem dX0_init_27 : decode cX0_init 27 = .ok (.aload_n 0, 1) := by decide +kernel
theorem dX0_init_28 : decode cX0_init 28 = .ok (.bipush 12, 2) := by decide +kernel
theorem dX0_init_30 : decode cX0_init 30 = .ok (.newarray .int, 2) := by decide +kernel
theorem dX0_init_32 : decode cX0_init 32 = .ok (.putfield 23, 3) := by decide +kernel
theorem dX0_init_35 : decode cX0_init 35 = .ok (.aload_n 0, 1) := by decide +kernel
theorem dX0_init_36 : decode cX0_init 36 = .ok (.bipush 12, 2) := by decide +kernel
theorem dX0_init_38 : decode cX0_init 38 = .ok (.newarray .int, 2) := by decide +kernel
theorem dX0_init_40 : decode cX0_init 40 = .ok (.putfield 27, 3) := by decide +kernel
theorem dX0_init_43 : decode cX0_init 43 = .ok (.aload_n 0, 1) := by decide +kernel
theorem dX0_init_44 : decode cX0_init 44 = .ok (.bipush 12, 2) := by decide +kernel
theorem dX0_init_46 : decode cX0_init 46 = .ok (.newarray .int, 2) := by decide +kernel
theorem dX0_init_48 : decode cX0_init 48 = .ok (.putfield 30, 3) := by decide +kernel
theorem dX0_init_51 : decode cX0_init 51 = .ok (.aload_n 0, 1) := by decide +kernel
theorem dX0_init_52 : decode cX0_init 52 = .ok (.bipush 12, 2) := by decide +kernel
theorem dX0_init_54 : decode cX0_init 54 = .ok (.newarray .int, 2) := by decide +kernel
theorem dX0_init_56 : decode cX0_init 56 = .ok (.putfield 33, 3) := by decide +kernel
theorem dX0_init_59 : decode cX0_init 59 = .ok (.aload_n 0, 1) := by decide +kernel
theorem dX0_init_60 : decode cX0_init 60 = .ok (.bipush 12, 2) := by decide +kernel
theorem dX0_init_62 : decode cX0_init 62 = .ok (.newarray .int, 2) := by decide +kernel
theorem dX0_init_64 : decode cX0_init 64 = .ok (.putfield 36, 3) := by decide +kernel
theorem dX0_init_67 : decode cX0_init 67 = .ok (.return_, 1) := by decide +kernel
theorem B_X0_init_0 {a0 : Nat} (h : 16 ≤ a0 ∧ 1 ≤ rc ∧ 2 ≤ rs ∧ ∀ b1 : Nat, b1 = gz σ → 16 ≤ b1 ∧ CC E mX2_init [vr b1] (nw σ (3, 2)) (KV (fun τ3 => okO τ3 a0 0 ∧ ∀ τ5 : Sg, τ5 = sR τ3 a0 0 b1 → 13 ≤ rc - 1 ∧ 156 ≤ rs - 2 ∧ ∀ b6 : Nat, b6 = gz τ5 → okO (nm τ5 12 12) a0 0 ∧ ∀ τ8 : Sg, τ8 = sR (nm τ5 12 12) a0 1 b6 → 1 ≤ rc - 1 - 13 ∧ 12 ≤ rs - 2 - 156 ∧ ∀ b9 : Nat, b9 = gz τ8 → okO (nw τ8 (20, 12)) a0 0 ∧ ∀ τ11 : Sg, τ11 = sR (nw τ8 (20, 12)) a0 2 b9 → 1 ≤ rc - 1 - 13 - 1 ∧ 12 ≤ rs - 2 - 156 - 12 ∧ ∀ b12 : Nat, b12 = gz τ11 → okO (nw τ11 (20, 12)) a0 0 ∧ ∀ τ14 : Sg, τ14 = sR (nw τ11 (20, 12)) a0 3 b12 → 1 ≤ rc - 1 - 13 - 1 - 1 ∧ 12 ≤ rs - 2 - 156 - 12 - 12 ∧ ∀ b15 : Nat, b15 = gz τ14 → okO (nw τ14 (20, 12)) a0 0 ∧ ∀ τ17 : Sg, τ17 = sR (nw τ14 (20, 12)) a0 4 b15 → 1 ≤ rc - 1 - 13 - 1 - 1 - 1 ∧ 12 ≤ rs - 2 - 156 - 12 - 12 - 12 ∧ ∀ b18 : Nat, b18 = gz τ17 → okO (nw τ17 (20, 12)) a0 0 ∧ ∀ τ20 : Sg, τ20 = sR (nw τ17 (20, 12)) a0 5 b18 → 1 ≤ rc - 1 - 13 - 1 - 1 - 1 - 1 ∧ 12 ≤ rs - 2 - 156 - 12 - 12 - 12 - 12 ∧ ∀ b21 : Nat, b21 = gz τ20 → okO (nw τ20 (20, 12)) a0 0 ∧ ∀ τ23 : Sg, τ23 = sR (nw τ20 (20, 12)) a0 6 b21 → Q (.inl none) τ23) (fun _ _ => False))) : GG E mX0_init 0 [some (vr a0)] [] σ rc rs Q := by
  refine r_aload_n (pc := 0) dX0_init_0 rfl rfl ?_
  refine r_objInit (pc := 1) dX0_init_1 w_291 w_129 w_130 (by decide) (Nat.le_of_ble_eq_true rfl) h.1 ?_
  replace h := h.2
  refine r_aload_n (pc := 4) dX0_init_4 rfl rfl ?_
  refine r_new (pc := 5) dX0_init_5 CL_2 (by decide) w_292 h.1 h.2.1 ?_
  replace h := h.2.2
  refine nmR (fun b1 e9 => ?_)
  replace h := h b1 e9
  refine r_dup (pc := 8) dX0_init_8 (fun _ h9 => nomatch h9) ?_
  refine c_INV0N (M := mX0_init) (pc := 9) (As := []) dX0_init_9 K_X2_init wt_294 ⟨by decide, by decide⟩ (Nat.le_of_ble_eq_true rfl) rfl rfl h.1 h.2 (fun τ3 h8 => ?_) rfl
  replace h := h8
  obtain ⟨o4, h⟩ := h
  refine r_putRF (pc := 12) dX0_init_12 (k9 := 0) CL_0 (by decide) (by decide) w_311 rfl rfl rfl rfl o4 ?_
  refine nmS (fun τ5 e5 => ?_)
  replace h := h τ5 e5
  refine r_aload_n (pc := 15) dX0_init_15 rfl rfl ?_
  refine r_bipush (pc := 16) dX0_init_16 (by decide) ?_
  refine r_bipush (pc := 18) dX0_init_18 (by decide) ?_
  refine r_mna (pc := 20) dX0_init_20 w_309 w_175 (by decide) (by decide) (by decide) (by decide) h.1 h.2.1 ?_
  replace h := h.2.2
  change GG _ _ _ _ (vr _ :: _) (nm _ 12 12) (_ - 13) (_ - 156) _
  refine nmR (fun b6 e9 => ?_)
  replace h := h b6 e9
  obtain ⟨o7, h⟩ := h
  refine r_putRF (pc := 24) dX0_init_24 (k9 := 1) CL_0 (by decide) (by decide) w_314 rfl rfl rfl rfl o7 ?_
  refine nmS (fun τ8 e8 => ?_)
  replace h := h τ8 e8
  refine r_aload_n (pc := 27) dX0_init_27 rfl rfl ?_
  refine r_bipush (pc := 28) dX0_init_28 (by decide) ?_
  refine r_newarray (pc := 30) dX0_init_30 (cc := 20) rfl (by decide) (by decide) w_175 (by decide) (by decide) h.1 h.2.1 ?_
  replace h := h.2.2
  change GG _ _ _ _ (vr _ :: _) (nw _ (20, 12)) (_ - 1) (_ - 12) _
  refine nmR (fun b9 e9 => ?_)
  replace h := h b9 e9
  obtain ⟨o10, h⟩ := h
  refine r_putRF (pc := 32) dX0_init_32 (k9 := 2) CL_0 (by decide) (by decide) w_317 rfl rfl rfl rfl o10 ?_
  refine nmS (fun τ11 e11 => ?_)
  replace h := h τ11 e11
  refine r_aload_n (pc := 35) dX0_init_35 rfl rfl ?_
  refine r_bipush (pc := 36) dX0_init_36 (by decide) ?_
  refine r_newarray (pc := 38) dX0_init_38 (cc := 20) rfl (by decide) (by decide) w_175 (by decide) (by decide) h.1 h.2.1 ?_
  replace h := h.2.2
  change GG _ _ _ _ (vr _ :: _) (nw _ (20, 12)) (_ - 1) (_ - 12) _
  refine nmR (fun b12 e9 => ?_)
  replace h := h b12 e9
  obtain ⟨o13, h⟩ := h
  refine r_putRF (pc := 40) dX0_init_40 (k9 := 3) CL_0 (by decide) (by decide) w_319 rfl rfl rfl rfl o13 ?_
  refine nmS (fun τ14 e14 => ?_)
  replace h := h τ14 e14
  refine r_aload_n (pc := 43) dX0_init_43 rfl rfl ?_
  refine r_bipush (pc := 44) dX0_init_44 (by decide) ?_
  refine r_newarray (pc := 46) dX0_init_46 (cc := 20) rfl (by decide) (by decide) w_175 (by decide) (by decide) h.1 h.2.1 ?_
  replace h := h.2.2
  change GG _ _ _ _ (vr _ :: _) (nw _ (20, 12)) (_ - 1) (_ - 12) _
  refine nmR (fun b15 e9 => ?_)
  replace h := h b15 e9
  obtain ⟨o16, h⟩ := h
  refine r_putRF (pc := 48) dX0_init_48 (k9 := 4) CL_0 (by decide) (by decide) w_323 rfl rfl rfl rfl o16 ?_
  refine nmS (fun τ17 e17 => ?_)
  replace h := h τ17 e17
  refine r_aload_n (pc := 51) dX0_init_51 rfl rfl ?_
  refine r_bipush (pc := 52) dX0_init_52 (by decide) ?_
  refine r_newarray (pc := 54) dX0_init_54 (cc := 20) rfl (by decide) (by decide) w_175 (by decide) (by decide) h.1 h.2.1 ?_
  replace h := h.2.2
  change GG _ _ _ _ (vr _ :: _) (nw _ (20, 12)) (_ - 1) (_ - 12) _
  refine nmR (fun b18 e9 => ?_)
  replace h := h b18 e9
  obtain ⟨o19, h⟩ := h
  refine r_putRF (pc := 56) dX0_init_56 (k9 := 5) CL_0 (by decide) (by decide) w_324 rfl rfl rfl rfl o19 ?_
  refine nmS (fun τ20 e20 => ?_)
  replace h := h τ20 e20
  refine r_aload_n (pc := 59) dX0_init_59 rfl rfl ?_
  refine r_bipush (pc := 60) dX0_init_60 (by decide) ?_
  refine r_newarray (pc := 62) dX0_init_62 (cc := 20) rfl (by decide) (by decide) w_175 (by decide) (by decide) h.1 h.2.1 ?_
  replace h := h.2.2
  change GG _ _ _ _ (vr _ :: _) (nw _ (20, 12)) (_ - 1) (_ - 12) _
  refine nmR (fun b21 e9 => ?_)
  replace h := h b21 e9
  obtain ⟨o22, h⟩ := h
  refine r_putRF (pc := 64) dX0_init_64 (k9 := 6) CL_0 (by decide) (by decide) w_325 rfl rfl rfl rfl o22 ?_
  refine nmS (fun τ23 e23 => ?_)
  replace h := h τ23 e23
  exact r_return (pc := 67) dX0_init_67 (by decide +kernel) rfl h
theorem C_X0_init {a0 : Nat} (h : GG E mX0_init 0 [some (vr a0)] [] σ 19 218 Q) : CC E mX0_init [vr a0] σ Q := CC.of (by decide +kernel) rfl (by decide +kernel) (fun h9 => rfl) (Nat.le_of_ble_eq_true rfl) h
theorem dX0_isOneEverywhere_0 : decode cX0_isOneEverywhere 0 = .ok (.iconst 0, 1) := by decide +kernel
theorem dX0_isOneEverywhere_1 : decode cX0_isOneEverywhere 1 = .ok (.istore_n 2, 1) := by decide +kernel
theorem dX0_isOneEverywhere_2 : decode cX0_isOneEverywhere 2 = .ok (.iload_n 2, 1) := by decide +kernel
theorem dX0_isOneEverywhere_3 : decode cX0_isOneEverywhere 3 = .ok (.aload_n 0, 1) := by decide +kernel
theorem dX0_isOneEverywhere_4 : decode cX0_isOneEverywhere 4 = .ok (.getfield 66, 3) := by decide +kernel
theorem dX0_isOneEverywhere_7 : decode cX0_isOneEverywhere 7 = .ok (.if_icmp .ge 23, 3) := by decide +kernel
theorem dX0_isOneEverywhere_10 : decode cX0_isOneEverywhere 10 = .ok (.aload_n 0, 1) := by decide +kernel
theorem dX0_isOneEverywhere_11 : decode cX0_isOneEverywhere 11 = .ok (.getfield 20, 3) := by decide +kernel
theorem dX0_isOneEverywhere_14 : decode cX0_isOneEverywhere 14 = .ok (.iload_n 1, 1) := by decide +kernel
theorem dX0_isOneEverywhere_15 : decode cX0_isOneEverywhere 15 = .ok (.aaload, 1) := by decide +kernel
theorem dX0_isOneEverywhere_16 : decode cX0_isOneEverywhere 16 = .ok (.iload_n 2, 1) := by decide +kernel
theorem dX0_isOneEverywhere_17 : decode cX0_isOneEverywhere 17 = .ok (.iaload, 1) := by decide +kernel
theorem dX0_isOneEverywhere_18 : decode cX0_isOneEverywhere 18 = .ok (.iconst 1, 1) := by decide +kernel
theorem dX0_isOneEverywhere_19 : decode cX0_isOneEverywhere 19 = .ok (.if_icmp .eq 5, 3) := by decide +kernel
theorem dX0_isOneEverywhere_22 : decode cX0_isOneEverywhere 22 = .ok (.iconst 0, 1) := by decide +kernel
theorem dX0_isOneEverywhere_23 : decode cX0_isOneEverywhere 23 = .ok (.ireturn, 1) := by decide +kernel
theorem dX0_isOneEverywhere_24 : decode cX0_isOneEverywhere 24 = .ok (.iinc 2 1, 3) := by decide +kernel
theorem dX0_isOneEverywhere_27 : decode cX0_isOneEverywhere 27 = .ok (.goto (-25), 3) := by decide +kernel
theorem dX0_isOneEverywhere_30 : decode cX0_isOneEverywhere 30 = .ok (.iconst 1, 1) := by decide +kernel
theorem dX0_isOneEverywhere_31 : decode cX0_isOneEverywhere 31 = .ok (.ireturn, 1) := by decide +kernel
theorem B_X0_isOneEverywhere_0 {g : Sg} {c t : Nat} (hL : Lay LC g c t σ) {x1 : Int} (h : (Lay LC g c t σ → GG E mX0_isOneEverywhere 2 [some (vr 34), some (vi x1), some (vi 0)] [] σ rc rs Q)) : GG E mX0_isOneEverywhere 0 [some (vr 34), some (vi x1), none] [] σ rc rs Q := by
  refine r_iconst (pc := 0) dX0_isOneEverywhere_0 (inRk rfl) ?_
  refine r_istore_n (pc := 1) dX0_isOneEverywhere_1 rfl (by decide) (l2 := [some (vr 34), some (vi x1), some (vi 0)]) rfl ?_
  exact (h hL)
theorem B_X0_isOneEverywhere_2 {g : Sg} {c t : Nat} (hL : Lay LC g c t σ) {x1 : Int} {x2 : Int} (h : (((gI σ 34 7) ≤ x2 → (Lay LC g c t σ → Q (.inl (some (vi 1))) σ)) ∧ (¬ ((gI σ 34 7) ≤ x2) → (0 ≤ x1 ∧ x1 < 12) ∧ ∀ b2 : Nat, b2 = gR σ 36 x1.toNat → (37 ≤ b2 ∧ b2 < 49) → (0 ≤ x2 ∧ x2 < 12) ∧ (((gI σ b2 x2.toNat) = 1 → inR (x2 + 1) ∧ (Lay LC g c t σ → GG E mX0_isOneEverywhere 2 [some (vr 34), some (vi x1), some (vi (x2 + 1))] [] σ rc rs Q)) ∧ (¬ ((gI σ b2 x2.toNat) = 1) → (Lay LC g c t σ → Q (.inl (some (vi 0))) σ)))))) : GG E mX0_isOneEverywhere 2 [some (vr 34), some (vi x1), some (vi x2)] [] σ rc rs Q := by
  refine r_iload_n (pc := 2) dX0_isOneEverywhere_2 rfl rfl ?_
  refine r_aload_n (pc := 3) dX0_isOneEverywhere_3 rfl rfl ?_
  refine r_getI (pc := 4) dX0_isOneEverywhere_4 (k9 := 7) CL_0 (by decide) (by decide) w_328 rfl (okO_of (N := 10) (hL.sh (i := 18) rfl (by decide) (by decide)) (by decide)) (fun _ => ?_)
  refine r_icmp_ge (pc := 7) (tgt := 30) dX0_isOneEverywhere_7 (by decide) (fun c9 => ?_) (fun c9 => ?_)
  · replace h := h.1 c9
    refine r_iconst (pc := 30) dX0_isOneEverywhere_30 (inRk rfl) ?_
    exact r_ireturn (pc := 31) (ty := .boolean) dX0_isOneEverywhere_31 (by decide +kernel) rfl (nar_bool (by decide)) (h hL)
  · replace h := h.2 c9
    refine r_aload_n (pc := 10) dX0_isOneEverywhere_10 rfl rfl ?_
    refine r_getR (pc := 11) dX0_isOneEverywhere_11 (k9 := 1) CL_0 (by decide) (by decide) w_314 rfl (okO_of (N := 10) (hL.sh (i := 18) rfl (by decide) (by decide)) (by decide)) ?_
    refine eqR (y := 36) (hL.rf (i := 19) rfl) ?_
    refine r_iload_n (pc := 14) dX0_isOneEverywhere_14 rfl rfl ?_
    obtain ⟨o1, h⟩ := h
    refine r_aaload (pc := 15) dX0_isOneEverywhere_15 (okB_of (c := 24) (n := 12) (hL.sh (i := 20) rfl (by decide) (by decide)) (by decide) o1) ?_
    refine nmR (fun b2 e9 => ?_)
    have q3 : (37 ≤ b2 ∧ b2 < 49) := e9 ▸ hL.rsw (i := 0) rfl (rowC o1 (by decide))
    replace h := h b2 e9 q3
    refine r_iload_n (pc := 16) dX0_isOneEverywhere_16 rfl rfl ?_
    obtain ⟨o4, h⟩ := h
    refine r_iaload (pc := 17) dX0_isOneEverywhere_17 (okA_of (c := 20) (n := 12) (hL.sh (i := 21) rfl q3.1 q3.2) (Nat.le_trans (by decide) q3.1) o4) ?_
    refine r_iconst (pc := 18) dX0_isOneEverywhere_18 (inRk rfl) ?_
    refine r_icmp_eq (pc := 19) (tgt := 24) dX0_isOneEverywhere_19 (by decide) (fun c9 => ?_) (fun c9 => ?_)
    · replace h := h.1 c9
      obtain ⟨o5, h⟩ := h
      refine r_iinc (pc := 24) dX0_isOneEverywhere_24 rfl (by decide) o5 (l2 := [some (vr 34), some (vi x1), some (vi (x2 + 1))]) rfl ?_
      refine r_goto (pc := 27) (tgt := 2) dX0_isOneEverywhere_27 (by decide) ?_
      exact (h hL)
    · replace h := h.2 c9
      refine r_iconst (pc := 22) dX0_isOneEverywhere_22 (inRk rfl) ?_
      exact r_ireturn (pc := 23) (ty := .boolean) dX0_isOneEverywhere_23 (by decide +kernel) rfl (nar_bool (by decide)) (h hL)
theorem C_X0_isOneEverywhere {a0 : Nat} {x1 : Int} (h : GG E mX0_isOneEverywhere 0 [some (vr a0), some (vi x1), none] [] σ 0 0 Q) : CC E mX0_isOneEverywhere [vr a0, vi x1] σ Q := CC.of (by decide +kernel) rfl (by decide +kernel) (fun h9 => nomatch h9) (Nat.le_of_ble_eq_true rfl) h
theorem dX0_oppositeOf_0 : decode cX0_oppositeOf 0 = .ok (.iconst 0, 1) := by decide +kernel
theorem dX0_oppositeOf_1 : decode cX0_oppositeOf 1 = .ok (.istore_n 2, 1) := by decide +kernel
theorem dX0_oppositeOf_2 : decode cX0_oppositeOf 2 = .ok (.iload_n 2, 1) := by decide +kernel
theorem dX0_oppositeOf_3 : decode cX0_oppositeOf 3 = .ok (.aload_n 0, 1) := by decide +kernel
theorem dX0_oppositeOf_4 : decode cX0_oppositeOf 4 = .ok (.getfield 66, 3) := by decide +kernel
theorem dX0_oppositeOf_7 : decode cX0_oppositeOf 7 = .ok (.if_icmp .ge 73, 3) := by decide +kernel
theorem dX0_oppositeOf_10 : decode cX0_oppositeOf 10 = .ok (.iconst 1, 1) := by decide +kernel
theorem dX0_oppositeOf_11 : decode cX0_oppositeOf 11 = .ok (.istore_n 3, 1) := by decide +kernel
theorem dX0_oppositeOf_12 : decode cX0_oppositeOf 12 = .ok (.iconst 0, 1) := by decide +kernel
theorem dX0_oppositeOf_13 : decode cX0_oppositeOf 13 = .ok (.istore 4, 2) := by decide +kernel
theorem dX0_oppositeOf_15 : decode cX0_oppositeOf 15 = .ok (.iload 4, 2) := by decide +kernel
theorem dX0_oppositeOf_17 : decode cX0_oppositeOf 17 = .ok (.aload_n 0, 1) := by decide +kernel
theorem dX0_oppositeOf_18 : decode cX0_oppositeOf 18 = .ok (.getfield 66, 3) := by decide +kernel
theorem dX0_oppositeOf_21 : decode cX0_oppositeOf 21 = .ok (.if_icmp .ge 47, 3) := by decide +kernel
theorem dX0_oppositeOf_24 : decode cX0_oppositeOf 24 = .ok (.iload_n 3, 1) := by decide +kernel
theorem dX0_oppositeOf_25 : decode cX0_oppositeOf 25 = .ok (.ifCond .eq 35, 3) := by decide +kernel
theorem dX0_oppositeOf_28 : decode cX0_oppositeOf 28 = .ok (.aload_n 0, 1) := by decide +kernel
theorem dX0_oppositeOf_29 : decode cX0_oppositeOf 29 = .ok (.getfield 20, 3) := by decide +kernel
theorem dX0_oppositeOf_32 : decode cX0_oppositeOf 32 = .ok (.iload_n 2, 1) := by decide +kernel
theorem dX0_oppositeOf_33 : decode cX0_oppositeOf 33 = .ok (.aaload, 1) := by decide +kernel
theorem dX0_oppositeOf_34 : decode cX0_oppositeOf 34 = .ok (.iload 4, 2) := by decide +kernel
theorem dX0_oppositeOf_36 : decode cX0_oppositeOf 36 = .ok (.iaload, 1) := by decide +kernel
theorem dX0_oppositeOf_37 : decode cX0_oppositeOf 37 = .ok (.aload_n 0, 1) := by decide +kernel
theorem dX0_oppositeOf_38 : decode cX0_oppositeOf 38 = .ok (.getfield 20, 3) := by decide +kernel
theorem dX0_oppositeOf_41 : decode cX0_oppositeOf 41 = .ok (.iload_n 1, 1) := by decide +kernel
theorem dX0_oppositeOf_42 : decode cX0_oppositeOf 42 = .ok (.aaload, 1) := by decide +kernel
theorem dX0_oppositeOf_43 : decode cX0_oppositeOf 43 = .ok (.aload_n 0, 1) := by decide +kernel
theorem dX0_oppositeOf_44 : decode cX0_oppositeOf 44 = .ok (.getfield 33, 3) := by decide +kernel
theorem dX0_oppositeOf_47 : decode cX0_oppositeOf 47 = .ok (.iload 4, 2) := by decide +kernel
theorem dX0_oppositeOf_49 : decode cX0_oppositeOf 49 = .ok (.iaload, 1) := by decide +kernel
theorem dX0_oppositeOf_50 : decode cX0_oppositeOf 50 = .ok (.invokestatic 80, 3) := by decide +kernel
theorem dX0_oppositeOf_53 : decode cX0_oppositeOf 53 = .ok (.if_icmp .ne 7, 3) := by decide +kernel
theorem dX0_oppositeOf_56 : decode cX0_oppositeOf 56 = .ok (.iconst 1, 1) := by decide +kernel
theorem dX0_oppositeOf_57 : decode cX0_oppositeOf 57 = .ok (.goto 4, 3) := by decide +kernel
theorem dX0_oppositeOf_60 : decode cX0_oppositeOf 60 = .ok (.iconst 0, 1) := by decide +kernel
theorem dX0_oppositeOf_61 : decode cX0_oppositeOf 61 = .ok (.istore_n 3, 1) := by decide +kernel
theorem dX0_oppositeOf_62 : decode cX0_oppositeOf 62 = .ok (.iinc 4 1, 3) := by decide +kernel
theorem dX0_oppositeOf_65 : decode cX0_oppositeOf 65 = .ok (.goto (-50), 3) := by decide +kernel
theorem dX0_oppositeOf_68 : decode cX0_oppositeOf 68 = .ok (.iload_n 3, 1) := by decide +kernel
theorem dX0_oppositeOf_69 : decode cX0_oppositeOf 69 = .ok (.ifCond .eq 5, 3) := by decide +kernel
theorem dX0_oppositeOf_72 : decode cX0_oppositeOf 72 = .ok (.iload_n 2, 1) := by decide +kernel
theorem dX0_oppositeOf_73 : decode cX0_oppositeOf 73 = .ok (.ireturn, 1) := by decide +kernel
theorem dX0_oppositeOf_74 : decode cX0_oppositeOf 74 = .ok (.iinc 2 1, 3) := by decide +kernel
theorem dX0_oppositeOf_77 : decode cX0_oppositeOf 77 = .ok (.goto (-75), 3) := by decide +kernel
theorem dX0_oppositeOf_80 : decode cX0_oppositeOf 80 = .ok (.iconst (-1), 1) := by decide +kernel
theorem dX0_oppositeOf_81 : decode cX0_oppositeOf 81 = .ok (.ireturn, 1) := by decide +kernel
theorem B_X0_oppositeOf_0 {g : Sg} {c t : Nat} (hL : Lay LC g c t σ) {x1 : Int} (h : (Lay LC g c t σ → GG E mX0_oppositeOf 2 [some (vr 34), some (vi x1), some (vi 0), none, none] [] σ rc rs Q)) : GG E mX0_oppositeOf 0 [some (vr 34), some (vi x1), none, none, none] [] σ rc rs Q := by
  refine r_iconst (pc := 0) dX0_oppositeOf_0 (inRk rfl) ?_
  refine r_istore_n (pc := 1) dX0_oppositeOf_1 rfl (by decide) (l2 := [some (vr 34), some (vi x1), some (vi 0), none, none]) rfl ?_
  exact (h hL)
theorem B_X0_oppositeOf_2 {g : Sg} {c t : Nat} (hL : Lay LC g c t σ) {x1 : Int} {x2 : Int} (h : (((gI σ 34 7) ≤ x2 → (Lay LC g c t σ → Q (.inl (some (vi (-1)))) σ)) ∧ (¬ ((gI σ 34 7) ≤ x2) → (Lay LC g c t σ → GG E mX0_oppositeOf 15 [some (vr 34), some (vi x1), some (vi x2), some (vi 1), some (vi 0)] [] σ rc rs Q)))) : GG E mX0_oppositeOf 2 [some (vr 34), some (vi x1), some (vi x2), none, none] [] σ rc rs Q := by
  refine r_iload_n (pc := 2) dX0_oppositeOf_2 rfl rfl ?_
  refine r_aload_n (pc := 3) dX0_oppositeOf_3 rfl rfl ?_
  refine r_getI (pc := 4) dX0_oppositeOf_4 (k9 := 7) CL_0 (by decide) (by decide) w_328 rfl (okO_of (N := 10) (hL.sh (i := 18) rfl (by decide) (by decide)) (by decide)) (fun _ => ?_)
  refine r_icmp_ge (pc := 7) (tgt := 80) dX0_oppositeOf_7 (by decide) (fun c9 => ?_) (fun c9 => ?_)
  · replace h := h.1 c9
    refine r_iconst (pc := 80) dX0_oppositeOf_80 (inRk rfl) ?_
    exact r_ireturn (pc := 81) (ty := .int) dX0_oppositeOf_81 (by decide +kernel) rfl (nar_i _) (h hL)
  · replace h := h.2 c9
    refine r_iconst (pc := 10) dX0_oppositeOf_10 (inRk rfl) ?_
    refine r_istore_n (pc := 11) dX0_oppositeOf_11 rfl (by decide) (l2 := [some (vr 34), some (vi x1), some (vi x2), some (vi 1), none]) rfl ?_
    refine r_iconst (pc := 12) dX0_oppositeOf_12 (inRk rfl) ?_
    refine r_istore (pc := 13) dX0_oppositeOf_13 (by decide) (l2 := [some (vr 34), some (vi x1), some (vi x2), some (vi 1), some (vi 0)]) rfl ?_
    exact (h hL)
theorem B_X0_oppositeOf_15 {g : Sg} {c t : Nat} (hL : Lay LC g c t σ) {x1 : Int} {x2 : Int} {x3 : Int} {x4 : Int} (h : (((gI σ 34 7) ≤ x4 → ((x3 = 0 → inR (x2 + 1) ∧ (Lay LC g c t σ → GG E mX0_oppositeOf 2 [some (vr 34), some (vi x1), some (vi (x2 + 1)), none, none] [] σ rc rs Q)) ∧ (¬ (x3 = 0) → (Lay LC g c t σ → Q (.inl (some (vi x2))) σ)))) ∧ (¬ ((gI σ 34 7) ≤ x4) → ((x3 = 0 → inR (x4 + 1) ∧ (Lay LC g c t σ → GG E mX0_oppositeOf 15 [some (vr 34), some (vi x1), some (vi x2), some (vi 0), some (vi (x4 + 1))] [] σ rc rs Q)) ∧ (¬ (x3 = 0) → (0 ≤ x2 ∧ x2 < 12) ∧ ∀ b4 : Nat, b4 = gR σ 36 x2.toNat → (37 ≤ b4 ∧ b4 < 49) → (0 ≤ x4 ∧ x4 < 12) ∧ (0 ≤ x1 ∧ x1 < 12) ∧ ∀ b8 : Nat, b8 = gR σ 36 x1.toNat → (37 ≤ b8 ∧ b8 < 49) → (Lay LC g c t σ → CC E mX11_at [vr b8, vi (gI σ 52 x4.toNat)] σ (KI (fun r10 τ11 => Lay LC g c t τ11 ∧ (inR r10 → (((gI σ b4 x4.toNat) ≠ r10 → inR (x4 + 1) ∧ (Lay LC g c t τ11 → GG E mX0_oppositeOf 15 [some (vr 34), some (vi x1), some (vi x2), some (vi 0), some (vi (x4 + 1))] [] τ11 rc rs Q)) ∧ ((gI σ b4 x4.toNat) = r10 → inR (x4 + 1) ∧ (Lay LC g c t τ11 → GG E mX0_oppositeOf 15 [some (vr 34), some (vi x1), some (vi x2), some (vi 1), some (vi (x4 + 1))] [] τ11 rc rs Q))))) (fun _ _ => False)))))))) : GG E mX0_oppositeOf 15 [some (vr 34), some (vi x1), some (vi x2), some (vi x3), some (vi x4)] [] σ rc rs Q := by
  refine r_iload (pc := 15) dX0_oppositeOf_15 rfl ?_
  refine r_aload_n (pc := 17) dX0_oppositeOf_17 rfl rfl ?_
  refine r_getI (pc := 18) dX0_oppositeOf_18 (k9 := 7) CL_0 (by decide) (by decide) w_328 rfl (okO_of (N := 10) (hL.sh (i := 18) rfl (by decide) (by decide)) (by decide)) (fun _ => ?_)
  refine r_icmp_ge (pc := 21) (tgt := 68) dX0_oppositeOf_21 (by decide) (fun c9 => ?_) (fun c9 => ?_)
  · replace h := h.1 c9
    refine r_iload_n (pc := 68) dX0_oppositeOf_68 rfl rfl ?_
    refine r_if_eq (pc := 69) (tgt := 74) dX0_oppositeOf_69 (by decide) (fun c9 => ?_) (fun c9 => ?_)
    · replace h := h.1 c9
      obtain ⟨o1, h⟩ := h
      refine r_iinc (pc := 74) dX0_oppositeOf_74 rfl (by decide) o1 (l2 := [some (vr 34), some (vi x1), some (vi (x2 + 1)), some (vi x3), some (vi x4)]) rfl ?_
      refine r_goto (pc := 77) (tgt := 2) dX0_oppositeOf_77 (by decide) ?_
      exact GG.msk [true, true, true, false, false] (h hL)
    · replace h := h.2 c9
      refine r_iload_n (pc := 72) dX0_oppositeOf_72 rfl rfl ?_
      exact r_ireturn (pc := 73) (ty := .int) dX0_oppositeOf_73 (by decide +kernel) rfl (nar_i _) (h hL)
  · replace h := h.2 c9
    refine r_iload_n (pc := 24) dX0_oppositeOf_24 rfl rfl ?_
    refine r_if_eq (pc := 25) (tgt := 60) dX0_oppositeOf_25 (by decide) (fun c9 => ?_) (fun c9 => ?_)
    · replace h := h.1 c9
      refine r_iconst (pc := 60) dX0_oppositeOf_60 (inRk rfl) ?_
      refine r_istore_n (pc := 61) dX0_oppositeOf_61 rfl (by decide) (l2 := [some (vr 34), some (vi x1), some (vi x2), some (vi 0), some (vi x4)]) rfl ?_
      obtain ⟨o2, h⟩ := h
      refine r_iinc (pc := 62) dX0_oppositeOf_62 rfl (by decide) o2 (l2 := [some (vr 34), some (vi x1), some (vi x2), some (vi 0), some (vi (x4 + 1))]) rfl ?_
      refine r_goto (pc := 65) (tgt := 15) dX0_oppositeOf_65 (by decide) ?_
      exact (h hL)
    · replace h := h.2 c9
      refine r_aload_n (pc := 28) dX0_oppositeOf_28 rfl rfl ?_
      refine r_getR (pc := 29) dX0_oppositeOf_29 (k9 := 1) CL_0 (by decide) (by decide) w_314 rfl (okO_of (N := 10) (hL.sh (i := 18) rfl (by decide) (by decide)) (by decide)) ?_
      refine eqR (y := 36) (hL.rf (i := 19) rfl) ?_
      refine r_iload_n (pc := 32) dX0_oppositeOf_32 rfl rfl ?_
      obtain ⟨o3, h⟩ := h
      refine r_aaload (pc := 33) dX0_oppositeOf_33 (okB_of (c := 24) (n := 12) (hL.sh (i := 20) rfl (by decide) (by decide)) (by decide) o3) ?_
      refine nmR (fun b4 e9 => ?_)
      have q5 : (37 ≤ b4 ∧ b4 < 49) := e9 ▸ hL.rsw (i := 0) rfl (rowC o3 (by decide))
      replace h := h b4 e9 q5
      refine r_iload (pc := 34) dX0_oppositeOf_34 rfl ?_
      obtain ⟨o6, h⟩ := h
      refine r_iaload (pc := 36) dX0_oppositeOf_36 (okA_of (c := 20) (n := 12) (hL.sh (i := 21) rfl q5.1 q5.2) (Nat.le_trans (by decide) q5.1) o6) ?_
      refine r_aload_n (pc := 37) dX0_oppositeOf_37 rfl rfl ?_
      refine r_getR (pc := 38) dX0_oppositeOf_38 (k9 := 1) CL_0 (by decide) (by decide) w_314 rfl (okO_of (N := 10) (hL.sh (i := 18) rfl (by decide) (by decide)) (by decide)) ?_
      refine eqR (y := 36) (hL.rf (i := 19) rfl) ?_
      refine r_iload_n (pc := 41) dX0_oppositeOf_41 rfl rfl ?_
      obtain ⟨o7, h⟩ := h
      refine r_aaload (pc := 42) dX0_oppositeOf_42 (okB_of (c := 24) (n := 12) (hL.sh (i := 20) rfl (by decide) (by decide)) (by decide) o7) ?_
      refine nmR (fun b8 e9 => ?_)
      have q9 : (37 ≤ b8 ∧ b8 < 49) := e9 ▸ hL.rsw (i := 0) rfl (rowC o7 (by decide))
      replace h := h b8 e9 q9
      refine r_aload_n (pc := 43) dX0_oppositeOf_43 rfl rfl ?_
      refine r_getR (pc := 44) dX0_oppositeOf_44 (k9 := 5) CL_0 (by decide) (by decide) w_324 rfl (okO_of (N := 10) (hL.sh (i := 18) rfl (by decide) (by decide)) (by decide)) ?_
      refine eqR (y := 52) (hL.rf (i := 23) rfl) ?_
      refine r_iload (pc := 47) dX0_oppositeOf_47 rfl ?_
      refine r_iaload (pc := 49) dX0_oppositeOf_49 (okA_of (c := 20) (n := 12) (hL.sh (i := 25) rfl (by decide) (by decide)) (by decide) o6) ?_
      refine c_SNI0N (M := mX0_oppositeOf) (pc := 50) (As := [vr b8, vi (gI σ 52 x4.toNat)]) dX0_oppositeOf_50 K_X11_at wt_1000 ⟨by decide, by decide⟩ (Nat.le_of_ble_eq_true rfl) rfl rfl (h hL) (fun r10 τ11 h8 hr9 => ?_) rfl
      replace hL := h8.1
      replace h := h8.2 hr9
      refine r_icmp_ne (pc := 53) (tgt := 60) dX0_oppositeOf_53 (by decide) (fun c9 => ?_) (fun c9 => ?_)
      · replace h := h.1 c9
        refine r_iconst (pc := 60) dX0_oppositeOf_60 (inRk rfl) ?_
        refine r_istore_n (pc := 61) dX0_oppositeOf_61 rfl (by decide) (l2 := [some (vr 34), some (vi x1), some (vi x2), some (vi 0), some (vi x4)]) rfl ?_
        obtain ⟨o12, h⟩ := h
        refine r_iinc (pc := 62) dX0_oppositeOf_62 rfl (by decide) o12 (l2 := [some (vr 34), some (vi x1), some (vi x2), some (vi 0), some (vi (x4 + 1))]) rfl ?_
        refine r_goto (pc := 65) (tgt := 15) dX0_oppositeOf_65 (by decide) ?_
        exact (h hL)
      · replace h := h.2 c9
        refine r_iconst (pc := 56) dX0_oppositeOf_56 (inRk rfl) ?_
        refine r_goto (pc := 57) (tgt := 61) dX0_oppositeOf_57 (by decide) ?_
        refine r_istore_n (pc := 61) dX0_oppositeOf_61 rfl (by decide) (l2 := [some (vr 34), some (vi x1), some (vi x2), some (vi 1), some (vi x4)]) rfl ?_
        obtain ⟨o13, h⟩ := h
        refine r_iinc (pc := 62) dX0_oppositeOf_62 rfl (by decide) o13 (l2 := [some (vr 34), some (vi x1), some (vi x2), some (vi 1), some (vi (x4 + 1))]) rfl ?_
        refine r_goto (pc := 65) (tgt := 15) dX0_oppositeOf_65 (by decide) ?_
        exact (h hL)
theorem C_X0_oppositeOf {a0 : Nat} {x1 : Int} (h : GG E mX0_oppositeOf 0 [some (vr a0), some (vi x1), none, none, none] [] σ 0 0 Q) : CC E mX0_oppositeOf [vr a0, vi x1] σ Q := CC.of (by decide +kernel) rfl (by decide +kernel) (fun h9 => nomatch h9) (Nat.le_of_ble_eq_true rfl) h
theorem dX0_sort_0 : decode cX0_sort 0 = .ok (.iconst 1, 1) := by decide +kernel
theorem dX0_sort_1 : decode cX0_sort 1 = .ok (.istore_n 1, 1) := by decide +kernel
theorem dX0_sort_2 : decode cX0_sort 2 = .ok (.iload_n 1, 1) := by decide +kernel
theorem dX0_sort_3 : decode cX0_sort 3 = .ok (.aload_n 0, 1) := by decide +kernel
theorem dX0_sort_4 : decode cX0_sort 4 = .ok (.getfield 66, 3) := by decide +kernel
theorem dX0_sort_7 : decode cX0_sort 7 = .ok (.if_icmp .ge 94, 3) := by decide +kernel
theorem dX0_sort_10 : decode cX0_sort 10 = .ok (.iload_n 1, 1) := by decide +kernel
theorem dX0_sort_11 : decode cX0_sort 11 = .ok (.istore_n 2, 1) := by decide +kernel
theorem dX0_sort_12 : decode cX0_sort 12 = .ok (.iload_n 2, 1) := by decide +kernel
theorem dX0_sort_13 : decode cX0_sort 13 = .ok (.ifCond .le 82, 3) := by decide +kernel
theorem dX0_sort_16 : decode cX0_sort 16 = .ok (.aload_n 0, 1) := by decide +kernel
theorem dX0_sort_17 : decode cX0_sort 17 = .ok (.iload_n 2, 1) := by decide +kernel
theorem dX0_sort_18 : decode cX0_sort 18 = .ok (.iload_n 2, 1) := by decide +kernel
theorem dX0_sort_19 : decode cX0_sort 19 = .ok (.iconst 1, 1) := by decide +kernel
theorem dX0_sort_20 : decode cX0_sort 20 = .ok (.isub, 1) := by decide +kernel
theorem dX0_sort_21 : decode cX0_sort 21 = .ok (.invokevirtual 108, 3) := by decide +kernel
theorem dX0_sort_24 : decode cX0_sort 24 = .ok (.ifCond .eq 71, 3) := by decide +kernel
theorem dX0_sort_27 : decode cX0_sort 27 = .ok (.aload_n 0, 1) := by decide +kernel
theorem dX0_sort_28 : decode cX0_sort 28 = .ok (.getfield 20, 3) := by decide +kernel
theorem dX0_sort_31 : decode cX0_sort 31 = .ok (.iload_n 2, 1) := by decide +kernel
theorem dX0_sort_32 : decode cX0_sort 32 = .ok (.aaload, 1) := by decide +kernel
theorem dX0_sort_33 : decode cX0_sort 33 = .ok (.astore_n 3, 1) := by decide +kernel
theorem dX0_sort_34 : decode cX0_sort 34 = .ok (.aload_n 0, 1) := by decide +kernel
theorem dX0_sort_35 : decode cX0_sort 35 = .ok (.getfield 20, 3) := by decide +kernel
theorem dX0_sort_38 : decode cX0_sort 38 = .ok (.iload_n 2, 1) := by decide +kernel
theorem dX0_sort_39 : decode cX0_sort 39 = .ok (.aload_n 0, 1) := by decide +kernel
theorem dX0_sort_40 : decode cX0_sort 40 = .ok (.getfield 20, 3) := by decide +kernel
theorem dX0_sort_43 : decode cX0_sort 43 = .ok (.iload_n 2, 1) := by decide +kernel
theorem dX0_sort_44 : decode cX0_sort 44 = .ok (.iconst 1, 1) := by decide +kernel
theorem dX0_sort_45 : decode cX0_sort 45 = .ok (.isub, 1) := by decide +kernel
theorem dX0_sort_46 : decode cX0_sort 46 = .ok (.aaload, 1) := by decide +kernel
theorem dX0_sort_47 : decode cX0_sort 47 = .ok (.aastore, 1) := by decide +kernel
theorem dX0_sort_48 : decode cX0_sort 48 = .ok (.aload_n 0, 1) := by decide +kernel
theorem dX0_sort_49 : decode cX0_sort 49 = .ok (.getfield 20, 3) := by decide +kernel
theorem dX0_sort_52 : decode cX0_sort 52 = .ok (.iload_n 2, 1) := by decide +kernel
theorem dX0_sort_53 : decode cX0_sort 53 = .ok (.iconst 1, 1) := by decide +kernel
theorem dX0_sort_54 : decode cX0_sort 54 = .ok (.isub, 1) := by decide +kernel
theorem dX0_sort_55 : decode cX0_sort 55 = .ok (.aload_n 3, 1) := by decide +kernel
theorem dX0_sort_56 : decode cX0_sort 56 = .ok (.aastore, 1) := by decide +kernel
theorem dX0_sort_57 : decode cX0_sort 57 = .ok (.aload_n 0, 1) := by decide +kernel
theorem dX0_sort_58 : decode cX0_sort 58 = .ok (.getfield 23, 3) := by decide +kernel
theorem dX0_sort_61 : decode cX0_sort 61 = .ok (.iload_n 2, 1) := by decide +kernel
theorem dX0_sort_62 : decode cX0_sort 62 = .ok (.iaload, 1) := by decide +kernel
theorem dX0_sort_63 : decode cX0_sort 63 = .ok (.istore 4, 2) := by decide +kernel
theorem dX0_sort_65 : decode cX0_sort 65 = .ok (.aload_n 0, 1) := by decide +kernel
theorem dX0_sort_66 : decode cX0_sort 66 = .ok (.getfield 23, 3) := by decide +kernel
theorem dX0_sort_69 : decode cX0_sort 69 = .ok (.iload_n 2, 1) := by decide +kernel
theorem dX0_sort_70 : decode cX0_sort 70 = .ok (.aload_n 0, 1) := by decide +kernel
theorem dX0_sort_71 : decode cX0_sort 71 = .ok (.getfield 23, 3) := by decide +kernel
theorem dX0_sort_74 : decode cX0_sort 74 = .ok (.iload_n 2, 1) := by decide +kernel
theorem dX0_sort_75 : decode cX0_sort 75 = .ok (.iconst 1, 1) := by decide +kernel
theorem dX0_sort_76 : decode cX0_sort 76 = .ok (.isub, 1) := by decide +kernel
theorem dX0_sort_77 : decode cX0_sort 77 = .ok (.iaload, 1) := by decide +kernel
theorem dX0_sort_78 : decode cX0_sort 78 = .ok (.iastore, 1) := by decide +kernel
theorem dX0_sort_79 : decode cX0_sort 79 = .ok (.aload_n 0, 1) := by decide +kernel
theorem dX0_sort_80 : decode cX0_sort 80 = .ok (.getfield 23, 3) := by decide +kernel
theorem dX0_sort_83 : decode cX0_sort 83 = .ok (.iload_n 2, 1) := by decide +kernel
theorem dX0_sort_84 : decode cX0_sort 84 = .ok (.iconst 1, 1) := by decide +kernel
theorem dX0_sort_85 : decode cX0_sort 85 = .ok (.isub, 1) := by decide +kernel
theorem dX0_sort_86 : decode cX0_sort 86 = .ok (.iload 4, 2) := by decide +kernel
theorem dX0_sort_88 : decode cX0_sort 88 = .ok (.iastore, 1) := by decide +kernel
theorem dX0_sort_89 : decode cX0_sort 89 = .ok (.iinc 2 (-1), 3) := by decide +kernel
theorem dX0_sort_92 : decode cX0_sort 92 = .ok (.goto (-80), 3) := by decide +kernel
theorem dX0_sort_95 : decode cX0_sort 95 = .ok (.iinc 1 1, 3) := by decide +kernel
theorem dX0_sort_98 : decode cX0_sort 98 = .ok (.goto (-96), 3) := by decide +kernel
theorem dX0_sort_101 : decode cX0_sort 101 = .ok (.return_, 1) := by decide +kernel
theorem B_X0_sort_0 {g : Sg} {c t : Nat} (hL : Lay LC g c t σ)  (h : (Lay LC g c t σ → GG E mX0_sort 2 [some (vr 34), some (vi 1), none, none, none] [] σ rc rs Q)) : GG E mX0_sort 0 [some (vr 34), none, none, none, none] [] σ rc rs Q := by
  refine r_iconst (pc := 0) dX0_sort_0 (inRk rfl) ?_
  refine r_istore_n (pc := 1) dX0_sort_1 rfl (by decide) (l2 := [some (vr 34), some (vi 1), none, none, none]) rfl ?_
  exact (h hL)
theorem B_X0_sort_2 {g : Sg} {c t : Nat} (hL : Lay LC g c t σ) {x1 : Int} (h : (((gI σ 34 7) ≤ x1 → (Lay LC g c t σ → Q (.inl none) σ)) ∧ (¬ ((gI σ 34 7) ≤ x1) → (Lay LC g c t σ → GG E mX0_sort 12 [some (vr 34), some (vi x1), some (vi x1), none, none] [] σ rc rs Q)))) : GG E mX0_sort 2 [some (vr 34), some (vi x1), none, none, none] [] σ rc rs Q := by
  refine r_iload_n (pc := 2) dX0_sort_2 rfl rfl ?_
  refine r_aload_n (pc := 3) dX0_sort_3 rfl rfl ?_
  refine r_getI (pc := 4) dX0_sort_4 (k9 := 7) CL_0 (by decide) (by decide) w_328 rfl (okO_of (N := 10) (hL.sh (i := 18) rfl (by decide) (by decide)) (by decide)) (fun _ => ?_)
  refine r_icmp_ge (pc := 7) (tgt := 101) dX0_sort_7 (by decide) (fun c9 => ?_) (fun c9 => ?_)
  · replace h := h.1 c9
    exact r_return (pc := 101) dX0_sort_101 (by decide +kernel) rfl (h hL)
  · replace h := h.2 c9
    refine r_iload_n (pc := 10) dX0_sort_10 rfl rfl ?_
    refine r_istore_n (pc := 11) dX0_sort_11 rfl (by decide) (l2 := [some (vr 34), some (vi x1), some (vi x1), none, none]) rfl ?_
    exact (h hL)
theorem B_X0_sort_12 {g : Sg} {c t : Nat} (hL : Lay LC g c t σ) {x1 : Int} {x2 : Int} (h : ((x2 ≤ 0 → inR (x1 + 1) ∧ (Lay LC g c t σ → GG E mX0_sort 2 [some (vr 34), some (vi (x1 + 1)), none, none, none] [] σ rc rs Q)) ∧ (¬ (x2 ≤ 0) → inR (x2 - 1) ∧ (Lay LC g c t σ → CC E mX0_comesAhead [vr 34, vi x2, vi (x2 - 1)] σ (KI (fun r3 τ4 => Lay LC g c t τ4 ∧ (inR r3 → ((r3 = 0 → inR (x1 + 1) ∧ (Lay LC g c t τ4 → GG E mX0_sort 2 [some (vr 34), some (vi (x1 + 1)), none, none, none] [] τ4 rc rs Q)) ∧ (¬ (r3 = 0) → (0 ≤ x2 ∧ x2 < 12) ∧ ∀ b7 : Nat, b7 = gR τ4 36 x2.toNat → (37 ≤ b7 ∧ b7 < 49) → (0 ≤ (x2 - 1) ∧ (x2 - 1) < 12) ∧ ∀ b10 : Nat, b10 = gR τ4 36 (x2 - 1).toNat → (37 ≤ b10 ∧ b10 < 49) → ∀ τ12 : Sg, τ12 = sR τ4 36 x2.toNat b10 → ∀ τ13 : Sg, τ13 = sR τ12 36 (x2 - 1).toNat b7 → ∀ τ14 : Sg, τ14 = sI τ13 49 x2.toNat (gI τ13 49 (x2 - 1).toNat) → ∀ τ15 : Sg, τ15 = sI τ14 49 (x2 - 1).toNat (gI τ13 49 x2.toNat) → inR (x2 + (-1)) ∧ (Lay LC g c t τ15 → GG E mX0_sort 12 [some (vr 34), some (vi x1), some (vi (x2 + (-1))), none, none] [] τ15 rc rs Q))))) (fun _ _ => False)))))) : GG E mX0_sort 12 [some (vr 34), some (vi x1), some (vi x2), none, none] [] σ rc rs Q := by
  refine r_iload_n (pc := 12) dX0_sort_12 rfl rfl ?_
  refine r_if_le (pc := 13) (tgt := 95) dX0_sort_13 (by decide) (fun c9 => ?_) (fun c9 => ?_)
  · replace h := h.1 c9
    obtain ⟨o1, h⟩ := h
    refine r_iinc (pc := 95) dX0_sort_95 rfl (by decide) o1 (l2 := [some (vr 34), some (vi (x1 + 1)), some (vi x2), none, none]) rfl ?_
    refine r_goto (pc := 98) (tgt := 2) dX0_sort_98 (by decide) ?_
    exact GG.msk [true, true, false, false, false] (h hL)
  · replace h := h.2 c9
    refine r_aload_n (pc := 16) dX0_sort_16 rfl rfl ?_
    refine r_iload_n (pc := 17) dX0_sort_17 rfl rfl ?_
    refine r_iload_n (pc := 18) dX0_sort_18 rfl rfl ?_
    refine r_iconst (pc := 19) dX0_sort_19 (inRk rfl) ?_
    obtain ⟨o2, h⟩ := h
    refine r_isub (pc := 20) dX0_sort_20 o2 ?_
    refine c_VI0N (M := mX0_sort) (pc := 21) (As := [vi x2, vi (x2 - 1)]) dX0_sort_21 K_X0_comesAhead w_1088 ⟨by decide, by decide⟩ (Nat.le_of_ble_eq_true rfl) rfl rfl (ci := 0) rfl rfl (by decide) (okO_of (N := 10) (hL.sh (i := 18) rfl (by decide) (by decide)) (by decide)) (h hL) (fun r3 τ4 h8 hr9 => ?_) rfl
    replace hL := h8.1
    replace h := h8.2 hr9
    refine r_if_eq (pc := 24) (tgt := 95) dX0_sort_24 (by decide) (fun c9 => ?_) (fun c9 => ?_)
    · replace h := h.1 c9
      obtain ⟨o5, h⟩ := h
      refine r_iinc (pc := 95) dX0_sort_95 rfl (by decide) o5 (l2 := [some (vr 34), some (vi (x1 + 1)), some (vi x2), none, none]) rfl ?_
      refine r_goto (pc := 98) (tgt := 2) dX0_sort_98 (by decide) ?_
      exact GG.msk [true, true, false, false, false] (h hL)
    · replace h := h.2 c9
      refine r_aload_n (pc := 27) dX0_sort_27 rfl rfl ?_
      refine r_getR (pc := 28) dX0_sort_28 (k9 := 1) CL_0 (by decide) (by decide) w_314 rfl (okO_of (N := 10) (hL.sh (i := 18) rfl (by decide) (by decide)) (by decide)) ?_
      refine eqR (y := 36) (hL.rf (i := 19) rfl) ?_
      refine r_iload_n (pc := 31) dX0_sort_31 rfl rfl ?_
      obtain ⟨o6, h⟩ := h
      refine r_aaload (pc := 32) dX0_sort_32 (okB_of (c := 24) (n := 12) (hL.sh (i := 20) rfl (by decide) (by decide)) (by decide) o6) ?_
      refine nmR (fun b7 e9 => ?_)
      have q8 : (37 ≤ b7 ∧ b7 < 49) := e9 ▸ hL.rsw (i := 0) rfl (rowC o6 (by decide))
      replace h := h b7 e9 q8
      refine r_astore_n (pc := 33) dX0_sort_33 rfl (by decide) (l2 := [some (vr 34), some (vi x1), some (vi x2), some (vr b7), none]) rfl ?_
      refine r_aload_n (pc := 34) dX0_sort_34 rfl rfl ?_
      refine r_getR (pc := 35) dX0_sort_35 (k9 := 1) CL_0 (by decide) (by decide) w_314 rfl (okO_of (N := 10) (hL.sh (i := 18) rfl (by decide) (by decide)) (by decide)) ?_
      refine eqR (y := 36) (hL.rf (i := 19) rfl) ?_
      refine r_iload_n (pc := 38) dX0_sort_38 rfl rfl ?_
      refine r_aload_n (pc := 39) dX0_sort_39 rfl rfl ?_
      refine r_getR (pc := 40) dX0_sort_40 (k9 := 1) CL_0 (by decide) (by decide) w_314 rfl (okO_of (N := 10) (hL.sh (i := 18) rfl (by decide) (by decide)) (by decide)) ?_
      refine eqR (y := 36) (hL.rf (i := 19) rfl) ?_
      refine r_iload_n (pc := 43) dX0_sort_43 rfl rfl ?_
      refine r_iconst (pc := 44) dX0_sort_44 (inRk rfl) ?_
      refine r_isub (pc := 45) dX0_sort_45 o2 ?_
      obtain ⟨o9, h⟩ := h
      refine r_aaload (pc := 46) dX0_sort_46 (okB_of (c := 24) (n := 12) (hL.sh (i := 20) rfl (by decide) (by decide)) (by decide) o9) ?_
      refine nmR (fun b10 e9 => ?_)
      have q11 : (37 ≤ b10 ∧ b10 < 49) := e9 ▸ hL.rsw (i := 0) rfl (rowC o9 (by decide))
      replace h := h b10 e9 q11
      refine r_aastore (pc := 47) dX0_sort_47 (okB_of (c := 24) (n := 12) (hL.sh (i := 20) rfl (by decide) (by decide)) (by decide) o6) ⟨(Nat.le_trans (by decide) q11.1), by rw [(hL.sh (i := 21) rfl q11.1 q11.2)]⟩ ?_
      refine nmS (fun τ12 e12 => ?_)
      replace h := h τ12 e12
      have hL := hL.wR e12 (i := 0) rfl q11 (by decide) (by decide)
      refine r_aload_n (pc := 48) dX0_sort_48 rfl rfl ?_
      refine r_getR (pc := 49) dX0_sort_49 (k9 := 1) CL_0 (by decide) (by decide) w_314 rfl (okO_of (N := 10) (hL.sh (i := 18) rfl (by decide) (by decide)) (by decide)) ?_
      refine eqR (y := 36) (hL.rf (i := 19) rfl) ?_
      refine r_iload_n (pc := 52) dX0_sort_52 rfl rfl ?_
      refine r_iconst (pc := 53) dX0_sort_53 (inRk rfl) ?_
      refine r_isub (pc := 54) dX0_sort_54 o2 ?_
      refine r_aload_n (pc := 55) dX0_sort_55 rfl rfl ?_
      refine r_aastore (pc := 56) dX0_sort_56 (okB_of (c := 24) (n := 12) (hL.sh (i := 20) rfl (by decide) (by decide)) (by decide) o9) ⟨(Nat.le_trans (by decide) q8.1), by rw [(hL.sh (i := 21) rfl q8.1 q8.2)]⟩ ?_
      refine nmS (fun τ13 e13 => ?_)
      replace h := h τ13 e13
      have hL := hL.wR e13 (i := 0) rfl q8 (by decide) (by decide)
      refine r_aload_n (pc := 57) dX0_sort_57 rfl rfl ?_
      refine r_getR (pc := 58) dX0_sort_58 (k9 := 2) CL_0 (by decide) (by decide) w_317 rfl (okO_of (N := 10) (hL.sh (i := 18) rfl (by decide) (by decide)) (by decide)) ?_
      refine eqR (y := 49) (hL.rf (i := 20) rfl) ?_
      refine r_iload_n (pc := 61) dX0_sort_61 rfl rfl ?_
      refine r_iaload (pc := 62) dX0_sort_62 (okA_of (c := 20) (n := 12) (hL.sh (i := 22) rfl (by decide) (by decide)) (by decide) o6) ?_
      refine r_istore (pc := 63) dX0_sort_63 (by decide) (l2 := [some (vr 34), some (vi x1), some (vi x2), some (vr b7), some (vi (gI τ13 49 x2.toNat))]) rfl ?_
      refine r_aload_n (pc := 65) dX0_sort_65 rfl rfl ?_
      refine r_getR (pc := 66) dX0_sort_66 (k9 := 2) CL_0 (by decide) (by decide) w_317 rfl (okO_of (N := 10) (hL.sh (i := 18) rfl (by decide) (by decide)) (by decide)) ?_
      refine eqR (y := 49) (hL.rf (i := 20) rfl) ?_
      refine r_iload_n (pc := 69) dX0_sort_69 rfl rfl ?_
      refine r_aload_n (pc := 70) dX0_sort_70 rfl rfl ?_
      refine r_getR (pc := 71) dX0_sort_71 (k9 := 2) CL_0 (by decide) (by decide) w_317 rfl (okO_of (N := 10) (hL.sh (i := 18) rfl (by decide) (by decide)) (by decide)) ?_
      refine eqR (y := 49) (hL.rf (i := 20) rfl) ?_
      refine r_iload_n (pc := 74) dX0_sort_74 rfl rfl ?_
      refine r_iconst (pc := 75) dX0_sort_75 (inRk rfl) ?_
      refine r_isub (pc := 76) dX0_sort_76 o2 ?_
      refine r_iaload (pc := 77) dX0_sort_77 (okA_of (c := 20) (n := 12) (hL.sh (i := 22) rfl (by decide) (by decide)) (by decide) o9) ?_
      refine r_iastore (pc := 78) dX0_sort_78 (okB_of (c := 20) (n := 12) (hL.sh (i := 22) rfl (by decide) (by decide)) (by decide) o6) ?_
      refine nmS (fun τ14 e14 => ?_)
      replace h := h τ14 e14
      have hL := hL.wI e14 (by decide) (.inl (by decide))
      refine r_aload_n (pc := 79) dX0_sort_79 rfl rfl ?_
      refine r_getR (pc := 80) dX0_sort_80 (k9 := 2) CL_0 (by decide) (by decide) w_317 rfl (okO_of (N := 10) (hL.sh (i := 18) rfl (by decide) (by decide)) (by decide)) ?_
      refine eqR (y := 49) (hL.rf (i := 20) rfl) ?_
      refine r_iload_n (pc := 83) dX0_sort_83 rfl rfl ?_
      refine r_iconst (pc := 84) dX0_sort_84 (inRk rfl) ?_
      refine r_isub (pc := 85) dX0_sort_85 o2 ?_
      refine r_iload (pc := 86) dX0_sort_86 rfl ?_
      refine r_iastore (pc := 88) dX0_sort_88 (okB_of (c := 20) (n := 12) (hL.sh (i := 22) rfl (by decide) (by decide)) (by decide) o9) ?_
      refine nmS (fun τ15 e15 => ?_)
      replace h := h τ15 e15
      have hL := hL.wI e15 (by decide) (.inl (by decide))
      obtain ⟨o16, h⟩ := h
      refine r_iinc (pc := 89) dX0_sort_89 rfl (by decide) o16 (l2 := [some (vr 34), some (vi x1), some (vi (x2 + (-1))), some (vr b7), some (vi (gI τ13 49 x2.toNat))]) rfl ?_
      refine r_goto (pc := 92) (tgt := 12) dX0_sort_92 (by decide) ?_
      exact GG.msk [true, true, true, false, false] (h hL)
theorem C_X0_sort {a0 : Nat} (h : GG E mX0_sort 0 [some (vr a0), none, none, none, none] [] σ 0 0 Q) : CC E mX0_sort [vr a0] σ Q := CC.of (by decide +kernel) rfl (by decide +kernel) (fun h9 => nomatch h9) (Nat.le_of_ble_eq_true rfl) h
theorem dX0_take_0 : decode cX0_take 0 = .ok (.iconst 0, 1) := by decide +kernel
theorem dX0_take_1 : decode cX0_take 1 = .ok (.istore_n 2, 1) := by decide +kernel
theorem dX0_take_2 : decode cX0_take 2 = .ok (.iload_n 2, 1) := by decide +kernel
theorem dX0_take_3 : decode cX0_take 3 = .ok (.aload_n 0, 1) := by decide +kernel
theorem dX0_take_4 : decode cX0_take 4 = .ok (.getfield 66, 3) := by decide +kernel
theorem dX0_take_7 : decode cX0_take 7 = .ok (.if_icmp .ge 23, 3) := by decide +kernel
theorem dX0_take_10 : decode cX0_take 10 = .ok (.iload_n 2, 1) := by decide +kernel
theorem dX0_take_11 : decode cX0_take 11 = .ok (.aload_n 1, 1) := by decide +kernel
theorem dX0_take_12 : decode cX0_take 12 = .ok (.arraylength, 1) := by decide +kernel
theorem dX0_take_13 : decode cX0_take 13 = .ok (.if_icmp .ge 17, 3) := by decide +kernel
theorem dX0_take_16 : decode cX0_take 16 = .ok (.aload_n 0, 1) := by decide +kernel
theorem dX0_take_17 : decode cX0_take 17 = .ok (.iload_n 2, 1) := by decide +kernel
theorem dX0_take_18 : decode cX0_take 18 = .ok (.aload_n 1, 1) := by decide +kernel
theorem dX0_take_19 : decode cX0_take 19 = .ok (.iload_n 2, 1) := by decide +kernel
theorem dX0_take_20 : decode cX0_take 20 = .ok (.aaload, 1) := by decide +kernel
theorem dX0_take_21 : decode cX0_take 21 = .ok (.invokevirtual 98, 3) := by decide +kernel
theorem dX0_take_24 : decode cX0_take 24 = .ok (.iinc 2 1, 3) := by decide +kernel
theorem dX0_take_27 : decode cX0_take 27 = .ok (.goto (-25), 3) := by decide +kernel
theorem dX0_take_30 : decode cX0_take 30 = .ok (.aload_n 0, 1) := by decide +kernel
theorem dX0_take_31 : decode cX0_take 31 = .ok (.invokevirtual 102, 3) := by decide +kernel
theorem dX0_take_34 : decode cX0_take 34 = .ok (.return_, 1) := by decide +kernel
theorem B_X0_take_56_0 {g : Sg} {c t : Nat} (hL : Lay LC g c t σ)  (h : (Lay LC g c t σ → GG E mX0_take 2 [some (vr 34), some (vr 56), some (vi 0)] [] σ rc rs Q)) : GG E mX0_take 0 [some (vr 34), some (vr 56), none] [] σ rc rs Q := by
  refine r_iconst (pc := 0) dX0_take_0 (inRk rfl) ?_
  refine r_istore_n (pc := 1) dX0_take_1 rfl (by decide) (l2 := [some (vr 34), some (vr 56), some (vi 0)]) rfl ?_
  exact (h hL)
theorem B_X0_take_56_2 {g : Sg} {c t : Nat} (hL : Lay LC g c t σ) {x2 : Int} (h : (((gI σ 34 7) ≤ x2 → (Lay LC g c t σ → CC E mX0_sort [vr 34] σ (KV (fun τ2 => Lay LC g c t τ2 ∧ (Lay LC g c t τ2 → Q (.inl none) τ2)) (fun _ _ => False)))) ∧ (¬ ((gI σ 34 7) ≤ x2) → ((12 ≤ x2 → (Lay LC g c t σ → CC E mX0_sort [vr 34] σ (KV (fun τ4 => Lay LC g c t τ4 ∧ (Lay LC g c t τ4 → Q (.inl none) τ4)) (fun _ _ => False)))) ∧ (¬ (12 ≤ x2) → (0 ≤ x2 ∧ x2 < 12) ∧ (Lay LC g c t σ → CC E mX0_fillCharacter [vr 34, vi x2, vr (57 + x2.toNat)] σ (KV (fun τ8 => Lay LC g c t τ8 ∧ inR (x2 + 1) ∧ (Lay LC g c t τ8 → GG E mX0_take 2 [some (vr 34), some (vr 56), some (vi (x2 + 1))] [] τ8 rc rs Q)) (fun _ _ => False)))))))) : GG E mX0_take 2 [some (vr 34), some (vr 56), some (vi x2)] [] σ rc rs Q := by
  refine r_iload_n (pc := 2) dX0_take_2 rfl rfl ?_
  refine r_aload_n (pc := 3) dX0_take_3 rfl rfl ?_
  refine r_getI (pc := 4) dX0_take_4 (k9 := 7) CL_0 (by decide) (by decide) w_328 rfl (okO_of (N := 10) (hL.sh (i := 18) rfl (by decide) (by decide)) (by decide)) (fun _ => ?_)
  refine r_icmp_ge (pc := 7) (tgt := 30) dX0_take_7 (by decide) (fun c9 => ?_) (fun c9 => ?_)
  · replace h := h.1 c9
    refine r_aload_n (pc := 30) dX0_take_30 rfl rfl ?_
    refine c_VV0N (M := mX0_take) (pc := 31) (As := []) dX0_take_31 K_X0_sort w_1084 ⟨by decide, by decide⟩ (Nat.le_of_ble_eq_true rfl) rfl rfl (ci := 0) rfl rfl (by decide) (okO_of (N := 10) (hL.sh (i := 18) rfl (by decide) (by decide)) (by decide)) (h hL) (fun τ2 h8 => ?_) rfl
    replace hL := h8.1
    replace h := h8.2
    exact r_return (pc := 34) dX0_take_34 (by decide +kernel) rfl (h hL)
  · replace h := h.2 c9
    refine r_iload_n (pc := 10) dX0_take_10 rfl rfl ?_
    refine r_aload_n (pc := 11) dX0_take_11 rfl rfl ?_
    have o10 : okN σ 56 := okN_of (hL.sh (i := 29) rfl (by decide) (by decide)) (by decide) (by decide) (by decide)
    refine r_alen (pc := 12) dX0_take_12 o10.1 o10.2 ?_
    refine eqI (y := 12) (by rw [(hL.sh (i := 29) rfl (by decide) (by decide))] <;> rfl) ?_
    refine r_icmp_ge (pc := 13) (tgt := 30) dX0_take_13 (by decide) (fun c9 => ?_) (fun c9 => ?_)
    · replace h := h.1 c9
      refine r_aload_n (pc := 30) dX0_take_30 rfl rfl ?_
      refine c_VV0N (M := mX0_take) (pc := 31) (As := []) dX0_take_31 K_X0_sort w_1084 ⟨by decide, by decide⟩ (Nat.le_of_ble_eq_true rfl) rfl rfl (ci := 0) rfl rfl (by decide) (okO_of (N := 10) (hL.sh (i := 18) rfl (by decide) (by decide)) (by decide)) (h hL) (fun τ4 h8 => ?_) rfl
      replace hL := h8.1
      replace h := h8.2
      exact r_return (pc := 34) dX0_take_34 (by decide +kernel) rfl (h hL)
    · replace h := h.2 c9
      refine r_aload_n (pc := 16) dX0_take_16 rfl rfl ?_
      refine r_iload_n (pc := 17) dX0_take_17 rfl rfl ?_
      refine r_aload_n (pc := 18) dX0_take_18 rfl rfl ?_
      refine r_iload_n (pc := 19) dX0_take_19 rfl rfl ?_
      obtain ⟨o5, h⟩ := h
      refine r_aaload (pc := 20) dX0_take_20 (okB_of (c := 24) (n := 12) (hL.sh (i := 29) rfl (by decide) (by decide)) (by decide) o5) ?_
      have q6 : 57 ≤ 57 + x2.toNat ∧ 57 + x2.toNat < 69 := ⟨Nat.le_add_right _ _, rowB o5 (by decide)⟩
      refine eqR (y := 57 + x2.toNat) (hL.rx (i := 0) rfl (rowC o5 (by decide))) ?_
      refine c_VV0N (M := mX0_take) (pc := 21) (As := [vi x2, vr (57 + x2.toNat)]) dX0_take_21 K_X0_fillCharacter w_1076 ⟨by decide, by decide⟩ (Nat.le_of_ble_eq_true rfl) rfl rfl (ci := 0) rfl rfl (by decide) (okO_of (N := 10) (hL.sh (i := 18) rfl (by decide) (by decide)) (by decide)) (h hL) (fun τ8 h8 => ?_) rfl
      replace hL := h8.1
      replace h := h8.2
      obtain ⟨o9, h⟩ := h
      refine r_iinc (pc := 24) dX0_take_24 rfl (by decide) o9 (l2 := [some (vr 34), some (vr 56), some (vi (x2 + 1))]) rfl ?_
      refine r_goto (pc := 27) (tgt := 2) dX0_take_27 (by decide) ?_
      exact (h hL)
theorem C_X0_take {a0 : Nat} {a1 : Nat} (h : GG E mX0_take 0 [some (vr a0), some (vr a1), none] [] σ 0 0 Q) : CC E mX0_take [vr a0, vr a1] σ Q := CC.of (by decide +kernel) rfl (by decide +kernel) (fun h9 => nomatch h9) (Nat.le_of_ble_eq_true rfl) h
theorem dX2_choose_0 : decode cX2_choose 0 = .ok (.aload_n 0, 1) := by decide +kernel
theorem dX2_choose_1 : decode cX2_choose 1 = .ok (.iconst 0, 1) := by decide +kernel
theorem dX2_choose_2 : decode cX2_choose 2 = .ok (.putfield 9, 3) := by decide +kernel
theorem dX2_choose_5 : decode cX2_choose 5 = .ok (.aload_n 0, 1) := by decide +kernel
theorem dX2_choose_6 : decode cX2_choose 6 = .ok (.iconst 0, 1) := by decide +kernel
theorem dX2_choose_7 : decode cX2_choose 7 = .ok (.putfield 15, 3) := by decide +kernel
theorem dX2_choose_10 : decode cX2_choose 10 = .ok (.iconst 2, 1) := by decide +kernel
theorem dX2_choose_11 : decode cX2_choose 11 = .ok (.iload_n 1, 1) := by decide +kernel
theorem dX2_choose_12 : decode cX2_choose 12 = .ok (.imul, 1) := by decide +kernel
theorem dX2_choose_13 : decode cX2_choose 13 = .ok (.iconst 1, 1) := by decide +kernel
theorem dX2_choose_14 : decode cX2_choose 14 = .ok (.iadd, 1) := by decide +kernel
theorem dX2_choose_15 : decode cX2_choose 15 = .ok (.istore 4, 2) := by decide +kernel
theorem dX2_choose_17 : decode cX2_choose 17 = .ok (.iload 4, 2) := by decide +kernel
theorem dX2_choose_19 : decode cX2_choose 19 = .ok (.sipush 10000, 3) := by decide +kernel
theorem dX2_choose_22 : decode cX2_choose 22 = .ok (.if_icmp .gt 64, 3) := by decide +kernel
theorem dX2_choose_25 : decode cX2_choose 25 = .ok (.aload_n 0, 1) := by decide +kernel
theorem dX2_choose_26 : decode cX2_choose 26 = .ok (.getfield 9, 3) := by decide +kernel
theorem dX2_choose_29 : decode cX2_choose 29 = .ok (.ifCond .ne 57, 3) := by decide +kernel
theorem dX2_choose_32 : decode cX2_choose 32 = .ok (.iload_n 2, 1) := by decide +kernel
theorem dX2_choose_33 : decode cX2_choose 33 = .ok (.ifCond .le 47, 3) := by decide +kernel
theorem dX2_choose_36 : decode cX2_choose 36 = .ok (.iload 4, 2) := by decide +kernel
theorem dX2_choose_38 : decode cX2_choose 38 = .ok (.iconst 1, 1) := by decide +kernel
theorem dX2_choose_39 : decode cX2_choose 39 = .ok (.isub, 1) := by decide +kernel
theorem dX2_choose_40 : decode cX2_choose 40 = .ok (.iload_n 2, 1) := by decide +kernel
theorem dX2_choose_41 : decode cX2_choose 41 = .ok (.irem, 1) := by decide +kernel
theorem dX2_choose_42 : decode cX2_choose 42 = .ok (.ifCond .ne 38, 3) := by decide +kernel
theorem dX2_choose_45 : decode cX2_choose 45 = .ok (.iload 4, 2) := by decide +kernel
theorem dX2_choose_47 : decode cX2_choose 47 = .ok (.invokestatic 18, 3) := by decide +kernel
theorem dX2_choose_50 : decode cX2_choose 50 = .ok (.ifCond .eq 30, 3) := by decide +kernel
theorem dX2_choose_53 : decode cX2_choose 53 = .ok (.aload_n 0, 1) := by decide +kernel
theorem dX2_choose_54 : decode cX2_choose 54 = .ok (.iload 4, 2) := by decide +kernel
theorem dX2_choose_56 : decode cX2_choose 56 = .ok (.iload_n 3, 1) := by decide +kernel
theorem dX2_choose_57 : decode cX2_choose 57 = .ok (.invokestatic 22, 3) := by decide +kernel
theorem dX2_choose_60 : decode cX2_choose 60 = .ok (.putfield 15, 3) := by decide +kernel
theorem dX2_choose_63 : decode cX2_choose 63 = .ok (.aload_n 0, 1) := by decide +kernel
theorem dX2_choose_64 : decode cX2_choose 64 = .ok (.aload_n 0, 1) := by decide +kernel
theorem dX2_choose_65 : decode cX2_choose 65 = .ok (.getfield 15, 3) := by decide +kernel
theorem dX2_choose_68 : decode cX2_choose 68 = .ok (.ifCond .le 8, 3) := by decide +kernel
theorem dX2_choose_71 : decode cX2_choose 71 = .ok (.iload 4, 2) := by decide +kernel
theorem dX2_choose_73 : decode cX2_choose 73 = .ok (.goto 4, 3) := by decide +kernel
theorem dX2_choose_76 : decode cX2_choose 76 = .ok (.iconst 0, 1) := by decide +kernel
theorem dX2_choose_77 : decode cX2_choose 77 = .ok (.putfield 9, 3) := by decide +kernel
theorem dX2_choose_80 : decode cX2_choose 80 = .ok (.iinc 4 1, 3) := by decide +kernel
theorem dX2_choose_83 : decode cX2_choose 83 = .ok (.goto (-66), 3) := by decide +kernel
theorem dX2_choose_86 : decode cX2_choose 86 = .ok (.return_, 1) := by decide +kernel
theorem B_X2_choose_0 {g : Sg} {c t : Nat} (hL : Lay LC g c t σ) {x1 : Int} {x2 : Int} {x3 : Int} (h : ∀ τ1 : Sg, τ1 = sI σ 35 0 0 → ∀ τ2 : Sg, τ2 = sI τ1 35 1 0 → inR (2 * x1) ∧ inR ((2 * x1) + 1) ∧ (Lay LC g c t τ2 → GG E mX2_choose 17 [some (vr 35), none, some (vi x2), some (vi x3), some (vi ((2 * x1) + 1))] [] τ2 rc rs Q)) : GG E mX2_choose 0 [some (vr 35), some (vi x1), some (vi x2), some (vi x3), none] [] σ rc rs Q := by
  refine r_aload_n (pc := 0) dX2_choose_0 rfl rfl ?_
  refine r_iconst (pc := 1) dX2_choose_1 (inRk rfl) ?_
  refine r_putI (pc := 2) dX2_choose_2 (k9 := 0) CL_2 (by decide) (by decide) w_298 rfl rfl (fun h9 => absurd h9 (by decide +kernel)) (okO_of (N := 2) (hL.sh (i := 19) rfl (by decide) (by decide)) (by decide)) ?_
  refine nmS (fun τ1 e1 => ?_)
  replace h := h τ1 e1
  have hL := hL.wI e1 (by decide) (.inl (by decide))
  refine r_aload_n (pc := 5) dX2_choose_5 rfl rfl ?_
  refine r_iconst (pc := 6) dX2_choose_6 (inRk rfl) ?_
  refine r_putI (pc := 7) dX2_choose_7 (k9 := 1) CL_2 (by decide) (by decide) w_301 rfl rfl (fun h9 => absurd h9 (by decide +kernel)) (okO_of (N := 2) (hL.sh (i := 19) rfl (by decide) (by decide)) (by decide)) ?_
  refine nmS (fun τ2 e2 => ?_)
  replace h := h τ2 e2
  have hL := hL.wI e2 (by decide) (.inl (by decide))
  refine r_iconst (pc := 10) dX2_choose_10 (inRk rfl) ?_
  refine r_iload_n (pc := 11) dX2_choose_11 rfl rfl ?_
  obtain ⟨o3, h⟩ := h
  refine r_imul (pc := 12) dX2_choose_12 o3 ?_
  refine r_iconst (pc := 13) dX2_choose_13 (inRk rfl) ?_
  obtain ⟨o4, h⟩ := h
  refine r_iadd (pc := 14) dX2_choose_14 o4 ?_
  refine r_istore (pc := 15) dX2_choose_15 (by decide) (l2 := [some (vr 35), some (vi x1), some (vi x2), some (vi x3), some (vi ((2 * x1) + 1))]) rfl ?_
  exact GG.msk [true, false, true, true, true] (h hL)
theorem B_X2_choose_17 {g : Sg} {c t : Nat} (hL : Lay LC g c t σ) {x2 : Int} {x3 : Int} {x4 : Int} (h : ((10000 < x4 → (Lay LC g c t σ → Q (.inl none) σ)) ∧ (¬ (10000 < x4) → (((gI σ 35 0) ≠ 0 → (Lay LC g c t σ → Q (.inl none) σ)) ∧ ((gI σ 35 0) = 0 → ((x2 ≤ 0 → inR (x4 + 1) ∧ (Lay LC g c t σ → GG E mX2_choose 17 [some (vr 35), none, some (vi x2), some (vi x3), some (vi (x4 + 1))] [] σ rc rs Q)) ∧ (¬ (x2 ≤ 0) → inR (x4 - 1) ∧ x2 ≠ 0 ∧ ((((x4 - 1).tmod x2) ≠ 0 → inR (x4 + 1) ∧ (Lay LC g c t σ → GG E mX2_choose 17 [some (vr 35), none, some (vi x2), some (vi x3), some (vi (x4 + 1))] [] σ rc rs Q)) ∧ (((x4 - 1).tmod x2) = 0 → (Lay LC g c t σ → CC E mX2_isPrime [vi x4] σ (KI (fun r5 τ6 => Lay LC g c t τ6 ∧ (inR r5 → ((r5 = 0 → inR (x4 + 1) ∧ (Lay LC g c t τ6 → GG E mX2_choose 17 [some (vr 35), none, some (vi x2), some (vi x3), some (vi (x4 + 1))] [] τ6 rc rs Q)) ∧ (¬ (r5 = 0) → (Lay LC g c t τ6 → CC E mX2_leastRoot [vi x4, vi x3] τ6 (KI (fun r8 τ9 => Lay LC g c t τ9 ∧ (inR r8 → ∀ τ10 : Sg, τ10 = sI τ9 35 1 r8 → (((gI τ10 35 1) ≤ 0 → ∀ τ11 : Sg, τ11 = sI τ10 35 0 0 → inR (x4 + 1) ∧ (Lay LC g c t τ11 → GG E mX2_choose 17 [some (vr 35), none, some (vi x2), some (vi x3), some (vi (x4 + 1))] [] τ11 rc rs Q)) ∧ (¬ ((gI τ10 35 1) ≤ 0) → ∀ τ13 : Sg, τ13 = sI τ10 35 0 x4 → inR (x4 + 1) ∧ (Lay LC g c t τ13 → GG E mX2_choose 17 [some (vr 35), none, some (vi x2), some (vi x3), some (vi (x4 + 1))] [] τ13 rc rs Q))))) (fun _ _ => False))))))) (fun _ _ => False)))))))))))) : GG E mX2_choose 17 [some (vr 35), none, some (vi x2), some (vi x3), some (vi x4)] [] σ rc rs Q := by
  refine r_iload (pc := 17) dX2_choose_17 rfl ?_
  refine r_sipush (pc := 19) dX2_choose_19 (by decide) ?_
  refine r_icmp_gt (pc := 22) (tgt := 86) dX2_choose_22 (by decide) (fun c9 => ?_) (fun c9 => ?_)
  · replace h := h.1 c9
    exact r_return (pc := 86) dX2_choose_86 (by decide +kernel) rfl (h hL)
  · replace h := h.2 c9
    refine r_aload_n (pc := 25) dX2_choose_25 rfl rfl ?_
    refine r_getI (pc := 26) dX2_choose_26 (k9 := 0) CL_2 (by decide) (by decide) w_298 rfl (okO_of (N := 2) (hL.sh (i := 19) rfl (by decide) (by decide)) (by decide)) (fun _ => ?_)
    refine r_if_ne (pc := 29) (tgt := 86) dX2_choose_29 (by decide) (fun c9 => ?_) (fun c9 => ?_)
    · replace h := h.1 c9
      exact r_return (pc := 86) dX2_choose_86 (by decide +kernel) rfl (h hL)
    · replace h := h.2 c9
      refine r_iload_n (pc := 32) dX2_choose_32 rfl rfl ?_
      refine r_if_le (pc := 33) (tgt := 80) dX2_choose_33 (by decide) (fun c9 => ?_) (fun c9 => ?_)
      · replace h := h.1 c9
        obtain ⟨o1, h⟩ := h
        refine r_iinc (pc := 80) dX2_choose_80 rfl (by decide) o1 (l2 := [some (vr 35), none, some (vi x2), some (vi x3), some (vi (x4 + 1))]) rfl ?_
        refine r_goto (pc := 83) (tgt := 17) dX2_choose_83 (by decide) ?_
        exact (h hL)
      · replace h := h.2 c9
        refine r_iload (pc := 36) dX2_choose_36 rfl ?_
        refine r_iconst (pc := 38) dX2_choose_38 (inRk rfl) ?_
        obtain ⟨o2, h⟩ := h
        refine r_isub (pc := 39) dX2_choose_39 o2 ?_
        refine r_iload_n (pc := 40) dX2_choose_40 rfl rfl ?_
        obtain ⟨o3, h⟩ := h
        refine r_irem (pc := 41) dX2_choose_41 o3 ?_
        refine r_if_ne (pc := 42) (tgt := 80) dX2_choose_42 (by decide) (fun c9 => ?_) (fun c9 => ?_)
        · replace h := h.1 c9
          obtain ⟨o4, h⟩ := h
          refine r_iinc (pc := 80) dX2_choose_80 rfl (by decide) o4 (l2 := [some (vr 35), none, some (vi x2), some (vi x3), some (vi (x4 + 1))]) rfl ?_
          refine r_goto (pc := 83) (tgt := 17) dX2_choose_83 (by decide) ?_
          exact (h hL)
        · replace h := h.2 c9
          refine r_iload (pc := 45) dX2_choose_45 rfl ?_
          refine c_SI0N (M := mX2_choose) (pc := 47) (As := [vi x4]) dX2_choose_47 K_X2_isPrime w_985 ⟨by decide, by decide⟩ (Nat.le_of_ble_eq_true rfl) rfl rfl (h hL) (fun r5 τ6 h8 hr9 => ?_) rfl
          replace hL := h8.1
          replace h := h8.2 hr9
          refine r_if_eq (pc := 50) (tgt := 80) dX2_choose_50 (by decide) (fun c9 => ?_) (fun c9 => ?_)
          · replace h := h.1 c9
            obtain ⟨o7, h⟩ := h
            refine r_iinc (pc := 80) dX2_choose_80 rfl (by decide) o7 (l2 := [some (vr 35), none, some (vi x2), some (vi x3), some (vi (x4 + 1))]) rfl ?_
            refine r_goto (pc := 83) (tgt := 17) dX2_choose_83 (by decide) ?_
            exact (h hL)
          · replace h := h.2 c9
            refine r_aload_n (pc := 53) dX2_choose_53 rfl rfl ?_
            refine r_iload (pc := 54) dX2_choose_54 rfl ?_
            refine r_iload_n (pc := 56) dX2_choose_56 rfl rfl ?_
            refine c_SI0N (M := mX2_choose) (pc := 57) (As := [vi x4, vi x3]) dX2_choose_57 K_X2_leastRoot w_988 ⟨by decide, by decide⟩ (Nat.le_of_ble_eq_true rfl) rfl rfl (h hL) (fun r8 τ9 h8 hr9 => ?_) rfl
            replace hL := h8.1
            replace h := h8.2 hr9
            refine r_putI (pc := 60) dX2_choose_60 (k9 := 1) CL_2 (by decide) (by decide) w_301 rfl rfl (fun h9 => absurd h9 (by decide +kernel)) (okO_of (N := 2) (hL.sh (i := 19) rfl (by decide) (by decide)) (by decide)) ?_
            refine nmS (fun τ10 e10 => ?_)
            replace h := h τ10 e10
            have hL := hL.wI e10 (by decide) (.inl (by decide))
            refine r_aload_n (pc := 63) dX2_choose_63 rfl rfl ?_
            refine r_aload_n (pc := 64) dX2_choose_64 rfl rfl ?_
            refine r_getI (pc := 65) dX2_choose_65 (k9 := 1) CL_2 (by decide) (by decide) w_301 rfl (okO_of (N := 2) (hL.sh (i := 19) rfl (by decide) (by decide)) (by decide)) (fun _ => ?_)
            refine r_if_le (pc := 68) (tgt := 76) dX2_choose_68 (by decide) (fun c9 => ?_) (fun c9 => ?_)
            · replace h := h.1 c9
              refine r_iconst (pc := 76) dX2_choose_76 (inRk rfl) ?_
              refine r_putI (pc := 77) dX2_choose_77 (k9 := 0) CL_2 (by decide) (by decide) w_298 rfl rfl (fun h9 => absurd h9 (by decide +kernel)) (okO_of (N := 2) (hL.sh (i := 19) rfl (by decide) (by decide)) (by decide)) ?_
              refine nmS (fun τ11 e11 => ?_)
              replace h := h τ11 e11
              have hL := hL.wI e11 (by decide) (.inl (by decide))
              obtain ⟨o12, h⟩ := h
              refine r_iinc (pc := 80) dX2_choose_80 rfl (by decide) o12 (l2 := [some (vr 35), none, some (vi x2), some (vi x3), some (vi (x4 + 1))]) rfl ?_
              refine r_goto (pc := 83) (tgt := 17) dX2_choose_83 (by decide) ?_
              exact (h hL)
            · replace h := h.2 c9
              refine r_iload (pc := 71) dX2_choose_71 rfl ?_
              refine r_goto (pc := 73) (tgt := 77) dX2_choose_73 (by decide) ?_
              refine r_putI (pc := 77) dX2_choose_77 (k9 := 0) CL_2 (by decide) (by decide) w_298 rfl rfl (fun h9 => absurd h9 (by decide +kernel)) (okO_of (N := 2) (hL.sh (i := 19) rfl (by decide) (by decide)) (by decide)) ?_
              refine nmS (fun τ13 e13 => ?_)
              replace h := h τ13 e13
              have hL := hL.wI e13 (by decide) (.inl (by decide))
              obtain ⟨o14, h⟩ := h
              refine r_iinc (pc := 80) dX2_choose_80 rfl (by decide) o14 (l2 := [some (vr 35), none, some (vi x2), some (vi x3), some (vi (x4 + 1))]) rfl ?_
              refine r_goto (pc := 83) (tgt := 17) dX2_choose_83 (by decide) ?_
              exact (h hL)
theorem C_X2_choose {a0 : Nat} {x1 : Int} {x2 : Int} {x3 : Int} (h : GG E mX2_choose 0 [some (vr a0), some (vi x1), some (vi x2), some (vi x3), none] [] σ 0 0 Q) : CC E mX2_choose [vr a0, vi x1, vi x2, vi x3] σ Q := CC.of (by decide +kernel) rfl (by decide +kernel) (fun h9 => nomatch h9) (Nat.le_of_ble_eq_true rfl) h
theorem dX2_init_0 : decode cX2_init 0 = .ok (.aload_n 0, 1) := by decide +kernel
theorem dX2_init_1 : decode cX2_init 1 = .ok (.invokespecial 3, 3) := by decide +kernel
theorem dX2_init_4 : decode cX2_init 4 = .ok (.return_, 1) := by decide +kernel
theorem B_X2_init_0 {a0 : Nat} (h : 16 ≤ a0 ∧ Q (.inl none) σ) : GG E mX2_init 0 [some (vr a0)] [] σ rc rs Q := by
  refine r_aload_n (pc := 0) dX2_init_0 rfl rfl ?_
  refine r_objInit (pc := 1) dX2_init_1 w_297 w_129 w_130 (by decide) (Nat.le_of_ble_eq_true rfl) h.1 ?_
  replace h := h.2
  exact r_return (pc := 4) dX2_init_4 (by decide +kernel) rfl h
theorem C_X2_init {a0 : Nat} (h : GG E mX2_init 0 [some (vr a0)] [] σ 0 0 Q) : CC E mX2_init [vr a0] σ Q := CC.of (by decide +kernel) rfl (by decide +kernel) (fun h9 => rfl) (Nat.le_of_ble_eq_true rfl) h
theorem dX2_inverse_0 : decode cX2_inverse 0 = .ok (.iconst 1, 1) := by decide +kernel
theorem dX2_inverse_1 : decode cX2_inverse 1 = .ok (.istore_n 2, 1) := by decide +kernel
theorem dX2_inverse_2 : decode cX2_inverse 2 = .ok (.aload_n 0, 1) := by decide +kernel
theorem dX2_inverse_3 : decode cX2_inverse 3 = .ok (.iload_n 1, 1) := by decide +kernel
theorem dX2_inverse_4 : decode cX2_inverse 4 = .ok (.invokevirtual 26, 3) := by decide +kernel
theorem dX2_inverse_7 : decode cX2_inverse 7 = .ok (.istore_n 3, 1) := by decide +kernel
theorem dX2_inverse_8 : decode cX2_inverse 8 = .ok (.aload_n 0, 1) := by decide +kernel
theorem dX2_inverse_9 : decode cX2_inverse 9 = .ok (.getfield 9, 3) := by decide +kernel
theorem dX2_inverse_12 : decode cX2_inverse 12 = .ok (.iconst 2, 1) := by decide +kernel
theorem dX2_inverse_13 : decode cX2_inverse 13 = .ok (.isub, 1) := by decide +kernel
theorem dX2_inverse_14 : decode cX2_inverse 14 = .ok (.istore 4, 2) := by decide +kernel
theorem dX2_inverse_16 : decode cX2_inverse 16 = .ok (.iload 4, 2) := by decide +kernel
theorem dX2_inverse_18 : decode cX2_inverse 18 = .ok (.ifCond .le 36, 3) := by decide +kernel
theorem dX2_inverse_21 : decode cX2_inverse 21 = .ok (.iload 4, 2) := by decide +kernel
theorem dX2_inverse_23 : decode cX2_inverse 23 = .ok (.iconst 1, 1) := by decide +kernel
theorem dX2_inverse_24 : decode cX2_inverse 24 = .ok (.iand, 1) := by decide +kernel
theorem dX2_inverse_25 : decode cX2_inverse 25 = .ok (.iconst 1, 1) := by decide +kernel
theorem dX2_inverse_26 : decode cX2_inverse 26 = .ok (.if_icmp .ne 11, 3) := by decide +kernel
theorem dX2_inverse_29 : decode cX2_inverse 29 = .ok (.aload_n 0, 1) := by decide +kernel
theorem dX2_inverse_30 : decode cX2_inverse 30 = .ok (.iload_n 2, 1) := by decide +kernel
theorem dX2_inverse_31 : decode cX2_inverse 31 = .ok (.iload_n 3, 1) := by decide +kernel
theorem dX2_inverse_32 : decode cX2_inverse 32 = .ok (.imul, 1) := by decide +kernel
theorem dX2_inverse_33 : decode cX2_inverse 33 = .ok (.invokevirtual 26, 3) := by decide +kernel
theorem dX2_inverse_36 : decode cX2_inverse 36 = .ok (.istore_n 2, 1) := by decide +kernel
theorem dX2_inverse_37 : decode cX2_inverse 37 = .ok (.aload_n 0, 1) := by decide +kernel
theorem dX2_inverse_38 : decode cX2_inverse 38 = .ok (.iload_n 3, 1) := by decide +kernel
theorem dX2_inverse_39 : decode cX2_inverse 39 = .ok (.iload_n 3, 1) := by decide +kernel
theorem dX2_inverse_40 : decode cX2_inverse 40 = .ok (.imul, 1) := by decide +kernel
theorem dX2_inverse_41 : decode cX2_inverse 41 = .ok (.invokevirtual 26, 3) := by decide +kernel
theorem dX2_inverse_44 : decode cX2_inverse 44 = .ok (.istore_n 3, 1) := by decide +kernel
theorem dX2_inverse_45 : decode cX2_inverse 45 = .ok (.iload 4, 2) := by decide +kernel
theorem dX2_inverse_47 : decode cX2_inverse 47 = .ok (.iconst 1, 1) := by decide +kernel
theorem dX2_inverse_48 : decode cX2_inverse 48 = .ok (.ishr, 1) := by decide +kernel
theorem dX2_inverse_49 : decode cX2_inverse 49 = .ok (.istore 4, 2) := by decide +kernel
theorem dX2_inverse_51 : decode cX2_inverse 51 = .ok (.goto (-35), 3) := by decide +kernel
theorem dX2_inverse_54 : decode cX2_inverse 54 = .ok (.iload_n 2, 1) := by decide +kernel
theorem dX2_inverse_55 : decode cX2_inverse 55 = .ok (.ireturn, 1) := by decide +kernel
theorem B_X2_inverse_0 {g : Sg} {c t : Nat} (hL : Lay LC g c t σ) {x1 : Int} (h : (Lay LC g c t σ → CC E mX2_mod [vr 35, vi x1] σ (KI (fun r1 τ2 => Lay LC g c t τ2 ∧ (inR r1 → inR ((gI τ2 35 0) - 2) ∧ (Lay LC g c t τ2 → GG E mX2_inverse 16 [some (vr 35), none, some (vi 1), some (vi r1), some (vi ((gI τ2 35 0) - 2))] [] τ2 rc rs Q))) (fun _ _ => False)))) : GG E mX2_inverse 0 [some (vr 35), some (vi x1), none, none, none] [] σ rc rs Q := by
  refine r_iconst (pc := 0) dX2_inverse_0 (inRk rfl) ?_
  refine r_istore_n (pc := 1) dX2_inverse_1 rfl (by decide) (l2 := [some (vr 35), some (vi x1), some (vi 1), none, none]) rfl ?_
  refine r_aload_n (pc := 2) dX2_inverse_2 rfl rfl ?_
  refine r_iload_n (pc := 3) dX2_inverse_3 rfl rfl ?_
  refine c_VI0N (M := mX2_inverse) (pc := 4) (As := [vi x1]) dX2_inverse_4 K_X2_mod w_996 ⟨by decide, by decide⟩ (Nat.le_of_ble_eq_true rfl) rfl rfl (ci := 2) rfl rfl (by decide) (okO_of (N := 2) (hL.sh (i := 19) rfl (by decide) (by decide)) (by decide)) (h hL) (fun r1 τ2 h8 hr9 => ?_) rfl
  replace hL := h8.1
  replace h := h8.2 hr9
  refine r_istore_n (pc := 7) dX2_inverse_7 rfl (by decide) (l2 := [some (vr 35), some (vi x1), some (vi 1), some (vi r1), none]) rfl ?_
  refine r_aload_n (pc := 8) dX2_inverse_8 rfl rfl ?_
  refine r_getI (pc := 9) dX2_inverse_9 (k9 := 0) CL_2 (by decide) (by decide) w_298 rfl (okO_of (N := 2) (hL.sh (i := 19) rfl (by decide) (by decide)) (by decide)) (fun _ => ?_)
  refine r_iconst (pc := 12) dX2_inverse_12 (inRk rfl) ?_
  obtain ⟨o3, h⟩ := h
  refine r_isub (pc := 13) dX2_inverse_13 o3 ?_
  refine r_istore (pc := 14) dX2_inverse_14 (by decide) (l2 := [some (vr 35), some (vi x1), some (vi 1), some (vi r1), some (vi ((gI τ2 35 0) - 2))]) rfl ?_
  exact GG.msk [true, false, true, true, true] (h hL)
theorem B_X2_inverse_16 {g : Sg} {c t : Nat} (hL : Lay LC g c t σ) {x2 : Int} {x3 : Int} {x4 : Int} (h : ((x4 ≤ 0 → (Lay LC g c t σ → Q (.inl (some (vi x2))) σ)) ∧ (¬ (x4 ≤ 0) → (((b_iandq x4 1) ≠ 1 → inR (x3 * x3) ∧ (Lay LC g c t σ → CC E mX2_mod [vr 35, vi (x3 * x3)] σ (KI (fun r2 τ3 => Lay LC g c t τ3 ∧ (inR r2 → (Lay LC g c t τ3 → GG E mX2_inverse 16 [some (vr 35), none, some (vi x2), some (vi r2), some (vi (b_ishrq x4 1))] [] τ3 rc rs Q))) (fun _ _ => False)))) ∧ ((b_iandq x4 1) = 1 → inR (x2 * x3) ∧ (Lay LC g c t σ → CC E mX2_mod [vr 35, vi (x2 * x3)] σ (KI (fun r5 τ6 => Lay LC g c t τ6 ∧ (inR r5 → inR (x3 * x3) ∧ (Lay LC g c t τ6 → CC E mX2_mod [vr 35, vi (x3 * x3)] τ6 (KI (fun r8 τ9 => Lay LC g c t τ9 ∧ (inR r8 → (Lay LC g c t τ9 → GG E mX2_inverse 16 [some (vr 35), none, some (vi r5), some (vi r8), some (vi (b_ishrq x4 1))] [] τ9 rc rs Q))) (fun _ _ => False))))) (fun _ _ => False)))))))) : GG E mX2_inverse 16 [some (vr 35), none, some (vi x2), some (vi x3), some (vi x4)] [] σ rc rs Q := by
  refine r_iload (pc := 16) dX2_inverse_16 rfl ?_
  refine r_if_le (pc := 18) (tgt := 54) dX2_inverse_18 (by decide) (fun c9 => ?_) (fun c9 => ?_)
  · replace h := h.1 c9
    refine r_iload_n (pc := 54) dX2_inverse_54 rfl rfl ?_
    exact r_ireturn (pc := 55) (ty := .int) dX2_inverse_55 (by decide +kernel) rfl (nar_i _) (h hL)
  · replace h := h.2 c9
    refine r_iload (pc := 21) dX2_inverse_21 rfl ?_
    refine r_iconst (pc := 23) dX2_inverse_23 (inRk rfl) ?_
    refine r_iand (pc := 24) dX2_inverse_24 ?_
    refine r_iconst (pc := 25) dX2_inverse_25 (inRk rfl) ?_
    refine r_icmp_ne (pc := 26) (tgt := 37) dX2_inverse_26 (by decide) (fun c9 => ?_) (fun c9 => ?_)
    · replace h := h.1 c9
      refine r_aload_n (pc := 37) dX2_inverse_37 rfl rfl ?_
      refine r_iload_n (pc := 38) dX2_inverse_38 rfl rfl ?_
      refine r_iload_n (pc := 39) dX2_inverse_39 rfl rfl ?_
      obtain ⟨o1, h⟩ := h
      refine r_imul (pc := 40) dX2_inverse_40 o1 ?_
      refine c_VI0N (M := mX2_inverse) (pc := 41) (As := [vi (x3 * x3)]) dX2_inverse_41 K_X2_mod w_996 ⟨by decide, by decide⟩ (Nat.le_of_ble_eq_true rfl) rfl rfl (ci := 2) rfl rfl (by decide) (okO_of (N := 2) (hL.sh (i := 19) rfl (by decide) (by decide)) (by decide)) (h hL) (fun r2 τ3 h8 hr9 => ?_) rfl
      replace hL := h8.1
      replace h := h8.2 hr9
      refine r_istore_n (pc := 44) dX2_inverse_44 rfl (by decide) (l2 := [some (vr 35), none, some (vi x2), some (vi r2), some (vi x4)]) rfl ?_
      refine r_iload (pc := 45) dX2_inverse_45 rfl ?_
      refine r_iconst (pc := 47) dX2_inverse_47 (inRk rfl) ?_
      refine r_ishr (pc := 48) dX2_inverse_48 ?_
      refine r_istore (pc := 49) dX2_inverse_49 (by decide) (l2 := [some (vr 35), none, some (vi x2), some (vi r2), some (vi (b_ishrq x4 1))]) rfl ?_
      refine r_goto (pc := 51) (tgt := 16) dX2_inverse_51 (by decide) ?_
      exact (h hL)
    · replace h := h.2 c9
      refine r_aload_n (pc := 29) dX2_inverse_29 rfl rfl ?_
      refine r_iload_n (pc := 30) dX2_inverse_30 rfl rfl ?_
      refine r_iload_n (pc := 31) dX2_inverse_31 rfl rfl ?_
      obtain ⟨o4, h⟩ := h
      refine r_imul (pc := 32) dX2_inverse_32 o4 ?_
      refine c_VI0N (M := mX2_inverse) (pc := 33) (As := [vi (x2 * x3)]) dX2_inverse_33 K_X2_mod w_996 ⟨by decide, by decide⟩ (Nat.le_of_ble_eq_true rfl) rfl rfl (ci := 2) rfl rfl (by decide) (okO_of (N := 2) (hL.sh (i := 19) rfl (by decide) (by decide)) (by decide)) (h hL) (fun r5 τ6 h8 hr9 => ?_) rfl
      replace hL := h8.1
      replace h := h8.2 hr9
      refine r_istore_n (pc := 36) dX2_inverse_36 rfl (by decide) (l2 := [some (vr 35), none, some (vi r5), some (vi x3), some (vi x4)]) rfl ?_
      refine r_aload_n (pc := 37) dX2_inverse_37 rfl rfl ?_
      refine r_iload_n (pc := 38) dX2_inverse_38 rfl rfl ?_
      refine r_iload_n (pc := 39) dX2_inverse_39 rfl rfl ?_
      obtain ⟨o7, h⟩ := h
      refine r_imul (pc := 40) dX2_inverse_40 o7 ?_
      refine c_VI0N (M := mX2_inverse) (pc := 41) (As := [vi (x3 * x3)]) dX2_inverse_41 K_X2_mod w_996 ⟨by decide, by decide⟩ (Nat.le_of_ble_eq_true rfl) rfl rfl (ci := 2) rfl rfl (by decide) (okO_of (N := 2) (hL.sh (i := 19) rfl (by decide) (by decide)) (by decide)) (h hL) (fun r8 τ9 h8 hr9 => ?_) rfl
      replace hL := h8.1
      replace h := h8.2 hr9
      refine r_istore_n (pc := 44) dX2_inverse_44 rfl (by decide) (l2 := [some (vr 35), none, some (vi r5), some (vi r8), some (vi x4)]) rfl ?_
      refine r_iload (pc := 45) dX2_inverse_45 rfl ?_
      refine r_iconst (pc := 47) dX2_inverse_47 (inRk rfl) ?_
      refine r_ishr (pc := 48) dX2_inverse_48 ?_
      refine r_istore (pc := 49) dX2_inverse_49 (by decide) (l2 := [some (vr 35), none, some (vi r5), some (vi r8), some (vi (b_ishrq x4 1))]) rfl ?_
      refine r_goto (pc := 51) (tgt := 16) dX2_inverse_51 (by decide) ?_
      exact (h hL)
theorem C_X2_inverse {a0 : Nat} {x1 : Int} (h : GG E mX2_inverse 0 [some (vr a0), some (vi x1), none, none, none] [] σ 0 0 Q) : CC E mX2_inverse [vr a0, vi x1] σ Q := CC.of (by decide +kernel) rfl (by decide +kernel) (fun h9 => nomatch h9) (Nat.le_of_ble_eq_true rfl) h
theorem dX2_isPrime_0 : decode cX2_isPrime 0 = .ok (.iconst 2, 1) := by decide +kernel
theorem dX2_isPrime_1 : decode cX2_isPrime 1 = .ok (.istore_n 1, 1) := by decide +kernel
theorem dX2_isPrime_2 : decode cX2_isPrime 2 = .ok (.iload_n 1, 1) := by decide +kernel
theorem dX2_isPrime_3 : decode cX2_isPrime 3 = .ok (.iload_n 1, 1) := by decide +kernel
theorem dX2_isPrime_4 : decode cX2_isPrime 4 = .ok (.imul, 1) := by decide +kernel
theorem dX2_isPrime_5 : decode cX2_isPrime 5 = .ok (.iload_n 0, 1) := by decide +kernel
theorem dX2_isPrime_6 : decode cX2_isPrime 6 = .ok (.if_icmp .gt 17, 3) := by decide +kernel
theorem dX2_isPrime_9 : decode cX2_isPrime 9 = .ok (.iload_n 0, 1) := by decide +kernel
theorem dX2_isPrime_10 : decode cX2_isPrime 10 = .ok (.iload_n 1, 1) := by decide +kernel
theorem dX2_isPrime_11 : decode cX2_isPrime 11 = .ok (.irem, 1) := by decide +kernel
theorem dX2_isPrime_12 : decode cX2_isPrime 12 = .ok (.ifCond .ne 5, 3) := by decide +kernel
theorem dX2_isPrime_15 : decode cX2_isPrime 15 = .ok (.iconst 0, 1) := by decide +kernel
theorem dX2_isPrime_16 : decode cX2_isPrime 16 = .ok (.ireturn, 1) := by decide +kernel
theorem dX2_isPrime_17 : decode cX2_isPrime 17 = .ok (.iinc 1 1, 3) := by decide +kernel
theorem dX2_isPrime_20 : decode cX2_isPrime 20 = .ok (.goto (-18), 3) := by decide +kernel
theorem dX2_isPrime_23 : decode cX2_isPrime 23 = .ok (.iload_n 0, 1) := by decide +kernel
theorem dX2_isPrime_24 : decode cX2_isPrime 24 = .ok (.iconst 1, 1) := by decide +kernel
theorem dX2_isPrime_25 : decode cX2_isPrime 25 = .ok (.if_icmp .le 7, 3) := by decide +kernel
theorem dX2_isPrime_28 : decode cX2_isPrime 28 = .ok (.iconst 1, 1) := by decide +kernel
theorem dX2_isPrime_29 : decode cX2_isPrime 29 = .ok (.goto 4, 3) := by decide +kernel
theorem dX2_isPrime_32 : decode cX2_isPrime 32 = .ok (.iconst 0, 1) := by decide +kernel
theorem dX2_isPrime_33 : decode cX2_isPrime 33 = .ok (.ireturn, 1) := by decide +kernel
theorem B_X2_isPrime_0 {x0 : Int} (h : GG E mX2_isPrime 2 [some (vi x0), some (vi 2)] [] σ rc rs Q) : GG E mX2_isPrime 0 [some (vi x0), none] [] σ rc rs Q := by
  refine r_iconst (pc := 0) dX2_isPrime_0 (inRk rfl) ?_
  refine r_istore_n (pc := 1) dX2_isPrime_1 rfl (by decide) (l2 := [some (vi x0), some (vi 2)]) rfl ?_
  exact h
theorem B_X2_isPrime_2 {x0 : Int} {x1 : Int} (h : inR (x1 * x1) ∧ ((x0 < (x1 * x1) → ((x0 ≤ 1 → Q (.inl (some (vi 0))) σ) ∧ (¬ (x0 ≤ 1) → Q (.inl (some (vi 1))) σ))) ∧ (¬ (x0 < (x1 * x1)) → x1 ≠ 0 ∧ (((x0.tmod x1) ≠ 0 → inR (x1 + 1) ∧ GG E mX2_isPrime 2 [some (vi x0), some (vi (x1 + 1))] [] σ rc rs Q) ∧ ((x0.tmod x1) = 0 → Q (.inl (some (vi 0))) σ))))) : GG E mX2_isPrime 2 [some (vi x0), some (vi x1)] [] σ rc rs Q := by
  refine r_iload_n (pc := 2) dX2_isPrime_2 rfl rfl ?_
  refine r_iload_n (pc := 3) dX2_isPrime_3 rfl rfl ?_
  obtain ⟨o1, h⟩ := h
  refine r_imul (pc := 4) dX2_isPrime_4 o1 ?_
  refine r_iload_n (pc := 5) dX2_isPrime_5 rfl rfl ?_
  refine r_icmp_gt (pc := 6) (tgt := 23) dX2_isPrime_6 (by decide) (fun c9 => ?_) (fun c9 => ?_)
  · replace h := h.1 c9
    refine r_iload_n (pc := 23) dX2_isPrime_23 rfl rfl ?_
    refine r_iconst (pc := 24) dX2_isPrime_24 (inRk rfl) ?_
    refine r_icmp_le (pc := 25) (tgt := 32) dX2_isPrime_25 (by decide) (fun c9 => ?_) (fun c9 => ?_)
    · replace h := h.1 c9
      refine r_iconst (pc := 32) dX2_isPrime_32 (inRk rfl) ?_
      exact r_ireturn (pc := 33) (ty := .boolean) dX2_isPrime_33 (by decide +kernel) rfl (nar_bool (by decide)) h
    · replace h := h.2 c9
      refine r_iconst (pc := 28) dX2_isPrime_28 (inRk rfl) ?_
      refine r_goto (pc := 29) (tgt := 33) dX2_isPrime_29 (by decide) ?_
      exact r_ireturn (pc := 33) (ty := .boolean) dX2_isPrime_33 (by decide +kernel) rfl (nar_bool (by decide)) h
  · replace h := h.2 c9
    refine r_iload_n (pc := 9) dX2_isPrime_9 rfl rfl ?_
    refine r_iload_n (pc := 10) dX2_isPrime_10 rfl rfl ?_
    obtain ⟨o2, h⟩ := h
    refine r_irem (pc := 11) dX2_isPrime_11 o2 ?_
    refine r_if_ne (pc := 12) (tgt := 17) dX2_isPrime_12 (by decide) (fun c9 => ?_) (fun c9 => ?_)
    · replace h := h.1 c9
      obtain ⟨o3, h⟩ := h
      refine r_iinc (pc := 17) dX2_isPrime_17 rfl (by decide) o3 (l2 := [some (vi x0), some (vi (x1 + 1))]) rfl ?_
      refine r_goto (pc := 20) (tgt := 2) dX2_isPrime_20 (by decide) ?_
      exact h
    · replace h := h.2 c9
      refine r_iconst (pc := 15) dX2_isPrime_15 (inRk rfl) ?_
      exact r_ireturn (pc := 16) (ty := .boolean) dX2_isPrime_16 (by decide +kernel) rfl (nar_bool (by decide)) h
theorem C_X2_isPrime {x0 : Int} (h : GG E mX2_isPrime 0 [some (vi x0), none] [] σ 0 0 Q) : CC E mX2_isPrime [vi x0] σ Q := CC.of (by decide +kernel) rfl (by decide +kernel) (fun h9 => nomatch h9) (Nat.le_of_ble_eq_true rfl) h
theorem dX2_leastRoot_0 : decode cX2_leastRoot 0 = .ok (.iconst 1, 1) := by decide +kernel
theorem dX2_leastRoot_1 : decode cX2_leastRoot 1 = .ok (.istore_n 2, 1) := by decide +kernel
theorem dX2_leastRoot_2 : decode cX2_leastRoot 2 = .ok (.iload_n 2, 1) := by decide +kernel
theorem dX2_leastRoot_3 : decode cX2_leastRoot 3 = .ok (.iload_n 0, 1) := by decide +kernel
theorem dX2_leastRoot_4 : decode cX2_leastRoot 4 = .ok (.if_icmp .ge 22, 3) := by decide +kernel
theorem dX2_leastRoot_7 : decode cX2_leastRoot 7 = .ok (.iload_n 2, 1) := by decide +kernel
theorem dX2_leastRoot_8 : decode cX2_leastRoot 8 = .ok (.iload_n 2, 1) := by decide +kernel
theorem dX2_leastRoot_9 : decode cX2_leastRoot 9 = .ok (.imul, 1) := by decide +kernel
theorem dX2_leastRoot_10 : decode cX2_leastRoot 10 = .ok (.iload_n 0, 1) := by decide +kernel
theorem dX2_leastRoot_11 : decode cX2_leastRoot 11 = .ok (.irem, 1) := by decide +kernel
theorem dX2_leastRoot_12 : decode cX2_leastRoot 12 = .ok (.iload_n 1, 1) := by decide +kernel
theorem dX2_leastRoot_13 : decode cX2_leastRoot 13 = .ok (.iload_n 0, 1) := by decide +kernel
theorem dX2_leastRoot_14 : decode cX2_leastRoot 14 = .ok (.irem, 1) := by decide +kernel
theorem dX2_leastRoot_15 : decode cX2_leastRoot 15 = .ok (.if_icmp .ne 5, 3) := by decide +kernel
theorem dX2_leastRoot_18 : decode cX2_leastRoot 18 = .ok (.iload_n 2, 1) := by decide +kernel
theorem dX2_leastRoot_19 : decode cX2_leastRoot 19 = .ok (.ireturn, 1) := by decide +kernel
theorem dX2_leastRoot_20 : decode cX2_leastRoot 20 = .ok (.iinc 2 1, 3) := by decide +kernel
theorem dX2_leastRoot_23 : decode cX2_leastRoot 23 = .ok (.goto (-21), 3) := by decide +kernel
theorem dX2_leastRoot_26 : decode cX2_leastRoot 26 = .ok (.iconst 0, 1) := by decide +kernel
theorem dX2_leastRoot_27 : decode cX2_leastRoot 27 = .ok (.ireturn, 1) := by decide +kernel
theorem B_X2_leastRoot_0 {x0 : Int} {x1 : Int} (h : GG E mX2_leastRoot 2 [some (vi x0), some (vi x1), some (vi 1)] [] σ rc rs Q) : GG E mX2_leastRoot 0 [some (vi x0), some (vi x1), none] [] σ rc rs Q := by
  refine r_iconst (pc := 0) dX2_leastRoot_0 (inRk rfl) ?_
  refine r_istore_n (pc := 1) dX2_leastRoot_1 rfl (by decide) (l2 := [some (vi x0), some (vi x1), some (vi 1)]) rfl ?_
  exact h
theorem B_X2_leastRoot_2 {x0 : Int} {x1 : Int} {x2 : Int} (h : ((x0 ≤ x2 → Q (.inl (some (vi 0))) σ) ∧ (¬ (x0 ≤ x2) → inR (x2 * x2) ∧ x0 ≠ 0 ∧ ((((x2 * x2).tmod x0) ≠ (x1.tmod x0) → inR (x2 + 1) ∧ GG E mX2_leastRoot 2 [some (vi x0), some (vi x1), some (vi (x2 + 1))] [] σ rc rs Q) ∧ (((x2 * x2).tmod x0) = (x1.tmod x0) → Q (.inl (some (vi x2))) σ))))) : GG E mX2_leastRoot 2 [some (vi x0), some (vi x1), some (vi x2)] [] σ rc rs Q := by
  refine r_iload_n (pc := 2) dX2_leastRoot_2 rfl rfl ?_
  refine r_iload_n (pc := 3) dX2_leastRoot_3 rfl rfl ?_
  refine r_icmp_ge (pc := 4) (tgt := 26) dX2_leastRoot_4 (by decide) (fun c9 => ?_) (fun c9 => ?_)
  · replace h := h.1 c9
    refine r_iconst (pc := 26) dX2_leastRoot_26 (inRk rfl) ?_
    exact r_ireturn (pc := 27) (ty := .int) dX2_leastRoot_27 (by decide +kernel) rfl (nar_i _) h
  · replace h := h.2 c9
    refine r_iload_n (pc := 7) dX2_leastRoot_7 rfl rfl ?_
    refine r_iload_n (pc := 8) dX2_leastRoot_8 rfl rfl ?_
    obtain ⟨o1, h⟩ := h
    refine r_imul (pc := 9) dX2_leastRoot_9 o1 ?_
    refine r_iload_n (pc := 10) dX2_leastRoot_10 rfl rfl ?_
    obtain ⟨o2, h⟩ := h
    refine r_irem (pc := 11) dX2_leastRoot_11 o2 ?_
    refine r_iload_n (pc := 12) dX2_leastRoot_12 rfl rfl ?_
    refine r_iload_n (pc := 13) dX2_leastRoot_13 rfl rfl ?_
    refine r_irem (pc := 14) dX2_leastRoot_14 o2 ?_
    refine r_icmp_ne (pc := 15) (tgt := 20) dX2_leastRoot_15 (by decide) (fun c9 => ?_) (fun c9 => ?_)
    · replace h := h.1 c9
      obtain ⟨o3, h⟩ := h
      refine r_iinc (pc := 20) dX2_leastRoot_20 rfl (by decide) o3 (l2 := [some (vi x0), some (vi x1), some (vi (x2 + 1))]) rfl ?_
      refine r_goto (pc := 23) (tgt := 2) dX2_leastRoot_23 (by decide) ?_
      exact h
    · replace h := h.2 c9
      refine r_iload_n (pc := 18) dX2_leastRoot_18 rfl rfl ?_
      exact r_ireturn (pc := 19) (ty := .int) dX2_leastRoot_19 (by decide +kernel) rfl (nar_i _) h
theorem C_X2_leastRoot {x0 : Int} {x1 : Int} (h : GG E mX2_leastRoot 0 [some (vi x0), some (vi x1), none] [] σ 0 0 Q) : CC E mX2_leastRoot [vi x0, vi x1] σ Q := CC.of (by decide +kernel) rfl (by decide +kernel) (fun h9 => nomatch h9) (Nat.le_of_ble_eq_true rfl) h
theorem dX2_mod_0 : decode cX2_mod 0 = .ok (.aload_n 0, 1) := by decide +kernel
theorem dX2_mod_1 : decode cX2_mod 1 = .ok (.getfield 9, 3) := by decide +kernel
theorem dX2_mod_4 : decode cX2_mod 4 = .ok (.iconst 1, 1) := by decide +kernel
theorem dX2_mod_5 : decode cX2_mod 5 = .ok (.if_icmp .ge 5, 3) := by decide +kernel
theorem dX2_mod_8 : decode cX2_mod 8 = .ok (.iconst 0, 1) := by decide +kernel
theorem dX2_mod_9 : decode cX2_mod 9 = .ok (.ireturn, 1) := by decide +kernel
theorem dX2_mod_10 : decode cX2_mod 10 = .ok (.iload_n 1, 1) := by decide +kernel
theorem dX2_mod_11 : decode cX2_mod 11 = .ok (.aload_n 0, 1) := by decide +kernel
theorem dX2_mod_12 : decode cX2_mod 12 = .ok (.getfield 9, 3) := by decide +kernel
theorem dX2_mod_15 : decode cX2_mod 15 = .ok (.irem, 1) := by decide +kernel
theorem dX2_mod_16 : decode cX2_mod 16 = .ok (.istore_n 2, 1) := by decide +kernel
theorem dX2_mod_17 : decode cX2_mod 17 = .ok (.iload_n 2, 1) := by decide +kernel
theorem dX2_mod_18 : decode cX2_mod 18 = .ok (.ifCond .ge 12, 3) := by decide +kernel
theorem dX2_mod_21 : decode cX2_mod 21 = .ok (.iload_n 2, 1) := by decide +kernel
theorem dX2_mod_22 : decode cX2_mod 22 = .ok (.aload_n 0, 1) := by decide +kernel
theorem dX2_mod_23 : decode cX2_mod 23 = .ok (.getfield 9, 3) := by decide +kernel
theorem dX2_mod_26 : decode cX2_mod 26 = .ok (.iadd, 1) := by decide +kernel
theorem dX2_mod_27 : decode cX2_mod 27 = .ok (.goto 4, 3) := by decide +kernel
theorem dX2_mod_30 : decode cX2_mod 30 = .ok (.iload_n 2, 1) := by decide +kernel
theorem dX2_mod_31 : decode cX2_mod 31 = .ok (.ireturn, 1) := by decide +kernel
theorem B_X2_mod_0 {g : Sg} {c t : Nat} (hL : Lay LC g c t σ) {x1 : Int} (h : ((1 ≤ (gI σ 35 0) → (gI σ 35 0) ≠ 0 ∧ ((0 ≤ (x1.tmod (gI σ 35 0)) → (Lay LC g c t σ → Q (.inl (some (vi (x1.tmod (gI σ 35 0))))) σ)) ∧ (¬ (0 ≤ (x1.tmod (gI σ 35 0))) → inR ((x1.tmod (gI σ 35 0)) + (gI σ 35 0)) ∧ (Lay LC g c t σ → Q (.inl (some (vi ((x1.tmod (gI σ 35 0)) + (gI σ 35 0))))) σ)))) ∧ (¬ (1 ≤ (gI σ 35 0)) → (Lay LC g c t σ → Q (.inl (some (vi 0))) σ)))) : GG E mX2_mod 0 [some (vr 35), some (vi x1), none] [] σ rc rs Q := by
  refine r_aload_n (pc := 0) dX2_mod_0 rfl rfl ?_
  refine r_getI (pc := 1) dX2_mod_1 (k9 := 0) CL_2 (by decide) (by decide) w_298 rfl (okO_of (N := 2) (hL.sh (i := 19) rfl (by decide) (by decide)) (by decide)) (fun _ => ?_)
  refine r_iconst (pc := 4) dX2_mod_4 (inRk rfl) ?_
  refine r_icmp_ge (pc := 5) (tgt := 10) dX2_mod_5 (by decide) (fun c9 => ?_) (fun c9 => ?_)
  · replace h := h.1 c9
    refine r_iload_n (pc := 10) dX2_mod_10 rfl rfl ?_
    refine r_aload_n (pc := 11) dX2_mod_11 rfl rfl ?_
    refine r_getI (pc := 12) dX2_mod_12 (k9 := 0) CL_2 (by decide) (by decide) w_298 rfl (okO_of (N := 2) (hL.sh (i := 19) rfl (by decide) (by decide)) (by decide)) (fun _ => ?_)
    obtain ⟨o1, h⟩ := h
    refine r_irem (pc := 15) dX2_mod_15 o1 ?_
    refine r_istore_n (pc := 16) dX2_mod_16 rfl (by decide) (l2 := [some (vr 35), some (vi x1), some (vi (x1.tmod (gI σ 35 0)))]) rfl ?_
    refine r_iload_n (pc := 17) dX2_mod_17 rfl rfl ?_
    refine r_if_ge (pc := 18) (tgt := 30) dX2_mod_18 (by decide) (fun c9 => ?_) (fun c9 => ?_)
    · replace h := h.1 c9
      refine r_iload_n (pc := 30) dX2_mod_30 rfl rfl ?_
      exact r_ireturn (pc := 31) (ty := .int) dX2_mod_31 (by decide +kernel) rfl (nar_i _) (h hL)
    · replace h := h.2 c9
      refine r_iload_n (pc := 21) dX2_mod_21 rfl rfl ?_
      refine r_aload_n (pc := 22) dX2_mod_22 rfl rfl ?_
      refine r_getI (pc := 23) dX2_mod_23 (k9 := 0) CL_2 (by decide) (by decide) w_298 rfl (okO_of (N := 2) (hL.sh (i := 19) rfl (by decide) (by decide)) (by decide)) (fun _ => ?_)
      obtain ⟨o2, h⟩ := h
      refine r_iadd (pc := 26) dX2_mod_26 o2 ?_
      refine r_goto (pc := 27) (tgt := 31) dX2_mod_27 (by decide) ?_
      exact r_ireturn (pc := 31) (ty := .int) dX2_mod_31 (by decide +kernel) rfl (nar_i _) (h hL)
  · replace h := h.2 c9
    refine r_iconst (pc := 8) dX2_mod_8 (inRk rfl) ?_
    exact r_ireturn (pc := 9) (ty := .int) dX2_mod_9 (by decide +kernel) rfl (nar_i _) (h hL)
theorem C_X2_mod {a0 : Nat} {x1 : Int} (h : GG E mX2_mod 0 [some (vr a0), some (vi x1), none] [] σ 0 0 Q) : CC E mX2_mod [vr a0, vi x1] σ Q := CC.of (by decide +kernel) rfl (by decide +kernel) (fun h9 => nomatch h9) (Nat.le_of_ble_eq_true rfl) h
theorem dX2_times_0 : decode cX2_times 0 = .ok (.aload_n 0, 1) := by decide +kernel
theorem dX2_times_1 : decode cX2_times 1 = .ok (.iload_n 1, 1) := by decide +kernel
theorem dX2_times_2 : decode cX2_times 2 = .ok (.iload_n 2, 1) := by decide +kernel
theorem dX2_times_3 : decode cX2_times 3 = .ok (.imul, 1) := by decide +kernel
theorem dX2_times_4 : decode cX2_times 4 = .ok (.invokevirtual 26, 3) := by decide +kernel
theorem dX2_times_7 : decode cX2_times 7 = .ok (.ireturn, 1) := by decide +kernel
theorem B_X2_times_0 {g : Sg} {c t : Nat} (hL : Lay LC g c t σ) {x1 : Int} {x2 : Int} (h : inR (x1 * x2) ∧ (Lay LC g c t σ → CC E mX2_mod [vr 35, vi (x1 * x2)] σ (KI (fun r2 τ3 => Lay LC g c t τ3 ∧ (inR r2 → (Lay LC g c t τ3 → Q (.inl (some (vi r2))) τ3))) (fun _ _ => False)))) : GG E mX2_times 0 [some (vr 35), some (vi x1), some (vi x2)] [] σ rc rs Q := by
  refine r_aload_n (pc := 0) dX2_times_0 rfl rfl ?_
  refine r_iload_n (pc := 1) dX2_times_1 rfl rfl ?_
  refine r_iload_n (pc := 2) dX2_times_2 rfl rfl ?_
  obtain ⟨o1, h⟩ := h
  refine r_imul (pc := 3) dX2_times_3 o1 ?_
  refine c_VI0N (M := mX2_times) (pc := 4) (As := [vi (x1 * x2)]) dX2_times_4 K_X2_mod w_996 ⟨by decide, by decide⟩ (Nat.le_of_ble_eq_true rfl) rfl rfl (ci := 2) rfl rfl (by decide) (okO_of (N := 2) (hL.sh (i := 19) rfl (by decide) (by decide)) (by decide)) (h hL) (fun r2 τ3 h8 hr9 => ?_) rfl
  replace hL := h8.1
  replace h := h8.2 hr9
  exact r_ireturn (pc := 7) (ty := .int) dX2_times_7 (by decide +kernel) rfl (nar_i _) (h hL)
theorem C_X2_times {a0 : Nat} {x1 : Int} {x2 : Int} (h : GG E mX2_times 0 [some (vr a0), some (vi x1), some (vi x2)] [] σ 0 0 Q) : CC E mX2_times [vr a0, vi x1, vi x2] σ Q := CC.of (by decide +kernel) rfl (by decide +kernel) (fun h9 => nomatch h9) (Nat.le_of_ble_eq_true rfl) h
theorem dX3_build_0 : decode cX3_build 0 = .ok (.aload_n 0, 1) := by decide +kernel
theorem dX3_build_1 : decode cX3_build 1 = .ok (.aload_n 1, 1) := by decide +kernel
theorem dX3_build_2 : decode cX3_build 2 = .ok (.getfield 19, 3) := by decide +kernel
theorem dX3_build_5 : decode cX3_build 5 = .ok (.putfield 25, 3) := by decide +kernel
theorem dX3_build_8 : decode cX3_build 8 = .ok (.iconst 0, 1) := by decide +kernel
theorem dX3_build_9 : decode cX3_build 9 = .ok (.istore_n 2, 1) := by decide +kernel
theorem dX3_build_10 : decode cX3_build 10 = .ok (.iload_n 2, 1) := by decide +kernel
theorem dX3_build_11 : decode cX3_build 11 = .ok (.aload_n 0, 1) := by decide +kernel
theorem dX3_build_12 : decode cX3_build 12 = .ok (.getfield 25, 3) := by decide +kernel
theorem dX3_build_15 : decode cX3_build 15 = .ok (.if_icmp .ge 81, 3) := by decide +kernel
theorem dX3_build_18 : decode cX3_build 18 = .ok (.iconst 0, 1) := by decide +kernel
theorem dX3_build_19 : decode cX3_build 19 = .ok (.istore_n 3, 1) := by decide +kernel
theorem dX3_build_20 : decode cX3_build 20 = .ok (.iload_n 3, 1) := by decide +kernel
theorem dX3_build_21 : decode cX3_build 21 = .ok (.aload_n 0, 1) := by decide +kernel
theorem dX3_build_22 : decode cX3_build 22 = .ok (.getfield 25, 3) := by decide +kernel
theorem dX3_build_25 : decode cX3_build 25 = .ok (.if_icmp .ge 65, 3) := by decide +kernel
theorem dX3_build_28 : decode cX3_build 28 = .ok (.aload_n 0, 1) := by decide +kernel
theorem dX3_build_29 : decode cX3_build 29 = .ok (.getfield 11, 3) := by decide +kernel
theorem dX3_build_32 : decode cX3_build 32 = .ok (.iload_n 2, 1) := by decide +kernel
theorem dX3_build_33 : decode cX3_build 33 = .ok (.aaload, 1) := by decide +kernel
theorem dX3_build_34 : decode cX3_build 34 = .ok (.iload_n 3, 1) := by decide +kernel
theorem dX3_build_35 : decode cX3_build 35 = .ok (.aload_n 1, 1) := by decide +kernel
theorem dX3_build_36 : decode cX3_build 36 = .ok (.aload_n 1, 1) := by decide +kernel
theorem dX3_build_37 : decode cX3_build 37 = .ok (.getfield 26, 3) := by decide +kernel
theorem dX3_build_40 : decode cX3_build 40 = .ok (.aload_n 1, 1) := by decide +kernel
theorem dX3_build_41 : decode cX3_build 41 = .ok (.getfield 30, 3) := by decide +kernel
theorem dX3_build_44 : decode cX3_build 44 = .ok (.iload_n 2, 1) := by decide +kernel
theorem dX3_build_45 : decode cX3_build 45 = .ok (.aaload, 1) := by decide +kernel
theorem dX3_build_46 : decode cX3_build 46 = .ok (.iload_n 3, 1) := by decide +kernel
theorem dX3_build_47 : decode cX3_build 47 = .ok (.invokevirtual 33, 3) := by decide +kernel
theorem dX3_build_50 : decode cX3_build 50 = .ok (.iastore, 1) := by decide +kernel
theorem dX3_build_51 : decode cX3_build 51 = .ok (.aload_n 0, 1) := by decide +kernel
theorem dX3_build_52 : decode cX3_build 52 = .ok (.getfield 16, 3) := by decide +kernel
theorem dX3_build_55 : decode cX3_build 55 = .ok (.iload_n 2, 1) := by decide +kernel
theorem dX3_build_56 : decode cX3_build 56 = .ok (.aaload, 1) := by decide +kernel
theorem dX3_build_57 : decode cX3_build 57 = .ok (.iload_n 3, 1) := by decide +kernel
theorem dX3_build_58 : decode cX3_build 58 = .ok (.iload_n 2, 1) := by decide +kernel
theorem dX3_build_59 : decode cX3_build 59 = .ok (.iload_n 3, 1) := by decide +kernel
theorem dX3_build_60 : decode cX3_build 60 = .ok (.if_icmp .ne 7, 3) := by decide +kernel
theorem dX3_build_63 : decode cX3_build 63 = .ok (.iconst 0, 1) := by decide +kernel
theorem dX3_build_64 : decode cX3_build 64 = .ok (.goto 19, 3) := by decide +kernel
theorem dX3_build_67 : decode cX3_build 67 = .ok (.aload_n 0, 1) := by decide +kernel
theorem dX3_build_68 : decode cX3_build 68 = .ok (.getfield 11, 3) := by decide +kernel
theorem dX3_build_71 : decode cX3_build 71 = .ok (.iload_n 2, 1) := by decide +kernel
theorem dX3_build_72 : decode cX3_build 72 = .ok (.aaload, 1) := by decide +kernel
theorem dX3_build_73 : decode cX3_build 73 = .ok (.iload_n 3, 1) := by decide +kernel
theorem dX3_build_74 : decode cX3_build 74 = .ok (.iaload, 1) := by decide +kernel
theorem dX3_build_75 : decode cX3_build 75 = .ok (.ifCond .le 7, 3) := by decide +kernel
theorem dX3_build_78 : decode cX3_build 78 = .ok (.iconst 1, 1) := by decide +kernel
theorem dX3_build_79 : decode cX3_build 79 = .ok (.goto 4, 3) := by decide +kernel
theorem dX3_build_82 : decode cX3_build 82 = .ok (.iconst (-1), 1) := by decide +kernel
theorem dX3_build_83 : decode cX3_build 83 = .ok (.iastore, 1) := by decide +kernel
theorem dX3_build_84 : decode cX3_build 84 = .ok (.iinc 3 1, 3) := by decide +kernel
theorem dX3_build_87 : decode cX3_build 87 = .ok (.goto (-67), 3) := by decide +kernel
theorem dX3_build_90 : decode cX3_build 90 = .ok (.iinc 2 1, 3) := by decide +kernel
theorem dX3_build_93 : decode cX3_build 93 = .ok (.goto (-83), 3) := by decide +kernel
theorem dX3_build_96 : decode cX3_build 96 = .ok (.iconst 0, 1) := by decide +kernel
theorem dX3_build_97 : decode cX3_build 97 = .ok (.istore_n 2, 1) := by decide +kernel
theorem dX3_build_98 : decode cX3_build 98 = .ok (.iload_n 2, 1) := by decide +kernel
theorem dX3_build_99 : decode cX3_build 99 = .ok (.aload_n 0, 1) := by decide +kernel
theorem dX3_build_100 : decode cX3_build 100 = .ok (.getfield 25, 3) := by decide +kernel
theorem dX3_build_103 : decode cX3_build 103 = .ok (.if_icmp .ge 14, 3) := by decide +kernel
theorem dX3_build_106 : decode cX3_build 106 = .ok (.aload_n 0, 1) := by decide +kernel
theorem dX3_build_107 : decode cX3_build 107 = .ok (.iload_n 2, 1) := by decide +kernel
theorem dX3_build_108 : decode cX3_build 108 = .ok (.invokevirtual 37, 3) := by decide +kernel
theorem dX3_build_111 : decode cX3_build 111 = .ok (.iinc 2 1, 3) := by decide +kernel
theorem dX3_build_114 : decode cX3_build 114 = .ok (.goto (-16), 3) := by decide +kernel
theorem dX3_build_117 : decode cX3_build 117 = .ok (.return_, 1) := by decide +kernel
theorem B_X3_build_0 {g : Sg} {c t : Nat} (hL : Lay LC g c t σ)  (h : ∀ τ1 : Sg, τ1 = sI σ 125 2 (gI σ 34 7) → (Lay LC g c t τ1 → GG E mX3_build 10 [some (vr 125), some (vr 34), some (vi 0), none] [] τ1 rc rs Q)) : GG E mX3_build 0 [some (vr 125), some (vr 34), none, none] [] σ rc rs Q := by
  refine r_aload_n (pc := 0) dX3_build_0 rfl rfl ?_
  refine r_aload_n (pc := 1) dX3_build_1 rfl rfl ?_
  refine r_getI (pc := 2) dX3_build_2 (k9 := 7) CL_0 (by decide) (by decide) w_326 rfl (okO_of (N := 10) (hL.sh (i := 18) rfl (by decide) (by decide)) (by decide)) (fun _ => ?_)
  refine r_putI (pc := 5) dX3_build_5 (k9 := 2) CL_3 (by decide) (by decide) w_419 rfl rfl (fun h9 => absurd h9 (by decide +kernel)) (okO_of (N := 3) (hL.sh (i := 43) rfl (by decide) (by decide)) (by decide)) ?_
  refine nmS (fun τ1 e1 => ?_)
  replace h := h τ1 e1
  have hL := hL.wI e1 (by decide) (.inl (by decide))
  refine r_iconst (pc := 8) dX3_build_8 (inRk rfl) ?_
  refine r_istore_n (pc := 9) dX3_build_9 rfl (by decide) (l2 := [some (vr 125), some (vr 34), some (vi 0), none]) rfl ?_
  exact (h hL)
theorem B_X3_build_10 {g : Sg} {c t : Nat} (hL : Lay LC g c t σ) {x2 : Int} (h : (((gI σ 125 2) ≤ x2 → (Lay LC g c t σ → GG E mX3_build 98 [some (vr 125), none, some (vi 0), none] [] σ rc rs Q)) ∧ (¬ ((gI σ 125 2) ≤ x2) → (Lay LC g c t σ → GG E mX3_build 20 [some (vr 125), some (vr 34), some (vi x2), some (vi 0)] [] σ rc rs Q)))) : GG E mX3_build 10 [some (vr 125), some (vr 34), some (vi x2), none] [] σ rc rs Q := by
  refine r_iload_n (pc := 10) dX3_build_10 rfl rfl ?_
  refine r_aload_n (pc := 11) dX3_build_11 rfl rfl ?_
  refine r_getI (pc := 12) dX3_build_12 (k9 := 2) CL_3 (by decide) (by decide) w_419 rfl (okO_of (N := 3) (hL.sh (i := 43) rfl (by decide) (by decide)) (by decide)) (fun _ => ?_)
  refine r_icmp_ge (pc := 15) (tgt := 96) dX3_build_15 (by decide) (fun c9 => ?_) (fun c9 => ?_)
  · replace h := h.1 c9
    refine r_iconst (pc := 96) dX3_build_96 (inRk rfl) ?_
    refine r_istore_n (pc := 97) dX3_build_97 rfl (by decide) (l2 := [some (vr 125), some (vr 34), some (vi 0), none]) rfl ?_
    exact GG.msk [true, false, true, false] (h hL)
  · replace h := h.2 c9
    refine r_iconst (pc := 18) dX3_build_18 (inRk rfl) ?_
    refine r_istore_n (pc := 19) dX3_build_19 rfl (by decide) (l2 := [some (vr 125), some (vr 34), some (vi x2), some (vi 0)]) rfl ?_
    exact (h hL)
theorem B_X3_build_20 {g : Sg} {c t : Nat} (hL : Lay LC g c t σ) {x2 : Int} {x3 : Int} (h : (((gI σ 125 2) ≤ x3 → inR (x2 + 1) ∧ (Lay LC g c t σ → GG E mX3_build 10 [some (vr 125), some (vr 34), some (vi (x2 + 1)), none] [] σ rc rs Q)) ∧ (¬ ((gI σ 125 2) ≤ x3) → (0 ≤ x2 ∧ x2 < 12) ∧ ∀ b4 : Nat, b4 = gR σ 36 x2.toNat → (37 ≤ b4 ∧ b4 < 49) → (Lay LC g c t σ → CC E mX0_inProduct [vr 34, vr 50, vr b4, vi x3] σ (KI (fun r6 τ7 => Lay LC g c t τ7 ∧ (inR r6 → (0 ≤ x3 ∧ x3 < 12) ∧ ∀ τ9 : Sg, τ9 = sI τ7 (127 + x2.toNat) x3.toNat r6 → ((x2 ≠ x3 → (((gI τ9 (127 + x2.toNat) x3.toNat) ≤ 0 → ∀ τ12 : Sg, τ12 = sI τ9 (140 + x2.toNat) x3.toNat (-1) → inR (x3 + 1) ∧ (Lay LC g c t τ12 → GG E mX3_build 20 [some (vr 125), some (vr 34), some (vi x2), some (vi (x3 + 1))] [] τ12 rc rs Q)) ∧ (¬ ((gI τ9 (127 + x2.toNat) x3.toNat) ≤ 0) → ∀ τ14 : Sg, τ14 = sI τ9 (140 + x2.toNat) x3.toNat 1 → inR (x3 + 1) ∧ (Lay LC g c t τ14 → GG E mX3_build 20 [some (vr 125), some (vr 34), some (vi x2), some (vi (x3 + 1))] [] τ14 rc rs Q)))) ∧ (x2 = x3 → ∀ τ16 : Sg, τ16 = sI τ9 (140 + x2.toNat) x3.toNat 0 → inR (x3 + 1) ∧ (Lay LC g c t τ16 → GG E mX3_build 20 [some (vr 125), some (vr 34), some (vi x2), some (vi (x3 + 1))] [] τ16 rc rs Q))))) (fun _ _ => False)))))) : GG E mX3_build 20 [some (vr 125), some (vr 34), some (vi x2), some (vi x3)] [] σ rc rs Q := by
  refine r_iload_n (pc := 20) dX3_build_20 rfl rfl ?_
  refine r_aload_n (pc := 21) dX3_build_21 rfl rfl ?_
  refine r_getI (pc := 22) dX3_build_22 (k9 := 2) CL_3 (by decide) (by decide) w_419 rfl (okO_of (N := 3) (hL.sh (i := 43) rfl (by decide) (by decide)) (by decide)) (fun _ => ?_)
  refine r_icmp_ge (pc := 25) (tgt := 90) dX3_build_25 (by decide) (fun c9 => ?_) (fun c9 => ?_)
  · replace h := h.1 c9
    obtain ⟨o1, h⟩ := h
    refine r_iinc (pc := 90) dX3_build_90 rfl (by decide) o1 (l2 := [some (vr 125), some (vr 34), some (vi (x2 + 1)), some (vi x3)]) rfl ?_
    refine r_goto (pc := 93) (tgt := 10) dX3_build_93 (by decide) ?_
    exact GG.msk [true, true, true, false] (h hL)
  · replace h := h.2 c9
    refine r_aload_n (pc := 28) dX3_build_28 rfl rfl ?_
    refine r_getR (pc := 29) dX3_build_29 (k9 := 0) CL_3 (by decide) (by decide) w_415 rfl (okO_of (N := 3) (hL.sh (i := 43) rfl (by decide) (by decide)) (by decide)) ?_
    refine eqR (y := 126) (hL.rf (i := 38) rfl) ?_
    refine r_iload_n (pc := 32) dX3_build_32 rfl rfl ?_
    obtain ⟨o2, h⟩ := h
    refine r_aaload (pc := 33) dX3_build_33 (okB_of (c := 24) (n := 12) (hL.sh (i := 44) rfl (by decide) (by decide)) (by decide) o2) ?_
    have q3 : 127 ≤ 127 + x2.toNat ∧ 127 + x2.toNat < 139 := ⟨Nat.le_add_right _ _, rowB o2 (by decide)⟩
    refine eqR (y := 127 + x2.toNat) (hL.rx (i := 3) rfl (rowC o2 (by decide))) ?_
    refine r_iload_n (pc := 34) dX3_build_34 rfl rfl ?_
    refine r_aload_n (pc := 35) dX3_build_35 rfl rfl ?_
    refine r_aload_n (pc := 36) dX3_build_36 rfl rfl ?_
    refine r_getR (pc := 37) dX3_build_37 (k9 := 3) CL_0 (by decide) (by decide) w_320 rfl (okO_of (N := 10) (hL.sh (i := 18) rfl (by decide) (by decide)) (by decide)) ?_
    refine eqR (y := 50) (hL.rf (i := 21) rfl) ?_
    refine r_aload_n (pc := 40) dX3_build_40 rfl rfl ?_
    refine r_getR (pc := 41) dX3_build_41 (k9 := 1) CL_0 (by decide) (by decide) w_315 rfl (okO_of (N := 10) (hL.sh (i := 18) rfl (by decide) (by decide)) (by decide)) ?_
    refine eqR (y := 36) (hL.rf (i := 19) rfl) ?_
    refine r_iload_n (pc := 44) dX3_build_44 rfl rfl ?_
    refine r_aaload (pc := 45) dX3_build_45 (okB_of (c := 24) (n := 12) (hL.sh (i := 20) rfl (by decide) (by decide)) (by decide) o2) ?_
    refine nmR (fun b4 e9 => ?_)
    have q5 : (37 ≤ b4 ∧ b4 < 49) := e9 ▸ hL.rsw (i := 0) rfl (rowC o2 (by decide))
    replace h := h b4 e9 q5
    refine r_iload_n (pc := 46) dX3_build_46 rfl rfl ?_
    refine c_VI0N (M := mX3_build) (pc := 47) (As := [vr 50, vr b4, vi x3]) dX3_build_47 K_X0_inProduct w_1100 ⟨by decide, by decide⟩ (Nat.le_of_ble_eq_true rfl) rfl rfl (ci := 0) rfl rfl (by decide) (okO_of (N := 10) (hL.sh (i := 18) rfl (by decide) (by decide)) (by decide)) (h hL) (fun r6 τ7 h8 hr9 => ?_) rfl
    replace hL := h8.1
    replace h := h8.2 hr9
    obtain ⟨o8, h⟩ := h
    refine r_iastore (pc := 50) dX3_build_50 (okB_of (c := 20) (n := 12) (hL.sh (i := 45) rfl q3.1 q3.2) (Nat.le_trans (by decide) q3.1) o8) ?_
    refine nmS (fun τ9 e9 => ?_)
    replace h := h τ9 e9
    have hL := hL.wI e9 (Nat.le_trans (by decide) q3.1) (.inl ⟨Nat.le_trans (by decide) q3.1, Nat.lt_of_lt_of_le q3.2 (by decide)⟩)
    refine r_aload_n (pc := 51) dX3_build_51 rfl rfl ?_
    refine r_getR (pc := 52) dX3_build_52 (k9 := 1) CL_3 (by decide) (by decide) w_417 rfl (okO_of (N := 3) (hL.sh (i := 43) rfl (by decide) (by decide)) (by decide)) ?_
    refine eqR (y := 139) (hL.rf (i := 39) rfl) ?_
    refine r_iload_n (pc := 55) dX3_build_55 rfl rfl ?_
    refine r_aaload (pc := 56) dX3_build_56 (okB_of (c := 24) (n := 12) (hL.sh (i := 46) rfl (by decide) (by decide)) (by decide) o2) ?_
    have q10 : 140 ≤ 140 + x2.toNat ∧ 140 + x2.toNat < 152 := ⟨Nat.le_add_right _ _, rowB o2 (by decide)⟩
    refine eqR (y := 140 + x2.toNat) (hL.rx (i := 4) rfl (rowC o2 (by decide))) ?_
    refine r_iload_n (pc := 57) dX3_build_57 rfl rfl ?_
    refine r_iload_n (pc := 58) dX3_build_58 rfl rfl ?_
    refine r_iload_n (pc := 59) dX3_build_59 rfl rfl ?_
    refine r_icmp_ne (pc := 60) (tgt := 67) dX3_build_60 (by decide) (fun c9 => ?_) (fun c9 => ?_)
    · replace h := h.1 c9
      refine r_aload_n (pc := 67) dX3_build_67 rfl rfl ?_
      refine r_getR (pc := 68) dX3_build_68 (k9 := 0) CL_3 (by decide) (by decide) w_415 rfl (okO_of (N := 3) (hL.sh (i := 43) rfl (by decide) (by decide)) (by decide)) ?_
      refine eqR (y := 126) (hL.rf (i := 38) rfl) ?_
      refine r_iload_n (pc := 71) dX3_build_71 rfl rfl ?_
      refine r_aaload (pc := 72) dX3_build_72 (okB_of (c := 24) (n := 12) (hL.sh (i := 44) rfl (by decide) (by decide)) (by decide) o2) ?_
      have q11 : 127 ≤ 127 + x2.toNat ∧ 127 + x2.toNat < 139 := ⟨Nat.le_add_right _ _, rowB o2 (by decide)⟩
      refine eqR (y := 127 + x2.toNat) (hL.rx (i := 3) rfl (rowC o2 (by decide))) ?_
      refine r_iload_n (pc := 73) dX3_build_73 rfl rfl ?_
      refine r_iaload (pc := 74) dX3_build_74 (okA_of (c := 20) (n := 12) (hL.sh (i := 45) rfl q11.1 q11.2) (Nat.le_trans (by decide) q11.1) o8) ?_
      refine r_if_le (pc := 75) (tgt := 82) dX3_build_75 (by decide) (fun c9 => ?_) (fun c9 => ?_)
      · replace h := h.1 c9
        refine r_iconst (pc := 82) dX3_build_82 (inRk rfl) ?_
        refine r_iastore (pc := 83) dX3_build_83 (okB_of (c := 20) (n := 12) (hL.sh (i := 47) rfl q10.1 q10.2) (Nat.le_trans (by decide) q10.1) o8) ?_
        refine nmS (fun τ12 e12 => ?_)
        replace h := h τ12 e12
        have hL := hL.wI e12 (Nat.le_trans (by decide) q10.1) (.inl ⟨Nat.le_trans (by decide) q10.1, Nat.lt_of_lt_of_le q10.2 (by decide)⟩)
        obtain ⟨o13, h⟩ := h
        refine r_iinc (pc := 84) dX3_build_84 rfl (by decide) o13 (l2 := [some (vr 125), some (vr 34), some (vi x2), some (vi (x3 + 1))]) rfl ?_
        refine r_goto (pc := 87) (tgt := 20) dX3_build_87 (by decide) ?_
        exact (h hL)
      · replace h := h.2 c9
        refine r_iconst (pc := 78) dX3_build_78 (inRk rfl) ?_
        refine r_goto (pc := 79) (tgt := 83) dX3_build_79 (by decide) ?_
        refine r_iastore (pc := 83) dX3_build_83 (okB_of (c := 20) (n := 12) (hL.sh (i := 47) rfl q10.1 q10.2) (Nat.le_trans (by decide) q10.1) o8) ?_
        refine nmS (fun τ14 e14 => ?_)
        replace h := h τ14 e14
        have hL := hL.wI e14 (Nat.le_trans (by decide) q10.1) (.inl ⟨Nat.le_trans (by decide) q10.1, Nat.lt_of_lt_of_le q10.2 (by decide)⟩)
        obtain ⟨o15, h⟩ := h
        refine r_iinc (pc := 84) dX3_build_84 rfl (by decide) o15 (l2 := [some (vr 125), some (vr 34), some (vi x2), some (vi (x3 + 1))]) rfl ?_
        refine r_goto (pc := 87) (tgt := 20) dX3_build_87 (by decide) ?_
        exact (h hL)
    · replace h := h.2 c9
      refine r_iconst (pc := 63) dX3_build_63 (inRk rfl) ?_
      refine r_goto (pc := 64) (tgt := 83) dX3_build_64 (by decide) ?_
      refine r_iastore (pc := 83) dX3_build_83 (okB_of (c := 20) (n := 12) (hL.sh (i := 47) rfl q10.1 q10.2) (Nat.le_trans (by decide) q10.1) o8) ?_
      refine nmS (fun τ16 e16 => ?_)
      replace h := h τ16 e16
      have hL := hL.wI e16 (Nat.le_trans (by decide) q10.1) (.inl ⟨Nat.le_trans (by decide) q10.1, Nat.lt_of_lt_of_le q10.2 (by decide)⟩)
      obtain ⟨o17, h⟩ := h
      refine r_iinc (pc := 84) dX3_build_84 rfl (by decide) o17 (l2 := [some (vr 125), some (vr 34), some (vi x2), some (vi (x3 + 1))]) rfl ?_
      refine r_goto (pc := 87) (tgt := 20) dX3_build_87 (by decide) ?_
      exact (h hL)
theorem B_X3_build_98 {g : Sg} {c t : Nat} (hL : Lay LC g c t σ) {x2 : Int} (h : (((gI σ 125 2) ≤ x2 → (Lay LC g c t σ → Q (.inl none) σ)) ∧ (¬ ((gI σ 125 2) ≤ x2) → (Lay LC g c t σ → CC E mX3_shortenBy [vr 125, vi x2] σ (KV (fun τ2 => Lay LC g c t τ2 ∧ inR (x2 + 1) ∧ (Lay LC g c t τ2 → GG E mX3_build 98 [some (vr 125), none, some (vi (x2 + 1)), none] [] τ2 rc rs Q)) (fun _ _ => False)))))) : GG E mX3_build 98 [some (vr 125), none, some (vi x2), none] [] σ rc rs Q := by
  refine r_iload_n (pc := 98) dX3_build_98 rfl rfl ?_
  refine r_aload_n (pc := 99) dX3_build_99 rfl rfl ?_
  refine r_getI (pc := 100) dX3_build_100 (k9 := 2) CL_3 (by decide) (by decide) w_419 rfl (okO_of (N := 3) (hL.sh (i := 43) rfl (by decide) (by decide)) (by decide)) (fun _ => ?_)
  refine r_icmp_ge (pc := 103) (tgt := 117) dX3_build_103 (by decide) (fun c9 => ?_) (fun c9 => ?_)
  · replace h := h.1 c9
    exact r_return (pc := 117) dX3_build_117 (by decide +kernel) rfl (h hL)
  · replace h := h.2 c9
    refine r_aload_n (pc := 106) dX3_build_106 rfl rfl ?_
    refine r_iload_n (pc := 107) dX3_build_107 rfl rfl ?_
    refine c_VV0N (M := mX3_build) (pc := 108) (As := [vi x2]) dX3_build_108 K_X3_shortenBy w_1108 ⟨by decide, by decide⟩ (Nat.le_of_ble_eq_true rfl) rfl rfl (ci := 3) rfl rfl (by decide) (okO_of (N := 3) (hL.sh (i := 43) rfl (by decide) (by decide)) (by decide)) (h hL) (fun τ2 h8 => ?_) rfl
    replace hL := h8.1
    replace h := h8.2
    obtain ⟨o3, h⟩ := h
    refine r_iinc (pc := 111) dX3_build_111 rfl (by decide) o3 (l2 := [some (vr 125), none, some (vi (x2 + 1)), none]) rfl ?_
    refine r_goto (pc := 114) (tgt := 98) dX3_build_114 (by decide) ?_
    exact (h hL)
theorem C_X3_build {a0 : Nat} {a1 : Nat} (h : GG E mX3_build 0 [some (vr a0), some (vr a1), none, none] [] σ 0 0 Q) : CC E mX3_build [vr a0, vr a1] σ Q := CC.of (by decide +kernel) rfl (by decide +kernel) (fun h9 => nomatch h9) (Nat.le_of_ble_eq_true rfl) h
theorem dX3_countWith_0 : decode cX3_countWith 0 = .ok (.iconst 0, 1) := by decide +kernel
theorem dX3_countWith_1 : decode cX3_countWith 1 = .ok (.istore_n 2, 1) := by decide +kernel
theorem dX3_countWith_2 : decode cX3_countWith 2 = .ok (.iconst 0, 1) := by decide +kernel
theorem dX3_countWith_3 : decode cX3_countWith 3 = .ok (.istore_n 3, 1) := by decide +kernel
theorem dX3_countWith_4 : decode cX3_countWith 4 = .ok (.iload_n 3, 1) := by decide +kernel
theorem dX3_countWith_5 : decode cX3_countWith 5 = .ok (.aload_n 0, 1) := by decide +kernel
theorem dX3_countWith_6 : decode cX3_countWith 6 = .ok (.getfield 25, 3) := by decide +kernel
theorem dX3_countWith_9 : decode cX3_countWith 9 = .ok (.if_icmp .ge 53, 3) := by decide +kernel
theorem dX3_countWith_12 : decode cX3_countWith 12 = .ok (.iconst 0, 1) := by decide +kernel
theorem dX3_countWith_13 : decode cX3_countWith 13 = .ok (.istore 4, 2) := by decide +kernel
theorem dX3_countWith_15 : decode cX3_countWith 15 = .ok (.iconst 0, 1) := by decide +kernel
theorem dX3_countWith_16 : decode cX3_countWith 16 = .ok (.istore 5, 2) := by decide +kernel
theorem dX3_countWith_18 : decode cX3_countWith 18 = .ok (.iload 5, 2) := by decide +kernel
theorem dX3_countWith_20 : decode cX3_countWith 20 = .ok (.aload_n 0, 1) := by decide +kernel
theorem dX3_countWith_21 : decode cX3_countWith 21 = .ok (.getfield 25, 3) := by decide +kernel
theorem dX3_countWith_24 : decode cX3_countWith 24 = .ok (.if_icmp .ge 23, 3) := by decide +kernel
theorem dX3_countWith_27 : decode cX3_countWith 27 = .ok (.iload 4, 2) := by decide +kernel
theorem dX3_countWith_29 : decode cX3_countWith 29 = .ok (.aload_n 0, 1) := by decide +kernel
theorem dX3_countWith_30 : decode cX3_countWith 30 = .ok (.getfield 11, 3) := by decide +kernel
theorem dX3_countWith_33 : decode cX3_countWith 33 = .ok (.iload_n 3, 1) := by decide +kernel
theorem dX3_countWith_34 : decode cX3_countWith 34 = .ok (.aaload, 1) := by decide +kernel
theorem dX3_countWith_35 : decode cX3_countWith 35 = .ok (.iload 5, 2) := by decide +kernel
theorem dX3_countWith_37 : decode cX3_countWith 37 = .ok (.iaload, 1) := by decide +kernel
theorem dX3_countWith_38 : decode cX3_countWith 38 = .ok (.iadd, 1) := by decide +kernel
theorem dX3_countWith_39 : decode cX3_countWith 39 = .ok (.istore 4, 2) := by decide +kernel
theorem dX3_countWith_41 : decode cX3_countWith 41 = .ok (.iinc 5 1, 3) := by decide +kernel
theorem dX3_countWith_44 : decode cX3_countWith 44 = .ok (.goto (-26), 3) := by decide +kernel
theorem dX3_countWith_47 : decode cX3_countWith 47 = .ok (.iload 4, 2) := by decide +kernel
theorem dX3_countWith_49 : decode cX3_countWith 49 = .ok (.iload_n 1, 1) := by decide +kernel
theorem dX3_countWith_50 : decode cX3_countWith 50 = .ok (.if_icmp .ne 6, 3) := by decide +kernel
theorem dX3_countWith_53 : decode cX3_countWith 53 = .ok (.iinc 2 1, 3) := by decide +kernel
theorem dX3_countWith_56 : decode cX3_countWith 56 = .ok (.iinc 3 1, 3) := by decide +kernel
theorem dX3_countWith_59 : decode cX3_countWith 59 = .ok (.goto (-55), 3) := by decide +kernel
theorem dX3_countWith_62 : decode cX3_countWith 62 = .ok (.iload_n 2, 1) := by decide +kernel
theorem dX3_countWith_63 : decode cX3_countWith 63 = .ok (.ireturn, 1) := by decide +kernel
theorem B_X3_countWith_0 {g : Sg} {c t : Nat} (hL : Lay LC g c t σ) {x1 : Int} (h : (Lay LC g c t σ → GG E mX3_countWith 4 [some (vr 125), some (vi x1), some (vi 0), some (vi 0), none, none] [] σ rc rs Q)) : GG E mX3_countWith 0 [some (vr 125), some (vi x1), none, none, none, none] [] σ rc rs Q := by
  refine r_iconst (pc := 0) dX3_countWith_0 (inRk rfl) ?_
  refine r_istore_n (pc := 1) dX3_countWith_1 rfl (by decide) (l2 := [some (vr 125), some (vi x1), some (vi 0), none, none, none]) rfl ?_
  refine r_iconst (pc := 2) dX3_countWith_2 (inRk rfl) ?_
  refine r_istore_n (pc := 3) dX3_countWith_3 rfl (by decide) (l2 := [some (vr 125), some (vi x1), some (vi 0), some (vi 0), none, none]) rfl ?_
  exact (h hL)
theorem B_X3_countWith_4 {g : Sg} {c t : Nat} (hL : Lay LC g c t σ) {x1 : Int} {x2 : Int} {x3 : Int} (h : (((gI σ 125 2) ≤ x3 → (Lay LC g c t σ → Q (.inl (some (vi x2))) σ)) ∧ (¬ ((gI σ 125 2) ≤ x3) → (Lay LC g c t σ → GG E mX3_countWith 18 [some (vr 125), some (vi x1), some (vi x2), some (vi x3), some (vi 0), some (vi 0)] [] σ rc rs Q)))) : GG E mX3_countWith 4 [some (vr 125), some (vi x1), some (vi x2), some (vi x3), none, none] [] σ rc rs Q := by
  refine r_iload_n (pc := 4) dX3_countWith_4 rfl rfl ?_
  refine r_aload_n (pc := 5) dX3_countWith_5 rfl rfl ?_
  refine r_getI (pc := 6) dX3_countWith_6 (k9 := 2) CL_3 (by decide) (by decide) w_419 rfl (okO_of (N := 3) (hL.sh (i := 43) rfl (by decide) (by decide)) (by decide)) (fun _ => ?_)
  refine r_icmp_ge (pc := 9) (tgt := 62) dX3_countWith_9 (by decide) (fun c9 => ?_) (fun c9 => ?_)
  · replace h := h.1 c9
    refine r_iload_n (pc := 62) dX3_countWith_62 rfl rfl ?_
    exact r_ireturn (pc := 63) (ty := .int) dX3_countWith_63 (by decide +kernel) rfl (nar_i _) (h hL)
  · replace h := h.2 c9
    refine r_iconst (pc := 12) dX3_countWith_12 (inRk rfl) ?_
    refine r_istore (pc := 13) dX3_countWith_13 (by decide) (l2 := [some (vr 125), some (vi x1), some (vi x2), some (vi x3), some (vi 0), none]) rfl ?_
    refine r_iconst (pc := 15) dX3_countWith_15 (inRk rfl) ?_
    refine r_istore (pc := 16) dX3_countWith_16 (by decide) (l2 := [some (vr 125), some (vi x1), some (vi x2), some (vi x3), some (vi 0), some (vi 0)]) rfl ?_
    exact (h hL)
theorem B_X3_countWith_18 {g : Sg} {c t : Nat} (hL : Lay LC g c t σ) {x1 : Int} {x2 : Int} {x3 : Int} {x4 : Int} {x5 : Int} (h : (((gI σ 125 2) ≤ x5 → ((x4 ≠ x1 → inR (x3 + 1) ∧ (Lay LC g c t σ → GG E mX3_countWith 4 [some (vr 125), some (vi x1), some (vi x2), some (vi (x3 + 1)), none, none] [] σ rc rs Q)) ∧ (x4 = x1 → inR (x2 + 1) ∧ inR (x3 + 1) ∧ (Lay LC g c t σ → GG E mX3_countWith 4 [some (vr 125), some (vi x1), some (vi (x2 + 1)), some (vi (x3 + 1)), none, none] [] σ rc rs Q)))) ∧ (¬ ((gI σ 125 2) ≤ x5) → (0 ≤ x3 ∧ x3 < 12) ∧ (0 ≤ x5 ∧ x5 < 12) ∧ inR (x4 + (gI σ (127 + x3.toNat) x5.toNat)) ∧ inR (x5 + 1) ∧ (Lay LC g c t σ → GG E mX3_countWith 18 [some (vr 125), some (vi x1), some (vi x2), some (vi x3), some (vi (x4 + (gI σ (127 + x3.toNat) x5.toNat))), some (vi (x5 + 1))] [] σ rc rs Q)))) : GG E mX3_countWith 18 [some (vr 125), some (vi x1), some (vi x2), some (vi x3), some (vi x4), some (vi x5)] [] σ rc rs Q := by
  refine r_iload (pc := 18) dX3_countWith_18 rfl ?_
  refine r_aload_n (pc := 20) dX3_countWith_20 rfl rfl ?_
  refine r_getI (pc := 21) dX3_countWith_21 (k9 := 2) CL_3 (by decide) (by decide) w_419 rfl (okO_of (N := 3) (hL.sh (i := 43) rfl (by decide) (by decide)) (by decide)) (fun _ => ?_)
  refine r_icmp_ge (pc := 24) (tgt := 47) dX3_countWith_24 (by decide) (fun c9 => ?_) (fun c9 => ?_)
  · replace h := h.1 c9
    refine r_iload (pc := 47) dX3_countWith_47 rfl ?_
    refine r_iload_n (pc := 49) dX3_countWith_49 rfl rfl ?_
    refine r_icmp_ne (pc := 50) (tgt := 56) dX3_countWith_50 (by decide) (fun c9 => ?_) (fun c9 => ?_)
    · replace h := h.1 c9
      obtain ⟨o1, h⟩ := h
      refine r_iinc (pc := 56) dX3_countWith_56 rfl (by decide) o1 (l2 := [some (vr 125), some (vi x1), some (vi x2), some (vi (x3 + 1)), some (vi x4), some (vi x5)]) rfl ?_
      refine r_goto (pc := 59) (tgt := 4) dX3_countWith_59 (by decide) ?_
      exact GG.msk [true, true, true, true, false, false] (h hL)
    · replace h := h.2 c9
      obtain ⟨o2, h⟩ := h
      refine r_iinc (pc := 53) dX3_countWith_53 rfl (by decide) o2 (l2 := [some (vr 125), some (vi x1), some (vi (x2 + 1)), some (vi x3), some (vi x4), some (vi x5)]) rfl ?_
      obtain ⟨o3, h⟩ := h
      refine r_iinc (pc := 56) dX3_countWith_56 rfl (by decide) o3 (l2 := [some (vr 125), some (vi x1), some (vi (x2 + 1)), some (vi (x3 + 1)), some (vi x4), some (vi x5)]) rfl ?_
      refine r_goto (pc := 59) (tgt := 4) dX3_countWith_59 (by decide) ?_
      exact GG.msk [true, true, true, true, false, false] (h hL)
  · replace h := h.2 c9
    refine r_iload (pc := 27) dX3_countWith_27 rfl ?_
    refine r_aload_n (pc := 29) dX3_countWith_29 rfl rfl ?_
    refine r_getR (pc := 30) dX3_countWith_30 (k9 := 0) CL_3 (by decide) (by decide) w_415 rfl (okO_of (N := 3) (hL.sh (i := 43) rfl (by decide) (by decide)) (by decide)) ?_
    refine eqR (y := 126) (hL.rf (i := 38) rfl) ?_
    refine r_iload_n (pc := 33) dX3_countWith_33 rfl rfl ?_
    obtain ⟨o4, h⟩ := h
    refine r_aaload (pc := 34) dX3_countWith_34 (okB_of (c := 24) (n := 12) (hL.sh (i := 44) rfl (by decide) (by decide)) (by decide) o4) ?_
    have q5 : 127 ≤ 127 + x3.toNat ∧ 127 + x3.toNat < 139 := ⟨Nat.le_add_right _ _, rowB o4 (by decide)⟩
    refine eqR (y := 127 + x3.toNat) (hL.rx (i := 3) rfl (rowC o4 (by decide))) ?_
    refine r_iload (pc := 35) dX3_countWith_35 rfl ?_
    obtain ⟨o6, h⟩ := h
    refine r_iaload (pc := 37) dX3_countWith_37 (okA_of (c := 20) (n := 12) (hL.sh (i := 45) rfl q5.1 q5.2) (Nat.le_trans (by decide) q5.1) o6) ?_
    obtain ⟨o7, h⟩ := h
    refine r_iadd (pc := 38) dX3_countWith_38 o7 ?_
    refine r_istore (pc := 39) dX3_countWith_39 (by decide) (l2 := [some (vr 125), some (vi x1), some (vi x2), some (vi x3), some (vi (x4 + (gI σ (127 + x3.toNat) x5.toNat))), some (vi x5)]) rfl ?_
    obtain ⟨o8, h⟩ := h
    refine r_iinc (pc := 41) dX3_countWith_41 rfl (by decide) o8 (l2 := [some (vr 125), some (vi x1), some (vi x2), some (vi x3), some (vi (x4 + (gI σ (127 + x3.toNat) x5.toNat))), some (vi (x5 + 1))]) rfl ?_
    refine r_goto (pc := 44) (tgt := 18) dX3_countWith_44 (by decide) ?_
    exact (h hL)
theorem C_X3_countWith {a0 : Nat} {x1 : Int} (h : GG E mX3_countWith 0 [some (vr a0), some (vi x1), none, none, none, none] [] σ 0 0 Q) : CC E mX3_countWith [vr a0, vi x1] σ Q := CC.of (by decide +kernel) rfl (by decide +kernel) (fun h9 => nomatch h9) (Nat.le_of_ble_eq_true rfl) h
theorem dX3_diagram_0 : decode cX3_diagram 0 = .ok (.aload_n 0, 1) := by decide +kernel
theorem dX3_diagram_1 : decode cX3_diagram 1 = .ok (.iconst 1, 1) := by decide +kernel
theorem dX3_diagram_2 : decode cX3_diagram 2 = .ok (.invokevirtual 41, 3) := by decide +kernel
theorem dX3_diagram_5 : decode cX3_diagram 5 = .ok (.istore_n 1, 1) := by decide +kernel
theorem dX3_diagram_6 : decode cX3_diagram 6 = .ok (.iload_n 1, 1) := by decide +kernel
theorem dX3_diagram_7 : decode cX3_diagram 7 = .ok (.iconst 4, 1) := by decide +kernel
theorem dX3_diagram_8 : decode cX3_diagram 8 = .ok (.if_icmp .ne 5, 3) := by decide +kernel
theorem dX3_diagram_11 : decode cX3_diagram 11 = .ok (.iconst 1, 1) := by decide +kernel
theorem dX3_diagram_12 : decode cX3_diagram 12 = .ok (.ireturn, 1) := by decide +kernel
theorem dX3_diagram_13 : decode cX3_diagram 13 = .ok (.iload_n 1, 1) := by decide +kernel
theorem dX3_diagram_14 : decode cX3_diagram 14 = .ok (.iconst 3, 1) := by decide +kernel
theorem dX3_diagram_15 : decode cX3_diagram 15 = .ok (.if_icmp .ne 7, 3) := by decide +kernel
theorem dX3_diagram_18 : decode cX3_diagram 18 = .ok (.iconst 2, 1) := by decide +kernel
theorem dX3_diagram_19 : decode cX3_diagram 19 = .ok (.goto 4, 3) := by decide +kernel
theorem dX3_diagram_22 : decode cX3_diagram 22 = .ok (.iconst 0, 1) := by decide +kernel
theorem dX3_diagram_23 : decode cX3_diagram 23 = .ok (.ireturn, 1) := by decide +kernel
theorem B_X3_diagram_0 {g : Sg} {c t : Nat} (hL : Lay LC g c t σ)  (h : (Lay LC g c t σ → CC E mX3_countWith [vr 125, vi 1] σ (KI (fun r1 τ2 => Lay LC g c t τ2 ∧ (inR r1 → ((r1 ≠ 4 → ((r1 ≠ 3 → (Lay LC g c t τ2 → Q (.inl (some (vi 0))) τ2)) ∧ (r1 = 3 → (Lay LC g c t τ2 → Q (.inl (some (vi 2))) τ2)))) ∧ (r1 = 4 → (Lay LC g c t τ2 → Q (.inl (some (vi 1))) τ2))))) (fun _ _ => False)))) : GG E mX3_diagram 0 [some (vr 125), none] [] σ rc rs Q := by
  refine r_aload_n (pc := 0) dX3_diagram_0 rfl rfl ?_
  refine r_iconst (pc := 1) dX3_diagram_1 (inRk rfl) ?_
  refine c_VI0N (M := mX3_diagram) (pc := 2) (As := [vi 1]) dX3_diagram_2 K_X3_countWith w_1129 ⟨by decide, by decide⟩ (Nat.le_of_ble_eq_true rfl) rfl rfl (ci := 3) rfl rfl (by decide) (okO_of (N := 3) (hL.sh (i := 43) rfl (by decide) (by decide)) (by decide)) (h hL) (fun r1 τ2 h8 hr9 => ?_) rfl
  replace hL := h8.1
  replace h := h8.2 hr9
  refine r_istore_n (pc := 5) dX3_diagram_5 rfl (by decide) (l2 := [some (vr 125), some (vi r1)]) rfl ?_
  refine r_iload_n (pc := 6) dX3_diagram_6 rfl rfl ?_
  refine r_iconst (pc := 7) dX3_diagram_7 (inRk rfl) ?_
  refine r_icmp_ne (pc := 8) (tgt := 13) dX3_diagram_8 (by decide) (fun c9 => ?_) (fun c9 => ?_)
  · replace h := h.1 c9
    refine r_iload_n (pc := 13) dX3_diagram_13 rfl rfl ?_
    refine r_iconst (pc := 14) dX3_diagram_14 (inRk rfl) ?_
    refine r_icmp_ne (pc := 15) (tgt := 22) dX3_diagram_15 (by decide) (fun c9 => ?_) (fun c9 => ?_)
    · replace h := h.1 c9
      refine r_iconst (pc := 22) dX3_diagram_22 (inRk rfl) ?_
      exact r_ireturn (pc := 23) (ty := .int) dX3_diagram_23 (by decide +kernel) rfl (nar_i _) (h hL)
    · replace h := h.2 c9
      refine r_iconst (pc := 18) dX3_diagram_18 (inRk rfl) ?_
      refine r_goto (pc := 19) (tgt := 23) dX3_diagram_19 (by decide) ?_
      exact r_ireturn (pc := 23) (ty := .int) dX3_diagram_23 (by decide +kernel) rfl (nar_i _) (h hL)
  · replace h := h.2 c9
    refine r_iconst (pc := 11) dX3_diagram_11 (inRk rfl) ?_
    exact r_ireturn (pc := 12) (ty := .int) dX3_diagram_12 (by decide +kernel) rfl (nar_i _) (h hL)
theorem C_X3_diagram {a0 : Nat} (h : GG E mX3_diagram 0 [some (vr a0), none] [] σ 0 0 Q) : CC E mX3_diagram [vr a0] σ Q := CC.of (by decide +kernel) rfl (by decide +kernel) (fun h9 => nomatch h9) (Nat.le_of_ble_eq_true rfl) h
theorem dX3_init_0 : decode cX3_init 0 = .ok (.aload_n 0, 1) := by decide +kernel
theorem dX3_init_1 : decode cX3_init 1 = .ok (.invokespecial 3, 3) := by decide +kernel
theorem dX3_init_4 : decode cX3_init 4 = .ok (.aload_n 0, 1) := by decide +kernel
theorem dX3_init_5 : decode cX3_init 5 = .ok (.bipush 12, 2) := by decide +kernel
theorem dX3_init_7 : decode cX3_init 7 = .ok (.bipush 12, 2) := by decide +kernel
theorem dX3_init_9 : decode cX3_init 9 = .ok (.multianewarray 9 2, 4) := by decide +kernel
theorem dX3_init_13 : decode cX3_init 13 = .ok (.putfield 11, 3) := by decide +kernel
theorem dX3_init_16 : decode cX3_init 16 = .ok (.aload_n 0, 1) := by decide +kernel
theorem dX3_init_17 : decode cX3_init 17 = .ok (.bipush 12, 2) := by decide +kernel
theorem dX3_init_19 : decode cX3_init 19 = .ok (.bipush 12, 2) := by decide +kernel
theorem dX3_init_21 : decode cX3_init 21 = .ok (.multianewarray 9 2, 4) := by decide +kernel
theorem dX3_init_25 : decode cX3_init 25 = .ok (.putfield 16, 3) := by decide +kernel
theorem dX3_init_28 : decode cX3_init 28 = .ok (.return_, 1) := by decide +kernel
theorem B_X3_init_0 {a0 : Nat} (h : 16 ≤ a0 ∧ 13 ≤ rc ∧ 156 ≤ rs ∧ ∀ b1 : Nat, b1 = gz σ → okO (nm σ 12 12) a0 3 ∧ ∀ τ3 : Sg, τ3 = sR (nm σ 12 12) a0 0 b1 → 13 ≤ rc - 13 ∧ 156 ≤ rs - 156 ∧ ∀ b4 : Nat, b4 = gz τ3 → okO (nm τ3 12 12) a0 3 ∧ ∀ τ6 : Sg, τ6 = sR (nm τ3 12 12) a0 1 b4 → Q (.inl none) τ6) : GG E mX3_init 0 [some (vr a0)] [] σ rc rs Q := by
  refine r_aload_n (pc := 0) dX3_init_0 rfl rfl ?_
  refine r_objInit (pc := 1) dX3_init_1 w_413 w_129 w_130 (by decide) (Nat.le_of_ble_eq_true rfl) h.1 ?_
  replace h := h.2
  refine r_aload_n (pc := 4) dX3_init_4 rfl rfl ?_
  refine r_bipush (pc := 5) dX3_init_5 (by decide) ?_
  refine r_bipush (pc := 7) dX3_init_7 (by decide) ?_
  refine r_mna (pc := 9) dX3_init_9 w_414 w_175 (by decide) (by decide) (by decide) (by decide) h.1 h.2.1 ?_
  replace h := h.2.2
  change GG _ _ _ _ (vr _ :: _) (nm _ 12 12) (_ - 13) (_ - 156) _
  refine nmR (fun b1 e9 => ?_)
  replace h := h b1 e9
  obtain ⟨o2, h⟩ := h
  refine r_putRF (pc := 13) dX3_init_13 (k9 := 0) CL_3 (by decide) (by decide) w_415 rfl rfl rfl rfl o2 ?_
  refine nmS (fun τ3 e3 => ?_)
  replace h := h τ3 e3
  refine r_aload_n (pc := 16) dX3_init_16 rfl rfl ?_
  refine r_bipush (pc := 17) dX3_init_17 (by decide) ?_
  refine r_bipush (pc := 19) dX3_init_19 (by decide) ?_
  refine r_mna (pc := 21) dX3_init_21 w_414 w_175 (by decide) (by decide) (by decide) (by decide) h.1 h.2.1 ?_
  replace h := h.2.2
  change GG _ _ _ _ (vr _ :: _) (nm _ 12 12) (_ - 13) (_ - 156) _
  refine nmR (fun b4 e9 => ?_)
  replace h := h b4 e9
  obtain ⟨o5, h⟩ := h
  refine r_putRF (pc := 25) dX3_init_25 (k9 := 1) CL_3 (by decide) (by decide) w_417 rfl rfl rfl rfl o5 ?_
  refine nmS (fun τ6 e6 => ?_)
  replace h := h τ6 e6
  exact r_return (pc := 28) dX3_init_28 (by decide +kernel) rfl h
theorem C_X3_init {a0 : Nat} (h : GG E mX3_init 0 [some (vr a0)] [] σ 26 312 Q) : CC E mX3_init [vr a0] σ Q := CC.of (by decide +kernel) rfl (by decide +kernel) (fun h9 => rfl) (Nat.le_of_ble_eq_true rfl) h
theorem dX3_shortenBy_0 : decode cX3_shortenBy 0 = .ok (.iconst 0, 1) := by decide +kernel
theorem dX3_shortenBy_1 : decode cX3_shortenBy 1 = .ok (.istore_n 2, 1) := by decide +kernel
theorem dX3_shortenBy_2 : decode cX3_shortenBy 2 = .ok (.iload_n 2, 1) := by decide +kernel
theorem dX3_shortenBy_3 : decode cX3_shortenBy 3 = .ok (.aload_n 0, 1) := by decide +kernel
theorem dX3_shortenBy_4 : decode cX3_shortenBy 4 = .ok (.getfield 25, 3) := by decide +kernel
theorem dX3_shortenBy_7 : decode cX3_shortenBy 7 = .ok (.if_icmp .ge 110, 3) := by decide +kernel
theorem dX3_shortenBy_10 : decode cX3_shortenBy 10 = .ok (.iconst 0, 1) := by decide +kernel
theorem dX3_shortenBy_11 : decode cX3_shortenBy 11 = .ok (.istore_n 3, 1) := by decide +kernel
theorem dX3_shortenBy_12 : decode cX3_shortenBy 12 = .ok (.iload_n 3, 1) := by decide +kernel
theorem dX3_shortenBy_13 : decode cX3_shortenBy 13 = .ok (.aload_n 0, 1) := by decide +kernel
theorem dX3_shortenBy_14 : decode cX3_shortenBy 14 = .ok (.getfield 25, 3) := by decide +kernel
theorem dX3_shortenBy_17 : decode cX3_shortenBy 17 = .ok (.if_icmp .ge 94, 3) := by decide +kernel
theorem dX3_shortenBy_20 : decode cX3_shortenBy 20 = .ok (.aload_n 0, 1) := by decide +kernel
theorem dX3_shortenBy_21 : decode cX3_shortenBy 21 = .ok (.getfield 16, 3) := by decide +kernel
theorem dX3_shortenBy_24 : decode cX3_shortenBy 24 = .ok (.iload_n 2, 1) := by decide +kernel
theorem dX3_shortenBy_25 : decode cX3_shortenBy 25 = .ok (.aaload, 1) := by decide +kernel
theorem dX3_shortenBy_26 : decode cX3_shortenBy 26 = .ok (.iload_n 1, 1) := by decide +kernel
theorem dX3_shortenBy_27 : decode cX3_shortenBy 27 = .ok (.iaload, 1) := by decide +kernel
theorem dX3_shortenBy_28 : decode cX3_shortenBy 28 = .ok (.istore 4, 2) := by decide +kernel
theorem dX3_shortenBy_30 : decode cX3_shortenBy 30 = .ok (.aload_n 0, 1) := by decide +kernel
theorem dX3_shortenBy_31 : decode cX3_shortenBy 31 = .ok (.getfield 16, 3) := by decide +kernel
theorem dX3_shortenBy_34 : decode cX3_shortenBy 34 = .ok (.iload_n 1, 1) := by decide +kernel
theorem dX3_shortenBy_35 : decode cX3_shortenBy 35 = .ok (.aaload, 1) := by decide +kernel
theorem dX3_shortenBy_36 : decode cX3_shortenBy 36 = .ok (.iload_n 3, 1) := by decide +kernel
theorem dX3_shortenBy_37 : decode cX3_shortenBy 37 = .ok (.iaload, 1) := by decide +kernel
theorem dX3_shortenBy_38 : decode cX3_shortenBy 38 = .ok (.istore 5, 2) := by decide +kernel
theorem dX3_shortenBy_40 : decode cX3_shortenBy 40 = .ok (.iload 4, 2) := by decide +kernel
theorem dX3_shortenBy_42 : decode cX3_shortenBy 42 = .ok (.iconst (-1), 1) := by decide +kernel
theorem dX3_shortenBy_43 : decode cX3_shortenBy 43 = .ok (.if_icmp .eq 13, 3) := by decide +kernel
theorem dX3_shortenBy_46 : decode cX3_shortenBy 46 = .ok (.iload 5, 2) := by decide +kernel
theorem dX3_shortenBy_48 : decode cX3_shortenBy 48 = .ok (.iconst (-1), 1) := by decide +kernel
theorem dX3_shortenBy_49 : decode cX3_shortenBy 49 = .ok (.if_icmp .eq 7, 3) := by decide +kernel
theorem dX3_shortenBy_52 : decode cX3_shortenBy 52 = .ok (.iconst 1, 1) := by decide +kernel
theorem dX3_shortenBy_53 : decode cX3_shortenBy 53 = .ok (.goto 4, 3) := by decide +kernel
theorem dX3_shortenBy_56 : decode cX3_shortenBy 56 = .ok (.iconst 0, 1) := by decide +kernel
theorem dX3_shortenBy_57 : decode cX3_shortenBy 57 = .ok (.istore 6, 2) := by decide +kernel
theorem dX3_shortenBy_59 : decode cX3_shortenBy 59 = .ok (.iload 6, 2) := by decide +kernel
theorem dX3_shortenBy_61 : decode cX3_shortenBy 61 = .ok (.ifCond .eq 44, 3) := by decide +kernel
theorem dX3_shortenBy_64 : decode cX3_shortenBy 64 = .ok (.aload_n 0, 1) := by decide +kernel
theorem dX3_shortenBy_65 : decode cX3_shortenBy 65 = .ok (.getfield 16, 3) := by decide +kernel
theorem dX3_shortenBy_68 : decode cX3_shortenBy 68 = .ok (.iload_n 2, 1) := by decide +kernel
theorem dX3_shortenBy_69 : decode cX3_shortenBy 69 = .ok (.aaload, 1) := by decide +kernel
theorem dX3_shortenBy_70 : decode cX3_shortenBy 70 = .ok (.iload_n 3, 1) := by decide +kernel
theorem dX3_shortenBy_71 : decode cX3_shortenBy 71 = .ok (.iaload, 1) := by decide +kernel
theorem dX3_shortenBy_72 : decode cX3_shortenBy 72 = .ok (.iconst (-1), 1) := by decide +kernel
theorem dX3_shortenBy_73 : decode cX3_shortenBy 73 = .ok (.if_icmp .eq 19, 3) := by decide +kernel
theorem dX3_shortenBy_76 : decode cX3_shortenBy 76 = .ok (.iload 4, 2) := by decide +kernel
theorem dX3_shortenBy_78 : decode cX3_shortenBy 78 = .ok (.iload 5, 2) := by decide +kernel
theorem dX3_shortenBy_80 : decode cX3_shortenBy 80 = .ok (.iadd, 1) := by decide +kernel
theorem dX3_shortenBy_81 : decode cX3_shortenBy 81 = .ok (.aload_n 0, 1) := by decide +kernel
theorem dX3_shortenBy_82 : decode cX3_shortenBy 82 = .ok (.getfield 16, 3) := by decide +kernel
theorem dX3_shortenBy_85 : decode cX3_shortenBy 85 = .ok (.iload_n 2, 1) := by decide +kernel
theorem dX3_shortenBy_86 : decode cX3_shortenBy 86 = .ok (.aaload, 1) := by decide +kernel
theorem dX3_shortenBy_87 : decode cX3_shortenBy 87 = .ok (.iload_n 3, 1) := by decide +kernel
theorem dX3_shortenBy_88 : decode cX3_shortenBy 88 = .ok (.iaload, 1) := by decide +kernel
theorem dX3_shortenBy_89 : decode cX3_shortenBy 89 = .ok (.if_icmp .ge 16, 3) := by decide +kernel
theorem dX3_shortenBy_92 : decode cX3_shortenBy 92 = .ok (.aload_n 0, 1) := by decide +kernel
theorem dX3_shortenBy_93 : decode cX3_shortenBy 93 = .ok (.getfield 16, 3) := by decide +kernel
theorem dX3_shortenBy_96 : decode cX3_shortenBy 96 = .ok (.iload_n 2, 1) := by decide +kernel
theorem dX3_shortenBy_97 : decode cX3_shortenBy 97 = .ok (.aaload, 1) := by decide +kernel
theorem dX3_shortenBy_98 : decode cX3_shortenBy 98 = .ok (.iload_n 3, 1) := by decide +kernel
theorem dX3_shortenBy_99 : decode cX3_shortenBy 99 = .ok (.iload 4, 2) := by decide +kernel
theorem dX3_shortenBy_101 : decode cX3_shortenBy 101 = .ok (.iload 5, 2) := by decide +kernel
theorem dX3_shortenBy_103 : decode cX3_shortenBy 103 = .ok (.iadd, 1) := by decide +kernel
theorem dX3_shortenBy_104 : decode cX3_shortenBy 104 = .ok (.iastore, 1) := by decide +kernel
theorem dX3_shortenBy_105 : decode cX3_shortenBy 105 = .ok (.iinc 3 1, 3) := by decide +kernel
theorem dX3_shortenBy_108 : decode cX3_shortenBy 108 = .ok (.goto (-96), 3) := by decide +kernel
theorem dX3_shortenBy_111 : decode cX3_shortenBy 111 = .ok (.iinc 2 1, 3) := by decide +kernel
theorem dX3_shortenBy_114 : decode cX3_shortenBy 114 = .ok (.goto (-112), 3) := by decide +kernel
theorem dX3_shortenBy_117 : decode cX3_shortenBy 117 = .ok (.return_, 1) := by decide +kernel
theorem B_X3_shortenBy_0 {g : Sg} {c t : Nat} (hL : Lay LC g c t σ) {x1 : Int} (h : (Lay LC g c t σ → GG E mX3_shortenBy 2 [some (vr 125), some (vi x1), some (vi 0), none, none, none, none] [] σ rc rs Q)) : GG E mX3_shortenBy 0 [some (vr 125), some (vi x1), none, none, none, none, none] [] σ rc rs Q := by
  refine r_iconst (pc := 0) dX3_shortenBy_0 (inRk rfl) ?_
  refine r_istore_n (pc := 1) dX3_shortenBy_1 rfl (by decide) (l2 := [some (vr 125), some (vi x1), some (vi 0), none, none, none, none]) rfl ?_
  exact (h hL)
theorem B_X3_shortenBy_2 {g : Sg} {c t : Nat} (hL : Lay LC g c t σ) {x1 : Int} {x2 : Int} (h : (((gI σ 125 2) ≤ x2 → (Lay LC g c t σ → Q (.inl none) σ)) ∧ (¬ ((gI σ 125 2) ≤ x2) → (Lay LC g c t σ → GG E mX3_shortenBy 12 [some (vr 125), some (vi x1), some (vi x2), some (vi 0), none, none, none] [] σ rc rs Q)))) : GG E mX3_shortenBy 2 [some (vr 125), some (vi x1), some (vi x2), none, none, none, none] [] σ rc rs Q := by
  refine r_iload_n (pc := 2) dX3_shortenBy_2 rfl rfl ?_
  refine r_aload_n (pc := 3) dX3_shortenBy_3 rfl rfl ?_
  refine r_getI (pc := 4) dX3_shortenBy_4 (k9 := 2) CL_3 (by decide) (by decide) w_419 rfl (okO_of (N := 3) (hL.sh (i := 43) rfl (by decide) (by decide)) (by decide)) (fun _ => ?_)
  refine r_icmp_ge (pc := 7) (tgt := 117) dX3_shortenBy_7 (by decide) (fun c9 => ?_) (fun c9 => ?_)
  · replace h := h.1 c9
    exact r_return (pc := 117) dX3_shortenBy_117 (by decide +kernel) rfl (h hL)
  · replace h := h.2 c9
    refine r_iconst (pc := 10) dX3_shortenBy_10 (inRk rfl) ?_
    refine r_istore_n (pc := 11) dX3_shortenBy_11 rfl (by decide) (l2 := [some (vr 125), some (vi x1), some (vi x2), some (vi 0), none, none, none]) rfl ?_
    exact (h hL)
theorem B_X3_shortenBy_12 {g : Sg} {c t : Nat} (hL : Lay LC g c t σ) {x1 : Int} {x2 : Int} {x3 : Int} (h : (((gI σ 125 2) ≤ x3 → inR (x2 + 1) ∧ (Lay LC g c t σ → GG E mX3_shortenBy 2 [some (vr 125), some (vi x1), some (vi (x2 + 1)), none, none, none, none] [] σ rc rs Q)) ∧ (¬ ((gI σ 125 2) ≤ x3) → (0 ≤ x2 ∧ x2 < 12) ∧ (0 ≤ x1 ∧ x1 < 12) ∧ (0 ≤ x3 ∧ x3 < 12) ∧ (((gI σ (140 + x2.toNat) x1.toNat) = (-1) → (Lay LC g c t σ → GG E mX3_shortenBy 59 [some (vr 125), some (vi x1), some (vi x2), some (vi x3), some (vi (gI σ (140 + x2.toNat) x1.toNat)), some (vi (gI σ (140 + x1.toNat) x3.toNat)), some (vi 0)] [] σ rc rs Q)) ∧ (¬ ((gI σ (140 + x2.toNat) x1.toNat) = (-1)) → (((gI σ (140 + x1.toNat) x3.toNat) = (-1) → (Lay LC g c t σ → GG E mX3_shortenBy 59 [some (vr 125), some (vi x1), some (vi x2), some (vi x3), some (vi (gI σ (140 + x2.toNat) x1.toNat)), some (vi (gI σ (140 + x1.toNat) x3.toNat)), some (vi 0)] [] σ rc rs Q)) ∧ (¬ ((gI σ (140 + x1.toNat) x3.toNat) = (-1)) → (Lay LC g c t σ → GG E mX3_shortenBy 59 [some (vr 125), some (vi x1), some (vi x2), some (vi x3), some (vi (gI σ (140 + x2.toNat) x1.toNat)), some (vi (gI σ (140 + x1.toNat) x3.toNat)), some (vi 1)] [] σ rc rs Q)))))))) : GG E mX3_shortenBy 12 [some (vr 125), some (vi x1), some (vi x2), some (vi x3), none, none, none] [] σ rc rs Q := by
  refine r_iload_n (pc := 12) dX3_shortenBy_12 rfl rfl ?_
  refine r_aload_n (pc := 13) dX3_shortenBy_13 rfl rfl ?_
  refine r_getI (pc := 14) dX3_shortenBy_14 (k9 := 2) CL_3 (by decide) (by decide) w_419 rfl (okO_of (N := 3) (hL.sh (i := 43) rfl (by decide) (by decide)) (by decide)) (fun _ => ?_)
  refine r_icmp_ge (pc := 17) (tgt := 111) dX3_shortenBy_17 (by decide) (fun c9 => ?_) (fun c9 => ?_)
  · replace h := h.1 c9
    obtain ⟨o1, h⟩ := h
    refine r_iinc (pc := 111) dX3_shortenBy_111 rfl (by decide) o1 (l2 := [some (vr 125), some (vi x1), some (vi (x2 + 1)), some (vi x3), none, none, none]) rfl ?_
    refine r_goto (pc := 114) (tgt := 2) dX3_shortenBy_114 (by decide) ?_
    exact GG.msk [true, true, true, false, false, false, false] (h hL)
  · replace h := h.2 c9
    refine r_aload_n (pc := 20) dX3_shortenBy_20 rfl rfl ?_
    refine r_getR (pc := 21) dX3_shortenBy_21 (k9 := 1) CL_3 (by decide) (by decide) w_417 rfl (okO_of (N := 3) (hL.sh (i := 43) rfl (by decide) (by decide)) (by decide)) ?_
    refine eqR (y := 139) (hL.rf (i := 39) rfl) ?_
    refine r_iload_n (pc := 24) dX3_shortenBy_24 rfl rfl ?_
    obtain ⟨o2, h⟩ := h
    refine r_aaload (pc := 25) dX3_shortenBy_25 (okB_of (c := 24) (n := 12) (hL.sh (i := 46) rfl (by decide) (by decide)) (by decide) o2) ?_
    have q3 : 140 ≤ 140 + x2.toNat ∧ 140 + x2.toNat < 152 := ⟨Nat.le_add_right _ _, rowB o2 (by decide)⟩
    refine eqR (y := 140 + x2.toNat) (hL.rx (i := 4) rfl (rowC o2 (by decide))) ?_
    refine r_iload_n (pc := 26) dX3_shortenBy_26 rfl rfl ?_
    obtain ⟨o4, h⟩ := h
    refine r_iaload (pc := 27) dX3_shortenBy_27 (okA_of (c := 20) (n := 12) (hL.sh (i := 47) rfl q3.1 q3.2) (Nat.le_trans (by decide) q3.1) o4) ?_
    refine r_istore (pc := 28) dX3_shortenBy_28 (by decide) (l2 := [some (vr 125), some (vi x1), some (vi x2), some (vi x3), some (vi (gI σ (140 + x2.toNat) x1.toNat)), none, none]) rfl ?_
    refine r_aload_n (pc := 30) dX3_shortenBy_30 rfl rfl ?_
    refine r_getR (pc := 31) dX3_shortenBy_31 (k9 := 1) CL_3 (by decide) (by decide) w_417 rfl (okO_of (N := 3) (hL.sh (i := 43) rfl (by decide) (by decide)) (by decide)) ?_
    refine eqR (y := 139) (hL.rf (i := 39) rfl) ?_
    refine r_iload_n (pc := 34) dX3_shortenBy_34 rfl rfl ?_
    refine r_aaload (pc := 35) dX3_shortenBy_35 (okB_of (c := 24) (n := 12) (hL.sh (i := 46) rfl (by decide) (by decide)) (by decide) o4) ?_
    have q5 : 140 ≤ 140 + x1.toNat ∧ 140 + x1.toNat < 152 := ⟨Nat.le_add_right _ _, rowB o4 (by decide)⟩
    refine eqR (y := 140 + x1.toNat) (hL.rx (i := 4) rfl (rowC o4 (by decide))) ?_
    refine r_iload_n (pc := 36) dX3_shortenBy_36 rfl rfl ?_
    obtain ⟨o6, h⟩ := h
    refine r_iaload (pc := 37) dX3_shortenBy_37 (okA_of (c := 20) (n := 12) (hL.sh (i := 47) rfl q5.1 q5.2) (Nat.le_trans (by decide) q5.1) o6) ?_
    refine r_istore (pc := 38) dX3_shortenBy_38 (by decide) (l2 := [some (vr 125), some (vi x1), some (vi x2), some (vi x3), some (vi (gI σ (140 + x2.toNat) x1.toNat)), some (vi (gI σ (140 + x1.toNat) x3.toNat)), none]) rfl ?_
    refine r_iload (pc := 40) dX3_shortenBy_40 rfl ?_
    refine r_iconst (pc := 42) dX3_shortenBy_42 (inRk rfl) ?_
    refine r_icmp_eq (pc := 43) (tgt := 56) dX3_shortenBy_43 (by decide) (fun c9 => ?_) (fun c9 => ?_)
    · replace h := h.1 c9
      refine r_iconst (pc := 56) dX3_shortenBy_56 (inRk rfl) ?_
      refine r_istore (pc := 57) dX3_shortenBy_57 (by decide) (l2 := [some (vr 125), some (vi x1), some (vi x2), some (vi x3), some (vi (gI σ (140 + x2.toNat) x1.toNat)), some (vi (gI σ (140 + x1.toNat) x3.toNat)), some (vi 0)]) rfl ?_
      exact (h hL)
    · replace h := h.2 c9
      refine r_iload (pc := 46) dX3_shortenBy_46 rfl ?_
      refine r_iconst (pc := 48) dX3_shortenBy_48 (inRk rfl) ?_
      refine r_icmp_eq (pc := 49) (tgt := 56) dX3_shortenBy_49 (by decide) (fun c9 => ?_) (fun c9 => ?_)
      · replace h := h.1 c9
        refine r_iconst (pc := 56) dX3_shortenBy_56 (inRk rfl) ?_
        refine r_istore (pc := 57) dX3_shortenBy_57 (by decide) (l2 := [some (vr 125), some (vi x1), some (vi x2), some (vi x3), some (vi (gI σ (140 + x2.toNat) x1.toNat)), some (vi (gI σ (140 + x1.toNat) x3.toNat)), some (vi 0)]) rfl ?_
        exact (h hL)
      · replace h := h.2 c9
        refine r_iconst (pc := 52) dX3_shortenBy_52 (inRk rfl) ?_
        refine r_goto (pc := 53) (tgt := 57) dX3_shortenBy_53 (by decide) ?_
        refine r_istore (pc := 57) dX3_shortenBy_57 (by decide) (l2 := [some (vr 125), some (vi x1), some (vi x2), some (vi x3), some (vi (gI σ (140 + x2.toNat) x1.toNat)), some (vi (gI σ (140 + x1.toNat) x3.toNat)), some (vi 1)]) rfl ?_
        exact (h hL)
theorem B_X3_shortenBy_59 {g : Sg} {c t : Nat} (hL : Lay LC g c t σ) {x1 : Int} {x2 : Int} {x3 : Int} {x4 : Int} {x5 : Int} {x6 : Int} (h : ((x6 = 0 → inR (x3 + 1) ∧ (Lay LC g c t σ → GG E mX3_shortenBy 12 [some (vr 125), some (vi x1), some (vi x2), some (vi (x3 + 1)), none, none, none] [] σ rc rs Q)) ∧ (¬ (x6 = 0) → (0 ≤ x2 ∧ x2 < 12) ∧ (0 ≤ x3 ∧ x3 < 12) ∧ (((gI σ (140 + x2.toNat) x3.toNat) = (-1) → inR (x4 + x5) ∧ ∀ τ7 : Sg, τ7 = sI σ (140 + x2.toNat) x3.toNat (x4 + x5) → inR (x3 + 1) ∧ (Lay LC g c t τ7 → GG E mX3_shortenBy 12 [some (vr 125), some (vi x1), some (vi x2), some (vi (x3 + 1)), none, none, none] [] τ7 rc rs Q)) ∧ (¬ ((gI σ (140 + x2.toNat) x3.toNat) = (-1)) → inR (x4 + x5) ∧ (((gI σ (140 + x2.toNat) x3.toNat) ≤ (x4 + x5) → inR (x3 + 1) ∧ (Lay LC g c t σ → GG E mX3_shortenBy 12 [some (vr 125), some (vi x1), some (vi x2), some (vi (x3 + 1)), none, none, none] [] σ rc rs Q)) ∧ (¬ ((gI σ (140 + x2.toNat) x3.toNat) ≤ (x4 + x5)) → ∀ τ13 : Sg, τ13 = sI σ (140 + x2.toNat) x3.toNat (x4 + x5) → inR (x3 + 1) ∧ (Lay LC g c t τ13 → GG E mX3_shortenBy 12 [some (vr 125), some (vi x1), some (vi x2), some (vi (x3 + 1)), none, none, none] [] τ13 rc rs Q)))))))) : GG E mX3_shortenBy 59 [some (vr 125), some (vi x1), some (vi x2), some (vi x3), some (vi x4), some (vi x5), some (vi x6)] [] σ rc rs Q := by
  refine r_iload (pc := 59) dX3_shortenBy_59 rfl ?_
  refine r_if_eq (pc := 61) (tgt := 105) dX3_shortenBy_61 (by decide) (fun c9 => ?_) (fun c9 => ?_)
  · replace h := h.1 c9
    obtain ⟨o1, h⟩ := h
    refine r_iinc (pc := 105) dX3_shortenBy_105 rfl (by decide) o1 (l2 := [some (vr 125), some (vi x1), some (vi x2), some (vi (x3 + 1)), some (vi x4), some (vi x5), some (vi x6)]) rfl ?_
    refine r_goto (pc := 108) (tgt := 12) dX3_shortenBy_108 (by decide) ?_
    exact GG.msk [true, true, true, true, false, false, false] (h hL)
  · replace h := h.2 c9
    refine r_aload_n (pc := 64) dX3_shortenBy_64 rfl rfl ?_
    refine r_getR (pc := 65) dX3_shortenBy_65 (k9 := 1) CL_3 (by decide) (by decide) w_417 rfl (okO_of (N := 3) (hL.sh (i := 43) rfl (by decide) (by decide)) (by decide)) ?_
    refine eqR (y := 139) (hL.rf (i := 39) rfl) ?_
    refine r_iload_n (pc := 68) dX3_shortenBy_68 rfl rfl ?_
    obtain ⟨o2, h⟩ := h
    refine r_aaload (pc := 69) dX3_shortenBy_69 (okB_of (c := 24) (n := 12) (hL.sh (i := 46) rfl (by decide) (by decide)) (by decide) o2) ?_
    have q3 : 140 ≤ 140 + x2.toNat ∧ 140 + x2.toNat < 152 := ⟨Nat.le_add_right _ _, rowB o2 (by decide)⟩
    refine eqR (y := 140 + x2.toNat) (hL.rx (i := 4) rfl (rowC o2 (by decide))) ?_
    refine r_iload_n (pc := 70) dX3_shortenBy_70 rfl rfl ?_
    obtain ⟨o4, h⟩ := h
    refine r_iaload (pc := 71) dX3_shortenBy_71 (okA_of (c := 20) (n := 12) (hL.sh (i := 47) rfl q3.1 q3.2) (Nat.le_trans (by decide) q3.1) o4) ?_
    refine r_iconst (pc := 72) dX3_shortenBy_72 (inRk rfl) ?_
    refine r_icmp_eq (pc := 73) (tgt := 92) dX3_shortenBy_73 (by decide) (fun c9 => ?_) (fun c9 => ?_)
    · replace h := h.1 c9
      refine r_aload_n (pc := 92) dX3_shortenBy_92 rfl rfl ?_
      refine r_getR (pc := 93) dX3_shortenBy_93 (k9 := 1) CL_3 (by decide) (by decide) w_417 rfl (okO_of (N := 3) (hL.sh (i := 43) rfl (by decide) (by decide)) (by decide)) ?_
      refine eqR (y := 139) (hL.rf (i := 39) rfl) ?_
      refine r_iload_n (pc := 96) dX3_shortenBy_96 rfl rfl ?_
      refine r_aaload (pc := 97) dX3_shortenBy_97 (okB_of (c := 24) (n := 12) (hL.sh (i := 46) rfl (by decide) (by decide)) (by decide) o2) ?_
      have q5 : 140 ≤ 140 + x2.toNat ∧ 140 + x2.toNat < 152 := ⟨Nat.le_add_right _ _, rowB o2 (by decide)⟩
      refine eqR (y := 140 + x2.toNat) (hL.rx (i := 4) rfl (rowC o2 (by decide))) ?_
      refine r_iload_n (pc := 98) dX3_shortenBy_98 rfl rfl ?_
      refine r_iload (pc := 99) dX3_shortenBy_99 rfl ?_
      refine r_iload (pc := 101) dX3_shortenBy_101 rfl ?_
      obtain ⟨o6, h⟩ := h
      refine r_iadd (pc := 103) dX3_shortenBy_103 o6 ?_
      refine r_iastore (pc := 104) dX3_shortenBy_104 (okB_of (c := 20) (n := 12) (hL.sh (i := 47) rfl q5.1 q5.2) (Nat.le_trans (by decide) q5.1) o4) ?_
      refine nmS (fun τ7 e7 => ?_)
      replace h := h τ7 e7
      have hL := hL.wI e7 (Nat.le_trans (by decide) q5.1) (.inl ⟨Nat.le_trans (by decide) q5.1, Nat.lt_of_lt_of_le q5.2 (by decide)⟩)
      obtain ⟨o8, h⟩ := h
      refine r_iinc (pc := 105) dX3_shortenBy_105 rfl (by decide) o8 (l2 := [some (vr 125), some (vi x1), some (vi x2), some (vi (x3 + 1)), some (vi x4), some (vi x5), some (vi x6)]) rfl ?_
      refine r_goto (pc := 108) (tgt := 12) dX3_shortenBy_108 (by decide) ?_
      exact GG.msk [true, true, true, true, false, false, false] (h hL)
    · replace h := h.2 c9
      refine r_iload (pc := 76) dX3_shortenBy_76 rfl ?_
      refine r_iload (pc := 78) dX3_shortenBy_78 rfl ?_
      obtain ⟨o9, h⟩ := h
      refine r_iadd (pc := 80) dX3_shortenBy_80 o9 ?_
      refine r_aload_n (pc := 81) dX3_shortenBy_81 rfl rfl ?_
      refine r_getR (pc := 82) dX3_shortenBy_82 (k9 := 1) CL_3 (by decide) (by decide) w_417 rfl (okO_of (N := 3) (hL.sh (i := 43) rfl (by decide) (by decide)) (by decide)) ?_
      refine eqR (y := 139) (hL.rf (i := 39) rfl) ?_
      refine r_iload_n (pc := 85) dX3_shortenBy_85 rfl rfl ?_
      refine r_aaload (pc := 86) dX3_shortenBy_86 (okB_of (c := 24) (n := 12) (hL.sh (i := 46) rfl (by decide) (by decide)) (by decide) o2) ?_
      have q10 : 140 ≤ 140 + x2.toNat ∧ 140 + x2.toNat < 152 := ⟨Nat.le_add_right _ _, rowB o2 (by decide)⟩
      refine eqR (y := 140 + x2.toNat) (hL.rx (i := 4) rfl (rowC o2 (by decide))) ?_
      refine r_iload_n (pc := 87) dX3_shortenBy_87 rfl rfl ?_
      refine r_iaload (pc := 88) dX3_shortenBy_88 (okA_of (c := 20) (n := 12) (hL.sh (i := 47) rfl q10.1 q10.2) (Nat.le_trans (by decide) q10.1) o4) ?_
      refine r_icmp_ge (pc := 89) (tgt := 105) dX3_shortenBy_89 (by decide) (fun c9 => ?_) (fun c9 => ?_)
      · replace h := h.1 c9
        obtain ⟨o11, h⟩ := h
        refine r_iinc (pc := 105) dX3_shortenBy_105 rfl (by decide) o11 (l2 := [some (vr 125), some (vi x1), some (vi x2), some (vi (x3 + 1)), some (vi x4), some (vi x5), some (vi x6)]) rfl ?_
        refine r_goto (pc := 108) (tgt := 12) dX3_shortenBy_108 (by decide) ?_
        exact GG.msk [true, true, true, true, false, false, false] (h hL)
      · replace h := h.2 c9
        refine r_aload_n (pc := 92) dX3_shortenBy_92 rfl rfl ?_
        refine r_getR (pc := 93) dX3_shortenBy_93 (k9 := 1) CL_3 (by decide) (by decide) w_417 rfl (okO_of (N := 3) (hL.sh (i := 43) rfl (by decide) (by decide)) (by decide)) ?_
        refine eqR (y := 139) (hL.rf (i := 39) rfl) ?_
        refine r_iload_n (pc := 96) dX3_shortenBy_96 rfl rfl ?_
        refine r_aaload (pc := 97) dX3_shortenBy_97 (okB_of (c := 24) (n := 12) (hL.sh (i := 46) rfl (by decide) (by decide)) (by decide) o2) ?_
        have q12 : 140 ≤ 140 + x2.toNat ∧ 140 + x2.toNat < 152 := ⟨Nat.le_add_right _ _, rowB o2 (by decide)⟩
        refine eqR (y := 140 + x2.toNat) (hL.rx (i := 4) rfl (rowC o2 (by decide))) ?_
        refine r_iload_n (pc := 98) dX3_shortenBy_98 rfl rfl ?_
        refine r_iload (pc := 99) dX3_shortenBy_99 rfl ?_
        refine r_iload (pc := 101) dX3_shortenBy_101 rfl ?_
        refine r_iadd (pc := 103) dX3_shortenBy_103 o9 ?_
        refine r_iastore (pc := 104) dX3_shortenBy_104 (okB_of (c := 20) (n := 12) (hL.sh (i := 47) rfl q12.1 q12.2) (Nat.le_trans (by decide) q12.1) o4) ?_
        refine nmS (fun τ13 e13 => ?_)
        replace h := h τ13 e13
        have hL := hL.wI e13 (Nat.le_trans (by decide) q12.1) (.inl ⟨Nat.le_trans (by decide) q12.1, Nat.lt_of_lt_of_le q12.2 (by decide)⟩)
        obtain ⟨o14, h⟩ := h
        refine r_iinc (pc := 105) dX3_shortenBy_105 rfl (by decide) o14 (l2 := [some (vr 125), some (vi x1), some (vi x2), some (vi (x3 + 1)), some (vi x4), some (vi x5), some (vi x6)]) rfl ?_
        refine r_goto (pc := 108) (tgt := 12) dX3_shortenBy_108 (by decide) ?_
        exact GG.msk [true, true, true, true, false, false, false] (h hL)
theorem C_X3_shortenBy {a0 : Nat} {x1 : Int} (h : GG E mX3_shortenBy 0 [some (vr a0), some (vi x1), none, none, none, none, none] [] σ 0 0 Q) : CC E mX3_shortenBy [vr a0, vi x1] σ Q := CC.of (by decide +kernel) rfl (by decide +kernel) (fun h9 => nomatch h9) (Nat.le_of_ble_eq_true rfl) h
theorem dX6_begin_0 : decode cX6_begin 0 = .ok (.iconst 0, 1) := by decide +kernel
theorem dX6_begin_1 : decode cX6_begin 1 = .ok (.istore_n 2, 1) := by decide +kernel
theorem dX6_begin_2 : decode cX6_begin 2 = .ok (.iload_n 2, 1) := by decide +kernel
theorem dX6_begin_3 : decode cX6_begin 3 = .ok (.iload_n 1, 1) := by decide +kernel
theorem dX6_begin_4 : decode cX6_begin 4 = .ok (.if_icmp .ge 29, 3) := by decide +kernel
theorem dX6_begin_7 : decode cX6_begin 7 = .ok (.iload_n 2, 1) := by decide +kernel
theorem dX6_begin_8 : decode cX6_begin 8 = .ok (.bipush 12, 2) := by decide +kernel
theorem dX6_begin_10 : decode cX6_begin 10 = .ok (.if_icmp .ge 23, 3) := by decide +kernel
theorem dX6_begin_13 : decode cX6_begin 13 = .ok (.aload_n 0, 1) := by decide +kernel
theorem dX6_begin_14 : decode cX6_begin 14 = .ok (.getfield 9, 3) := by decide +kernel
theorem dX6_begin_17 : decode cX6_begin 17 = .ok (.iload_n 2, 1) := by decide +kernel
theorem dX6_begin_18 : decode cX6_begin 18 = .ok (.iconst 1, 1) := by decide +kernel
theorem dX6_begin_19 : decode cX6_begin 19 = .ok (.iastore, 1) := by decide +kernel
theorem dX6_begin_20 : decode cX6_begin 20 = .ok (.aload_n 0, 1) := by decide +kernel
theorem dX6_begin_21 : decode cX6_begin 21 = .ok (.getfield 15, 3) := by decide +kernel
theorem dX6_begin_24 : decode cX6_begin 24 = .ok (.iload_n 2, 1) := by decide +kernel
theorem dX6_begin_25 : decode cX6_begin 25 = .ok (.iconst 0, 1) := by decide +kernel
theorem dX6_begin_26 : decode cX6_begin 26 = .ok (.iastore, 1) := by decide +kernel
theorem dX6_begin_27 : decode cX6_begin 27 = .ok (.iinc 2 1, 3) := by decide +kernel
theorem dX6_begin_30 : decode cX6_begin 30 = .ok (.goto (-28), 3) := by decide +kernel
theorem dX6_begin_33 : decode cX6_begin 33 = .ok (.return_, 1) := by decide +kernel
theorem B_X6_begin_0 {g : Sg} {c t : Nat} (hL : Lay LC g c t σ) {x1 : Int} (h : (Lay LC g c t σ → GG E mX6_begin 2 [some (vr 152), some (vi x1), some (vi 0)] [] σ rc rs Q)) : GG E mX6_begin 0 [some (vr 152), some (vi x1), none] [] σ rc rs Q := by
  refine r_iconst (pc := 0) dX6_begin_0 (inRk rfl) ?_
  refine r_istore_n (pc := 1) dX6_begin_1 rfl (by decide) (l2 := [some (vr 152), some (vi x1), some (vi 0)]) rfl ?_
  exact (h hL)
theorem B_X6_begin_2 {g : Sg} {c t : Nat} (hL : Lay LC g c t σ) {x1 : Int} {x2 : Int} (h : ((x1 ≤ x2 → (Lay LC g c t σ → Q (.inl none) σ)) ∧ (¬ (x1 ≤ x2) → ((12 ≤ x2 → (Lay LC g c t σ → Q (.inl none) σ)) ∧ (¬ (12 ≤ x2) → (0 ≤ x2 ∧ x2 < 12) ∧ ∀ τ2 : Sg, τ2 = sI σ 153 x2.toNat 1 → ∀ τ3 : Sg, τ3 = sI τ2 154 x2.toNat 0 → inR (x2 + 1) ∧ (Lay LC g c t τ3 → GG E mX6_begin 2 [some (vr 152), some (vi x1), some (vi (x2 + 1))] [] τ3 rc rs Q)))))) : GG E mX6_begin 2 [some (vr 152), some (vi x1), some (vi x2)] [] σ rc rs Q := by
  refine r_iload_n (pc := 2) dX6_begin_2 rfl rfl ?_
  refine r_iload_n (pc := 3) dX6_begin_3 rfl rfl ?_
  refine r_icmp_ge (pc := 4) (tgt := 33) dX6_begin_4 (by decide) (fun c9 => ?_) (fun c9 => ?_)
  · replace h := h.1 c9
    exact r_return (pc := 33) dX6_begin_33 (by decide +kernel) rfl (h hL)
  · replace h := h.2 c9
    refine r_iload_n (pc := 7) dX6_begin_7 rfl rfl ?_
    refine r_bipush (pc := 8) dX6_begin_8 (by decide) ?_
    refine r_icmp_ge (pc := 10) (tgt := 33) dX6_begin_10 (by decide) (fun c9 => ?_) (fun c9 => ?_)
    · replace h := h.1 c9
      exact r_return (pc := 33) dX6_begin_33 (by decide +kernel) rfl (h hL)
    · replace h := h.2 c9
      refine r_aload_n (pc := 13) dX6_begin_13 rfl rfl ?_
      refine r_getR (pc := 14) dX6_begin_14 (k9 := 0) CL_6 (by decide) (by decide) w_434 rfl (okO_of (N := 2) (hL.sh (i := 48) rfl (by decide) (by decide)) (by decide)) ?_
      refine eqR (y := 153) (hL.rf (i := 41) rfl) ?_
      refine r_iload_n (pc := 17) dX6_begin_17 rfl rfl ?_
      refine r_iconst (pc := 18) dX6_begin_18 (inRk rfl) ?_
      obtain ⟨o1, h⟩ := h
      refine r_iastore (pc := 19) dX6_begin_19 (okB_of (c := 20) (n := 12) (hL.sh (i := 49) rfl (by decide) (by decide)) (by decide) o1) ?_
      refine nmS (fun τ2 e2 => ?_)
      replace h := h τ2 e2
      have hL := hL.wI e2 (by decide) (.inl (by decide))
      refine r_aload_n (pc := 20) dX6_begin_20 rfl rfl ?_
      refine r_getR (pc := 21) dX6_begin_21 (k9 := 1) CL_6 (by decide) (by decide) w_435 rfl (okO_of (N := 2) (hL.sh (i := 48) rfl (by decide) (by decide)) (by decide)) ?_
      refine eqR (y := 154) (hL.rf (i := 42) rfl) ?_
      refine r_iload_n (pc := 24) dX6_begin_24 rfl rfl ?_
      refine r_iconst (pc := 25) dX6_begin_25 (inRk rfl) ?_
      refine r_iastore (pc := 26) dX6_begin_26 (okB_of (c := 20) (n := 12) (hL.sh (i := 50) rfl (by decide) (by decide)) (by decide) o1) ?_
      refine nmS (fun τ3 e3 => ?_)
      replace h := h τ3 e3
      have hL := hL.wI e3 (by decide) (.inl (by decide))
      obtain ⟨o4, h⟩ := h
      refine r_iinc (pc := 27) dX6_begin_27 rfl (by decide) o4 (l2 := [some (vr 152), some (vi x1), some (vi (x2 + 1))]) rfl ?_
      refine r_goto (pc := 30) (tgt := 2) dX6_begin_30 (by decide) ?_
      exact (h hL)
theorem C_X6_begin {a0 : Nat} {x1 : Int} (h : GG E mX6_begin 0 [some (vr a0), some (vi x1), none] [] σ 0 0 Q) : CC E mX6_begin [vr a0, vi x1] σ Q := CC.of (by decide +kernel) rfl (by decide +kernel) (fun h9 => nomatch h9) (Nat.le_of_ble_eq_true rfl) h
theorem dX6_countInvariants_0 : decode cX6_countInvariants 0 = .ok (.iconst 0, 1) := by decide +kernel
theorem dX6_countInvariants_1 : decode cX6_countInvariants 1 = .ok (.istore 4, 2) := by decide +kernel
theorem dX6_countInvariants_3 : decode cX6_countInvariants 3 = .ok (.iconst 0, 1) := by decide +kernel
theorem dX6_countInvariants_4 : decode cX6_countInvariants 4 = .ok (.istore 5, 2) := by decide +kernel
theorem dX6_countInvariants_6 : decode cX6_countInvariants 6 = .ok (.iload 5, 2) := by decide +kernel
theorem dX6_countInvariants_8 : decode cX6_countInvariants 8 = .ok (.aload_n 1, 1) := by decide +kernel
theorem dX6_countInvariants_9 : decode cX6_countInvariants 9 = .ok (.getfield 36, 3) := by decide +kernel
theorem dX6_countInvariants_12 : decode cX6_countInvariants 12 = .ok (.if_icmp .ge 74, 3) := by decide +kernel
theorem dX6_countInvariants_15 : decode cX6_countInvariants 15 = .ok (.aload_n 1, 1) := by decide +kernel
theorem dX6_countInvariants_16 : decode cX6_countInvariants 16 = .ok (.getfield 41, 3) := by decide +kernel
theorem dX6_countInvariants_19 : decode cX6_countInvariants 19 = .ok (.iload 5, 2) := by decide +kernel
theorem dX6_countInvariants_21 : decode cX6_countInvariants 21 = .ok (.invokestatic 44, 3) := by decide +kernel
theorem dX6_countInvariants_24 : decode cX6_countInvariants 24 = .ok (.bipush 8, 2) := by decide +kernel
theorem dX6_countInvariants_26 : decode cX6_countInvariants 26 = .ok (.imul, 1) := by decide +kernel
theorem dX6_countInvariants_27 : decode cX6_countInvariants 27 = .ok (.istore 6, 2) := by decide +kernel
theorem dX6_countInvariants_29 : decode cX6_countInvariants 29 = .ok (.aload_n 2, 1) := by decide +kernel
theorem dX6_countInvariants_30 : decode cX6_countInvariants 30 = .ok (.getfield 47, 3) := by decide +kernel
theorem dX6_countInvariants_33 : decode cX6_countInvariants 33 = .ok (.iload 6, 2) := by decide +kernel
theorem dX6_countInvariants_35 : decode cX6_countInvariants 35 = .ok (.invokestatic 44, 3) := by decide +kernel
theorem dX6_countInvariants_38 : decode cX6_countInvariants 38 = .ok (.istore 7, 2) := by decide +kernel
theorem dX6_countInvariants_40 : decode cX6_countInvariants 40 = .ok (.aload_n 2, 1) := by decide +kernel
theorem dX6_countInvariants_41 : decode cX6_countInvariants 41 = .ok (.getfield 47, 3) := by decide +kernel
theorem dX6_countInvariants_44 : decode cX6_countInvariants 44 = .ok (.iload 6, 2) := by decide +kernel
theorem dX6_countInvariants_46 : decode cX6_countInvariants 46 = .ok (.iconst 1, 1) := by decide +kernel
theorem dX6_countInvariants_47 : decode cX6_countInvariants 47 = .ok (.iadd, 1) := by decide +kernel
theorem dX6_countInvariants_48 : decode cX6_countInvariants 48 = .ok (.invokestatic 44, 3) := by decide +kernel
theorem dX6_countInvariants_51 : decode cX6_countInvariants 51 = .ok (.istore 8, 2) := by decide +kernel
theorem dX6_countInvariants_53 : decode cX6_countInvariants 53 = .ok (.iload 4, 2) := by decide +kernel
theorem dX6_countInvariants_55 : decode cX6_countInvariants 55 = .ok (.aload_n 1, 1) := by decide +kernel
theorem dX6_countInvariants_56 : decode cX6_countInvariants 56 = .ok (.getfield 52, 3) := by decide +kernel
theorem dX6_countInvariants_59 : decode cX6_countInvariants 59 = .ok (.iload 5, 2) := by decide +kernel
theorem dX6_countInvariants_61 : decode cX6_countInvariants 61 = .ok (.invokestatic 44, 3) := by decide +kernel
theorem dX6_countInvariants_64 : decode cX6_countInvariants 64 = .ok (.iload 7, 2) := by decide +kernel
theorem dX6_countInvariants_66 : decode cX6_countInvariants 66 = .ok (.iload 8, 2) := by decide +kernel
theorem dX6_countInvariants_68 : decode cX6_countInvariants 68 = .ok (.aload_n 2, 1) := by decide +kernel
theorem dX6_countInvariants_69 : decode cX6_countInvariants 69 = .ok (.getfield 55, 3) := by decide +kernel
theorem dX6_countInvariants_72 : decode cX6_countInvariants 72 = .ok (.iload_n 3, 1) := by decide +kernel
theorem dX6_countInvariants_73 : decode cX6_countInvariants 73 = .ok (.invokestatic 58, 3) := by decide +kernel
theorem dX6_countInvariants_76 : decode cX6_countInvariants 76 = .ok (.imul, 1) := by decide +kernel
theorem dX6_countInvariants_77 : decode cX6_countInvariants 77 = .ok (.iadd, 1) := by decide +kernel
theorem dX6_countInvariants_78 : decode cX6_countInvariants 78 = .ok (.istore 4, 2) := by decide +kernel
theorem dX6_countInvariants_80 : decode cX6_countInvariants 80 = .ok (.iinc 5 1, 3) := by decide +kernel
theorem dX6_countInvariants_83 : decode cX6_countInvariants 83 = .ok (.goto (-77), 3) := by decide +kernel
theorem dX6_countInvariants_86 : decode cX6_countInvariants 86 = .ok (.aload_n 1, 1) := by decide +kernel
theorem dX6_countInvariants_87 : decode cX6_countInvariants 87 = .ok (.getfield 62, 3) := by decide +kernel
theorem dX6_countInvariants_90 : decode cX6_countInvariants 90 = .ok (.iconst 1, 1) := by decide +kernel
theorem dX6_countInvariants_91 : decode cX6_countInvariants 91 = .ok (.if_icmp .ge 7, 3) := by decide +kernel
theorem dX6_countInvariants_94 : decode cX6_countInvariants 94 = .ok (.iconst 0, 1) := by decide +kernel
theorem dX6_countInvariants_95 : decode cX6_countInvariants 95 = .ok (.goto 12, 3) := by decide +kernel
theorem dX6_countInvariants_98 : decode cX6_countInvariants 98 = .ok (.iload 4, 2) := by decide +kernel
theorem dX6_countInvariants_100 : decode cX6_countInvariants 100 = .ok (.iconst 2, 1) := by decide +kernel
theorem dX6_countInvariants_101 : decode cX6_countInvariants 101 = .ok (.aload_n 1, 1) := by decide +kernel
theorem dX6_countInvariants_102 : decode cX6_countInvariants 102 = .ok (.getfield 62, 3) := by decide +kernel
theorem dX6_countInvariants_105 : decode cX6_countInvariants 105 = .ok (.imul, 1) := by decide +kernel
theorem dX6_countInvariants_106 : decode cX6_countInvariants 106 = .ok (.idiv, 1) := by decide +kernel
theorem dX6_countInvariants_107 : decode cX6_countInvariants 107 = .ok (.ireturn, 1) := by decide +kernel
theorem B_X6_countInvariants_0 {g : Sg} {c t : Nat} (hL : Lay LC g c t σ) {a2 : Nat} (qa2 : isCl a2) {x3 : Int} (h : (Lay LC g c t σ → GG E mX6_countInvariants 6 [none, some (vr 24), some (vr a2), some (vi x3), some (vi 0), some (vi 0), none, none, none] [] σ rc rs Q)) : GG E mX6_countInvariants 0 [some (vr 152), some (vr 24), some (vr a2), some (vi x3), none, none, none, none, none] [] σ rc rs Q := by
  refine r_iconst (pc := 0) dX6_countInvariants_0 (inRk rfl) ?_
  refine r_istore (pc := 1) dX6_countInvariants_1 (by decide) (l2 := [some (vr 152), some (vr 24), some (vr a2), some (vi x3), some (vi 0), none, none, none, none]) rfl ?_
  refine r_iconst (pc := 3) dX6_countInvariants_3 (inRk rfl) ?_
  refine r_istore (pc := 4) dX6_countInvariants_4 (by decide) (l2 := [some (vr 152), some (vr 24), some (vr a2), some (vi x3), some (vi 0), some (vi 0), none, none, none]) rfl ?_
  exact GG.msk [false, true, true, true, true, true, false, false, false] (h hL)
theorem B_X6_countInvariants_6 {g : Sg} {c t : Nat} (hL : Lay LC g c t σ) {a2 : Nat} (qa2 : isCl a2) {x3 : Int} {x4 : Int} {x5 : Int} (h : (((gI σ 24 7) ≤ x5 → ((1 ≤ (gI σ 24 6) → inR (2 * (gI σ 24 6)) ∧ (2 * (gI σ 24 6)) ≠ 0 ∧ inR (x4.tdiv (2 * (gI σ 24 6))) ∧ (Lay LC g c t σ → Q (.inl (some (vi (x4.tdiv (2 * (gI σ 24 6)))))) σ)) ∧ (¬ (1 ≤ (gI σ 24 6)) → (Lay LC g c t σ → Q (.inl (some (vi 0))) σ)))) ∧ (¬ ((gI σ 24 7) ≤ x5) → (Lay LC g c t σ → CC E mX11_at [vr 29, vi x5] σ (KI (fun r4 τ5 => Lay LC g c t τ5 ∧ (inR r4 → inR (r4 * 8) ∧ (Lay LC g c t τ5 → CC E mX11_at [vr (a2 + 2), vi (r4 * 8)] τ5 (KI (fun r7 τ8 => Lay LC g c t τ8 ∧ (inR r7 → inR ((r4 * 8) + 1) ∧ (Lay LC g c t τ8 → CC E mX11_at [vr (a2 + 2), vi ((r4 * 8) + 1)] τ8 (KI (fun r10 τ11 => Lay LC g c t τ11 ∧ (inR r10 → (Lay LC g c t τ11 → CC E mX11_at [vr 30, vi x5] τ11 (KI (fun r12 τ13 => Lay LC g c t τ13 ∧ (inR r12 → (Lay LC g c t τ13 → CC E mX6_doubledValue [vi r7, vi r10, vi (gI τ13 a2 6), vi x3] τ13 (KI (fun r14 τ15 => Lay LC g c t τ15 ∧ (inR r14 → inR (r12 * r14) ∧ inR (x4 + (r12 * r14)) ∧ inR (x5 + 1) ∧ (Lay LC g c t τ15 → GG E mX6_countInvariants 6 [none, some (vr 24), some (vr a2), some (vi x3), some (vi (x4 + (r12 * r14))), some (vi (x5 + 1)), none, none, none] [] τ15 rc rs Q))) (fun _ _ => False))))) (fun _ _ => False))))) (fun _ _ => False))))) (fun _ _ => False))))) (fun _ _ => False)))))) : GG E mX6_countInvariants 6 [none, some (vr 24), some (vr a2), some (vi x3), some (vi x4), some (vi x5), none, none, none] [] σ rc rs Q := by
  refine r_iload (pc := 6) dX6_countInvariants_6 rfl ?_
  refine r_aload_n (pc := 8) dX6_countInvariants_8 rfl rfl ?_
  refine r_getI (pc := 9) dX6_countInvariants_9 (k9 := 7) CL_4 (by decide) (by decide) w_225 rfl (okO_of (N := 12) (hL.sh (i := 8) rfl (by decide) (by decide)) (by decide)) (fun _ => ?_)
  refine r_icmp_ge (pc := 12) (tgt := 86) dX6_countInvariants_12 (by decide) (fun c9 => ?_) (fun c9 => ?_)
  · replace h := h.1 c9
    refine r_aload_n (pc := 86) dX6_countInvariants_86 rfl rfl ?_
    refine r_getI (pc := 87) dX6_countInvariants_87 (k9 := 6) CL_4 (by decide) (by decide) w_221 rfl (okO_of (N := 12) (hL.sh (i := 8) rfl (by decide) (by decide)) (by decide)) (fun _ => ?_)
    refine r_iconst (pc := 90) dX6_countInvariants_90 (inRk rfl) ?_
    refine r_icmp_ge (pc := 91) (tgt := 98) dX6_countInvariants_91 (by decide) (fun c9 => ?_) (fun c9 => ?_)
    · replace h := h.1 c9
      refine r_iload (pc := 98) dX6_countInvariants_98 rfl ?_
      refine r_iconst (pc := 100) dX6_countInvariants_100 (inRk rfl) ?_
      refine r_aload_n (pc := 101) dX6_countInvariants_101 rfl rfl ?_
      refine r_getI (pc := 102) dX6_countInvariants_102 (k9 := 6) CL_4 (by decide) (by decide) w_221 rfl (okO_of (N := 12) (hL.sh (i := 8) rfl (by decide) (by decide)) (by decide)) (fun _ => ?_)
      obtain ⟨o1, h⟩ := h
      refine r_imul (pc := 105) dX6_countInvariants_105 o1 ?_
      obtain ⟨o2, h⟩ := h
      obtain ⟨o3, h⟩ := h
      refine r_idiv (pc := 106) dX6_countInvariants_106 o2 o3 ?_
      exact r_ireturn (pc := 107) (ty := .int) dX6_countInvariants_107 (by decide +kernel) rfl (nar_i _) (h hL)
    · replace h := h.2 c9
      refine r_iconst (pc := 94) dX6_countInvariants_94 (inRk rfl) ?_
      refine r_goto (pc := 95) (tgt := 107) dX6_countInvariants_95 (by decide) ?_
      exact r_ireturn (pc := 107) (ty := .int) dX6_countInvariants_107 (by decide +kernel) rfl (nar_i _) (h hL)
  · replace h := h.2 c9
    refine r_aload_n (pc := 15) dX6_countInvariants_15 rfl rfl ?_
    refine r_getR (pc := 16) dX6_countInvariants_16 (k9 := 4) CL_4 (by decide) (by decide) w_211 rfl (okO_of (N := 12) (hL.sh (i := 8) rfl (by decide) (by decide)) (by decide)) ?_
    refine eqR (y := 29) (hL.rf (i := 12) rfl) ?_
    refine r_iload (pc := 19) dX6_countInvariants_19 rfl ?_
    refine c_SNI0N (M := mX6_countInvariants) (pc := 21) (As := [vr 29, vi x5]) dX6_countInvariants_21 K_X11_at wt_1255 ⟨by decide, by decide⟩ (Nat.le_of_ble_eq_true rfl) rfl rfl (h hL) (fun r4 τ5 h8 hr9 => ?_) rfl
    replace hL := h8.1
    replace h := h8.2 hr9
    refine r_bipush (pc := 24) dX6_countInvariants_24 (by decide) ?_
    obtain ⟨o6, h⟩ := h
    refine r_imul (pc := 26) dX6_countInvariants_26 o6 ?_
    refine r_istore (pc := 27) dX6_countInvariants_27 (by decide) (l2 := [none, some (vr 24), some (vr a2), some (vi x3), some (vi x4), some (vi x5), some (vi (r4 * 8)), none, none]) rfl ?_
    refine r_aload_n (pc := 29) dX6_countInvariants_29 rfl rfl ?_
    refine r_getR (pc := 30) dX6_countInvariants_30 (k9 := 1) CL_1 (by decide) (by decide) w_452 rfl (okO_of (ci := 1) (N := 12) (qa2.r hL).1 (qa2.r hL).2.1) ?_
    refine eqR (y := a2 + 2) (qa2.f hL (k := 1) (by decide)) ?_
    refine r_iload (pc := 33) dX6_countInvariants_33 rfl ?_
    refine c_SNI0N (M := mX6_countInvariants) (pc := 35) (As := [vr (a2 + 2), vi (r4 * 8)]) dX6_countInvariants_35 K_X11_at wt_1255 ⟨by decide, by decide⟩ (Nat.le_of_ble_eq_true rfl) rfl rfl (h hL) (fun r7 τ8 h8 hr9 => ?_) rfl
    replace hL := h8.1
    replace h := h8.2 hr9
    refine r_istore (pc := 38) dX6_countInvariants_38 (by decide) (l2 := [none, some (vr 24), some (vr a2), some (vi x3), some (vi x4), some (vi x5), some (vi (r4 * 8)), some (vi r7), none]) rfl ?_
    refine r_aload_n (pc := 40) dX6_countInvariants_40 rfl rfl ?_
    refine r_getR (pc := 41) dX6_countInvariants_41 (k9 := 1) CL_1 (by decide) (by decide) w_452 rfl (okO_of (ci := 1) (N := 12) (qa2.r hL).1 (qa2.r hL).2.1) ?_
    refine eqR (y := a2 + 2) (qa2.f hL (k := 1) (by decide)) ?_
    refine r_iload (pc := 44) dX6_countInvariants_44 rfl ?_
    refine r_iconst (pc := 46) dX6_countInvariants_46 (inRk rfl) ?_
    obtain ⟨o9, h⟩ := h
    refine r_iadd (pc := 47) dX6_countInvariants_47 o9 ?_
    refine c_SNI0N (M := mX6_countInvariants) (pc := 48) (As := [vr (a2 + 2), vi ((r4 * 8) + 1)]) dX6_countInvariants_48 K_X11_at wt_1255 ⟨by decide, by decide⟩ (Nat.le_of_ble_eq_true rfl) rfl rfl (h hL) (fun r10 τ11 h8 hr9 => ?_) rfl
    replace hL := h8.1
    replace h := h8.2 hr9
    refine r_istore (pc := 51) dX6_countInvariants_51 (by decide) (l2 := [none, some (vr 24), some (vr a2), some (vi x3), some (vi x4), some (vi x5), some (vi (r4 * 8)), some (vi r7), some (vi r10)]) rfl ?_
    refine r_iload (pc := 53) dX6_countInvariants_53 rfl ?_
    refine r_aload_n (pc := 55) dX6_countInvariants_55 rfl rfl ?_
    refine r_getR (pc := 56) dX6_countInvariants_56 (k9 := 5) CL_4 (by decide) (by decide) w_215 rfl (okO_of (N := 12) (hL.sh (i := 8) rfl (by decide) (by decide)) (by decide)) ?_
    refine eqR (y := 30) (hL.rf (i := 13) rfl) ?_
    refine r_iload (pc := 59) dX6_countInvariants_59 rfl ?_
    refine c_SNI0N (M := mX6_countInvariants) (pc := 61) (As := [vr 30, vi x5]) dX6_countInvariants_61 K_X11_at wt_1255 ⟨by decide, by decide⟩ (Nat.le_of_ble_eq_true rfl) rfl rfl (h hL) (fun r12 τ13 h8 hr9 => ?_) rfl
    replace hL := h8.1
    replace h := h8.2 hr9
    refine r_iload (pc := 64) dX6_countInvariants_64 rfl ?_
    refine r_iload (pc := 66) dX6_countInvariants_66 rfl ?_
    refine r_aload_n (pc := 68) dX6_countInvariants_68 rfl rfl ?_
    refine r_getI (pc := 69) dX6_countInvariants_69 (k9 := 6) CL_1 (by decide) (by decide) w_463 rfl (okO_of (ci := 1) (N := 12) (qa2.r hL).1 (qa2.r hL).2.1) (fun _ => ?_)
    refine r_iload_n (pc := 72) dX6_countInvariants_72 rfl rfl ?_
    refine c_SI0N (M := mX6_countInvariants) (pc := 73) (As := [vi r7, vi r10, vi (gI τ13 a2 6), vi x3]) dX6_countInvariants_73 K_X6_doubledValue w_1256 ⟨by decide, by decide⟩ (Nat.le_of_ble_eq_true rfl) rfl rfl (h hL) (fun r14 τ15 h8 hr9 => ?_) rfl
    replace hL := h8.1
    replace h := h8.2 hr9
    obtain ⟨o16, h⟩ := h
    refine r_imul (pc := 76) dX6_countInvariants_76 o16 ?_
    obtain ⟨o17, h⟩ := h
    refine r_iadd (pc := 77) dX6_countInvariants_77 o17 ?_
    refine r_istore (pc := 78) dX6_countInvariants_78 (by decide) (l2 := [none, some (vr 24), some (vr a2), some (vi x3), some (vi (x4 + (r12 * r14))), some (vi x5), some (vi (r4 * 8)), some (vi r7), some (vi r10)]) rfl ?_
    obtain ⟨o18, h⟩ := h
    refine r_iinc (pc := 80) dX6_countInvariants_80 rfl (by decide) o18 (l2 := [none, some (vr 24), some (vr a2), some (vi x3), some (vi (x4 + (r12 * r14))), some (vi (x5 + 1)), some (vi (r4 * 8)), some (vi r7), some (vi r10)]) rfl ?_
    refine r_goto (pc := 83) (tgt := 6) dX6_countInvariants_83 (by decide) ?_
    exact GG.msk [false, true, true, true, true, true, false, false, false] (h hL)
theorem C_X6_countInvariants {a0 : Nat} {a1 : Nat} {a2 : Nat} {x3 : Int} (h : GG E mX6_countInvariants 0 [some (vr a0), some (vr a1), some (vr a2), some (vi x3), none, none, none, none, none] [] σ 0 0 Q) : CC E mX6_countInvariants [vr a0, vr a1, vr a2, vi x3] σ Q := CC.of (by decide +kernel) rfl (by decide +kernel) (fun h9 => nomatch h9) (Nat.le_of_ble_eq_true rfl) h
theorem dX6_doubledValue_0 : decode cX6_doubledValue 0 = .ok (.iconst 2, 1) := by decide +kernel
theorem dX6_doubledValue_1 : decode cX6_doubledValue 1 = .ok (.istore 4, 2) := by decide +kernel
theorem dX6_doubledValue_3 : decode cX6_doubledValue 3 = .ok (.iconst 0, 1) := by decide +kernel
theorem dX6_doubledValue_4 : decode cX6_doubledValue 4 = .ok (.istore 5, 2) := by decide +kernel
theorem dX6_doubledValue_6 : decode cX6_doubledValue 6 = .ok (.iconst 0, 1) := by decide +kernel
theorem dX6_doubledValue_7 : decode cX6_doubledValue 7 = .ok (.istore 6, 2) := by decide +kernel
theorem dX6_doubledValue_9 : decode cX6_doubledValue 9 = .ok (.iconst 0, 1) := by decide +kernel
theorem dX6_doubledValue_10 : decode cX6_doubledValue 10 = .ok (.istore 7, 2) := by decide +kernel
theorem dX6_doubledValue_12 : decode cX6_doubledValue 12 = .ok (.iconst 0, 1) := by decide +kernel
theorem dX6_doubledValue_13 : decode cX6_doubledValue 13 = .ok (.istore 8, 2) := by decide +kernel
theorem dX6_doubledValue_15 : decode cX6_doubledValue 15 = .ok (.iload 8, 2) := by decide +kernel
theorem dX6_doubledValue_17 : decode cX6_doubledValue 17 = .ok (.iload_n 3, 1) := by decide +kernel
theorem dX6_doubledValue_18 : decode cX6_doubledValue 18 = .ok (.if_icmp .ge 67, 3) := by decide +kernel
theorem dX6_doubledValue_21 : decode cX6_doubledValue 21 = .ok (.iload 8, 2) := by decide +kernel
theorem dX6_doubledValue_23 : decode cX6_doubledValue 23 = .ok (.sipush 200, 3) := by decide +kernel
theorem dX6_doubledValue_26 : decode cX6_doubledValue 26 = .ok (.if_icmp .ge 59, 3) := by decide +kernel
theorem dX6_doubledValue_29 : decode cX6_doubledValue 29 = .ok (.iload_n 0, 1) := by decide +kernel
theorem dX6_doubledValue_30 : decode cX6_doubledValue 30 = .ok (.iload 4, 2) := by decide +kernel
theorem dX6_doubledValue_32 : decode cX6_doubledValue 32 = .ok (.imul, 1) := by decide +kernel
theorem dX6_doubledValue_33 : decode cX6_doubledValue 33 = .ok (.iload_n 2, 1) := by decide +kernel
theorem dX6_doubledValue_34 : decode cX6_doubledValue 34 = .ok (.iload_n 1, 1) := by decide +kernel
theorem dX6_doubledValue_35 : decode cX6_doubledValue 35 = .ok (.imul, 1) := by decide +kernel
theorem dX6_doubledValue_36 : decode cX6_doubledValue 36 = .ok (.iload 5, 2) := by decide +kernel
theorem dX6_doubledValue_38 : decode cX6_doubledValue 38 = .ok (.imul, 1) := by decide +kernel
theorem dX6_doubledValue_39 : decode cX6_doubledValue 39 = .ok (.iadd, 1) := by decide +kernel
theorem dX6_doubledValue_40 : decode cX6_doubledValue 40 = .ok (.iconst 2, 1) := by decide +kernel
theorem dX6_doubledValue_41 : decode cX6_doubledValue 41 = .ok (.idiv, 1) := by decide +kernel
theorem dX6_doubledValue_42 : decode cX6_doubledValue 42 = .ok (.iload 6, 2) := by decide +kernel
theorem dX6_doubledValue_44 : decode cX6_doubledValue 44 = .ok (.isub, 1) := by decide +kernel
theorem dX6_doubledValue_45 : decode cX6_doubledValue 45 = .ok (.istore 9, 2) := by decide +kernel
theorem dX6_doubledValue_47 : decode cX6_doubledValue 47 = .ok (.iload_n 0, 1) := by decide +kernel
theorem dX6_doubledValue_48 : decode cX6_doubledValue 48 = .ok (.iload 5, 2) := by decide +kernel
theorem dX6_doubledValue_50 : decode cX6_doubledValue 50 = .ok (.imul, 1) := by decide +kernel
theorem dX6_doubledValue_51 : decode cX6_doubledValue 51 = .ok (.iload_n 1, 1) := by decide +kernel
theorem dX6_doubledValue_52 : decode cX6_doubledValue 52 = .ok (.iload 4, 2) := by decide +kernel
theorem dX6_doubledValue_54 : decode cX6_doubledValue 54 = .ok (.imul, 1) := by decide +kernel
theorem dX6_doubledValue_55 : decode cX6_doubledValue 55 = .ok (.iadd, 1) := by decide +kernel
theorem dX6_doubledValue_56 : decode cX6_doubledValue 56 = .ok (.iconst 2, 1) := by decide +kernel
theorem dX6_doubledValue_57 : decode cX6_doubledValue 57 = .ok (.idiv, 1) := by decide +kernel
theorem dX6_doubledValue_58 : decode cX6_doubledValue 58 = .ok (.iload 7, 2) := by decide +kernel
theorem dX6_doubledValue_60 : decode cX6_doubledValue 60 = .ok (.isub, 1) := by decide +kernel
theorem dX6_doubledValue_61 : decode cX6_doubledValue 61 = .ok (.istore 10, 2) := by decide +kernel
theorem dX6_doubledValue_63 : decode cX6_doubledValue 63 = .ok (.iload 4, 2) := by decide +kernel
theorem dX6_doubledValue_65 : decode cX6_doubledValue 65 = .ok (.istore 6, 2) := by decide +kernel
theorem dX6_doubledValue_67 : decode cX6_doubledValue 67 = .ok (.iload 5, 2) := by decide +kernel
theorem dX6_doubledValue_69 : decode cX6_doubledValue 69 = .ok (.istore 7, 2) := by decide +kernel
theorem dX6_doubledValue_71 : decode cX6_doubledValue 71 = .ok (.iload 9, 2) := by decide +kernel
theorem dX6_doubledValue_73 : decode cX6_doubledValue 73 = .ok (.istore 4, 2) := by decide +kernel
theorem dX6_doubledValue_75 : decode cX6_doubledValue 75 = .ok (.iload 10, 2) := by decide +kernel
theorem dX6_doubledValue_77 : decode cX6_doubledValue 77 = .ok (.istore 5, 2) := by decide +kernel
theorem dX6_doubledValue_79 : decode cX6_doubledValue 79 = .ok (.iinc 8 1, 3) := by decide +kernel
theorem dX6_doubledValue_82 : decode cX6_doubledValue 82 = .ok (.goto (-67), 3) := by decide +kernel
theorem dX6_doubledValue_85 : decode cX6_doubledValue 85 = .ok (.iload 4, 2) := by decide +kernel
theorem dX6_doubledValue_87 : decode cX6_doubledValue 87 = .ok (.ireturn, 1) := by decide +kernel
theorem B_X6_doubledValue_0 {x0 : Int} {x1 : Int} {x2 : Int} {x3 : Int} (h : GG E mX6_doubledValue 15 [some (vi x0), some (vi x1), some (vi x2), some (vi x3), some (vi 2), some (vi 0), some (vi 0), some (vi 0), some (vi 0), none, none] [] σ rc rs Q) : GG E mX6_doubledValue 0 [some (vi x0), some (vi x1), some (vi x2), some (vi x3), none, none, none, none, none, none, none] [] σ rc rs Q := by
  refine r_iconst (pc := 0) dX6_doubledValue_0 (inRk rfl) ?_
  refine r_istore (pc := 1) dX6_doubledValue_1 (by decide) (l2 := [some (vi x0), some (vi x1), some (vi x2), some (vi x3), some (vi 2), none, none, none, none, none, none]) rfl ?_
  refine r_iconst (pc := 3) dX6_doubledValue_3 (inRk rfl) ?_
  refine r_istore (pc := 4) dX6_doubledValue_4 (by decide) (l2 := [some (vi x0), some (vi x1), some (vi x2), some (vi x3), some (vi 2), some (vi 0), none, none, none, none, none]) rfl ?_
  refine r_iconst (pc := 6) dX6_doubledValue_6 (inRk rfl) ?_
  refine r_istore (pc := 7) dX6_doubledValue_7 (by decide) (l2 := [some (vi x0), some (vi x1), some (vi x2), some (vi x3), some (vi 2), some (vi 0), some (vi 0), none, none, none, none]) rfl ?_
  refine r_iconst (pc := 9) dX6_doubledValue_9 (inRk rfl) ?_
  refine r_istore (pc := 10) dX6_doubledValue_10 (by decide) (l2 := [some (vi x0), some (vi x1), some (vi x2), some (vi x3), some (vi 2), some (vi 0), some (vi 0), some (vi 0), none, none, none]) rfl ?_
  refine r_iconst (pc := 12) dX6_doubledValue_12 (inRk rfl) ?_
  refine r_istore (pc := 13) dX6_doubledValue_13 (by decide) (l2 := [some (vi x0), some (vi x1), some (vi x2), some (vi x3), some (vi 2), some (vi 0), some (vi 0), some (vi 0), some (vi 0), none, none]) rfl ?_
  exact h
theorem B_X6_doubledValue_15 {x0 : Int} {x1 : Int} {x2 : Int} {x3 : Int} {x4 : Int} {x5 : Int} {x6 : Int} {x7 : Int} {x8 : Int} (h : ((x3 ≤ x8 → Q (.inl (some (vi x4))) σ) ∧ (¬ (x3 ≤ x8) → ((200 ≤ x8 → Q (.inl (some (vi x4))) σ) ∧ (¬ (200 ≤ x8) → inR (x0 * x4) ∧ inR (x2 * x1) ∧ inR ((x2 * x1) * x5) ∧ inR ((x0 * x4) + ((x2 * x1) * x5)) ∧ inR (((x0 * x4) + ((x2 * x1) * x5)).tdiv 2) ∧ inR ((((x0 * x4) + ((x2 * x1) * x5)).tdiv 2) - x6) ∧ inR (x0 * x5) ∧ inR (x1 * x4) ∧ inR ((x0 * x5) + (x1 * x4)) ∧ inR (((x0 * x5) + (x1 * x4)).tdiv 2) ∧ inR ((((x0 * x5) + (x1 * x4)).tdiv 2) - x7) ∧ inR (x8 + 1) ∧ GG E mX6_doubledValue 15 [some (vi x0), some (vi x1), some (vi x2), some (vi x3), some (vi ((((x0 * x4) + ((x2 * x1) * x5)).tdiv 2) - x6)), some (vi ((((x0 * x5) + (x1 * x4)).tdiv 2) - x7)), some (vi x4), some (vi x5), some (vi (x8 + 1)), none, none] [] σ rc rs Q))))) : GG E mX6_doubledValue 15 [some (vi x0), some (vi x1), some (vi x2), some (vi x3), some (vi x4), some (vi x5), some (vi x6), some (vi x7), some (vi x8), none, none] [] σ rc rs Q := by
  refine r_iload (pc := 15) dX6_doubledValue_15 rfl ?_
  refine r_iload_n (pc := 17) dX6_doubledValue_17 rfl rfl ?_
  refine r_icmp_ge (pc := 18) (tgt := 85) dX6_doubledValue_18 (by decide) (fun c9 => ?_) (fun c9 => ?_)
  · replace h := h.1 c9
    refine r_iload (pc := 85) dX6_doubledValue_85 rfl ?_
    exact r_ireturn (pc := 87) (ty := .int) dX6_doubledValue_87 (by decide +kernel) rfl (nar_i _) h
  · replace h := h.2 c9
    refine r_iload (pc := 21) dX6_doubledValue_21 rfl ?_
    refine r_sipush (pc := 23) dX6_doubledValue_23 (by decide) ?_
    refine r_icmp_ge (pc := 26) (tgt := 85) dX6_doubledValue_26 (by decide) (fun c9 => ?_) (fun c9 => ?_)
    · replace h := h.1 c9
      refine r_iload (pc := 85) dX6_doubledValue_85 rfl ?_
      exact r_ireturn (pc := 87) (ty := .int) dX6_doubledValue_87 (by decide +kernel) rfl (nar_i _) h
    · replace h := h.2 c9
      refine r_iload_n (pc := 29) dX6_doubledValue_29 rfl rfl ?_
      refine r_iload (pc := 30) dX6_doubledValue_30 rfl ?_
      obtain ⟨o1, h⟩ := h
      refine r_imul (pc := 32) dX6_doubledValue_32 o1 ?_
      refine r_iload_n (pc := 33) dX6_doubledValue_33 rfl rfl ?_
      refine r_iload_n (pc := 34) dX6_doubledValue_34 rfl rfl ?_
      obtain ⟨o2, h⟩ := h
      refine r_imul (pc := 35) dX6_doubledValue_35 o2 ?_
      refine r_iload (pc := 36) dX6_doubledValue_36 rfl ?_
      obtain ⟨o3, h⟩ := h
      refine r_imul (pc := 38) dX6_doubledValue_38 o3 ?_
      obtain ⟨o4, h⟩ := h
      refine r_iadd (pc := 39) dX6_doubledValue_39 o4 ?_
      refine r_iconst (pc := 40) dX6_doubledValue_40 (inRk rfl) ?_
      obtain ⟨o5, h⟩ := h
      refine r_idiv (pc := 41) dX6_doubledValue_41 (by decide) o5 ?_
      refine r_iload (pc := 42) dX6_doubledValue_42 rfl ?_
      obtain ⟨o6, h⟩ := h
      refine r_isub (pc := 44) dX6_doubledValue_44 o6 ?_
      refine r_istore (pc := 45) dX6_doubledValue_45 (by decide) (l2 := [some (vi x0), some (vi x1), some (vi x2), some (vi x3), some (vi x4), some (vi x5), some (vi x6), some (vi x7), some (vi x8), some (vi ((((x0 * x4) + ((x2 * x1) * x5)).tdiv 2) - x6)), none]) rfl ?_
      refine r_iload_n (pc := 47) dX6_doubledValue_47 rfl rfl ?_
      refine r_iload (pc := 48) dX6_doubledValue_48 rfl ?_
      obtain ⟨o7, h⟩ := h
      refine r_imul (pc := 50) dX6_doubledValue_50 o7 ?_
      refine r_iload_n (pc := 51) dX6_doubledValue_51 rfl rfl ?_
      refine r_iload (pc := 52) dX6_doubledValue_52 rfl ?_
      obtain ⟨o8, h⟩ := h
      refine r_imul (pc := 54) dX6_doubledValue_54 o8 ?_
      obtain ⟨o9, h⟩ := h
      refine r_iadd (pc := 55) dX6_doubledValue_55 o9 ?_
      refine r_iconst (pc := 56) dX6_doubledValue_56 (inRk rfl) ?_
      obtain ⟨o10, h⟩ := h
      refine r_idiv (pc := 57) dX6_doubledValue_57 (by decide) o10 ?_
      refine r_iload (pc := 58) dX6_doubledValue_58 rfl ?_
      obtain ⟨o11, h⟩ := h
      refine r_isub (pc := 60) dX6_doubledValue_60 o11 ?_
      refine r_istore (pc := 61) dX6_doubledValue_61 (by decide) (l2 := [some (vi x0), some (vi x1), some (vi x2), some (vi x3), some (vi x4), some (vi x5), some (vi x6), some (vi x7), some (vi x8), some (vi ((((x0 * x4) + ((x2 * x1) * x5)).tdiv 2) - x6)), some (vi ((((x0 * x5) + (x1 * x4)).tdiv 2) - x7))]) rfl ?_
      refine r_iload (pc := 63) dX6_doubledValue_63 rfl ?_
      refine r_istore (pc := 65) dX6_doubledValue_65 (by decide) (l2 := [some (vi x0), some (vi x1), some (vi x2), some (vi x3), some (vi x4), some (vi x5), some (vi x4), some (vi x7), some (vi x8), some (vi ((((x0 * x4) + ((x2 * x1) * x5)).tdiv 2) - x6)), some (vi ((((x0 * x5) + (x1 * x4)).tdiv 2) - x7))]) rfl ?_
      refine r_iload (pc := 67) dX6_doubledValue_67 rfl ?_
      refine r_istore (pc := 69) dX6_doubledValue_69 (by decide) (l2 := [some (vi x0), some (vi x1), some (vi x2), some (vi x3), some (vi x4), some (vi x5), some (vi x4), some (vi x5), some (vi x8), some (vi ((((x0 * x4) + ((x2 * x1) * x5)).tdiv 2) - x6)), some (vi ((((x0 * x5) + (x1 * x4)).tdiv 2) - x7))]) rfl ?_
      refine r_iload (pc := 71) dX6_doubledValue_71 rfl ?_
      refine r_istore (pc := 73) dX6_doubledValue_73 (by decide) (l2 := [some (vi x0), some (vi x1), some (vi x2), some (vi x3), some (vi ((((x0 * x4) + ((x2 * x1) * x5)).tdiv 2) - x6)), some (vi x5), some (vi x4), some (vi x5), some (vi x8), some (vi ((((x0 * x4) + ((x2 * x1) * x5)).tdiv 2) - x6)), some (vi ((((x0 * x5) + (x1 * x4)).tdiv 2) - x7))]) rfl ?_
      refine r_iload (pc := 75) dX6_doubledValue_75 rfl ?_
      refine r_istore (pc := 77) dX6_doubledValue_77 (by decide) (l2 := [some (vi x0), some (vi x1), some (vi x2), some (vi x3), some (vi ((((x0 * x4) + ((x2 * x1) * x5)).tdiv 2) - x6)), some (vi ((((x0 * x5) + (x1 * x4)).tdiv 2) - x7)), some (vi x4), some (vi x5), some (vi x8), some (vi ((((x0 * x4) + ((x2 * x1) * x5)).tdiv 2) - x6)), some (vi ((((x0 * x5) + (x1 * x4)).tdiv 2) - x7))]) rfl ?_
      obtain ⟨o12, h⟩ := h
      refine r_iinc (pc := 79) dX6_doubledValue_79 rfl (by decide) o12 (l2 := [some (vi x0), some (vi x1), some (vi x2), some (vi x3), some (vi ((((x0 * x4) + ((x2 * x1) * x5)).tdiv 2) - x6)), some (vi ((((x0 * x5) + (x1 * x4)).tdiv 2) - x7)), some (vi x4), some (vi x5), some (vi (x8 + 1)), some (vi ((((x0 * x4) + ((x2 * x1) * x5)).tdiv 2) - x6)), some (vi ((((x0 * x5) + (x1 * x4)).tdiv 2) - x7))]) rfl ?_
      refine r_goto (pc := 82) (tgt := 15) dX6_doubledValue_82 (by decide) ?_
      exact GG.msk [true, true, true, true, true, true, true, true, true, false, false] h
theorem C_X6_doubledValue {x0 : Int} {x1 : Int} {x2 : Int} {x3 : Int} (h : GG E mX6_doubledValue 0 [some (vi x0), some (vi x1), some (vi x2), some (vi x3), none, none, none, none, none, none, none] [] σ 0 0 Q) : CC E mX6_doubledValue [vi x0, vi x1, vi x2, vi x3] σ Q := CC.of (by decide +kernel) rfl (by decide +kernel) (fun h9 => nomatch h9) (Nat.le_of_ble_eq_true rfl) h
theorem dX6_goOn_0 : decode cX6_goOn 0 = .ok (.iconst 0, 1) := by decide +kernel
theorem dX6_goOn_1 : decode cX6_goOn 1 = .ok (.istore_n 2, 1) := by decide +kernel
theorem dX6_goOn_2 : decode cX6_goOn 2 = .ok (.iload_n 2, 1) := by decide +kernel
theorem dX6_goOn_3 : decode cX6_goOn 3 = .ok (.aload_n 1, 1) := by decide +kernel
theorem dX6_goOn_4 : decode cX6_goOn 4 = .ok (.getfield 18, 3) := by decide +kernel
theorem dX6_goOn_7 : decode cX6_goOn 7 = .ok (.if_icmp .ge 56, 3) := by decide +kernel
theorem dX6_goOn_10 : decode cX6_goOn 10 = .ok (.aload_n 1, 1) := by decide +kernel
theorem dX6_goOn_11 : decode cX6_goOn 11 = .ok (.getfield 63, 3) := by decide +kernel
theorem dX6_goOn_14 : decode cX6_goOn 14 = .ok (.aload_n 1, 1) := by decide +kernel
theorem dX6_goOn_15 : decode cX6_goOn 15 = .ok (.getfield 67, 3) := by decide +kernel
theorem dX6_goOn_18 : decode cX6_goOn 18 = .ok (.iload_n 2, 1) := by decide +kernel
theorem dX6_goOn_19 : decode cX6_goOn 19 = .ok (.iaload, 1) := by decide +kernel
theorem dX6_goOn_20 : decode cX6_goOn 20 = .ok (.aload_n 0, 1) := by decide +kernel
theorem dX6_goOn_21 : decode cX6_goOn 21 = .ok (.getfield 9, 3) := by decide +kernel
theorem dX6_goOn_24 : decode cX6_goOn 24 = .ok (.iload_n 2, 1) := by decide +kernel
theorem dX6_goOn_25 : decode cX6_goOn 25 = .ok (.iaload, 1) := by decide +kernel
theorem dX6_goOn_26 : decode cX6_goOn 26 = .ok (.imul, 1) := by decide +kernel
theorem dX6_goOn_27 : decode cX6_goOn 27 = .ok (.aload_n 0, 1) := by decide +kernel
theorem dX6_goOn_28 : decode cX6_goOn 28 = .ok (.getfield 15, 3) := by decide +kernel
theorem dX6_goOn_31 : decode cX6_goOn 31 = .ok (.iload_n 2, 1) := by decide +kernel
theorem dX6_goOn_32 : decode cX6_goOn 32 = .ok (.iaload, 1) := by decide +kernel
theorem dX6_goOn_33 : decode cX6_goOn 33 = .ok (.isub, 1) := by decide +kernel
theorem dX6_goOn_34 : decode cX6_goOn 34 = .ok (.invokevirtual 70, 3) := by decide +kernel
theorem dX6_goOn_37 : decode cX6_goOn 37 = .ok (.istore_n 3, 1) := by decide +kernel
theorem dX6_goOn_38 : decode cX6_goOn 38 = .ok (.aload_n 0, 1) := by decide +kernel
theorem dX6_goOn_39 : decode cX6_goOn 39 = .ok (.getfield 15, 3) := by decide +kernel
theorem dX6_goOn_42 : decode cX6_goOn 42 = .ok (.iload_n 2, 1) := by decide +kernel
theorem dX6_goOn_43 : decode cX6_goOn 43 = .ok (.aload_n 0, 1) := by decide +kernel
theorem dX6_goOn_44 : decode cX6_goOn 44 = .ok (.getfield 9, 3) := by decide +kernel
theorem dX6_goOn_47 : decode cX6_goOn 47 = .ok (.iload_n 2, 1) := by decide +kernel
theorem dX6_goOn_48 : decode cX6_goOn 48 = .ok (.iaload, 1) := by decide +kernel
theorem dX6_goOn_49 : decode cX6_goOn 49 = .ok (.iastore, 1) := by decide +kernel
theorem dX6_goOn_50 : decode cX6_goOn 50 = .ok (.aload_n 0, 1) := by decide +kernel
theorem dX6_goOn_51 : decode cX6_goOn 51 = .ok (.getfield 9, 3) := by decide +kernel
theorem dX6_goOn_54 : decode cX6_goOn 54 = .ok (.iload_n 2, 1) := by decide +kernel
theorem dX6_goOn_55 : decode cX6_goOn 55 = .ok (.iload_n 3, 1) := by decide +kernel
theorem dX6_goOn_56 : decode cX6_goOn 56 = .ok (.iastore, 1) := by decide +kernel
theorem dX6_goOn_57 : decode cX6_goOn 57 = .ok (.iinc 2 1, 3) := by decide +kernel
theorem dX6_goOn_60 : decode cX6_goOn 60 = .ok (.goto (-58), 3) := by decide +kernel
theorem dX6_goOn_63 : decode cX6_goOn 63 = .ok (.return_, 1) := by decide +kernel
theorem B_X6_goOn_0 {g : Sg} {c t : Nat} (hL : Lay LC g c t σ)  (h : (Lay LC g c t σ → GG E mX6_goOn 2 [some (vr 152), some (vr 34), some (vi 0), none] [] σ rc rs Q)) : GG E mX6_goOn 0 [some (vr 152), some (vr 34), none, none] [] σ rc rs Q := by
  refine r_iconst (pc := 0) dX6_goOn_0 (inRk rfl) ?_
  refine r_istore_n (pc := 1) dX6_goOn_1 rfl (by decide) (l2 := [some (vr 152), some (vr 34), some (vi 0), none]) rfl ?_
  exact (h hL)
theorem B_X6_goOn_2 {g : Sg} {c t : Nat} (hL : Lay LC g c t σ) {x2 : Int} (h : (((gI σ 34 7) ≤ x2 → (Lay LC g c t σ → Q (.inl none) σ)) ∧ (¬ ((gI σ 34 7) ≤ x2) → (0 ≤ x2 ∧ x2 < 12) ∧ inR ((gI σ 50 x2.toNat) * (gI σ 153 x2.toNat)) ∧ inR (((gI σ 50 x2.toNat) * (gI σ 153 x2.toNat)) - (gI σ 154 x2.toNat)) ∧ ∀ v4 : Int, v4 = ((gI σ 50 x2.toNat) * (gI σ 153 x2.toNat)) - (gI σ 154 x2.toNat) → (Lay LC g c t σ → CC E mX2_mod [vr 35, vi v4] σ (KI (fun r5 τ6 => Lay LC g c t τ6 ∧ (inR r5 → ∀ τ7 : Sg, τ7 = sI τ6 154 x2.toNat (gI τ6 153 x2.toNat) → ∀ τ8 : Sg, τ8 = sI τ7 153 x2.toNat r5 → inR (x2 + 1) ∧ (Lay LC g c t τ8 → GG E mX6_goOn 2 [some (vr 152), some (vr 34), some (vi (x2 + 1)), none] [] τ8 rc rs Q))) (fun _ _ => False)))))) : GG E mX6_goOn 2 [some (vr 152), some (vr 34), some (vi x2), none] [] σ rc rs Q := by
  refine r_iload_n (pc := 2) dX6_goOn_2 rfl rfl ?_
  refine r_aload_n (pc := 3) dX6_goOn_3 rfl rfl ?_
  refine r_getI (pc := 4) dX6_goOn_4 (k9 := 7) CL_0 (by decide) (by decide) w_327 rfl (okO_of (N := 10) (hL.sh (i := 18) rfl (by decide) (by decide)) (by decide)) (fun _ => ?_)
  refine r_icmp_ge (pc := 7) (tgt := 63) dX6_goOn_7 (by decide) (fun c9 => ?_) (fun c9 => ?_)
  · replace h := h.1 c9
    exact r_return (pc := 63) dX6_goOn_63 (by decide +kernel) rfl (h hL)
  · replace h := h.2 c9
    refine r_aload_n (pc := 10) dX6_goOn_10 rfl rfl ?_
    refine r_getR (pc := 11) dX6_goOn_11 (k9 := 0) CL_0 (by decide) (by decide) w_313 rfl (okO_of (N := 10) (hL.sh (i := 18) rfl (by decide) (by decide)) (by decide)) ?_
    refine eqR (y := 35) (hL.rf (i := 18) rfl) ?_
    refine r_aload_n (pc := 14) dX6_goOn_14 rfl rfl ?_
    refine r_getR (pc := 15) dX6_goOn_15 (k9 := 3) CL_0 (by decide) (by decide) w_321 rfl (okO_of (N := 10) (hL.sh (i := 18) rfl (by decide) (by decide)) (by decide)) ?_
    refine eqR (y := 50) (hL.rf (i := 21) rfl) ?_
    refine r_iload_n (pc := 18) dX6_goOn_18 rfl rfl ?_
    obtain ⟨o1, h⟩ := h
    refine r_iaload (pc := 19) dX6_goOn_19 (okA_of (c := 20) (n := 12) (hL.sh (i := 23) rfl (by decide) (by decide)) (by decide) o1) ?_
    refine r_aload_n (pc := 20) dX6_goOn_20 rfl rfl ?_
    refine r_getR (pc := 21) dX6_goOn_21 (k9 := 0) CL_6 (by decide) (by decide) w_434 rfl (okO_of (N := 2) (hL.sh (i := 48) rfl (by decide) (by decide)) (by decide)) ?_
    refine eqR (y := 153) (hL.rf (i := 41) rfl) ?_
    refine r_iload_n (pc := 24) dX6_goOn_24 rfl rfl ?_
    refine r_iaload (pc := 25) dX6_goOn_25 (okA_of (c := 20) (n := 12) (hL.sh (i := 49) rfl (by decide) (by decide)) (by decide) o1) ?_
    obtain ⟨o2, h⟩ := h
    refine r_imul (pc := 26) dX6_goOn_26 o2 ?_
    refine r_aload_n (pc := 27) dX6_goOn_27 rfl rfl ?_
    refine r_getR (pc := 28) dX6_goOn_28 (k9 := 1) CL_6 (by decide) (by decide) w_435 rfl (okO_of (N := 2) (hL.sh (i := 48) rfl (by decide) (by decide)) (by decide)) ?_
    refine eqR (y := 154) (hL.rf (i := 42) rfl) ?_
    refine r_iload_n (pc := 31) dX6_goOn_31 rfl rfl ?_
    refine r_iaload (pc := 32) dX6_goOn_32 (okA_of (c := 20) (n := 12) (hL.sh (i := 50) rfl (by decide) (by decide)) (by decide) o1) ?_
    obtain ⟨o3, h⟩ := h
    refine r_isub (pc := 33) dX6_goOn_33 o3 ?_
    refine nmI (fun v4 e9 => ?_)
    replace h := h v4 e9
    refine c_VI0N (M := mX6_goOn) (pc := 34) (As := [vi v4]) dX6_goOn_34 K_X2_mod w_1278 ⟨by decide, by decide⟩ (Nat.le_of_ble_eq_true rfl) rfl rfl (ci := 2) rfl rfl (by decide) (okO_of (N := 2) (hL.sh (i := 19) rfl (by decide) (by decide)) (by decide)) (h hL) (fun r5 τ6 h8 hr9 => ?_) rfl
    replace hL := h8.1
    replace h := h8.2 hr9
    refine r_istore_n (pc := 37) dX6_goOn_37 rfl (by decide) (l2 := [some (vr 152), some (vr 34), some (vi x2), some (vi r5)]) rfl ?_
    refine r_aload_n (pc := 38) dX6_goOn_38 rfl rfl ?_
    refine r_getR (pc := 39) dX6_goOn_39 (k9 := 1) CL_6 (by decide) (by decide) w_435 rfl (okO_of (N := 2) (hL.sh (i := 48) rfl (by decide) (by decide)) (by decide)) ?_
    refine eqR (y := 154) (hL.rf (i := 42) rfl) ?_
    refine r_iload_n (pc := 42) dX6_goOn_42 rfl rfl ?_
    refine r_aload_n (pc := 43) dX6_goOn_43 rfl rfl ?_
    refine r_getR (pc := 44) dX6_goOn_44 (k9 := 0) CL_6 (by decide) (by decide) w_434 rfl (okO_of (N := 2) (hL.sh (i := 48) rfl (by decide) (by decide)) (by decide)) ?_
    refine eqR (y := 153) (hL.rf (i := 41) rfl) ?_
    refine r_iload_n (pc := 47) dX6_goOn_47 rfl rfl ?_
    refine r_iaload (pc := 48) dX6_goOn_48 (okA_of (c := 20) (n := 12) (hL.sh (i := 49) rfl (by decide) (by decide)) (by decide) o1) ?_
    refine r_iastore (pc := 49) dX6_goOn_49 (okB_of (c := 20) (n := 12) (hL.sh (i := 50) rfl (by decide) (by decide)) (by decide) o1) ?_
    refine nmS (fun τ7 e7 => ?_)
    replace h := h τ7 e7
    have hL := hL.wI e7 (by decide) (.inl (by decide))
    refine r_aload_n (pc := 50) dX6_goOn_50 rfl rfl ?_
    refine r_getR (pc := 51) dX6_goOn_51 (k9 := 0) CL_6 (by decide) (by decide) w_434 rfl (okO_of (N := 2) (hL.sh (i := 48) rfl (by decide) (by decide)) (by decide)) ?_
    refine eqR (y := 153) (hL.rf (i := 41) rfl) ?_
    refine r_iload_n (pc := 54) dX6_goOn_54 rfl rfl ?_
    refine r_iload_n (pc := 55) dX6_goOn_55 rfl rfl ?_
    refine r_iastore (pc := 56) dX6_goOn_56 (okB_of (c := 20) (n := 12) (hL.sh (i := 49) rfl (by decide) (by decide)) (by decide) o1) ?_
    refine nmS (fun τ8 e8 => ?_)
    replace h := h τ8 e8
    have hL := hL.wI e8 (by decide) (.inl (by decide))
    obtain ⟨o9, h⟩ := h
    refine r_iinc (pc := 57) dX6_goOn_57 rfl (by decide) o9 (l2 := [some (vr 152), some (vr 34), some (vi (x2 + 1)), some (vi r5)]) rfl ?_
    refine r_goto (pc := 60) (tgt := 2) dX6_goOn_60 (by decide) ?_
    exact GG.msk [true, true, true, false] (h hL)
theorem C_X6_goOn {a0 : Nat} {a1 : Nat} (h : GG E mX6_goOn 0 [some (vr a0), some (vr a1), none, none] [] σ 0 0 Q) : CC E mX6_goOn [vr a0, vr a1] σ Q := CC.of (by decide +kernel) rfl (by decide +kernel) (fun h9 => nomatch h9) (Nat.le_of_ble_eq_true rfl) h
theorem dX6_init_0 : decode cX6_init 0 = .ok (.aload_n 0, 1) := by decide +kernel
theorem dX6_init_1 : decode cX6_init 1 = .ok (.invokespecial 3, 3) := by decide +kernel
theorem dX6_init_4 : decode cX6_init 4 = .ok (.aload_n 0, 1) := by decide +kernel
theorem dX6_init_5 : decode cX6_init 5 = .ok (.bipush 12, 2) := by decide +kernel
theorem dX6_init_7 : decode cX6_init 7 = .ok (.newarray .int, 2) := by decide +kernel
theorem dX6_init_9 : decode cX6_init 9 = .ok (.putfield 9, 3) := by decide +kernel
theorem dX6_init_12 : decode cX6_init 12 = .ok (.aload_n 0, 1) := by decide +kernel
theorem dX6_init_13 : decode cX6_init 13 = .ok (.bipush 12, 2) := by decide +kernel
theorem dX6_init_15 : decode cX6_init 15 = .ok (.newarray .int, 2) := by decide +kernel
theorem dX6_init_17 : decode cX6_init 17 = .ok (.putfield 15, 3) := by decide +kernel
theorem dX6_init_20 : decode cX6_init 20 = .ok (.return_, 1) := by decide +kernel
theorem B_X6_init_0 {a0 : Nat} (h : 16 ≤ a0 ∧ 1 ≤ rc ∧ 12 ≤ rs ∧ ∀ b1 : Nat, b1 = gz σ → okO (nw σ (20, 12)) a0 6 ∧ ∀ τ3 : Sg, τ3 = sR (nw σ (20, 12)) a0 0 b1 → 1 ≤ rc - 1 ∧ 12 ≤ rs - 12 ∧ ∀ b4 : Nat, b4 = gz τ3 → okO (nw τ3 (20, 12)) a0 6 ∧ ∀ τ6 : Sg, τ6 = sR (nw τ3 (20, 12)) a0 1 b4 → Q (.inl none) τ6) : GG E mX6_init 0 [some (vr a0)] [] σ rc rs Q := by
  refine r_aload_n (pc := 0) dX6_init_0 rfl rfl ?_
  refine r_objInit (pc := 1) dX6_init_1 w_433 w_129 w_130 (by decide) (Nat.le_of_ble_eq_true rfl) h.1 ?_
  replace h := h.2
  refine r_aload_n (pc := 4) dX6_init_4 rfl rfl ?_
  refine r_bipush (pc := 5) dX6_init_5 (by decide) ?_
  refine r_newarray (pc := 7) dX6_init_7 (cc := 20) rfl (by decide) (by decide) w_175 (by decide) (by decide) h.1 h.2.1 ?_
  replace h := h.2.2
  change GG _ _ _ _ (vr _ :: _) (nw _ (20, 12)) (_ - 1) (_ - 12) _
  refine nmR (fun b1 e9 => ?_)
  replace h := h b1 e9
  obtain ⟨o2, h⟩ := h
  refine r_putRF (pc := 9) dX6_init_9 (k9 := 0) CL_6 (by decide) (by decide) w_434 rfl rfl rfl rfl o2 ?_
  refine nmS (fun τ3 e3 => ?_)
  replace h := h τ3 e3
  refine r_aload_n (pc := 12) dX6_init_12 rfl rfl ?_
  refine r_bipush (pc := 13) dX6_init_13 (by decide) ?_
  refine r_newarray (pc := 15) dX6_init_15 (cc := 20) rfl (by decide) (by decide) w_175 (by decide) (by decide) h.1 h.2.1 ?_
  replace h := h.2.2
  change GG _ _ _ _ (vr _ :: _) (nw _ (20, 12)) (_ - 1) (_ - 12) _
  refine nmR (fun b4 e9 => ?_)
  replace h := h b4 e9
  obtain ⟨o5, h⟩ := h
  refine r_putRF (pc := 17) dX6_init_17 (k9 := 1) CL_6 (by decide) (by decide) w_435 rfl rfl rfl rfl o5 ?_
  refine nmS (fun τ6 e6 => ?_)
  replace h := h τ6 e6
  exact r_return (pc := 20) dX6_init_20 (by decide +kernel) rfl h
theorem C_X6_init {a0 : Nat} (h : GG E mX6_init 0 [some (vr a0)] [] σ 2 24 Q) : CC E mX6_init [vr a0] σ Q := CC.of (by decide +kernel) rfl (by decide +kernel) (fun h9 => rfl) (Nat.le_of_ble_eq_true rfl) h
theorem dX6_oftenInRow_0 : decode cX6_oftenInRow 0 = .ok (.aload_n 0, 1) := by decide +kernel
theorem dX6_oftenInRow_1 : decode cX6_oftenInRow 1 = .ok (.aload_n 1, 1) := by decide +kernel
theorem dX6_oftenInRow_2 : decode cX6_oftenInRow 2 = .ok (.getfield 18, 3) := by decide +kernel
theorem dX6_oftenInRow_5 : decode cX6_oftenInRow 5 = .ok (.invokevirtual 24, 3) := by decide +kernel
theorem dX6_oftenInRow_8 : decode cX6_oftenInRow 8 = .ok (.iconst 0, 1) := by decide +kernel
theorem dX6_oftenInRow_9 : decode cX6_oftenInRow 9 = .ok (.istore 4, 2) := by decide +kernel
theorem dX6_oftenInRow_11 : decode cX6_oftenInRow 11 = .ok (.iload 4, 2) := by decide +kernel
theorem dX6_oftenInRow_13 : decode cX6_oftenInRow 13 = .ok (.iload_n 3, 1) := by decide +kernel
theorem dX6_oftenInRow_14 : decode cX6_oftenInRow 14 = .ok (.if_icmp .ge 22, 3) := by decide +kernel
theorem dX6_oftenInRow_17 : decode cX6_oftenInRow 17 = .ok (.iload 4, 2) := by decide +kernel
theorem dX6_oftenInRow_19 : decode cX6_oftenInRow 19 = .ok (.sipush 200, 3) := by decide +kernel
theorem dX6_oftenInRow_22 : decode cX6_oftenInRow 22 = .ok (.if_icmp .ge 14, 3) := by decide +kernel
theorem dX6_oftenInRow_25 : decode cX6_oftenInRow 25 = .ok (.aload_n 0, 1) := by decide +kernel
theorem dX6_oftenInRow_26 : decode cX6_oftenInRow 26 = .ok (.aload_n 1, 1) := by decide +kernel
theorem dX6_oftenInRow_27 : decode cX6_oftenInRow 27 = .ok (.invokevirtual 28, 3) := by decide +kernel
theorem dX6_oftenInRow_30 : decode cX6_oftenInRow 30 = .ok (.iinc 4 1, 3) := by decide +kernel
theorem dX6_oftenInRow_33 : decode cX6_oftenInRow 33 = .ok (.goto (-22), 3) := by decide +kernel
theorem dX6_oftenInRow_36 : decode cX6_oftenInRow 36 = .ok (.aload_n 1, 1) := by decide +kernel
theorem dX6_oftenInRow_37 : decode cX6_oftenInRow 37 = .ok (.aload_n 0, 1) := by decide +kernel
theorem dX6_oftenInRow_38 : decode cX6_oftenInRow 38 = .ok (.getfield 9, 3) := by decide +kernel
theorem dX6_oftenInRow_41 : decode cX6_oftenInRow 41 = .ok (.iload_n 2, 1) := by decide +kernel
theorem dX6_oftenInRow_42 : decode cX6_oftenInRow 42 = .ok (.invokevirtual 32, 3) := by decide +kernel
theorem dX6_oftenInRow_45 : decode cX6_oftenInRow 45 = .ok (.ireturn, 1) := by decide +kernel
theorem B_X6_oftenInRow_0 {g : Sg} {c t : Nat} (hL : Lay LC g c t σ) {x2 : Int} {x3 : Int} (h : (Lay LC g c t σ → CC E mX6_begin [vr 152, vi (gI σ 34 7)] σ (KV (fun τ2 => Lay LC g c t τ2 ∧ (Lay LC g c t τ2 → GG E mX6_oftenInRow 11 [some (vr 152), some (vr 34), some (vi x2), some (vi x3), some (vi 0)] [] τ2 rc rs Q)) (fun _ _ => False)))) : GG E mX6_oftenInRow 0 [some (vr 152), some (vr 34), some (vi x2), some (vi x3), none] [] σ rc rs Q := by
  refine r_aload_n (pc := 0) dX6_oftenInRow_0 rfl rfl ?_
  refine r_aload_n (pc := 1) dX6_oftenInRow_1 rfl rfl ?_
  refine r_getI (pc := 2) dX6_oftenInRow_2 (k9 := 7) CL_0 (by decide) (by decide) w_327 rfl (okO_of (N := 10) (hL.sh (i := 18) rfl (by decide) (by decide)) (by decide)) (fun _ => ?_)
  refine c_VV0N (M := mX6_oftenInRow) (pc := 5) (As := [vi (gI σ 34 7)]) dX6_oftenInRow_5 K_X6_begin w_1270 ⟨by decide, by decide⟩ (Nat.le_of_ble_eq_true rfl) rfl rfl (ci := 6) rfl rfl (by decide) (okO_of (N := 2) (hL.sh (i := 48) rfl (by decide) (by decide)) (by decide)) (h hL) (fun τ2 h8 => ?_) rfl
  replace hL := h8.1
  replace h := h8.2
  refine r_iconst (pc := 8) dX6_oftenInRow_8 (inRk rfl) ?_
  refine r_istore (pc := 9) dX6_oftenInRow_9 (by decide) (l2 := [some (vr 152), some (vr 34), some (vi x2), some (vi x3), some (vi 0)]) rfl ?_
  exact (h hL)
theorem B_X6_oftenInRow_11 {g : Sg} {c t : Nat} (hL : Lay LC g c t σ) {x2 : Int} {x3 : Int} {x4 : Int} (h : ((x3 ≤ x4 → (Lay LC g c t σ → CC E mX0_inRowOf [vr 34, vr 153, vi x2] σ (KI (fun r1 τ2 => Lay LC g c t τ2 ∧ (inR r1 → (Lay LC g c t τ2 → Q (.inl (some (vi r1))) τ2))) (fun _ _ => False)))) ∧ (¬ (x3 ≤ x4) → ((200 ≤ x4 → (Lay LC g c t σ → CC E mX0_inRowOf [vr 34, vr 153, vi x2] σ (KI (fun r3 τ4 => Lay LC g c t τ4 ∧ (inR r3 → (Lay LC g c t τ4 → Q (.inl (some (vi r3))) τ4))) (fun _ _ => False)))) ∧ (¬ (200 ≤ x4) → (Lay LC g c t σ → CC E mX6_goOn [vr 152, vr 34] σ (KV (fun τ6 => Lay LC g c t τ6 ∧ inR (x4 + 1) ∧ (Lay LC g c t τ6 → GG E mX6_oftenInRow 11 [some (vr 152), some (vr 34), some (vi x2), some (vi x3), some (vi (x4 + 1))] [] τ6 rc rs Q)) (fun _ _ => False)))))))) : GG E mX6_oftenInRow 11 [some (vr 152), some (vr 34), some (vi x2), some (vi x3), some (vi x4)] [] σ rc rs Q := by
  refine r_iload (pc := 11) dX6_oftenInRow_11 rfl ?_
  refine r_iload_n (pc := 13) dX6_oftenInRow_13 rfl rfl ?_
  refine r_icmp_ge (pc := 14) (tgt := 36) dX6_oftenInRow_14 (by decide) (fun c9 => ?_) (fun c9 => ?_)
  · replace h := h.1 c9
    refine r_aload_n (pc := 36) dX6_oftenInRow_36 rfl rfl ?_
    refine r_aload_n (pc := 37) dX6_oftenInRow_37 rfl rfl ?_
    refine r_getR (pc := 38) dX6_oftenInRow_38 (k9 := 0) CL_6 (by decide) (by decide) w_434 rfl (okO_of (N := 2) (hL.sh (i := 48) rfl (by decide) (by decide)) (by decide)) ?_
    refine eqR (y := 153) (hL.rf (i := 41) rfl) ?_
    refine r_iload_n (pc := 41) dX6_oftenInRow_41 rfl rfl ?_
    refine c_VI0N (M := mX6_oftenInRow) (pc := 42) (As := [vr 153, vi x2]) dX6_oftenInRow_42 K_X0_inRowOf w_1279 ⟨by decide, by decide⟩ (Nat.le_of_ble_eq_true rfl) rfl rfl (ci := 0) rfl rfl (by decide) (okO_of (N := 10) (hL.sh (i := 18) rfl (by decide) (by decide)) (by decide)) (h hL) (fun r1 τ2 h8 hr9 => ?_) rfl
    replace hL := h8.1
    replace h := h8.2 hr9
    exact r_ireturn (pc := 45) (ty := .int) dX6_oftenInRow_45 (by decide +kernel) rfl (nar_i _) (h hL)
  · replace h := h.2 c9
    refine r_iload (pc := 17) dX6_oftenInRow_17 rfl ?_
    refine r_sipush (pc := 19) dX6_oftenInRow_19 (by decide) ?_
    refine r_icmp_ge (pc := 22) (tgt := 36) dX6_oftenInRow_22 (by decide) (fun c9 => ?_) (fun c9 => ?_)
    · replace h := h.1 c9
      refine r_aload_n (pc := 36) dX6_oftenInRow_36 rfl rfl ?_
      refine r_aload_n (pc := 37) dX6_oftenInRow_37 rfl rfl ?_
      refine r_getR (pc := 38) dX6_oftenInRow_38 (k9 := 0) CL_6 (by decide) (by decide) w_434 rfl (okO_of (N := 2) (hL.sh (i := 48) rfl (by decide) (by decide)) (by decide)) ?_
      refine eqR (y := 153) (hL.rf (i := 41) rfl) ?_
      refine r_iload_n (pc := 41) dX6_oftenInRow_41 rfl rfl ?_
      refine c_VI0N (M := mX6_oftenInRow) (pc := 42) (As := [vr 153, vi x2]) dX6_oftenInRow_42 K_X0_inRowOf w_1279 ⟨by decide, by decide⟩ (Nat.le_of_ble_eq_true rfl) rfl rfl (ci := 0) rfl rfl (by decide) (okO_of (N := 10) (hL.sh (i := 18) rfl (by decide) (by decide)) (by decide)) (h hL) (fun r3 τ4 h8 hr9 => ?_) rfl
      replace hL := h8.1
      replace h := h8.2 hr9
      exact r_ireturn (pc := 45) (ty := .int) dX6_oftenInRow_45 (by decide +kernel) rfl (nar_i _) (h hL)
    · replace h := h.2 c9
      refine r_aload_n (pc := 25) dX6_oftenInRow_25 rfl rfl ?_
      refine r_aload_n (pc := 26) dX6_oftenInRow_26 rfl rfl ?_
      refine c_VV0N (M := mX6_oftenInRow) (pc := 27) (As := [vr 34]) dX6_oftenInRow_27 K_X6_goOn w_1274 ⟨by decide, by decide⟩ (Nat.le_of_ble_eq_true rfl) rfl rfl (ci := 6) rfl rfl (by decide) (okO_of (N := 2) (hL.sh (i := 48) rfl (by decide) (by decide)) (by decide)) (h hL) (fun τ6 h8 => ?_) rfl
      replace hL := h8.1
      replace h := h8.2
      obtain ⟨o7, h⟩ := h
      refine r_iinc (pc := 30) dX6_oftenInRow_30 rfl (by decide) o7 (l2 := [some (vr 152), some (vr 34), some (vi x2), some (vi x3), some (vi (x4 + 1))]) rfl ?_
      refine r_goto (pc := 33) (tgt := 11) dX6_oftenInRow_33 (by decide) ?_
      exact (h hL)
theorem C_X6_oftenInRow {a0 : Nat} {a1 : Nat} {x2 : Int} {x3 : Int} (h : GG E mX6_oftenInRow 0 [some (vr a0), some (vr a1), some (vi x2), some (vi x3), none] [] σ 0 0 Q) : CC E mX6_oftenInRow [vr a0, vr a1, vi x2, vi x3] σ Q := CC.of (by decide +kernel) rfl (by decide +kernel) (fun h9 => nomatch h9) (Nat.le_of_ble_eq_true rfl) h
theorem dX6_rowWith_0 : decode cX6_rowWith 0 = .ok (.aload_n 0, 1) := by decide +kernel
theorem dX6_rowWith_1 : decode cX6_rowWith 1 = .ok (.aload_n 1, 1) := by decide +kernel
theorem dX6_rowWith_2 : decode cX6_rowWith 2 = .ok (.getfield 18, 3) := by decide +kernel
theorem dX6_rowWith_5 : decode cX6_rowWith 5 = .ok (.invokevirtual 24, 3) := by decide +kernel
theorem dX6_rowWith_8 : decode cX6_rowWith 8 = .ok (.iconst 0, 1) := by decide +kernel
theorem dX6_rowWith_9 : decode cX6_rowWith 9 = .ok (.istore 4, 2) := by decide +kernel
theorem dX6_rowWith_11 : decode cX6_rowWith 11 = .ok (.iconst 0, 1) := by decide +kernel
theorem dX6_rowWith_12 : decode cX6_rowWith 12 = .ok (.istore 5, 2) := by decide +kernel
theorem dX6_rowWith_14 : decode cX6_rowWith 14 = .ok (.iload 5, 2) := by decide +kernel
theorem dX6_rowWith_16 : decode cX6_rowWith 16 = .ok (.sipush 200, 3) := by decide +kernel
theorem dX6_rowWith_19 : decode cX6_rowWith 19 = .ok (.if_icmp .gt 42, 3) := by decide +kernel
theorem dX6_rowWith_22 : decode cX6_rowWith 22 = .ok (.iload_n 3, 1) := by decide +kernel
theorem dX6_rowWith_23 : decode cX6_rowWith 23 = .ok (.ifCond .lt 38, 3) := by decide +kernel
theorem dX6_rowWith_26 : decode cX6_rowWith 26 = .ok (.aload_n 1, 1) := by decide +kernel
theorem dX6_rowWith_27 : decode cX6_rowWith 27 = .ok (.aload_n 0, 1) := by decide +kernel
theorem dX6_rowWith_28 : decode cX6_rowWith 28 = .ok (.getfield 9, 3) := by decide +kernel
theorem dX6_rowWith_31 : decode cX6_rowWith 31 = .ok (.iload_n 2, 1) := by decide +kernel
theorem dX6_rowWith_32 : decode cX6_rowWith 32 = .ok (.invokevirtual 32, 3) := by decide +kernel
theorem dX6_rowWith_35 : decode cX6_rowWith 35 = .ok (.ifCond .eq 15, 3) := by decide +kernel
theorem dX6_rowWith_38 : decode cX6_rowWith 38 = .ok (.iload 4, 2) := by decide +kernel
theorem dX6_rowWith_40 : decode cX6_rowWith 40 = .ok (.iload_n 3, 1) := by decide +kernel
theorem dX6_rowWith_41 : decode cX6_rowWith 41 = .ok (.if_icmp .ne 6, 3) := by decide +kernel
theorem dX6_rowWith_44 : decode cX6_rowWith 44 = .ok (.iload 5, 2) := by decide +kernel
theorem dX6_rowWith_46 : decode cX6_rowWith 46 = .ok (.ireturn, 1) := by decide +kernel
theorem dX6_rowWith_47 : decode cX6_rowWith 47 = .ok (.iinc 4 1, 3) := by decide +kernel
theorem dX6_rowWith_50 : decode cX6_rowWith 50 = .ok (.aload_n 0, 1) := by decide +kernel
theorem dX6_rowWith_51 : decode cX6_rowWith 51 = .ok (.aload_n 1, 1) := by decide +kernel
theorem dX6_rowWith_52 : decode cX6_rowWith 52 = .ok (.invokevirtual 28, 3) := by decide +kernel
theorem dX6_rowWith_55 : decode cX6_rowWith 55 = .ok (.iinc 5 1, 3) := by decide +kernel
theorem dX6_rowWith_58 : decode cX6_rowWith 58 = .ok (.goto (-44), 3) := by decide +kernel
theorem dX6_rowWith_61 : decode cX6_rowWith 61 = .ok (.iconst (-1), 1) := by decide +kernel
theorem dX6_rowWith_62 : decode cX6_rowWith 62 = .ok (.ireturn, 1) := by decide +kernel
theorem B_X6_rowWith_0 {g : Sg} {c t : Nat} (hL : Lay LC g c t σ) {x2 : Int} {x3 : Int} (h : (Lay LC g c t σ → CC E mX6_begin [vr 152, vi (gI σ 34 7)] σ (KV (fun τ2 => Lay LC g c t τ2 ∧ (Lay LC g c t τ2 → GG E mX6_rowWith 14 [some (vr 152), some (vr 34), some (vi x2), some (vi x3), some (vi 0), some (vi 0)] [] τ2 rc rs Q)) (fun _ _ => False)))) : GG E mX6_rowWith 0 [some (vr 152), some (vr 34), some (vi x2), some (vi x3), none, none] [] σ rc rs Q := by
  refine r_aload_n (pc := 0) dX6_rowWith_0 rfl rfl ?_
  refine r_aload_n (pc := 1) dX6_rowWith_1 rfl rfl ?_
  refine r_getI (pc := 2) dX6_rowWith_2 (k9 := 7) CL_0 (by decide) (by decide) w_327 rfl (okO_of (N := 10) (hL.sh (i := 18) rfl (by decide) (by decide)) (by decide)) (fun _ => ?_)
  refine c_VV0N (M := mX6_rowWith) (pc := 5) (As := [vi (gI σ 34 7)]) dX6_rowWith_5 K_X6_begin w_1270 ⟨by decide, by decide⟩ (Nat.le_of_ble_eq_true rfl) rfl rfl (ci := 6) rfl rfl (by decide) (okO_of (N := 2) (hL.sh (i := 48) rfl (by decide) (by decide)) (by decide)) (h hL) (fun τ2 h8 => ?_) rfl
  replace hL := h8.1
  replace h := h8.2
  refine r_iconst (pc := 8) dX6_rowWith_8 (inRk rfl) ?_
  refine r_istore (pc := 9) dX6_rowWith_9 (by decide) (l2 := [some (vr 152), some (vr 34), some (vi x2), some (vi x3), some (vi 0), none]) rfl ?_
  refine r_iconst (pc := 11) dX6_rowWith_11 (inRk rfl) ?_
  refine r_istore (pc := 12) dX6_rowWith_12 (by decide) (l2 := [some (vr 152), some (vr 34), some (vi x2), some (vi x3), some (vi 0), some (vi 0)]) rfl ?_
  exact (h hL)
theorem B_X6_rowWith_14 {g : Sg} {c t : Nat} (hL : Lay LC g c t σ) {x2 : Int} {x3 : Int} {x4 : Int} {x5 : Int} (h : ((200 < x5 → (Lay LC g c t σ → Q (.inl (some (vi (-1)))) σ)) ∧ (¬ (200 < x5) → ((x3 < 0 → (Lay LC g c t σ → Q (.inl (some (vi (-1)))) σ)) ∧ (¬ (x3 < 0) → (Lay LC g c t σ → CC E mX0_inRowOf [vr 34, vr 153, vi x2] σ (KI (fun r1 τ2 => Lay LC g c t τ2 ∧ (inR r1 → ((r1 = 0 → (Lay LC g c t τ2 → CC E mX6_goOn [vr 152, vr 34] τ2 (KV (fun τ4 => Lay LC g c t τ4 ∧ inR (x5 + 1) ∧ (Lay LC g c t τ4 → GG E mX6_rowWith 14 [some (vr 152), some (vr 34), some (vi x2), some (vi x3), some (vi x4), some (vi (x5 + 1))] [] τ4 rc rs Q)) (fun _ _ => False)))) ∧ (¬ (r1 = 0) → ((x4 ≠ x3 → inR (x4 + 1) ∧ (Lay LC g c t τ2 → CC E mX6_goOn [vr 152, vr 34] τ2 (KV (fun τ8 => Lay LC g c t τ8 ∧ inR (x5 + 1) ∧ (Lay LC g c t τ8 → GG E mX6_rowWith 14 [some (vr 152), some (vr 34), some (vi x2), some (vi x3), some (vi (x4 + 1)), some (vi (x5 + 1))] [] τ8 rc rs Q)) (fun _ _ => False)))) ∧ (x4 = x3 → (Lay LC g c t τ2 → Q (.inl (some (vi x5))) τ2))))))) (fun _ _ => False)))))))) : GG E mX6_rowWith 14 [some (vr 152), some (vr 34), some (vi x2), some (vi x3), some (vi x4), some (vi x5)] [] σ rc rs Q := by
  refine r_iload (pc := 14) dX6_rowWith_14 rfl ?_
  refine r_sipush (pc := 16) dX6_rowWith_16 (by decide) ?_
  refine r_icmp_gt (pc := 19) (tgt := 61) dX6_rowWith_19 (by decide) (fun c9 => ?_) (fun c9 => ?_)
  · replace h := h.1 c9
    refine r_iconst (pc := 61) dX6_rowWith_61 (inRk rfl) ?_
    exact r_ireturn (pc := 62) (ty := .int) dX6_rowWith_62 (by decide +kernel) rfl (nar_i _) (h hL)
  · replace h := h.2 c9
    refine r_iload_n (pc := 22) dX6_rowWith_22 rfl rfl ?_
    refine r_if_lt (pc := 23) (tgt := 61) dX6_rowWith_23 (by decide) (fun c9 => ?_) (fun c9 => ?_)
    · replace h := h.1 c9
      refine r_iconst (pc := 61) dX6_rowWith_61 (inRk rfl) ?_
      exact r_ireturn (pc := 62) (ty := .int) dX6_rowWith_62 (by decide +kernel) rfl (nar_i _) (h hL)
    · replace h := h.2 c9
      refine r_aload_n (pc := 26) dX6_rowWith_26 rfl rfl ?_
      refine r_aload_n (pc := 27) dX6_rowWith_27 rfl rfl ?_
      refine r_getR (pc := 28) dX6_rowWith_28 (k9 := 0) CL_6 (by decide) (by decide) w_434 rfl (okO_of (N := 2) (hL.sh (i := 48) rfl (by decide) (by decide)) (by decide)) ?_
      refine eqR (y := 153) (hL.rf (i := 41) rfl) ?_
      refine r_iload_n (pc := 31) dX6_rowWith_31 rfl rfl ?_
      refine c_VI0N (M := mX6_rowWith) (pc := 32) (As := [vr 153, vi x2]) dX6_rowWith_32 K_X0_inRowOf w_1279 ⟨by decide, by decide⟩ (Nat.le_of_ble_eq_true rfl) rfl rfl (ci := 0) rfl rfl (by decide) (okO_of (N := 10) (hL.sh (i := 18) rfl (by decide) (by decide)) (by decide)) (h hL) (fun r1 τ2 h8 hr9 => ?_) rfl
      replace hL := h8.1
      replace h := h8.2 hr9
      refine r_if_eq (pc := 35) (tgt := 50) dX6_rowWith_35 (by decide) (fun c9 => ?_) (fun c9 => ?_)
      · replace h := h.1 c9
        refine r_aload_n (pc := 50) dX6_rowWith_50 rfl rfl ?_
        refine r_aload_n (pc := 51) dX6_rowWith_51 rfl rfl ?_
        refine c_VV0N (M := mX6_rowWith) (pc := 52) (As := [vr 34]) dX6_rowWith_52 K_X6_goOn w_1274 ⟨by decide, by decide⟩ (Nat.le_of_ble_eq_true rfl) rfl rfl (ci := 6) rfl rfl (by decide) (okO_of (N := 2) (hL.sh (i := 48) rfl (by decide) (by decide)) (by decide)) (h hL) (fun τ4 h8 => ?_) rfl
        replace hL := h8.1
        replace h := h8.2
        obtain ⟨o5, h⟩ := h
        refine r_iinc (pc := 55) dX6_rowWith_55 rfl (by decide) o5 (l2 := [some (vr 152), some (vr 34), some (vi x2), some (vi x3), some (vi x4), some (vi (x5 + 1))]) rfl ?_
        refine r_goto (pc := 58) (tgt := 14) dX6_rowWith_58 (by decide) ?_
        exact (h hL)
      · replace h := h.2 c9
        refine r_iload (pc := 38) dX6_rowWith_38 rfl ?_
        refine r_iload_n (pc := 40) dX6_rowWith_40 rfl rfl ?_
        refine r_icmp_ne (pc := 41) (tgt := 47) dX6_rowWith_41 (by decide) (fun c9 => ?_) (fun c9 => ?_)
        · replace h := h.1 c9
          obtain ⟨o6, h⟩ := h
          refine r_iinc (pc := 47) dX6_rowWith_47 rfl (by decide) o6 (l2 := [some (vr 152), some (vr 34), some (vi x2), some (vi x3), some (vi (x4 + 1)), some (vi x5)]) rfl ?_
          refine r_aload_n (pc := 50) dX6_rowWith_50 rfl rfl ?_
          refine r_aload_n (pc := 51) dX6_rowWith_51 rfl rfl ?_
          refine c_VV0N (M := mX6_rowWith) (pc := 52) (As := [vr 34]) dX6_rowWith_52 K_X6_goOn w_1274 ⟨by decide, by decide⟩ (Nat.le_of_ble_eq_true rfl) rfl rfl (ci := 6) rfl rfl (by decide) (okO_of (N := 2) (hL.sh (i := 48) rfl (by decide) (by decide)) (by decide)) (h hL) (fun τ8 h8 => ?_) rfl
          replace hL := h8.1
          replace h := h8.2
          obtain ⟨o9, h⟩ := h
          refine r_iinc (pc := 55) dX6_rowWith_55 rfl (by decide) o9 (l2 := [some (vr 152), some (vr 34), some (vi x2), some (vi x3), some (vi (x4 + 1)), some (vi (x5 + 1))]) rfl ?_
          refine r_goto (pc := 58) (tgt := 14) dX6_rowWith_58 (by decide) ?_
          exact (h hL)
        · replace h := h.2 c9
          refine r_iload (pc := 44) dX6_rowWith_44 rfl ?_
          exact r_ireturn (pc := 46) (ty := .int) dX6_rowWith_46 (by decide +kernel) rfl (nar_i _) (h hL)
theorem C_X6_rowWith {a0 : Nat} {a1 : Nat} {x2 : Int} {x3 : Int} (h : GG E mX6_rowWith 0 [some (vr a0), some (vr a1), some (vi x2), some (vi x3), none, none] [] σ 0 0 Q) : CC E mX6_rowWith [vr a0, vr a1, vi x2, vi x3] σ Q := CC.of (by decide +kernel) rfl (by decide +kernel) (fun h9 => nomatch h9) (Nat.le_of_ble_eq_true rfl) h
end G25
