/-! ===== decode rows and trees: 23.group ===== -/
section G23
variable {E : Ev} {σ : Sg} {rc rs : Nat} {Q : NO → Sg → Prop}
theorem dX4_build_0 : decode cX4_build 0 = .ok (.aload_n 0, 1) := by decide +kernel
theorem dX4_build_1 : decode cX4_build 1 = .ok (.aload_n 1, 1) := by decide +kernel
theorem dX4_build_2 : decode cX4_build 2 = .ok (.getfield 30, 3) := by decide +kernel
theorem dX4_build_5 : decode cX4_build 5 = .ok (.bipush 120, 2) := by decide +kernel
theorem dX4_build_7 : decode cX4_build 7 = .ok (.invokestatic 36, 3) := by decide +kernel
theorem dX4_build_10 : decode cX4_build 10 = .ok (.putfield 42, 3) := by decide +kernel
theorem dX4_build_13 : decode cX4_build 13 = .ok (.aload_n 0, 1) := by decide +kernel
theorem dX4_build_14 : decode cX4_build 14 = .ok (.aload_n 1, 1) := by decide +kernel
theorem dX4_build_15 : decode cX4_build 15 = .ok (.invokevirtual 43, 3) := by decide +kernel
theorem dX4_build_18 : decode cX4_build 18 = .ok (.aload_n 0, 1) := by decide +kernel
theorem dX4_build_19 : decode cX4_build 19 = .ok (.invokevirtual 47, 3) := by decide +kernel
theorem dX4_build_22 : decode cX4_build 22 = .ok (.aload_n 0, 1) := by decide +kernel
theorem dX4_build_23 : decode cX4_build 23 = .ok (.invokevirtual 50, 3) := by decide +kernel
theorem dX4_build_26 : decode cX4_build 26 = .ok (.aload_n 0, 1) := by decide +kernel
theorem dX4_build_27 : decode cX4_build 27 = .ok (.aload_n 1, 1) := by decide +kernel
theorem dX4_build_28 : decode cX4_build 28 = .ok (.bipush (-4), 2) := by decide +kernel
theorem dX4_build_30 : decode cX4_build 30 = .ok (.invokevirtual 53, 3) := by decide +kernel
theorem dX4_build_33 : decode cX4_build 33 = .ok (.putfield 57, 3) := by decide +kernel
theorem dX4_build_36 : decode cX4_build 36 = .ok (.return_, 1) := by decide +kernel
theorem B_X4_build_0 {g : Sg} {c t : Nat} (hL : Lay LC g c t σ) {a1 : Nat} (qa1 : isCl a1) (h : ∀ v1 : Int, v1 = (if 120 < (gI σ a1 8) then 120 else (gI σ a1 8)) → ∀ τ2 : Sg, τ2 = sI σ 24 6 v1 → (Lay LC g c t τ2 → CC E mX4_fillProducts [vr 24, vr a1] τ2 (KV (fun τ4 => Lay LC g c t τ4 ∧ (Lay LC g c t τ4 → CC E mX4_fillOrders [vr 24] τ4 (KV (fun τ6 => Lay LC g c t τ6 ∧ (Lay LC g c t τ6 → CC E mX4_fillClasses [vr 24] τ6 (KV (fun τ8 => Lay LC g c t τ8 ∧ (Lay LC g c t τ8 → CC E mX1_numberOfWhole [vr a1, vi (-4)] τ8 (KI (fun r9 τ10 => Lay LC g c t τ10 ∧ (inR r9 → ∀ τ11 : Sg, τ11 = sI τ10 24 11 r9 → (Lay LC g c t τ11 → Q (.inl none) τ11))) (fun _ _ => False)))) (fun _ _ => False)))) (fun _ _ => False)))) (fun _ _ => False)))) : GG E mX4_build 0 [some (vr 24), some (vr a1)] [] σ rc rs Q := by
  refine r_aload_n (pc := 0) dX4_build_0 rfl rfl ?_
  refine r_aload_n (pc := 1) dX4_build_1 rfl rfl ?_
  refine r_getI (pc := 2) dX4_build_2 (k9 := 8) CL_1 (by decide) (by decide) w_470 rfl (okO_of (ci := 1) (N := 12) (qa1.r hL).1 (qa1.r hL).2.1) (fun _ => ?_)
  refine r_bipush (pc := 5) dX4_build_5 (by decide) ?_
  refine r_mmin (pc := 7) dX4_build_7 w_548 w_549 w_111 w_550 (by decide) (Nat.le_of_ble_eq_true rfl) ?_
  refine nmI (fun v1 e9 => ?_)
  replace h := h v1 e9
  refine r_putI (pc := 10) dX4_build_10 (k9 := 6) CL_4 (by decide) (by decide) w_218 rfl rfl (fun h9 => absurd h9 (by decide +kernel)) (okO_of (N := 12) (hL.sh (i := 8) rfl (by decide) (by decide)) (by decide)) ?_
  refine nmS (fun τ2 e2 => ?_)
  replace h := h τ2 e2
  have hL := hL.wI e2 (by decide) (.inl (by decide))
  refine r_aload_n (pc := 13) dX4_build_13 rfl rfl ?_
  refine r_aload_n (pc := 14) dX4_build_14 rfl rfl ?_
  refine c_VV0N (M := mX4_build) (pc := 15) (As := [vr a1]) dX4_build_15 K_X4_fillProducts w_551 ⟨by decide, by decide⟩ (Nat.le_of_ble_eq_true rfl) rfl rfl (ci := 4) rfl rfl (by decide) (okO_of (N := 12) (hL.sh (i := 8) rfl (by decide) (by decide)) (by decide)) (h hL) (fun τ4 h8 => ?_) rfl
  replace hL := h8.1
  replace h := h8.2
  refine r_aload_n (pc := 18) dX4_build_18 rfl rfl ?_
  refine c_VV0N (M := mX4_build) (pc := 19) (As := []) dX4_build_19 K_X4_fillOrders w_558 ⟨by decide, by decide⟩ (Nat.le_of_ble_eq_true rfl) rfl rfl (ci := 4) rfl rfl (by decide) (okO_of (N := 12) (hL.sh (i := 8) rfl (by decide) (by decide)) (by decide)) (h hL) (fun τ6 h8 => ?_) rfl
  replace hL := h8.1
  replace h := h8.2
  refine r_aload_n (pc := 22) dX4_build_22 rfl rfl ?_
  refine c_VV0N (M := mX4_build) (pc := 23) (As := []) dX4_build_23 K_X4_fillClasses w_572 ⟨by decide, by decide⟩ (Nat.le_of_ble_eq_true rfl) rfl rfl (ci := 4) rfl rfl (by decide) (okO_of (N := 12) (hL.sh (i := 8) rfl (by decide) (by decide)) (by decide)) (h hL) (fun τ8 h8 => ?_) rfl
  replace hL := h8.1
  replace h := h8.2
  refine r_aload_n (pc := 26) dX4_build_26 rfl rfl ?_
  refine r_aload_n (pc := 27) dX4_build_27 rfl rfl ?_
  refine r_bipush (pc := 28) dX4_build_28 (by decide) ?_
  refine c_VI0N (M := mX4_build) (pc := 30) (As := [vi (-4)]) dX4_build_30 K_X1_numberOfWhole w_584 ⟨by decide, by decide⟩ (Nat.le_of_ble_eq_true rfl) rfl rfl (ci := 1) rfl rfl (by decide) (okO_of (ci := 1) (N := 12) (qa1.r hL).1 (qa1.r hL).2.1) (h hL) (fun r9 τ10 h8 hr9 => ?_) rfl
  replace hL := h8.1
  replace h := h8.2 hr9
  refine r_putI (pc := 33) dX4_build_33 (k9 := 11) CL_4 (by decide) (by decide) w_234 rfl rfl (fun h9 => absurd h9 (by decide +kernel)) (okO_of (N := 12) (hL.sh (i := 8) rfl (by decide) (by decide)) (by decide)) ?_
  refine nmS (fun τ11 e11 => ?_)
  replace h := h τ11 e11
  have hL := hL.wI e11 (by decide) (.inl (by decide))
  exact r_return (pc := 36) dX4_build_36 (by decide +kernel) rfl (h hL)
theorem C_X4_build {a0 : Nat} {a1 : Nat} (h : GG E mX4_build 0 [some (vr a0), some (vr a1)] [] σ 0 0 Q) : CC E mX4_build [vr a0, vr a1] σ Q := CC.of (by decide +kernel) rfl (by decide +kernel) (fun h9 => nomatch h9) (Nat.le_of_ble_eq_true rfl) h
theorem dX4_countAxes_0 : decode cX4_countAxes 0 = .ok (.iconst 0, 1) := by decide +kernel
theorem dX4_countAxes_1 : decode cX4_countAxes 1 = .ok (.istore_n 2, 1) := by decide +kernel
theorem dX4_countAxes_2 : decode cX4_countAxes 2 = .ok (.iconst 1, 1) := by decide +kernel
theorem dX4_countAxes_3 : decode cX4_countAxes 3 = .ok (.istore_n 3, 1) := by decide +kernel
theorem dX4_countAxes_4 : decode cX4_countAxes 4 = .ok (.iload_n 3, 1) := by decide +kernel
theorem dX4_countAxes_5 : decode cX4_countAxes 5 = .ok (.aload_n 0, 1) := by decide +kernel
theorem dX4_countAxes_6 : decode cX4_countAxes 6 = .ok (.getfield 88, 3) := by decide +kernel
theorem dX4_countAxes_9 : decode cX4_countAxes 9 = .ok (.if_icmp .ge 60, 3) := by decide +kernel
theorem dX4_countAxes_12 : decode cX4_countAxes 12 = .ok (.aload_n 0, 1) := by decide +kernel
theorem dX4_countAxes_13 : decode cX4_countAxes 13 = .ok (.getfield 24, 3) := by decide +kernel
theorem dX4_countAxes_16 : decode cX4_countAxes 16 = .ok (.iload_n 3, 1) := by decide +kernel
theorem dX4_countAxes_17 : decode cX4_countAxes 17 = .ok (.iaload, 1) := by decide +kernel
theorem dX4_countAxes_18 : decode cX4_countAxes 18 = .ok (.aload_n 0, 1) := by decide +kernel
theorem dX4_countAxes_19 : decode cX4_countAxes 19 = .ok (.getfield 57, 3) := by decide +kernel
theorem dX4_countAxes_22 : decode cX4_countAxes 22 = .ok (.if_icmp .eq 41, 3) := by decide +kernel
theorem dX4_countAxes_25 : decode cX4_countAxes 25 = .ok (.aload_n 0, 1) := by decide +kernel
theorem dX4_countAxes_26 : decode cX4_countAxes 26 = .ok (.getfield 27, 3) := by decide +kernel
theorem dX4_countAxes_29 : decode cX4_countAxes 29 = .ok (.iload_n 3, 1) := by decide +kernel
theorem dX4_countAxes_30 : decode cX4_countAxes 30 = .ok (.iaload, 1) := by decide +kernel
theorem dX4_countAxes_31 : decode cX4_countAxes 31 = .ok (.ifCond .le 32, 3) := by decide +kernel
theorem dX4_countAxes_34 : decode cX4_countAxes 34 = .ok (.aload_n 0, 1) := by decide +kernel
theorem dX4_countAxes_35 : decode cX4_countAxes 35 = .ok (.getfield 42, 3) := by decide +kernel
theorem dX4_countAxes_38 : decode cX4_countAxes 38 = .ok (.aload_n 0, 1) := by decide +kernel
theorem dX4_countAxes_39 : decode cX4_countAxes 39 = .ok (.getfield 27, 3) := by decide +kernel
theorem dX4_countAxes_42 : decode cX4_countAxes 42 = .ok (.iload_n 3, 1) := by decide +kernel
theorem dX4_countAxes_43 : decode cX4_countAxes 43 = .ok (.iaload, 1) := by decide +kernel
theorem dX4_countAxes_44 : decode cX4_countAxes 44 = .ok (.idiv, 1) := by decide +kernel
theorem dX4_countAxes_45 : decode cX4_countAxes 45 = .ok (.iload_n 1, 1) := by decide +kernel
theorem dX4_countAxes_46 : decode cX4_countAxes 46 = .ok (.aload_n 0, 1) := by decide +kernel
theorem dX4_countAxes_47 : decode cX4_countAxes 47 = .ok (.invokevirtual 105, 3) := by decide +kernel
theorem dX4_countAxes_50 : decode cX4_countAxes 50 = .ok (.imul, 1) := by decide +kernel
theorem dX4_countAxes_51 : decode cX4_countAxes 51 = .ok (.if_icmp .ne 12, 3) := by decide +kernel
theorem dX4_countAxes_54 : decode cX4_countAxes 54 = .ok (.iload_n 2, 1) := by decide +kernel
theorem dX4_countAxes_55 : decode cX4_countAxes 55 = .ok (.aload_n 0, 1) := by decide +kernel
theorem dX4_countAxes_56 : decode cX4_countAxes 56 = .ok (.getfield 27, 3) := by decide +kernel
theorem dX4_countAxes_59 : decode cX4_countAxes 59 = .ok (.iload_n 3, 1) := by decide +kernel
theorem dX4_countAxes_60 : decode cX4_countAxes 60 = .ok (.iaload, 1) := by decide +kernel
theorem dX4_countAxes_61 : decode cX4_countAxes 61 = .ok (.iadd, 1) := by decide +kernel
theorem dX4_countAxes_62 : decode cX4_countAxes 62 = .ok (.istore_n 2, 1) := by decide +kernel
theorem dX4_countAxes_63 : decode cX4_countAxes 63 = .ok (.iinc 3 1, 3) := by decide +kernel
theorem dX4_countAxes_66 : decode cX4_countAxes 66 = .ok (.goto (-62), 3) := by decide +kernel
theorem dX4_countAxes_69 : decode cX4_countAxes 69 = .ok (.iload_n 1, 1) := by decide +kernel
theorem dX4_countAxes_70 : decode cX4_countAxes 70 = .ok (.iconst 1, 1) := by decide +kernel
theorem dX4_countAxes_71 : decode cX4_countAxes 71 = .ok (.isub, 1) := by decide +kernel
theorem dX4_countAxes_72 : decode cX4_countAxes 72 = .ok (.aload_n 0, 1) := by decide +kernel
theorem dX4_countAxes_73 : decode cX4_countAxes 73 = .ok (.invokevirtual 105, 3) := by decide +kernel
theorem dX4_countAxes_76 : decode cX4_countAxes 76 = .ok (.imul, 1) := by decide +kernel
theorem dX4_countAxes_77 : decode cX4_countAxes 77 = .ok (.istore_n 3, 1) := by decide +kernel
theorem dX4_countAxes_78 : decode cX4_countAxes 78 = .ok (.iload_n 3, 1) := by decide +kernel
theorem dX4_countAxes_79 : decode cX4_countAxes 79 = .ok (.iconst 1, 1) := by decide +kernel
theorem dX4_countAxes_80 : decode cX4_countAxes 80 = .ok (.if_icmp .ge 7, 3) := by decide +kernel
theorem dX4_countAxes_83 : decode cX4_countAxes 83 = .ok (.iconst 0, 1) := by decide +kernel
theorem dX4_countAxes_84 : decode cX4_countAxes 84 = .ok (.goto 6, 3) := by decide +kernel
theorem dX4_countAxes_87 : decode cX4_countAxes 87 = .ok (.iload_n 2, 1) := by decide +kernel
theorem dX4_countAxes_88 : decode cX4_countAxes 88 = .ok (.iload_n 3, 1) := by decide +kernel
theorem dX4_countAxes_89 : decode cX4_countAxes 89 = .ok (.idiv, 1) := by decide +kernel
theorem dX4_countAxes_90 : decode cX4_countAxes 90 = .ok (.ireturn, 1) := by decide +kernel
theorem B_X4_countAxes_0 {g : Sg} {c t : Nat} (hL : Lay LC g c t σ) {x1 : Int} (h : (Lay LC g c t σ → GG E mX4_countAxes 4 [some (vr 24), some (vi x1), some (vi 0), some (vi 1)] [] σ rc rs Q)) : GG E mX4_countAxes 0 [some (vr 24), some (vi x1), none, none] [] σ rc rs Q := by
  refine r_iconst (pc := 0) dX4_countAxes_0 (inRk rfl) ?_
  refine r_istore_n (pc := 1) dX4_countAxes_1 rfl (by decide) (l2 := [some (vr 24), some (vi x1), some (vi 0), none]) rfl ?_
  refine r_iconst (pc := 2) dX4_countAxes_2 (inRk rfl) ?_
  refine r_istore_n (pc := 3) dX4_countAxes_3 rfl (by decide) (l2 := [some (vr 24), some (vi x1), some (vi 0), some (vi 1)]) rfl ?_
  exact (h hL)
theorem B_X4_countAxes_4 {g : Sg} {c t : Nat} (hL : Lay LC g c t σ) {x1 : Int} {x2 : Int} {x3 : Int} (h : (((gI σ 24 7) ≤ x3 → inR (x1 - 1) ∧ (Lay LC g c t σ → CC E mX4_halves [vr 24] σ (KI (fun r2 τ3 => Lay LC g c t τ3 ∧ (inR r2 → inR ((x1 - 1) * r2) ∧ ((1 ≤ ((x1 - 1) * r2) → ((x1 - 1) * r2) ≠ 0 ∧ inR (x2.tdiv ((x1 - 1) * r2)) ∧ (Lay LC g c t τ3 → Q (.inl (some (vi (x2.tdiv ((x1 - 1) * r2))))) τ3)) ∧ (¬ (1 ≤ ((x1 - 1) * r2)) → (Lay LC g c t τ3 → Q (.inl (some (vi 0))) τ3))))) (fun _ _ => False)))) ∧ (¬ ((gI σ 24 7) ≤ x3) → (0 ≤ x3 ∧ x3 < 120) ∧ (((gI σ 29 x3.toNat) = (gI σ 24 11) → inR (x3 + 1) ∧ (Lay LC g c t σ → GG E mX4_countAxes 4 [some (vr 24), some (vi x1), some (vi x2), some (vi (x3 + 1))] [] σ rc rs Q)) ∧ (¬ ((gI σ 29 x3.toNat) = (gI σ 24 11)) → (((gI σ 30 x3.toNat) ≤ 0 → inR (x3 + 1) ∧ (Lay LC g c t σ → GG E mX4_countAxes 4 [some (vr 24), some (vi x1), some (vi x2), some (vi (x3 + 1))] [] σ rc rs Q)) ∧ (¬ ((gI σ 30 x3.toNat) ≤ 0) → (gI σ 30 x3.toNat) ≠ 0 ∧ inR ((gI σ 24 6).tdiv (gI σ 30 x3.toNat)) ∧ (Lay LC g c t σ → CC E mX4_halves [vr 24] σ (KI (fun r12 τ13 => Lay LC g c t τ13 ∧ (inR r12 → inR (x1 * r12) ∧ ((((gI σ 24 6).tdiv (gI σ 30 x3.toNat)) ≠ (x1 * r12) → inR (x3 + 1) ∧ (Lay LC g c t τ13 → GG E mX4_countAxes 4 [some (vr 24), some (vi x1), some (vi x2), some (vi (x3 + 1))] [] τ13 rc rs Q)) ∧ (((gI σ 24 6).tdiv (gI σ 30 x3.toNat)) = (x1 * r12) → inR (x2 + (gI τ13 30 x3.toNat)) ∧ inR (x3 + 1) ∧ (Lay LC g c t τ13 → GG E mX4_countAxes 4 [some (vr 24), some (vi x1), some (vi (x2 + (gI τ13 30 x3.toNat))), some (vi (x3 + 1))] [] τ13 rc rs Q))))) (fun _ _ => False)))))))))) : GG E mX4_countAxes 4 [some (vr 24), some (vi x1), some (vi x2), some (vi x3)] [] σ rc rs Q := by
  refine r_iload_n (pc := 4) dX4_countAxes_4 rfl rfl ?_
  refine r_aload_n (pc := 5) dX4_countAxes_5 rfl rfl ?_
  refine r_getI (pc := 6) dX4_countAxes_6 (k9 := 7) CL_4 (by decide) (by decide) w_226 rfl (okO_of (N := 12) (hL.sh (i := 8) rfl (by decide) (by decide)) (by decide)) (fun _ => ?_)
  refine r_icmp_ge (pc := 9) (tgt := 69) dX4_countAxes_9 (by decide) (fun c9 => ?_) (fun c9 => ?_)
  · replace h := h.1 c9
    refine r_iload_n (pc := 69) dX4_countAxes_69 rfl rfl ?_
    refine r_iconst (pc := 70) dX4_countAxes_70 (inRk rfl) ?_
    obtain ⟨o1, h⟩ := h
    refine r_isub (pc := 71) dX4_countAxes_71 o1 ?_
    refine r_aload_n (pc := 72) dX4_countAxes_72 rfl rfl ?_
    refine c_VI0N (M := mX4_countAxes) (pc := 73) (As := []) dX4_countAxes_73 K_X4_halves w_1188 ⟨by decide, by decide⟩ (Nat.le_of_ble_eq_true rfl) rfl rfl (ci := 4) rfl rfl (by decide) (okO_of (N := 12) (hL.sh (i := 8) rfl (by decide) (by decide)) (by decide)) (h hL) (fun r2 τ3 h8 hr9 => ?_) rfl
    replace hL := h8.1
    replace h := h8.2 hr9
    obtain ⟨o4, h⟩ := h
    refine r_imul (pc := 76) dX4_countAxes_76 o4 ?_
    refine r_istore_n (pc := 77) dX4_countAxes_77 rfl (by decide) (l2 := [some (vr 24), some (vi x1), some (vi x2), some (vi ((x1 - 1) * r2))]) rfl ?_
    refine r_iload_n (pc := 78) dX4_countAxes_78 rfl rfl ?_
    refine r_iconst (pc := 79) dX4_countAxes_79 (inRk rfl) ?_
    refine r_icmp_ge (pc := 80) (tgt := 87) dX4_countAxes_80 (by decide) (fun c9 => ?_) (fun c9 => ?_)
    · replace h := h.1 c9
      refine r_iload_n (pc := 87) dX4_countAxes_87 rfl rfl ?_
      refine r_iload_n (pc := 88) dX4_countAxes_88 rfl rfl ?_
      obtain ⟨o5, h⟩ := h
      obtain ⟨o6, h⟩ := h
      refine r_idiv (pc := 89) dX4_countAxes_89 o5 o6 ?_
      exact r_ireturn (pc := 90) (ty := .int) dX4_countAxes_90 (by decide +kernel) rfl (nar_i _) (h hL)
    · replace h := h.2 c9
      refine r_iconst (pc := 83) dX4_countAxes_83 (inRk rfl) ?_
      refine r_goto (pc := 84) (tgt := 90) dX4_countAxes_84 (by decide) ?_
      exact r_ireturn (pc := 90) (ty := .int) dX4_countAxes_90 (by decide +kernel) rfl (nar_i _) (h hL)
  · replace h := h.2 c9
    refine r_aload_n (pc := 12) dX4_countAxes_12 rfl rfl ?_
    refine r_getR (pc := 13) dX4_countAxes_13 (k9 := 4) CL_4 (by decide) (by decide) w_208 rfl (okO_of (N := 12) (hL.sh (i := 8) rfl (by decide) (by decide)) (by decide)) ?_
    refine eqR (y := 29) (hL.rf (i := 12) rfl) ?_
    refine r_iload_n (pc := 16) dX4_countAxes_16 rfl rfl ?_
    obtain ⟨o7, h⟩ := h
    refine r_iaload (pc := 17) dX4_countAxes_17 (okA_of (c := 20) (n := 120) (hL.sh (i := 13) rfl (by decide) (by decide)) (by decide) o7) ?_
    refine r_aload_n (pc := 18) dX4_countAxes_18 rfl rfl ?_
    refine r_getI (pc := 19) dX4_countAxes_19 (k9 := 11) CL_4 (by decide) (by decide) w_234 rfl (okO_of (N := 12) (hL.sh (i := 8) rfl (by decide) (by decide)) (by decide)) (fun _ => ?_)
    refine r_icmp_eq (pc := 22) (tgt := 63) dX4_countAxes_22 (by decide) (fun c9 => ?_) (fun c9 => ?_)
    · replace h := h.1 c9
      obtain ⟨o8, h⟩ := h
      refine r_iinc (pc := 63) dX4_countAxes_63 rfl (by decide) o8 (l2 := [some (vr 24), some (vi x1), some (vi x2), some (vi (x3 + 1))]) rfl ?_
      refine r_goto (pc := 66) (tgt := 4) dX4_countAxes_66 (by decide) ?_
      exact (h hL)
    · replace h := h.2 c9
      refine r_aload_n (pc := 25) dX4_countAxes_25 rfl rfl ?_
      refine r_getR (pc := 26) dX4_countAxes_26 (k9 := 5) CL_4 (by decide) (by decide) w_213 rfl (okO_of (N := 12) (hL.sh (i := 8) rfl (by decide) (by decide)) (by decide)) ?_
      refine eqR (y := 30) (hL.rf (i := 13) rfl) ?_
      refine r_iload_n (pc := 29) dX4_countAxes_29 rfl rfl ?_
      refine r_iaload (pc := 30) dX4_countAxes_30 (okA_of (c := 20) (n := 120) (hL.sh (i := 14) rfl (by decide) (by decide)) (by decide) o7) ?_
      refine r_if_le (pc := 31) (tgt := 63) dX4_countAxes_31 (by decide) (fun c9 => ?_) (fun c9 => ?_)
      · replace h := h.1 c9
        obtain ⟨o9, h⟩ := h
        refine r_iinc (pc := 63) dX4_countAxes_63 rfl (by decide) o9 (l2 := [some (vr 24), some (vi x1), some (vi x2), some (vi (x3 + 1))]) rfl ?_
        refine r_goto (pc := 66) (tgt := 4) dX4_countAxes_66 (by decide) ?_
        exact (h hL)
      · replace h := h.2 c9
        refine r_aload_n (pc := 34) dX4_countAxes_34 rfl rfl ?_
        refine r_getI (pc := 35) dX4_countAxes_35 (k9 := 6) CL_4 (by decide) (by decide) w_218 rfl (okO_of (N := 12) (hL.sh (i := 8) rfl (by decide) (by decide)) (by decide)) (fun _ => ?_)
        refine r_aload_n (pc := 38) dX4_countAxes_38 rfl rfl ?_
        refine r_getR (pc := 39) dX4_countAxes_39 (k9 := 5) CL_4 (by decide) (by decide) w_213 rfl (okO_of (N := 12) (hL.sh (i := 8) rfl (by decide) (by decide)) (by decide)) ?_
        refine eqR (y := 30) (hL.rf (i := 13) rfl) ?_
        refine r_iload_n (pc := 42) dX4_countAxes_42 rfl rfl ?_
        refine r_iaload (pc := 43) dX4_countAxes_43 (okA_of (c := 20) (n := 120) (hL.sh (i := 14) rfl (by decide) (by decide)) (by decide) o7) ?_
        obtain ⟨o10, h⟩ := h
        obtain ⟨o11, h⟩ := h
        refine r_idiv (pc := 44) dX4_countAxes_44 o10 o11 ?_
        refine r_iload_n (pc := 45) dX4_countAxes_45 rfl rfl ?_
        refine r_aload_n (pc := 46) dX4_countAxes_46 rfl rfl ?_
        refine c_VI0N (M := mX4_countAxes) (pc := 47) (As := []) dX4_countAxes_47 K_X4_halves w_1188 ⟨by decide, by decide⟩ (Nat.le_of_ble_eq_true rfl) rfl rfl (ci := 4) rfl rfl (by decide) (okO_of (N := 12) (hL.sh (i := 8) rfl (by decide) (by decide)) (by decide)) (h hL) (fun r12 τ13 h8 hr9 => ?_) rfl
        replace hL := h8.1
        replace h := h8.2 hr9
        obtain ⟨o14, h⟩ := h
        refine r_imul (pc := 50) dX4_countAxes_50 o14 ?_
        refine r_icmp_ne (pc := 51) (tgt := 63) dX4_countAxes_51 (by decide) (fun c9 => ?_) (fun c9 => ?_)
        · replace h := h.1 c9
          obtain ⟨o15, h⟩ := h
          refine r_iinc (pc := 63) dX4_countAxes_63 rfl (by decide) o15 (l2 := [some (vr 24), some (vi x1), some (vi x2), some (vi (x3 + 1))]) rfl ?_
          refine r_goto (pc := 66) (tgt := 4) dX4_countAxes_66 (by decide) ?_
          exact (h hL)
        · replace h := h.2 c9
          refine r_iload_n (pc := 54) dX4_countAxes_54 rfl rfl ?_
          refine r_aload_n (pc := 55) dX4_countAxes_55 rfl rfl ?_
          refine r_getR (pc := 56) dX4_countAxes_56 (k9 := 5) CL_4 (by decide) (by decide) w_213 rfl (okO_of (N := 12) (hL.sh (i := 8) rfl (by decide) (by decide)) (by decide)) ?_
          refine eqR (y := 30) (hL.rf (i := 13) rfl) ?_
          refine r_iload_n (pc := 59) dX4_countAxes_59 rfl rfl ?_
          refine r_iaload (pc := 60) dX4_countAxes_60 (okA_of (c := 20) (n := 120) (hL.sh (i := 14) rfl (by decide) (by decide)) (by decide) o7) ?_
          obtain ⟨o16, h⟩ := h
          refine r_iadd (pc := 61) dX4_countAxes_61 o16 ?_
          refine r_istore_n (pc := 62) dX4_countAxes_62 rfl (by decide) (l2 := [some (vr 24), some (vi x1), some (vi (x2 + (gI τ13 30 x3.toNat))), some (vi x3)]) rfl ?_
          obtain ⟨o17, h⟩ := h
          refine r_iinc (pc := 63) dX4_countAxes_63 rfl (by decide) o17 (l2 := [some (vr 24), some (vi x1), some (vi (x2 + (gI τ13 30 x3.toNat))), some (vi (x3 + 1))]) rfl ?_
          refine r_goto (pc := 66) (tgt := 4) dX4_countAxes_66 (by decide) ?_
          exact (h hL)
theorem C_X4_countAxes {a0 : Nat} {x1 : Int} (h : GG E mX4_countAxes 0 [some (vr a0), some (vi x1), none, none] [] σ 0 0 Q) : CC E mX4_countAxes [vr a0, vi x1] σ Q := CC.of (by decide +kernel) rfl (by decide +kernel) (fun h9 => nomatch h9) (Nat.le_of_ble_eq_true rfl) h
theorem dX4_countCouples_0 : decode cX4_countCouples 0 = .ok (.aload_n 0, 1) := by decide +kernel
theorem dX4_countCouples_1 : decode cX4_countCouples 1 = .ok (.getfield 24, 3) := by decide +kernel
theorem dX4_countCouples_4 : decode cX4_countCouples 4 = .ok (.iload_n 3, 1) := by decide +kernel
theorem dX4_countCouples_5 : decode cX4_countCouples 5 = .ok (.invokestatic 60, 3) := by decide +kernel
theorem dX4_countCouples_8 : decode cX4_countCouples 8 = .ok (.istore 4, 2) := by decide +kernel
theorem dX4_countCouples_10 : decode cX4_countCouples 10 = .ok (.iconst 0, 1) := by decide +kernel
theorem dX4_countCouples_11 : decode cX4_countCouples 11 = .ok (.istore 5, 2) := by decide +kernel
theorem dX4_countCouples_13 : decode cX4_countCouples 13 = .ok (.iconst 0, 1) := by decide +kernel
theorem dX4_countCouples_14 : decode cX4_countCouples 14 = .ok (.istore 6, 2) := by decide +kernel
theorem dX4_countCouples_16 : decode cX4_countCouples 16 = .ok (.iload 6, 2) := by decide +kernel
theorem dX4_countCouples_18 : decode cX4_countCouples 18 = .ok (.aload_n 0, 1) := by decide +kernel
theorem dX4_countCouples_19 : decode cX4_countCouples 19 = .ok (.getfield 42, 3) := by decide +kernel
theorem dX4_countCouples_22 : decode cX4_countCouples 22 = .ok (.if_icmp .ge 47, 3) := by decide +kernel
theorem dX4_countCouples_25 : decode cX4_countCouples 25 = .ok (.aload_n 0, 1) := by decide +kernel
theorem dX4_countCouples_26 : decode cX4_countCouples 26 = .ok (.getfield 21, 3) := by decide +kernel
theorem dX4_countCouples_29 : decode cX4_countCouples 29 = .ok (.iload 6, 2) := by decide +kernel
theorem dX4_countCouples_31 : decode cX4_countCouples 31 = .ok (.iaload, 1) := by decide +kernel
theorem dX4_countCouples_32 : decode cX4_countCouples 32 = .ok (.iload_n 1, 1) := by decide +kernel
theorem dX4_countCouples_33 : decode cX4_countCouples 33 = .ok (.if_icmp .ne 30, 3) := by decide +kernel
theorem dX4_countCouples_36 : decode cX4_countCouples 36 = .ok (.aload_n 0, 1) := by decide +kernel
theorem dX4_countCouples_37 : decode cX4_countCouples 37 = .ok (.getfield 21, 3) := by decide +kernel
theorem dX4_countCouples_40 : decode cX4_countCouples 40 = .ok (.aload_n 0, 1) := by decide +kernel
theorem dX4_countCouples_41 : decode cX4_countCouples 41 = .ok (.aload_n 0, 1) := by decide +kernel
theorem dX4_countCouples_42 : decode cX4_countCouples 42 = .ok (.getfield 15, 3) := by decide +kernel
theorem dX4_countCouples_45 : decode cX4_countCouples 45 = .ok (.iload 6, 2) := by decide +kernel
theorem dX4_countCouples_47 : decode cX4_countCouples 47 = .ok (.iaload, 1) := by decide +kernel
theorem dX4_countCouples_48 : decode cX4_countCouples 48 = .ok (.iload 4, 2) := by decide +kernel
theorem dX4_countCouples_50 : decode cX4_countCouples 50 = .ok (.invokevirtual 64, 3) := by decide +kernel
theorem dX4_countCouples_53 : decode cX4_countCouples 53 = .ok (.invokestatic 60, 3) := by decide +kernel
theorem dX4_countCouples_56 : decode cX4_countCouples 56 = .ok (.iload_n 2, 1) := by decide +kernel
theorem dX4_countCouples_57 : decode cX4_countCouples 57 = .ok (.if_icmp .ne 6, 3) := by decide +kernel
theorem dX4_countCouples_60 : decode cX4_countCouples 60 = .ok (.iinc 5 1, 3) := by decide +kernel
theorem dX4_countCouples_63 : decode cX4_countCouples 63 = .ok (.iinc 6 1, 3) := by decide +kernel
theorem dX4_countCouples_66 : decode cX4_countCouples 66 = .ok (.goto (-50), 3) := by decide +kernel
theorem dX4_countCouples_69 : decode cX4_countCouples 69 = .ok (.iload 5, 2) := by decide +kernel
theorem dX4_countCouples_71 : decode cX4_countCouples 71 = .ok (.ireturn, 1) := by decide +kernel
theorem B_X4_countCouples_0 {g : Sg} {c t : Nat} (hL : Lay LC g c t σ) {x1 : Int} {x2 : Int} {x3 : Int} (h : (Lay LC g c t σ → CC E mX11_at [vr 29, vi x3] σ (KI (fun r1 τ2 => Lay LC g c t τ2 ∧ (inR r1 → (Lay LC g c t τ2 → GG E mX4_countCouples 16 [some (vr 24), some (vi x1), some (vi x2), none, some (vi r1), some (vi 0), some (vi 0)] [] τ2 rc rs Q))) (fun _ _ => False)))) : GG E mX4_countCouples 0 [some (vr 24), some (vi x1), some (vi x2), some (vi x3), none, none, none] [] σ rc rs Q := by
  refine r_aload_n (pc := 0) dX4_countCouples_0 rfl rfl ?_
  refine r_getR (pc := 1) dX4_countCouples_1 (k9 := 4) CL_4 (by decide) (by decide) w_208 rfl (okO_of (N := 12) (hL.sh (i := 8) rfl (by decide) (by decide)) (by decide)) ?_
  refine eqR (y := 29) (hL.rf (i := 12) rfl) ?_
  refine r_iload_n (pc := 4) dX4_countCouples_4 rfl rfl ?_
  refine c_SNI0N (M := mX4_countCouples) (pc := 5) (As := [vr 29, vi x3]) dX4_countCouples_5 K_X11_at wt_555 ⟨by decide, by decide⟩ (Nat.le_of_ble_eq_true rfl) rfl rfl (h hL) (fun r1 τ2 h8 hr9 => ?_) rfl
  replace hL := h8.1
  replace h := h8.2 hr9
  refine r_istore (pc := 8) dX4_countCouples_8 (by decide) (l2 := [some (vr 24), some (vi x1), some (vi x2), some (vi x3), some (vi r1), none, none]) rfl ?_
  refine r_iconst (pc := 10) dX4_countCouples_10 (inRk rfl) ?_
  refine r_istore (pc := 11) dX4_countCouples_11 (by decide) (l2 := [some (vr 24), some (vi x1), some (vi x2), some (vi x3), some (vi r1), some (vi 0), none]) rfl ?_
  refine r_iconst (pc := 13) dX4_countCouples_13 (inRk rfl) ?_
  refine r_istore (pc := 14) dX4_countCouples_14 (by decide) (l2 := [some (vr 24), some (vi x1), some (vi x2), some (vi x3), some (vi r1), some (vi 0), some (vi 0)]) rfl ?_
  exact GG.msk [true, true, true, false, true, true, true] (h hL)
theorem B_X4_countCouples_16 {g : Sg} {c t : Nat} (hL : Lay LC g c t σ) {x1 : Int} {x2 : Int} {x4 : Int} {x5 : Int} {x6 : Int} (h : (((gI σ 24 6) ≤ x6 → (Lay LC g c t σ → Q (.inl (some (vi x5))) σ)) ∧ (¬ ((gI σ 24 6) ≤ x6) → (0 ≤ x6 ∧ x6 < 120) ∧ (((gI σ 28 x6.toNat) ≠ x1 → inR (x6 + 1) ∧ (Lay LC g c t σ → GG E mX4_countCouples 16 [some (vr 24), some (vi x1), some (vi x2), none, some (vi x4), some (vi x5), some (vi (x6 + 1))] [] σ rc rs Q)) ∧ ((gI σ 28 x6.toNat) = x1 → (Lay LC g c t σ → CC E mX4_times [vr 24, vi (gI σ 26 x6.toNat), vi x4] σ (KI (fun r3 τ4 => Lay LC g c t τ4 ∧ (inR r3 → (Lay LC g c t τ4 → CC E mX11_at [vr 28, vi r3] τ4 (KI (fun r5 τ6 => Lay LC g c t τ6 ∧ (inR r5 → ((r5 ≠ x2 → inR (x6 + 1) ∧ (Lay LC g c t τ6 → GG E mX4_countCouples 16 [some (vr 24), some (vi x1), some (vi x2), none, some (vi x4), some (vi x5), some (vi (x6 + 1))] [] τ6 rc rs Q)) ∧ (r5 = x2 → inR (x5 + 1) ∧ inR (x6 + 1) ∧ (Lay LC g c t τ6 → GG E mX4_countCouples 16 [some (vr 24), some (vi x1), some (vi x2), none, some (vi x4), some (vi (x5 + 1)), some (vi (x6 + 1))] [] τ6 rc rs Q))))) (fun _ _ => False))))) (fun _ _ => False)))))))) : GG E mX4_countCouples 16 [some (vr 24), some (vi x1), some (vi x2), none, some (vi x4), some (vi x5), some (vi x6)] [] σ rc rs Q := by
  refine r_iload (pc := 16) dX4_countCouples_16 rfl ?_
  refine r_aload_n (pc := 18) dX4_countCouples_18 rfl rfl ?_
  refine r_getI (pc := 19) dX4_countCouples_19 (k9 := 6) CL_4 (by decide) (by decide) w_218 rfl (okO_of (N := 12) (hL.sh (i := 8) rfl (by decide) (by decide)) (by decide)) (fun _ => ?_)
  refine r_icmp_ge (pc := 22) (tgt := 69) dX4_countCouples_22 (by decide) (fun c9 => ?_) (fun c9 => ?_)
  · replace h := h.1 c9
    refine r_iload (pc := 69) dX4_countCouples_69 rfl ?_
    exact r_ireturn (pc := 71) (ty := .int) dX4_countCouples_71 (by decide +kernel) rfl (nar_i _) (h hL)
  · replace h := h.2 c9
    refine r_aload_n (pc := 25) dX4_countCouples_25 rfl rfl ?_
    refine r_getR (pc := 26) dX4_countCouples_26 (k9 := 3) CL_4 (by decide) (by decide) w_205 rfl (okO_of (N := 12) (hL.sh (i := 8) rfl (by decide) (by decide)) (by decide)) ?_
    refine eqR (y := 28) (hL.rf (i := 11) rfl) ?_
    refine r_iload (pc := 29) dX4_countCouples_29 rfl ?_
    obtain ⟨o1, h⟩ := h
    refine r_iaload (pc := 31) dX4_countCouples_31 (okA_of (c := 20) (n := 120) (hL.sh (i := 12) rfl (by decide) (by decide)) (by decide) o1) ?_
    refine r_iload_n (pc := 32) dX4_countCouples_32 rfl rfl ?_
    refine r_icmp_ne (pc := 33) (tgt := 63) dX4_countCouples_33 (by decide) (fun c9 => ?_) (fun c9 => ?_)
    · replace h := h.1 c9
      obtain ⟨o2, h⟩ := h
      refine r_iinc (pc := 63) dX4_countCouples_63 rfl (by decide) o2 (l2 := [some (vr 24), some (vi x1), some (vi x2), none, some (vi x4), some (vi x5), some (vi (x6 + 1))]) rfl ?_
      refine r_goto (pc := 66) (tgt := 16) dX4_countCouples_66 (by decide) ?_
      exact (h hL)
    · replace h := h.2 c9
      refine r_aload_n (pc := 36) dX4_countCouples_36 rfl rfl ?_
      refine r_getR (pc := 37) dX4_countCouples_37 (k9 := 3) CL_4 (by decide) (by decide) w_205 rfl (okO_of (N := 12) (hL.sh (i := 8) rfl (by decide) (by decide)) (by decide)) ?_
      refine eqR (y := 28) (hL.rf (i := 11) rfl) ?_
      refine r_aload_n (pc := 40) dX4_countCouples_40 rfl rfl ?_
      refine r_aload_n (pc := 41) dX4_countCouples_41 rfl rfl ?_
      refine r_getR (pc := 42) dX4_countCouples_42 (k9 := 1) CL_4 (by decide) (by decide) w_200 rfl (okO_of (N := 12) (hL.sh (i := 8) rfl (by decide) (by decide)) (by decide)) ?_
      refine eqR (y := 26) (hL.rf (i := 9) rfl) ?_
      refine r_iload (pc := 45) dX4_countCouples_45 rfl ?_
      refine r_iaload (pc := 47) dX4_countCouples_47 (okA_of (c := 20) (n := 120) (hL.sh (i := 10) rfl (by decide) (by decide)) (by decide) o1) ?_
      refine r_iload (pc := 48) dX4_countCouples_48 rfl ?_
      refine c_VI0N (M := mX4_countCouples) (pc := 50) (As := [vi (gI σ 26 x6.toNat), vi x4]) dX4_countCouples_50 K_X4_times w_562 ⟨by decide, by decide⟩ (Nat.le_of_ble_eq_true rfl) rfl rfl (ci := 4) rfl rfl (by decide) (okO_of (N := 12) (hL.sh (i := 8) rfl (by decide) (by decide)) (by decide)) (h hL) (fun r3 τ4 h8 hr9 => ?_) rfl
      replace hL := h8.1
      replace h := h8.2 hr9
      refine c_SNI0N (M := mX4_countCouples) (pc := 53) (As := [vr 28, vi r3]) dX4_countCouples_53 K_X11_at wt_555 ⟨by decide, by decide⟩ (Nat.le_of_ble_eq_true rfl) rfl rfl (h hL) (fun r5 τ6 h8 hr9 => ?_) rfl
      replace hL := h8.1
      replace h := h8.2 hr9
      refine r_iload_n (pc := 56) dX4_countCouples_56 rfl rfl ?_
      refine r_icmp_ne (pc := 57) (tgt := 63) dX4_countCouples_57 (by decide) (fun c9 => ?_) (fun c9 => ?_)
      · replace h := h.1 c9
        obtain ⟨o7, h⟩ := h
        refine r_iinc (pc := 63) dX4_countCouples_63 rfl (by decide) o7 (l2 := [some (vr 24), some (vi x1), some (vi x2), none, some (vi x4), some (vi x5), some (vi (x6 + 1))]) rfl ?_
        refine r_goto (pc := 66) (tgt := 16) dX4_countCouples_66 (by decide) ?_
        exact (h hL)
      · replace h := h.2 c9
        obtain ⟨o8, h⟩ := h
        refine r_iinc (pc := 60) dX4_countCouples_60 rfl (by decide) o8 (l2 := [some (vr 24), some (vi x1), some (vi x2), none, some (vi x4), some (vi (x5 + 1)), some (vi x6)]) rfl ?_
        obtain ⟨o9, h⟩ := h
        refine r_iinc (pc := 63) dX4_countCouples_63 rfl (by decide) o9 (l2 := [some (vr 24), some (vi x1), some (vi x2), none, some (vi x4), some (vi (x5 + 1)), some (vi (x6 + 1))]) rfl ?_
        refine r_goto (pc := 66) (tgt := 16) dX4_countCouples_66 (by decide) ?_
        exact (h hL)
theorem C_X4_countCouples {a0 : Nat} {x1 : Int} {x2 : Int} {x3 : Int} (h : GG E mX4_countCouples 0 [some (vr a0), some (vi x1), some (vi x2), some (vi x3), none, none, none] [] σ 0 0 Q) : CC E mX4_countCouples [vr a0, vi x1, vi x2, vi x3] σ Q := CC.of (by decide +kernel) rfl (by decide +kernel) (fun h9 => nomatch h9) (Nat.le_of_ble_eq_true rfl) h
theorem dX4_countOfOrder_0 : decode cX4_countOfOrder 0 = .ok (.iconst 0, 1) := by decide +kernel
theorem dX4_countOfOrder_1 : decode cX4_countOfOrder 1 = .ok (.istore_n 2, 1) := by decide +kernel
theorem dX4_countOfOrder_2 : decode cX4_countOfOrder 2 = .ok (.iconst 0, 1) := by decide +kernel
theorem dX4_countOfOrder_3 : decode cX4_countOfOrder 3 = .ok (.istore_n 3, 1) := by decide +kernel
theorem dX4_countOfOrder_4 : decode cX4_countOfOrder 4 = .ok (.iload_n 3, 1) := by decide +kernel
theorem dX4_countOfOrder_5 : decode cX4_countOfOrder 5 = .ok (.aload_n 0, 1) := by decide +kernel
theorem dX4_countOfOrder_6 : decode cX4_countOfOrder 6 = .ok (.getfield 42, 3) := by decide +kernel
theorem dX4_countOfOrder_9 : decode cX4_countOfOrder 9 = .ok (.if_icmp .ge 22, 3) := by decide +kernel
theorem dX4_countOfOrder_12 : decode cX4_countOfOrder 12 = .ok (.aload_n 0, 1) := by decide +kernel
theorem dX4_countOfOrder_13 : decode cX4_countOfOrder 13 = .ok (.getfield 18, 3) := by decide +kernel
theorem dX4_countOfOrder_16 : decode cX4_countOfOrder 16 = .ok (.iload_n 3, 1) := by decide +kernel
theorem dX4_countOfOrder_17 : decode cX4_countOfOrder 17 = .ok (.iaload, 1) := by decide +kernel
theorem dX4_countOfOrder_18 : decode cX4_countOfOrder 18 = .ok (.iload_n 1, 1) := by decide +kernel
theorem dX4_countOfOrder_19 : decode cX4_countOfOrder 19 = .ok (.if_icmp .ne 6, 3) := by decide +kernel
theorem dX4_countOfOrder_22 : decode cX4_countOfOrder 22 = .ok (.iinc 2 1, 3) := by decide +kernel
theorem dX4_countOfOrder_25 : decode cX4_countOfOrder 25 = .ok (.iinc 3 1, 3) := by decide +kernel
theorem dX4_countOfOrder_28 : decode cX4_countOfOrder 28 = .ok (.goto (-24), 3) := by decide +kernel
theorem dX4_countOfOrder_31 : decode cX4_countOfOrder 31 = .ok (.iload_n 2, 1) := by decide +kernel
theorem dX4_countOfOrder_32 : decode cX4_countOfOrder 32 = .ok (.ireturn, 1) := by decide +kernel
theorem B_X4_countOfOrder_0 {g : Sg} {c t : Nat} (hL : Lay LC g c t σ) {x1 : Int} (h : (Lay LC g c t σ → GG E mX4_countOfOrder 4 [some (vr 24), some (vi x1), some (vi 0), some (vi 0)] [] σ rc rs Q)) : GG E mX4_countOfOrder 0 [some (vr 24), some (vi x1), none, none] [] σ rc rs Q := by
  refine r_iconst (pc := 0) dX4_countOfOrder_0 (inRk rfl) ?_
  refine r_istore_n (pc := 1) dX4_countOfOrder_1 rfl (by decide) (l2 := [some (vr 24), some (vi x1), some (vi 0), none]) rfl ?_
  refine r_iconst (pc := 2) dX4_countOfOrder_2 (inRk rfl) ?_
  refine r_istore_n (pc := 3) dX4_countOfOrder_3 rfl (by decide) (l2 := [some (vr 24), some (vi x1), some (vi 0), some (vi 0)]) rfl ?_
  exact (h hL)
theorem B_X4_countOfOrder_4 {g : Sg} {c t : Nat} (hL : Lay LC g c t σ) {x1 : Int} {x2 : Int} {x3 : Int} (h : (((gI σ 24 6) ≤ x3 → (Lay LC g c t σ → Q (.inl (some (vi x2))) σ)) ∧ (¬ ((gI σ 24 6) ≤ x3) → (0 ≤ x3 ∧ x3 < 120) ∧ (((gI σ 27 x3.toNat) ≠ x1 → inR (x3 + 1) ∧ (Lay LC g c t σ → GG E mX4_countOfOrder 4 [some (vr 24), some (vi x1), some (vi x2), some (vi (x3 + 1))] [] σ rc rs Q)) ∧ ((gI σ 27 x3.toNat) = x1 → inR (x2 + 1) ∧ inR (x3 + 1) ∧ (Lay LC g c t σ → GG E mX4_countOfOrder 4 [some (vr 24), some (vi x1), some (vi (x2 + 1)), some (vi (x3 + 1))] [] σ rc rs Q)))))) : GG E mX4_countOfOrder 4 [some (vr 24), some (vi x1), some (vi x2), some (vi x3)] [] σ rc rs Q := by
  refine r_iload_n (pc := 4) dX4_countOfOrder_4 rfl rfl ?_
  refine r_aload_n (pc := 5) dX4_countOfOrder_5 rfl rfl ?_
  refine r_getI (pc := 6) dX4_countOfOrder_6 (k9 := 6) CL_4 (by decide) (by decide) w_218 rfl (okO_of (N := 12) (hL.sh (i := 8) rfl (by decide) (by decide)) (by decide)) (fun _ => ?_)
  refine r_icmp_ge (pc := 9) (tgt := 31) dX4_countOfOrder_9 (by decide) (fun c9 => ?_) (fun c9 => ?_)
  · replace h := h.1 c9
    refine r_iload_n (pc := 31) dX4_countOfOrder_31 rfl rfl ?_
    exact r_ireturn (pc := 32) (ty := .int) dX4_countOfOrder_32 (by decide +kernel) rfl (nar_i _) (h hL)
  · replace h := h.2 c9
    refine r_aload_n (pc := 12) dX4_countOfOrder_12 rfl rfl ?_
    refine r_getR (pc := 13) dX4_countOfOrder_13 (k9 := 2) CL_4 (by decide) (by decide) w_203 rfl (okO_of (N := 12) (hL.sh (i := 8) rfl (by decide) (by decide)) (by decide)) ?_
    refine eqR (y := 27) (hL.rf (i := 10) rfl) ?_
    refine r_iload_n (pc := 16) dX4_countOfOrder_16 rfl rfl ?_
    obtain ⟨o1, h⟩ := h
    refine r_iaload (pc := 17) dX4_countOfOrder_17 (okA_of (c := 20) (n := 120) (hL.sh (i := 11) rfl (by decide) (by decide)) (by decide) o1) ?_
    refine r_iload_n (pc := 18) dX4_countOfOrder_18 rfl rfl ?_
    refine r_icmp_ne (pc := 19) (tgt := 25) dX4_countOfOrder_19 (by decide) (fun c9 => ?_) (fun c9 => ?_)
    · replace h := h.1 c9
      obtain ⟨o2, h⟩ := h
      refine r_iinc (pc := 25) dX4_countOfOrder_25 rfl (by decide) o2 (l2 := [some (vr 24), some (vi x1), some (vi x2), some (vi (x3 + 1))]) rfl ?_
      refine r_goto (pc := 28) (tgt := 4) dX4_countOfOrder_28 (by decide) ?_
      exact (h hL)
    · replace h := h.2 c9
      obtain ⟨o3, h⟩ := h
      refine r_iinc (pc := 22) dX4_countOfOrder_22 rfl (by decide) o3 (l2 := [some (vr 24), some (vi x1), some (vi (x2 + 1)), some (vi x3)]) rfl ?_
      obtain ⟨o4, h⟩ := h
      refine r_iinc (pc := 25) dX4_countOfOrder_25 rfl (by decide) o4 (l2 := [some (vr 24), some (vi x1), some (vi (x2 + 1)), some (vi (x3 + 1))]) rfl ?_
      refine r_goto (pc := 28) (tgt := 4) dX4_countOfOrder_28 (by decide) ?_
      exact (h hL)
theorem C_X4_countOfOrder {a0 : Nat} {x1 : Int} (h : GG E mX4_countOfOrder 0 [some (vr a0), some (vi x1), none, none] [] σ 0 0 Q) : CC E mX4_countOfOrder [vr a0, vi x1] σ Q := CC.of (by decide +kernel) rfl (by decide +kernel) (fun h9 => nomatch h9) (Nat.le_of_ble_eq_true rfl) h
theorem dX4_fillClass_0 : decode cX4_fillClass 0 = .ok (.iconst 0, 1) := by decide +kernel
theorem dX4_fillClass_1 : decode cX4_fillClass 1 = .ok (.istore_n 2, 1) := by decide +kernel
theorem dX4_fillClass_2 : decode cX4_fillClass 2 = .ok (.iconst 0, 1) := by decide +kernel
theorem dX4_fillClass_3 : decode cX4_fillClass 3 = .ok (.istore_n 3, 1) := by decide +kernel
theorem dX4_fillClass_4 : decode cX4_fillClass 4 = .ok (.iload_n 3, 1) := by decide +kernel
theorem dX4_fillClass_5 : decode cX4_fillClass 5 = .ok (.aload_n 0, 1) := by decide +kernel
theorem dX4_fillClass_6 : decode cX4_fillClass 6 = .ok (.getfield 42, 3) := by decide +kernel
theorem dX4_fillClass_9 : decode cX4_fillClass 9 = .ok (.if_icmp .ge 44, 3) := by decide +kernel
theorem dX4_fillClass_12 : decode cX4_fillClass 12 = .ok (.aload_n 0, 1) := by decide +kernel
theorem dX4_fillClass_13 : decode cX4_fillClass 13 = .ok (.iload_n 1, 1) := by decide +kernel
theorem dX4_fillClass_14 : decode cX4_fillClass 14 = .ok (.iload_n 3, 1) := by decide +kernel
theorem dX4_fillClass_15 : decode cX4_fillClass 15 = .ok (.invokevirtual 98, 3) := by decide +kernel
theorem dX4_fillClass_18 : decode cX4_fillClass 18 = .ok (.istore 4, 2) := by decide +kernel
theorem dX4_fillClass_20 : decode cX4_fillClass 20 = .ok (.aload_n 0, 1) := by decide +kernel
theorem dX4_fillClass_21 : decode cX4_fillClass 21 = .ok (.getfield 21, 3) := by decide +kernel
theorem dX4_fillClass_24 : decode cX4_fillClass 24 = .ok (.iload 4, 2) := by decide +kernel
theorem dX4_fillClass_26 : decode cX4_fillClass 26 = .ok (.invokestatic 60, 3) := by decide +kernel
theorem dX4_fillClass_29 : decode cX4_fillClass 29 = .ok (.iconst (-1), 1) := by decide +kernel
theorem dX4_fillClass_30 : decode cX4_fillClass 30 = .ok (.if_icmp .ne 17, 3) := by decide +kernel
theorem dX4_fillClass_33 : decode cX4_fillClass 33 = .ok (.aload_n 0, 1) := by decide +kernel
theorem dX4_fillClass_34 : decode cX4_fillClass 34 = .ok (.getfield 21, 3) := by decide +kernel
theorem dX4_fillClass_37 : decode cX4_fillClass 37 = .ok (.iload 4, 2) := by decide +kernel
theorem dX4_fillClass_39 : decode cX4_fillClass 39 = .ok (.aload_n 0, 1) := by decide +kernel
theorem dX4_fillClass_40 : decode cX4_fillClass 40 = .ok (.getfield 88, 3) := by decide +kernel
theorem dX4_fillClass_43 : decode cX4_fillClass 43 = .ok (.iastore, 1) := by decide +kernel
theorem dX4_fillClass_44 : decode cX4_fillClass 44 = .ok (.iinc 2 1, 3) := by decide +kernel
theorem dX4_fillClass_47 : decode cX4_fillClass 47 = .ok (.iinc 3 1, 3) := by decide +kernel
theorem dX4_fillClass_50 : decode cX4_fillClass 50 = .ok (.goto (-46), 3) := by decide +kernel
theorem dX4_fillClass_53 : decode cX4_fillClass 53 = .ok (.aload_n 0, 1) := by decide +kernel
theorem dX4_fillClass_54 : decode cX4_fillClass 54 = .ok (.getfield 24, 3) := by decide +kernel
theorem dX4_fillClass_57 : decode cX4_fillClass 57 = .ok (.aload_n 0, 1) := by decide +kernel
theorem dX4_fillClass_58 : decode cX4_fillClass 58 = .ok (.getfield 88, 3) := by decide +kernel
theorem dX4_fillClass_61 : decode cX4_fillClass 61 = .ok (.iload_n 1, 1) := by decide +kernel
theorem dX4_fillClass_62 : decode cX4_fillClass 62 = .ok (.iastore, 1) := by decide +kernel
theorem dX4_fillClass_63 : decode cX4_fillClass 63 = .ok (.aload_n 0, 1) := by decide +kernel
theorem dX4_fillClass_64 : decode cX4_fillClass 64 = .ok (.getfield 27, 3) := by decide +kernel
theorem dX4_fillClass_67 : decode cX4_fillClass 67 = .ok (.aload_n 0, 1) := by decide +kernel
theorem dX4_fillClass_68 : decode cX4_fillClass 68 = .ok (.getfield 88, 3) := by decide +kernel
theorem dX4_fillClass_71 : decode cX4_fillClass 71 = .ok (.iload_n 2, 1) := by decide +kernel
theorem dX4_fillClass_72 : decode cX4_fillClass 72 = .ok (.iastore, 1) := by decide +kernel
theorem dX4_fillClass_73 : decode cX4_fillClass 73 = .ok (.aload_n 0, 1) := by decide +kernel
theorem dX4_fillClass_74 : decode cX4_fillClass 74 = .ok (.dup, 1) := by decide +kernel
theorem dX4_fillClass_75 : decode cX4_fillClass 75 = .ok (.getfield 88, 3) := by decide +kernel
theorem dX4_fillClass_78 : decode cX4_fillClass 78 = .ok (.iconst 1, 1) := by decide +kernel
theorem dX4_fillClass_79 : decode cX4_fillClass 79 = .ok (.iadd, 1) := by decide +kernel
theorem dX4_fillClass_80 : decode cX4_fillClass 80 = .ok (.putfield 88, 3) := by decide +kernel
theorem dX4_fillClass_83 : decode cX4_fillClass 83 = .ok (.iload_n 2, 1) := by decide +kernel
theorem dX4_fillClass_84 : decode cX4_fillClass 84 = .ok (.iconst 1, 1) := by decide +kernel
theorem dX4_fillClass_85 : decode cX4_fillClass 85 = .ok (.if_icmp .ne 13, 3) := by decide +kernel
theorem dX4_fillClass_88 : decode cX4_fillClass 88 = .ok (.aload_n 0, 1) := by decide +kernel
theorem dX4_fillClass_89 : decode cX4_fillClass 89 = .ok (.dup, 1) := by decide +kernel
theorem dX4_fillClass_90 : decode cX4_fillClass 90 = .ok (.getfield 91, 3) := by decide +kernel
theorem dX4_fillClass_93 : decode cX4_fillClass 93 = .ok (.iconst 1, 1) := by decide +kernel
theorem dX4_fillClass_94 : decode cX4_fillClass 94 = .ok (.iadd, 1) := by decide +kernel
theorem dX4_fillClass_95 : decode cX4_fillClass 95 = .ok (.putfield 91, 3) := by decide +kernel
theorem dX4_fillClass_98 : decode cX4_fillClass 98 = .ok (.return_, 1) := by decide +kernel
theorem B_X4_fillClass_0 {g : Sg} {c t : Nat} (hL : Lay LC g c t σ) {x1 : Int} (h : (Lay LC g c t σ → GG E mX4_fillClass 4 [some (vr 24), some (vi x1), some (vi 0), some (vi 0), none] [] σ rc rs Q)) : GG E mX4_fillClass 0 [some (vr 24), some (vi x1), none, none, none] [] σ rc rs Q := by
  refine r_iconst (pc := 0) dX4_fillClass_0 (inRk rfl) ?_
  refine r_istore_n (pc := 1) dX4_fillClass_1 rfl (by decide) (l2 := [some (vr 24), some (vi x1), some (vi 0), none, none]) rfl ?_
  refine r_iconst (pc := 2) dX4_fillClass_2 (inRk rfl) ?_
  refine r_istore_n (pc := 3) dX4_fillClass_3 rfl (by decide) (l2 := [some (vr 24), some (vi x1), some (vi 0), some (vi 0), none]) rfl ?_
  exact (h hL)
theorem B_X4_fillClass_4 {g : Sg} {c t : Nat} (hL : Lay LC g c t σ) {x1 : Int} {x2 : Int} {x3 : Int} (h : (((gI σ 24 6) ≤ x3 → (0 ≤ (gI σ 24 7) ∧ (gI σ 24 7) < 120) ∧ ∀ τ2 : Sg, τ2 = sI σ 29 (gI σ 24 7).toNat x1 → (0 ≤ (gI τ2 24 7) ∧ (gI τ2 24 7) < 120) ∧ ∀ τ4 : Sg, τ4 = sI τ2 30 (gI τ2 24 7).toNat x2 → inR ((gI τ4 24 7) + 1) ∧ ∀ τ6 : Sg, τ6 = sI τ4 24 7 ((gI τ4 24 7) + 1) → ((x2 ≠ 1 → (Lay LC g c t τ6 → Q (.inl none) τ6)) ∧ (x2 = 1 → inR ((gI τ6 24 8) + 1) ∧ ∀ τ8 : Sg, τ8 = sI τ6 24 8 ((gI τ6 24 8) + 1) → (Lay LC g c t τ8 → Q (.inl none) τ8)))) ∧ (¬ ((gI σ 24 6) ≤ x3) → (Lay LC g c t σ → CC E mX4_turned [vr 24, vi x1, vi x3] σ (KI (fun r9 τ10 => Lay LC g c t τ10 ∧ (inR r9 → (Lay LC g c t τ10 → CC E mX11_at [vr 28, vi r9] τ10 (KI (fun r11 τ12 => Lay LC g c t τ12 ∧ (inR r11 → ((r11 ≠ (-1) → inR (x3 + 1) ∧ (Lay LC g c t τ12 → GG E mX4_fillClass 4 [some (vr 24), some (vi x1), some (vi x2), some (vi (x3 + 1)), none] [] τ12 rc rs Q)) ∧ (r11 = (-1) → (0 ≤ r9 ∧ r9 < 120) ∧ ∀ τ15 : Sg, τ15 = sI τ12 28 r9.toNat (gI τ12 24 7) → inR (x2 + 1) ∧ inR (x3 + 1) ∧ (Lay LC g c t τ15 → GG E mX4_fillClass 4 [some (vr 24), some (vi x1), some (vi (x2 + 1)), some (vi (x3 + 1)), none] [] τ15 rc rs Q))))) (fun _ _ => False))))) (fun _ _ => False)))))) : GG E mX4_fillClass 4 [some (vr 24), some (vi x1), some (vi x2), some (vi x3), none] [] σ rc rs Q := by
  refine r_iload_n (pc := 4) dX4_fillClass_4 rfl rfl ?_
  refine r_aload_n (pc := 5) dX4_fillClass_5 rfl rfl ?_
  refine r_getI (pc := 6) dX4_fillClass_6 (k9 := 6) CL_4 (by decide) (by decide) w_218 rfl (okO_of (N := 12) (hL.sh (i := 8) rfl (by decide) (by decide)) (by decide)) (fun _ => ?_)
  refine r_icmp_ge (pc := 9) (tgt := 53) dX4_fillClass_9 (by decide) (fun c9 => ?_) (fun c9 => ?_)
  · replace h := h.1 c9
    refine r_aload_n (pc := 53) dX4_fillClass_53 rfl rfl ?_
    refine r_getR (pc := 54) dX4_fillClass_54 (k9 := 4) CL_4 (by decide) (by decide) w_208 rfl (okO_of (N := 12) (hL.sh (i := 8) rfl (by decide) (by decide)) (by decide)) ?_
    refine eqR (y := 29) (hL.rf (i := 12) rfl) ?_
    refine r_aload_n (pc := 57) dX4_fillClass_57 rfl rfl ?_
    refine r_getI (pc := 58) dX4_fillClass_58 (k9 := 7) CL_4 (by decide) (by decide) w_226 rfl (okO_of (N := 12) (hL.sh (i := 8) rfl (by decide) (by decide)) (by decide)) (fun _ => ?_)
    refine r_iload_n (pc := 61) dX4_fillClass_61 rfl rfl ?_
    obtain ⟨o1, h⟩ := h
    refine r_iastore (pc := 62) dX4_fillClass_62 (okB_of (c := 20) (n := 120) (hL.sh (i := 13) rfl (by decide) (by decide)) (by decide) o1) ?_
    refine nmS (fun τ2 e2 => ?_)
    replace h := h τ2 e2
    have hL := hL.wI e2 (by decide) (.inl (by decide))
    refine r_aload_n (pc := 63) dX4_fillClass_63 rfl rfl ?_
    refine r_getR (pc := 64) dX4_fillClass_64 (k9 := 5) CL_4 (by decide) (by decide) w_213 rfl (okO_of (N := 12) (hL.sh (i := 8) rfl (by decide) (by decide)) (by decide)) ?_
    refine eqR (y := 30) (hL.rf (i := 13) rfl) ?_
    refine r_aload_n (pc := 67) dX4_fillClass_67 rfl rfl ?_
    refine r_getI (pc := 68) dX4_fillClass_68 (k9 := 7) CL_4 (by decide) (by decide) w_226 rfl (okO_of (N := 12) (hL.sh (i := 8) rfl (by decide) (by decide)) (by decide)) (fun _ => ?_)
    refine r_iload_n (pc := 71) dX4_fillClass_71 rfl rfl ?_
    obtain ⟨o3, h⟩ := h
    refine r_iastore (pc := 72) dX4_fillClass_72 (okB_of (c := 20) (n := 120) (hL.sh (i := 14) rfl (by decide) (by decide)) (by decide) o3) ?_
    refine nmS (fun τ4 e4 => ?_)
    replace h := h τ4 e4
    have hL := hL.wI e4 (by decide) (.inl (by decide))
    refine r_aload_n (pc := 73) dX4_fillClass_73 rfl rfl ?_
    refine r_dup (pc := 74) dX4_fillClass_74 (fun _ h9 => nomatch h9) ?_
    refine r_getI (pc := 75) dX4_fillClass_75 (k9 := 7) CL_4 (by decide) (by decide) w_226 rfl (okO_of (N := 12) (hL.sh (i := 8) rfl (by decide) (by decide)) (by decide)) (fun _ => ?_)
    refine r_iconst (pc := 78) dX4_fillClass_78 (inRk rfl) ?_
    obtain ⟨o5, h⟩ := h
    refine r_iadd (pc := 79) dX4_fillClass_79 o5 ?_
    refine r_putI (pc := 80) dX4_fillClass_80 (k9 := 7) CL_4 (by decide) (by decide) w_226 rfl rfl (fun h9 => absurd h9 (by decide +kernel)) (okO_of (N := 12) (hL.sh (i := 8) rfl (by decide) (by decide)) (by decide)) ?_
    refine nmS (fun τ6 e6 => ?_)
    replace h := h τ6 e6
    have hL := hL.wI e6 (by decide) (.inl (by decide))
    refine r_iload_n (pc := 83) dX4_fillClass_83 rfl rfl ?_
    refine r_iconst (pc := 84) dX4_fillClass_84 (inRk rfl) ?_
    refine r_icmp_ne (pc := 85) (tgt := 98) dX4_fillClass_85 (by decide) (fun c9 => ?_) (fun c9 => ?_)
    · replace h := h.1 c9
      exact r_return (pc := 98) dX4_fillClass_98 (by decide +kernel) rfl (h hL)
    · replace h := h.2 c9
      refine r_aload_n (pc := 88) dX4_fillClass_88 rfl rfl ?_
      refine r_dup (pc := 89) dX4_fillClass_89 (fun _ h9 => nomatch h9) ?_
      refine r_getI (pc := 90) dX4_fillClass_90 (k9 := 8) CL_4 (by decide) (by decide) w_228 rfl (okO_of (N := 12) (hL.sh (i := 8) rfl (by decide) (by decide)) (by decide)) (fun _ => ?_)
      refine r_iconst (pc := 93) dX4_fillClass_93 (inRk rfl) ?_
      obtain ⟨o7, h⟩ := h
      refine r_iadd (pc := 94) dX4_fillClass_94 o7 ?_
      refine r_putI (pc := 95) dX4_fillClass_95 (k9 := 8) CL_4 (by decide) (by decide) w_228 rfl rfl (fun h9 => absurd h9 (by decide +kernel)) (okO_of (N := 12) (hL.sh (i := 8) rfl (by decide) (by decide)) (by decide)) ?_
      refine nmS (fun τ8 e8 => ?_)
      replace h := h τ8 e8
      have hL := hL.wI e8 (by decide) (.inl (by decide))
      exact r_return (pc := 98) dX4_fillClass_98 (by decide +kernel) rfl (h hL)
  · replace h := h.2 c9
    refine r_aload_n (pc := 12) dX4_fillClass_12 rfl rfl ?_
    refine r_iload_n (pc := 13) dX4_fillClass_13 rfl rfl ?_
    refine r_iload_n (pc := 14) dX4_fillClass_14 rfl rfl ?_
    refine c_VI0N (M := mX4_fillClass) (pc := 15) (As := [vi x1, vi x3]) dX4_fillClass_15 K_X4_turned w_580 ⟨by decide, by decide⟩ (Nat.le_of_ble_eq_true rfl) rfl rfl (ci := 4) rfl rfl (by decide) (okO_of (N := 12) (hL.sh (i := 8) rfl (by decide) (by decide)) (by decide)) (h hL) (fun r9 τ10 h8 hr9 => ?_) rfl
    replace hL := h8.1
    replace h := h8.2 hr9
    refine r_istore (pc := 18) dX4_fillClass_18 (by decide) (l2 := [some (vr 24), some (vi x1), some (vi x2), some (vi x3), some (vi r9)]) rfl ?_
    refine r_aload_n (pc := 20) dX4_fillClass_20 rfl rfl ?_
    refine r_getR (pc := 21) dX4_fillClass_21 (k9 := 3) CL_4 (by decide) (by decide) w_205 rfl (okO_of (N := 12) (hL.sh (i := 8) rfl (by decide) (by decide)) (by decide)) ?_
    refine eqR (y := 28) (hL.rf (i := 11) rfl) ?_
    refine r_iload (pc := 24) dX4_fillClass_24 rfl ?_
    refine c_SNI0N (M := mX4_fillClass) (pc := 26) (As := [vr 28, vi r9]) dX4_fillClass_26 K_X11_at wt_555 ⟨by decide, by decide⟩ (Nat.le_of_ble_eq_true rfl) rfl rfl (h hL) (fun r11 τ12 h8 hr9 => ?_) rfl
    replace hL := h8.1
    replace h := h8.2 hr9
    refine r_iconst (pc := 29) dX4_fillClass_29 (inRk rfl) ?_
    refine r_icmp_ne (pc := 30) (tgt := 47) dX4_fillClass_30 (by decide) (fun c9 => ?_) (fun c9 => ?_)
    · replace h := h.1 c9
      obtain ⟨o13, h⟩ := h
      refine r_iinc (pc := 47) dX4_fillClass_47 rfl (by decide) o13 (l2 := [some (vr 24), some (vi x1), some (vi x2), some (vi (x3 + 1)), some (vi r9)]) rfl ?_
      refine r_goto (pc := 50) (tgt := 4) dX4_fillClass_50 (by decide) ?_
      exact GG.msk [true, true, true, true, false] (h hL)
    · replace h := h.2 c9
      refine r_aload_n (pc := 33) dX4_fillClass_33 rfl rfl ?_
      refine r_getR (pc := 34) dX4_fillClass_34 (k9 := 3) CL_4 (by decide) (by decide) w_205 rfl (okO_of (N := 12) (hL.sh (i := 8) rfl (by decide) (by decide)) (by decide)) ?_
      refine eqR (y := 28) (hL.rf (i := 11) rfl) ?_
      refine r_iload (pc := 37) dX4_fillClass_37 rfl ?_
      refine r_aload_n (pc := 39) dX4_fillClass_39 rfl rfl ?_
      refine r_getI (pc := 40) dX4_fillClass_40 (k9 := 7) CL_4 (by decide) (by decide) w_226 rfl (okO_of (N := 12) (hL.sh (i := 8) rfl (by decide) (by decide)) (by decide)) (fun _ => ?_)
      obtain ⟨o14, h⟩ := h
      refine r_iastore (pc := 43) dX4_fillClass_43 (okB_of (c := 20) (n := 120) (hL.sh (i := 12) rfl (by decide) (by decide)) (by decide) o14) ?_
      refine nmS (fun τ15 e15 => ?_)
      replace h := h τ15 e15
      have hL := hL.wI e15 (by decide) (.inl (by decide))
      obtain ⟨o16, h⟩ := h
      refine r_iinc (pc := 44) dX4_fillClass_44 rfl (by decide) o16 (l2 := [some (vr 24), some (vi x1), some (vi (x2 + 1)), some (vi x3), some (vi r9)]) rfl ?_
      obtain ⟨o17, h⟩ := h
      refine r_iinc (pc := 47) dX4_fillClass_47 rfl (by decide) o17 (l2 := [some (vr 24), some (vi x1), some (vi (x2 + 1)), some (vi (x3 + 1)), some (vi r9)]) rfl ?_
      refine r_goto (pc := 50) (tgt := 4) dX4_fillClass_50 (by decide) ?_
      exact GG.msk [true, true, true, true, false] (h hL)
theorem C_X4_fillClass {a0 : Nat} {x1 : Int} (h : GG E mX4_fillClass 0 [some (vr a0), some (vi x1), none, none, none] [] σ 0 0 Q) : CC E mX4_fillClass [vr a0, vi x1] σ Q := CC.of (by decide +kernel) rfl (by decide +kernel) (fun h9 => nomatch h9) (Nat.le_of_ble_eq_true rfl) h
theorem dX4_fillClasses_0 : decode cX4_fillClasses 0 = .ok (.iconst 0, 1) := by decide +kernel
theorem dX4_fillClasses_1 : decode cX4_fillClasses 1 = .ok (.istore_n 1, 1) := by decide +kernel
theorem dX4_fillClasses_2 : decode cX4_fillClasses 2 = .ok (.iload_n 1, 1) := by decide +kernel
theorem dX4_fillClasses_3 : decode cX4_fillClasses 3 = .ok (.aload_n 0, 1) := by decide +kernel
theorem dX4_fillClasses_4 : decode cX4_fillClasses 4 = .ok (.getfield 42, 3) := by decide +kernel
theorem dX4_fillClasses_7 : decode cX4_fillClasses 7 = .ok (.if_icmp .ge 16, 3) := by decide +kernel
theorem dX4_fillClasses_10 : decode cX4_fillClasses 10 = .ok (.aload_n 0, 1) := by decide +kernel
theorem dX4_fillClasses_11 : decode cX4_fillClasses 11 = .ok (.getfield 21, 3) := by decide +kernel
theorem dX4_fillClasses_14 : decode cX4_fillClasses 14 = .ok (.iload_n 1, 1) := by decide +kernel
theorem dX4_fillClasses_15 : decode cX4_fillClasses 15 = .ok (.iconst (-1), 1) := by decide +kernel
theorem dX4_fillClasses_16 : decode cX4_fillClasses 16 = .ok (.iastore, 1) := by decide +kernel
theorem dX4_fillClasses_17 : decode cX4_fillClasses 17 = .ok (.iinc 1 1, 3) := by decide +kernel
theorem dX4_fillClasses_20 : decode cX4_fillClasses 20 = .ok (.goto (-18), 3) := by decide +kernel
theorem dX4_fillClasses_23 : decode cX4_fillClasses 23 = .ok (.aload_n 0, 1) := by decide +kernel
theorem dX4_fillClasses_24 : decode cX4_fillClasses 24 = .ok (.iconst 0, 1) := by decide +kernel
theorem dX4_fillClasses_25 : decode cX4_fillClasses 25 = .ok (.putfield 88, 3) := by decide +kernel
theorem dX4_fillClasses_28 : decode cX4_fillClasses 28 = .ok (.aload_n 0, 1) := by decide +kernel
theorem dX4_fillClasses_29 : decode cX4_fillClasses 29 = .ok (.iconst 0, 1) := by decide +kernel
theorem dX4_fillClasses_30 : decode cX4_fillClasses 30 = .ok (.putfield 91, 3) := by decide +kernel
theorem dX4_fillClasses_33 : decode cX4_fillClasses 33 = .ok (.iconst 0, 1) := by decide +kernel
theorem dX4_fillClasses_34 : decode cX4_fillClasses 34 = .ok (.istore_n 1, 1) := by decide +kernel
theorem dX4_fillClasses_35 : decode cX4_fillClasses 35 = .ok (.iload_n 1, 1) := by decide +kernel
theorem dX4_fillClasses_36 : decode cX4_fillClasses 36 = .ok (.aload_n 0, 1) := by decide +kernel
theorem dX4_fillClasses_37 : decode cX4_fillClasses 37 = .ok (.getfield 42, 3) := by decide +kernel
theorem dX4_fillClasses_40 : decode cX4_fillClasses 40 = .ok (.if_icmp .ge 24, 3) := by decide +kernel
theorem dX4_fillClasses_43 : decode cX4_fillClasses 43 = .ok (.aload_n 0, 1) := by decide +kernel
theorem dX4_fillClasses_44 : decode cX4_fillClasses 44 = .ok (.getfield 21, 3) := by decide +kernel
theorem dX4_fillClasses_47 : decode cX4_fillClasses 47 = .ok (.iload_n 1, 1) := by decide +kernel
theorem dX4_fillClasses_48 : decode cX4_fillClasses 48 = .ok (.iaload, 1) := by decide +kernel
theorem dX4_fillClasses_49 : decode cX4_fillClasses 49 = .ok (.iconst (-1), 1) := by decide +kernel
theorem dX4_fillClasses_50 : decode cX4_fillClasses 50 = .ok (.if_icmp .ne 8, 3) := by decide +kernel
theorem dX4_fillClasses_53 : decode cX4_fillClasses 53 = .ok (.aload_n 0, 1) := by decide +kernel
theorem dX4_fillClasses_54 : decode cX4_fillClasses 54 = .ok (.iload_n 1, 1) := by decide +kernel
theorem dX4_fillClasses_55 : decode cX4_fillClasses 55 = .ok (.invokevirtual 94, 3) := by decide +kernel
theorem dX4_fillClasses_58 : decode cX4_fillClasses 58 = .ok (.iinc 1 1, 3) := by decide +kernel
theorem dX4_fillClasses_61 : decode cX4_fillClasses 61 = .ok (.goto (-26), 3) := by decide +kernel
theorem dX4_fillClasses_64 : decode cX4_fillClasses 64 = .ok (.return_, 1) := by decide +kernel
theorem B_X4_fillClasses_0 {g : Sg} {c t : Nat} (hL : Lay LC g c t σ)  (h : (Lay LC g c t σ → GG E mX4_fillClasses 2 [some (vr 24), some (vi 0)] [] σ rc rs Q)) : GG E mX4_fillClasses 0 [some (vr 24), none] [] σ rc rs Q := by
  refine r_iconst (pc := 0) dX4_fillClasses_0 (inRk rfl) ?_
  refine r_istore_n (pc := 1) dX4_fillClasses_1 rfl (by decide) (l2 := [some (vr 24), some (vi 0)]) rfl ?_
  exact (h hL)
theorem B_X4_fillClasses_2 {g : Sg} {c t : Nat} (hL : Lay LC g c t σ) {x1 : Int} (h : (((gI σ 24 6) ≤ x1 → ∀ τ1 : Sg, τ1 = sI σ 24 7 0 → ∀ τ2 : Sg, τ2 = sI τ1 24 8 0 → (Lay LC g c t τ2 → GG E mX4_fillClasses 35 [some (vr 24), some (vi 0)] [] τ2 rc rs Q)) ∧ (¬ ((gI σ 24 6) ≤ x1) → (0 ≤ x1 ∧ x1 < 120) ∧ ∀ τ4 : Sg, τ4 = sI σ 28 x1.toNat (-1) → inR (x1 + 1) ∧ (Lay LC g c t τ4 → GG E mX4_fillClasses 2 [some (vr 24), some (vi (x1 + 1))] [] τ4 rc rs Q)))) : GG E mX4_fillClasses 2 [some (vr 24), some (vi x1)] [] σ rc rs Q := by
  refine r_iload_n (pc := 2) dX4_fillClasses_2 rfl rfl ?_
  refine r_aload_n (pc := 3) dX4_fillClasses_3 rfl rfl ?_
  refine r_getI (pc := 4) dX4_fillClasses_4 (k9 := 6) CL_4 (by decide) (by decide) w_218 rfl (okO_of (N := 12) (hL.sh (i := 8) rfl (by decide) (by decide)) (by decide)) (fun _ => ?_)
  refine r_icmp_ge (pc := 7) (tgt := 23) dX4_fillClasses_7 (by decide) (fun c9 => ?_) (fun c9 => ?_)
  · replace h := h.1 c9
    refine r_aload_n (pc := 23) dX4_fillClasses_23 rfl rfl ?_
    refine r_iconst (pc := 24) dX4_fillClasses_24 (inRk rfl) ?_
    refine r_putI (pc := 25) dX4_fillClasses_25 (k9 := 7) CL_4 (by decide) (by decide) w_226 rfl rfl (fun h9 => absurd h9 (by decide +kernel)) (okO_of (N := 12) (hL.sh (i := 8) rfl (by decide) (by decide)) (by decide)) ?_
    refine nmS (fun τ1 e1 => ?_)
    replace h := h τ1 e1
    have hL := hL.wI e1 (by decide) (.inl (by decide))
    refine r_aload_n (pc := 28) dX4_fillClasses_28 rfl rfl ?_
    refine r_iconst (pc := 29) dX4_fillClasses_29 (inRk rfl) ?_
    refine r_putI (pc := 30) dX4_fillClasses_30 (k9 := 8) CL_4 (by decide) (by decide) w_228 rfl rfl (fun h9 => absurd h9 (by decide +kernel)) (okO_of (N := 12) (hL.sh (i := 8) rfl (by decide) (by decide)) (by decide)) ?_
    refine nmS (fun τ2 e2 => ?_)
    replace h := h τ2 e2
    have hL := hL.wI e2 (by decide) (.inl (by decide))
    refine r_iconst (pc := 33) dX4_fillClasses_33 (inRk rfl) ?_
    refine r_istore_n (pc := 34) dX4_fillClasses_34 rfl (by decide) (l2 := [some (vr 24), some (vi 0)]) rfl ?_
    exact (h hL)
  · replace h := h.2 c9
    refine r_aload_n (pc := 10) dX4_fillClasses_10 rfl rfl ?_
    refine r_getR (pc := 11) dX4_fillClasses_11 (k9 := 3) CL_4 (by decide) (by decide) w_205 rfl (okO_of (N := 12) (hL.sh (i := 8) rfl (by decide) (by decide)) (by decide)) ?_
    refine eqR (y := 28) (hL.rf (i := 11) rfl) ?_
    refine r_iload_n (pc := 14) dX4_fillClasses_14 rfl rfl ?_
    refine r_iconst (pc := 15) dX4_fillClasses_15 (inRk rfl) ?_
    obtain ⟨o3, h⟩ := h
    refine r_iastore (pc := 16) dX4_fillClasses_16 (okB_of (c := 20) (n := 120) (hL.sh (i := 12) rfl (by decide) (by decide)) (by decide) o3) ?_
    refine nmS (fun τ4 e4 => ?_)
    replace h := h τ4 e4
    have hL := hL.wI e4 (by decide) (.inl (by decide))
    obtain ⟨o5, h⟩ := h
    refine r_iinc (pc := 17) dX4_fillClasses_17 rfl (by decide) o5 (l2 := [some (vr 24), some (vi (x1 + 1))]) rfl ?_
    refine r_goto (pc := 20) (tgt := 2) dX4_fillClasses_20 (by decide) ?_
    exact (h hL)
theorem B_X4_fillClasses_35 {g : Sg} {c t : Nat} (hL : Lay LC g c t σ) {x1 : Int} (h : (((gI σ 24 6) ≤ x1 → (Lay LC g c t σ → Q (.inl none) σ)) ∧ (¬ ((gI σ 24 6) ≤ x1) → (0 ≤ x1 ∧ x1 < 120) ∧ (((gI σ 28 x1.toNat) ≠ (-1) → inR (x1 + 1) ∧ (Lay LC g c t σ → GG E mX4_fillClasses 35 [some (vr 24), some (vi (x1 + 1))] [] σ rc rs Q)) ∧ ((gI σ 28 x1.toNat) = (-1) → (Lay LC g c t σ → CC E mX4_fillClass [vr 24, vi x1] σ (KV (fun τ4 => Lay LC g c t τ4 ∧ inR (x1 + 1) ∧ (Lay LC g c t τ4 → GG E mX4_fillClasses 35 [some (vr 24), some (vi (x1 + 1))] [] τ4 rc rs Q)) (fun _ _ => False)))))))) : GG E mX4_fillClasses 35 [some (vr 24), some (vi x1)] [] σ rc rs Q := by
  refine r_iload_n (pc := 35) dX4_fillClasses_35 rfl rfl ?_
  refine r_aload_n (pc := 36) dX4_fillClasses_36 rfl rfl ?_
  refine r_getI (pc := 37) dX4_fillClasses_37 (k9 := 6) CL_4 (by decide) (by decide) w_218 rfl (okO_of (N := 12) (hL.sh (i := 8) rfl (by decide) (by decide)) (by decide)) (fun _ => ?_)
  refine r_icmp_ge (pc := 40) (tgt := 64) dX4_fillClasses_40 (by decide) (fun c9 => ?_) (fun c9 => ?_)
  · replace h := h.1 c9
    exact r_return (pc := 64) dX4_fillClasses_64 (by decide +kernel) rfl (h hL)
  · replace h := h.2 c9
    refine r_aload_n (pc := 43) dX4_fillClasses_43 rfl rfl ?_
    refine r_getR (pc := 44) dX4_fillClasses_44 (k9 := 3) CL_4 (by decide) (by decide) w_205 rfl (okO_of (N := 12) (hL.sh (i := 8) rfl (by decide) (by decide)) (by decide)) ?_
    refine eqR (y := 28) (hL.rf (i := 11) rfl) ?_
    refine r_iload_n (pc := 47) dX4_fillClasses_47 rfl rfl ?_
    obtain ⟨o1, h⟩ := h
    refine r_iaload (pc := 48) dX4_fillClasses_48 (okA_of (c := 20) (n := 120) (hL.sh (i := 12) rfl (by decide) (by decide)) (by decide) o1) ?_
    refine r_iconst (pc := 49) dX4_fillClasses_49 (inRk rfl) ?_
    refine r_icmp_ne (pc := 50) (tgt := 58) dX4_fillClasses_50 (by decide) (fun c9 => ?_) (fun c9 => ?_)
    · replace h := h.1 c9
      obtain ⟨o2, h⟩ := h
      refine r_iinc (pc := 58) dX4_fillClasses_58 rfl (by decide) o2 (l2 := [some (vr 24), some (vi (x1 + 1))]) rfl ?_
      refine r_goto (pc := 61) (tgt := 35) dX4_fillClasses_61 (by decide) ?_
      exact (h hL)
    · replace h := h.2 c9
      refine r_aload_n (pc := 53) dX4_fillClasses_53 rfl rfl ?_
      refine r_iload_n (pc := 54) dX4_fillClasses_54 rfl rfl ?_
      refine c_VV0N (M := mX4_fillClasses) (pc := 55) (As := [vi x1]) dX4_fillClasses_55 K_X4_fillClass w_576 ⟨by decide, by decide⟩ (Nat.le_of_ble_eq_true rfl) rfl rfl (ci := 4) rfl rfl (by decide) (okO_of (N := 12) (hL.sh (i := 8) rfl (by decide) (by decide)) (by decide)) (h hL) (fun τ4 h8 => ?_) rfl
      replace hL := h8.1
      replace h := h8.2
      obtain ⟨o5, h⟩ := h
      refine r_iinc (pc := 58) dX4_fillClasses_58 rfl (by decide) o5 (l2 := [some (vr 24), some (vi (x1 + 1))]) rfl ?_
      refine r_goto (pc := 61) (tgt := 35) dX4_fillClasses_61 (by decide) ?_
      exact (h hL)
theorem C_X4_fillClasses {a0 : Nat} (h : GG E mX4_fillClasses 0 [some (vr a0), none] [] σ 0 0 Q) : CC E mX4_fillClasses [vr a0] σ Q := CC.of (by decide +kernel) rfl (by decide +kernel) (fun h9 => nomatch h9) (Nat.le_of_ble_eq_true rfl) h
theorem dX4_fillOrders_0 : decode cX4_fillOrders 0 = .ok (.aload_n 0, 1) := by decide +kernel
theorem dX4_fillOrders_1 : decode cX4_fillOrders 1 = .ok (.iconst 1, 1) := by decide +kernel
theorem dX4_fillOrders_2 : decode cX4_fillOrders 2 = .ok (.putfield 76, 3) := by decide +kernel
theorem dX4_fillOrders_5 : decode cX4_fillOrders 5 = .ok (.aload_n 0, 1) := by decide +kernel
theorem dX4_fillOrders_6 : decode cX4_fillOrders 6 = .ok (.iconst 1, 1) := by decide +kernel
theorem dX4_fillOrders_7 : decode cX4_fillOrders 7 = .ok (.putfield 79, 3) := by decide +kernel
theorem dX4_fillOrders_10 : decode cX4_fillOrders 10 = .ok (.iconst 0, 1) := by decide +kernel
theorem dX4_fillOrders_11 : decode cX4_fillOrders 11 = .ok (.istore_n 1, 1) := by decide +kernel
theorem dX4_fillOrders_12 : decode cX4_fillOrders 12 = .ok (.iload_n 1, 1) := by decide +kernel
theorem dX4_fillOrders_13 : decode cX4_fillOrders 13 = .ok (.aload_n 0, 1) := by decide +kernel
theorem dX4_fillOrders_14 : decode cX4_fillOrders 14 = .ok (.getfield 42, 3) := by decide +kernel
theorem dX4_fillOrders_17 : decode cX4_fillOrders 17 = .ok (.if_icmp .ge 92, 3) := by decide +kernel
theorem dX4_fillOrders_20 : decode cX4_fillOrders 20 = .ok (.iconst 1, 1) := by decide +kernel
theorem dX4_fillOrders_21 : decode cX4_fillOrders 21 = .ok (.istore_n 2, 1) := by decide +kernel
theorem dX4_fillOrders_22 : decode cX4_fillOrders 22 = .ok (.iconst 0, 1) := by decide +kernel
theorem dX4_fillOrders_23 : decode cX4_fillOrders 23 = .ok (.istore_n 3, 1) := by decide +kernel
theorem dX4_fillOrders_24 : decode cX4_fillOrders 24 = .ok (.iload_n 1, 1) := by decide +kernel
theorem dX4_fillOrders_25 : decode cX4_fillOrders 25 = .ok (.istore 4, 2) := by decide +kernel
theorem dX4_fillOrders_27 : decode cX4_fillOrders 27 = .ok (.iload 4, 2) := by decide +kernel
theorem dX4_fillOrders_29 : decode cX4_fillOrders 29 = .ok (.ifCond .eq 29, 3) := by decide +kernel
theorem dX4_fillOrders_32 : decode cX4_fillOrders 32 = .ok (.iload_n 2, 1) := by decide +kernel
theorem dX4_fillOrders_33 : decode cX4_fillOrders 33 = .ok (.aload_n 0, 1) := by decide +kernel
theorem dX4_fillOrders_34 : decode cX4_fillOrders 34 = .ok (.getfield 42, 3) := by decide +kernel
theorem dX4_fillOrders_37 : decode cX4_fillOrders 37 = .ok (.if_icmp .ge 21, 3) := by decide +kernel
theorem dX4_fillOrders_40 : decode cX4_fillOrders 40 = .ok (.iload 4, 2) := by decide +kernel
theorem dX4_fillOrders_42 : decode cX4_fillOrders 42 = .ok (.istore_n 3, 1) := by decide +kernel
theorem dX4_fillOrders_43 : decode cX4_fillOrders 43 = .ok (.aload_n 0, 1) := by decide +kernel
theorem dX4_fillOrders_44 : decode cX4_fillOrders 44 = .ok (.iload 4, 2) := by decide +kernel
theorem dX4_fillOrders_46 : decode cX4_fillOrders 46 = .ok (.iload_n 1, 1) := by decide +kernel
theorem dX4_fillOrders_47 : decode cX4_fillOrders 47 = .ok (.invokevirtual 64, 3) := by decide +kernel
theorem dX4_fillOrders_50 : decode cX4_fillOrders 50 = .ok (.istore 4, 2) := by decide +kernel
theorem dX4_fillOrders_52 : decode cX4_fillOrders 52 = .ok (.iinc 2 1, 3) := by decide +kernel
theorem dX4_fillOrders_55 : decode cX4_fillOrders 55 = .ok (.goto (-28), 3) := by decide +kernel
theorem dX4_fillOrders_58 : decode cX4_fillOrders 58 = .ok (.aload_n 0, 1) := by decide +kernel
theorem dX4_fillOrders_59 : decode cX4_fillOrders 59 = .ok (.getfield 15, 3) := by decide +kernel
theorem dX4_fillOrders_62 : decode cX4_fillOrders 62 = .ok (.iload_n 1, 1) := by decide +kernel
theorem dX4_fillOrders_63 : decode cX4_fillOrders 63 = .ok (.iload_n 3, 1) := by decide +kernel
theorem dX4_fillOrders_64 : decode cX4_fillOrders 64 = .ok (.iastore, 1) := by decide +kernel
theorem dX4_fillOrders_65 : decode cX4_fillOrders 65 = .ok (.aload_n 0, 1) := by decide +kernel
theorem dX4_fillOrders_66 : decode cX4_fillOrders 66 = .ok (.getfield 18, 3) := by decide +kernel
theorem dX4_fillOrders_69 : decode cX4_fillOrders 69 = .ok (.iload_n 1, 1) := by decide +kernel
theorem dX4_fillOrders_70 : decode cX4_fillOrders 70 = .ok (.iload_n 2, 1) := by decide +kernel
theorem dX4_fillOrders_71 : decode cX4_fillOrders 71 = .ok (.iastore, 1) := by decide +kernel
theorem dX4_fillOrders_72 : decode cX4_fillOrders 72 = .ok (.aload_n 0, 1) := by decide +kernel
theorem dX4_fillOrders_73 : decode cX4_fillOrders 73 = .ok (.aload_n 0, 1) := by decide +kernel
theorem dX4_fillOrders_74 : decode cX4_fillOrders 74 = .ok (.getfield 79, 3) := by decide +kernel
theorem dX4_fillOrders_77 : decode cX4_fillOrders 77 = .ok (.iload_n 2, 1) := by decide +kernel
theorem dX4_fillOrders_78 : decode cX4_fillOrders 78 = .ok (.invokestatic 82, 3) := by decide +kernel
theorem dX4_fillOrders_81 : decode cX4_fillOrders 81 = .ok (.putfield 79, 3) := by decide +kernel
theorem dX4_fillOrders_84 : decode cX4_fillOrders 84 = .ok (.aload_n 0, 1) := by decide +kernel
theorem dX4_fillOrders_85 : decode cX4_fillOrders 85 = .ok (.aload_n 0, 1) := by decide +kernel
theorem dX4_fillOrders_86 : decode cX4_fillOrders 86 = .ok (.getfield 76, 3) := by decide +kernel
theorem dX4_fillOrders_89 : decode cX4_fillOrders 89 = .ok (.aload_n 0, 1) := by decide +kernel
theorem dX4_fillOrders_90 : decode cX4_fillOrders 90 = .ok (.getfield 76, 3) := by decide +kernel
theorem dX4_fillOrders_93 : decode cX4_fillOrders 93 = .ok (.iload_n 2, 1) := by decide +kernel
theorem dX4_fillOrders_94 : decode cX4_fillOrders 94 = .ok (.invokestatic 85, 3) := by decide +kernel
theorem dX4_fillOrders_97 : decode cX4_fillOrders 97 = .ok (.idiv, 1) := by decide +kernel
theorem dX4_fillOrders_98 : decode cX4_fillOrders 98 = .ok (.iload_n 2, 1) := by decide +kernel
theorem dX4_fillOrders_99 : decode cX4_fillOrders 99 = .ok (.imul, 1) := by decide +kernel
theorem dX4_fillOrders_100 : decode cX4_fillOrders 100 = .ok (.putfield 76, 3) := by decide +kernel
theorem dX4_fillOrders_103 : decode cX4_fillOrders 103 = .ok (.iinc 1 1, 3) := by decide +kernel
theorem dX4_fillOrders_106 : decode cX4_fillOrders 106 = .ok (.goto (-94), 3) := by decide +kernel
theorem dX4_fillOrders_109 : decode cX4_fillOrders 109 = .ok (.return_, 1) := by decide +kernel
theorem B_X4_fillOrders_0 {g : Sg} {c t : Nat} (hL : Lay LC g c t σ)  (h : ∀ τ1 : Sg, τ1 = sI σ 24 9 1 → ∀ τ2 : Sg, τ2 = sI τ1 24 10 1 → (Lay LC g c t τ2 → GG E mX4_fillOrders 12 [some (vr 24), some (vi 0), none, none, none] [] τ2 rc rs Q)) : GG E mX4_fillOrders 0 [some (vr 24), none, none, none, none] [] σ rc rs Q := by
  refine r_aload_n (pc := 0) dX4_fillOrders_0 rfl rfl ?_
  refine r_iconst (pc := 1) dX4_fillOrders_1 (inRk rfl) ?_
  refine r_putI (pc := 2) dX4_fillOrders_2 (k9 := 9) CL_4 (by decide) (by decide) w_231 rfl rfl (fun h9 => absurd h9 (by decide +kernel)) (okO_of (N := 12) (hL.sh (i := 8) rfl (by decide) (by decide)) (by decide)) ?_
  refine nmS (fun τ1 e1 => ?_)
  replace h := h τ1 e1
  have hL := hL.wI e1 (by decide) (.inl (by decide))
  refine r_aload_n (pc := 5) dX4_fillOrders_5 rfl rfl ?_
  refine r_iconst (pc := 6) dX4_fillOrders_6 (inRk rfl) ?_
  refine r_putI (pc := 7) dX4_fillOrders_7 (k9 := 10) CL_4 (by decide) (by decide) w_233 rfl rfl (fun h9 => absurd h9 (by decide +kernel)) (okO_of (N := 12) (hL.sh (i := 8) rfl (by decide) (by decide)) (by decide)) ?_
  refine nmS (fun τ2 e2 => ?_)
  replace h := h τ2 e2
  have hL := hL.wI e2 (by decide) (.inl (by decide))
  refine r_iconst (pc := 10) dX4_fillOrders_10 (inRk rfl) ?_
  refine r_istore_n (pc := 11) dX4_fillOrders_11 rfl (by decide) (l2 := [some (vr 24), some (vi 0), none, none, none]) rfl ?_
  exact (h hL)
theorem B_X4_fillOrders_12 {g : Sg} {c t : Nat} (hL : Lay LC g c t σ) {x1 : Int} (h : (((gI σ 24 6) ≤ x1 → (Lay LC g c t σ → Q (.inl none) σ)) ∧ (¬ ((gI σ 24 6) ≤ x1) → (Lay LC g c t σ → GG E mX4_fillOrders 27 [some (vr 24), some (vi x1), some (vi 1), some (vi 0), some (vi x1)] [] σ rc rs Q)))) : GG E mX4_fillOrders 12 [some (vr 24), some (vi x1), none, none, none] [] σ rc rs Q := by
  refine r_iload_n (pc := 12) dX4_fillOrders_12 rfl rfl ?_
  refine r_aload_n (pc := 13) dX4_fillOrders_13 rfl rfl ?_
  refine r_getI (pc := 14) dX4_fillOrders_14 (k9 := 6) CL_4 (by decide) (by decide) w_218 rfl (okO_of (N := 12) (hL.sh (i := 8) rfl (by decide) (by decide)) (by decide)) (fun _ => ?_)
  refine r_icmp_ge (pc := 17) (tgt := 109) dX4_fillOrders_17 (by decide) (fun c9 => ?_) (fun c9 => ?_)
  · replace h := h.1 c9
    exact r_return (pc := 109) dX4_fillOrders_109 (by decide +kernel) rfl (h hL)
  · replace h := h.2 c9
    refine r_iconst (pc := 20) dX4_fillOrders_20 (inRk rfl) ?_
    refine r_istore_n (pc := 21) dX4_fillOrders_21 rfl (by decide) (l2 := [some (vr 24), some (vi x1), some (vi 1), none, none]) rfl ?_
    refine r_iconst (pc := 22) dX4_fillOrders_22 (inRk rfl) ?_
    refine r_istore_n (pc := 23) dX4_fillOrders_23 rfl (by decide) (l2 := [some (vr 24), some (vi x1), some (vi 1), some (vi 0), none]) rfl ?_
    refine r_iload_n (pc := 24) dX4_fillOrders_24 rfl rfl ?_
    refine r_istore (pc := 25) dX4_fillOrders_25 (by decide) (l2 := [some (vr 24), some (vi x1), some (vi 1), some (vi 0), some (vi x1)]) rfl ?_
    exact (h hL)
theorem B_X4_fillOrders_27 {g : Sg} {c t : Nat} (hL : Lay LC g c t σ) {x1 : Int} {x2 : Int} {x3 : Int} {x4 : Int} (h : ((x4 = 0 → (Lay LC g c t σ → GG E mX4_fillOrders 58 [some (vr 24), some (vi x1), some (vi x2), some (vi x3), none] [] σ rc rs Q)) ∧ (¬ (x4 = 0) → (((gI σ 24 6) ≤ x2 → (Lay LC g c t σ → GG E mX4_fillOrders 58 [some (vr 24), some (vi x1), some (vi x2), some (vi x3), none] [] σ rc rs Q)) ∧ (¬ ((gI σ 24 6) ≤ x2) → (Lay LC g c t σ → CC E mX4_times [vr 24, vi x4, vi x1] σ (KI (fun r1 τ2 => Lay LC g c t τ2 ∧ (inR r1 → inR (x2 + 1) ∧ (Lay LC g c t τ2 → GG E mX4_fillOrders 27 [some (vr 24), some (vi x1), some (vi (x2 + 1)), some (vi x4), some (vi r1)] [] τ2 rc rs Q))) (fun _ _ => False)))))))) : GG E mX4_fillOrders 27 [some (vr 24), some (vi x1), some (vi x2), some (vi x3), some (vi x4)] [] σ rc rs Q := by
  refine r_iload (pc := 27) dX4_fillOrders_27 rfl ?_
  refine r_if_eq (pc := 29) (tgt := 58) dX4_fillOrders_29 (by decide) (fun c9 => ?_) (fun c9 => ?_)
  · replace h := h.1 c9
    exact GG.msk [true, true, true, true, false] (h hL)
  · replace h := h.2 c9
    refine r_iload_n (pc := 32) dX4_fillOrders_32 rfl rfl ?_
    refine r_aload_n (pc := 33) dX4_fillOrders_33 rfl rfl ?_
    refine r_getI (pc := 34) dX4_fillOrders_34 (k9 := 6) CL_4 (by decide) (by decide) w_218 rfl (okO_of (N := 12) (hL.sh (i := 8) rfl (by decide) (by decide)) (by decide)) (fun _ => ?_)
    refine r_icmp_ge (pc := 37) (tgt := 58) dX4_fillOrders_37 (by decide) (fun c9 => ?_) (fun c9 => ?_)
    · replace h := h.1 c9
      exact GG.msk [true, true, true, true, false] (h hL)
    · replace h := h.2 c9
      refine r_iload (pc := 40) dX4_fillOrders_40 rfl ?_
      refine r_istore_n (pc := 42) dX4_fillOrders_42 rfl (by decide) (l2 := [some (vr 24), some (vi x1), some (vi x2), some (vi x4), some (vi x4)]) rfl ?_
      refine r_aload_n (pc := 43) dX4_fillOrders_43 rfl rfl ?_
      refine r_iload (pc := 44) dX4_fillOrders_44 rfl ?_
      refine r_iload_n (pc := 46) dX4_fillOrders_46 rfl rfl ?_
      refine c_VI0N (M := mX4_fillOrders) (pc := 47) (As := [vi x4, vi x1]) dX4_fillOrders_47 K_X4_times w_562 ⟨by decide, by decide⟩ (Nat.le_of_ble_eq_true rfl) rfl rfl (ci := 4) rfl rfl (by decide) (okO_of (N := 12) (hL.sh (i := 8) rfl (by decide) (by decide)) (by decide)) (h hL) (fun r1 τ2 h8 hr9 => ?_) rfl
      replace hL := h8.1
      replace h := h8.2 hr9
      refine r_istore (pc := 50) dX4_fillOrders_50 (by decide) (l2 := [some (vr 24), some (vi x1), some (vi x2), some (vi x4), some (vi r1)]) rfl ?_
      obtain ⟨o3, h⟩ := h
      refine r_iinc (pc := 52) dX4_fillOrders_52 rfl (by decide) o3 (l2 := [some (vr 24), some (vi x1), some (vi (x2 + 1)), some (vi x4), some (vi r1)]) rfl ?_
      refine r_goto (pc := 55) (tgt := 27) dX4_fillOrders_55 (by decide) ?_
      exact (h hL)
theorem B_X4_fillOrders_58 {g : Sg} {c t : Nat} (hL : Lay LC g c t σ) {x1 : Int} {x2 : Int} {x3 : Int} (h : (0 ≤ x1 ∧ x1 < 120) ∧ ∀ τ2 : Sg, τ2 = sI σ 26 x1.toNat x3 → ∀ τ3 : Sg, τ3 = sI τ2 27 x1.toNat x2 → ∀ v4 : Int, v4 = (if (gI τ3 24 10) < x2 then x2 else gI τ3 24 10) → ∀ τ5 : Sg, τ5 = sI τ3 24 10 v4 → (Lay LC g c t τ5 → CC E mX4_greatestShared [vi (gI τ5 24 9), vi x2] τ5 (KI (fun r6 τ7 => Lay LC g c t τ7 ∧ (inR r6 → r6 ≠ 0 ∧ inR ((gI τ5 24 9).tdiv r6) ∧ inR (((gI τ5 24 9).tdiv r6) * x2) ∧ ∀ τ11 : Sg, τ11 = sI τ7 24 9 (((gI τ5 24 9).tdiv r6) * x2) → inR (x1 + 1) ∧ (Lay LC g c t τ11 → GG E mX4_fillOrders 12 [some (vr 24), some (vi (x1 + 1)), none, none, none] [] τ11 rc rs Q))) (fun _ _ => False)))) : GG E mX4_fillOrders 58 [some (vr 24), some (vi x1), some (vi x2), some (vi x3), none] [] σ rc rs Q := by
  refine r_aload_n (pc := 58) dX4_fillOrders_58 rfl rfl ?_
  refine r_getR (pc := 59) dX4_fillOrders_59 (k9 := 1) CL_4 (by decide) (by decide) w_200 rfl (okO_of (N := 12) (hL.sh (i := 8) rfl (by decide) (by decide)) (by decide)) ?_
  refine eqR (y := 26) (hL.rf (i := 9) rfl) ?_
  refine r_iload_n (pc := 62) dX4_fillOrders_62 rfl rfl ?_
  refine r_iload_n (pc := 63) dX4_fillOrders_63 rfl rfl ?_
  obtain ⟨o1, h⟩ := h
  refine r_iastore (pc := 64) dX4_fillOrders_64 (okB_of (c := 20) (n := 120) (hL.sh (i := 10) rfl (by decide) (by decide)) (by decide) o1) ?_
  refine nmS (fun τ2 e2 => ?_)
  replace h := h τ2 e2
  have hL := hL.wI e2 (by decide) (.inl (by decide))
  refine r_aload_n (pc := 65) dX4_fillOrders_65 rfl rfl ?_
  refine r_getR (pc := 66) dX4_fillOrders_66 (k9 := 2) CL_4 (by decide) (by decide) w_203 rfl (okO_of (N := 12) (hL.sh (i := 8) rfl (by decide) (by decide)) (by decide)) ?_
  refine eqR (y := 27) (hL.rf (i := 10) rfl) ?_
  refine r_iload_n (pc := 69) dX4_fillOrders_69 rfl rfl ?_
  refine r_iload_n (pc := 70) dX4_fillOrders_70 rfl rfl ?_
  refine r_iastore (pc := 71) dX4_fillOrders_71 (okB_of (c := 20) (n := 120) (hL.sh (i := 11) rfl (by decide) (by decide)) (by decide) o1) ?_
  refine nmS (fun τ3 e3 => ?_)
  replace h := h τ3 e3
  have hL := hL.wI e3 (by decide) (.inl (by decide))
  refine r_aload_n (pc := 72) dX4_fillOrders_72 rfl rfl ?_
  refine r_aload_n (pc := 73) dX4_fillOrders_73 rfl rfl ?_
  refine r_getI (pc := 74) dX4_fillOrders_74 (k9 := 10) CL_4 (by decide) (by decide) w_233 rfl (okO_of (N := 12) (hL.sh (i := 8) rfl (by decide) (by decide)) (by decide)) (fun _ => ?_)
  refine r_iload_n (pc := 77) dX4_fillOrders_77 rfl rfl ?_
  refine r_mmax (pc := 78) dX4_fillOrders_78 w_566 w_567 w_111 w_568 (by decide) (Nat.le_of_ble_eq_true rfl) ?_
  refine nmI (fun v4 e9 => ?_)
  replace h := h v4 e9
  refine r_putI (pc := 81) dX4_fillOrders_81 (k9 := 10) CL_4 (by decide) (by decide) w_233 rfl rfl (fun h9 => absurd h9 (by decide +kernel)) (okO_of (N := 12) (hL.sh (i := 8) rfl (by decide) (by decide)) (by decide)) ?_
  refine nmS (fun τ5 e5 => ?_)
  replace h := h τ5 e5
  have hL := hL.wI e5 (by decide) (.inl (by decide))
  refine r_aload_n (pc := 84) dX4_fillOrders_84 rfl rfl ?_
  refine r_aload_n (pc := 85) dX4_fillOrders_85 rfl rfl ?_
  refine r_getI (pc := 86) dX4_fillOrders_86 (k9 := 9) CL_4 (by decide) (by decide) w_231 rfl (okO_of (N := 12) (hL.sh (i := 8) rfl (by decide) (by decide)) (by decide)) (fun _ => ?_)
  refine r_aload_n (pc := 89) dX4_fillOrders_89 rfl rfl ?_
  refine r_getI (pc := 90) dX4_fillOrders_90 (k9 := 9) CL_4 (by decide) (by decide) w_231 rfl (okO_of (N := 12) (hL.sh (i := 8) rfl (by decide) (by decide)) (by decide)) (fun _ => ?_)
  refine r_iload_n (pc := 93) dX4_fillOrders_93 rfl rfl ?_
  refine c_SI0N (M := mX4_fillOrders) (pc := 94) (As := [vi (gI τ5 24 9), vi x2]) dX4_fillOrders_94 K_X4_greatestShared w_569 ⟨by decide, by decide⟩ (Nat.le_of_ble_eq_true rfl) rfl rfl (h hL) (fun r6 τ7 h8 hr9 => ?_) rfl
  replace hL := h8.1
  replace h := h8.2 hr9
  obtain ⟨o8, h⟩ := h
  obtain ⟨o9, h⟩ := h
  refine r_idiv (pc := 97) dX4_fillOrders_97 o8 o9 ?_
  refine r_iload_n (pc := 98) dX4_fillOrders_98 rfl rfl ?_
  obtain ⟨o10, h⟩ := h
  refine r_imul (pc := 99) dX4_fillOrders_99 o10 ?_
  refine r_putI (pc := 100) dX4_fillOrders_100 (k9 := 9) CL_4 (by decide) (by decide) w_231 rfl rfl (fun h9 => absurd h9 (by decide +kernel)) (okO_of (N := 12) (hL.sh (i := 8) rfl (by decide) (by decide)) (by decide)) ?_
  refine nmS (fun τ11 e11 => ?_)
  replace h := h τ11 e11
  have hL := hL.wI e11 (by decide) (.inl (by decide))
  obtain ⟨o12, h⟩ := h
  refine r_iinc (pc := 103) dX4_fillOrders_103 rfl (by decide) o12 (l2 := [some (vr 24), some (vi (x1 + 1)), some (vi x2), some (vi x3), none]) rfl ?_
  refine r_goto (pc := 106) (tgt := 12) dX4_fillOrders_106 (by decide) ?_
  exact GG.msk [true, true, false, false, false] (h hL)
theorem C_X4_fillOrders {a0 : Nat} (h : GG E mX4_fillOrders 0 [some (vr a0), none, none, none, none] [] σ 0 0 Q) : CC E mX4_fillOrders [vr a0] σ Q := CC.of (by decide +kernel) rfl (by decide +kernel) (fun h9 => nomatch h9) (Nat.le_of_ble_eq_true rfl) h
theorem dX4_fillProducts_0 : decode cX4_fillProducts 0 = .ok (.iconst 0, 1) := by decide +kernel
theorem dX4_fillProducts_1 : decode cX4_fillProducts 1 = .ok (.istore_n 2, 1) := by decide +kernel
theorem dX4_fillProducts_2 : decode cX4_fillProducts 2 = .ok (.iload_n 2, 1) := by decide +kernel
theorem dX4_fillProducts_3 : decode cX4_fillProducts 3 = .ok (.aload_n 0, 1) := by decide +kernel
theorem dX4_fillProducts_4 : decode cX4_fillProducts 4 = .ok (.getfield 42, 3) := by decide +kernel
theorem dX4_fillProducts_7 : decode cX4_fillProducts 7 = .ok (.if_icmp .ge 87, 3) := by decide +kernel
theorem dX4_fillProducts_10 : decode cX4_fillProducts 10 = .ok (.iload_n 2, 1) := by decide +kernel
theorem dX4_fillProducts_11 : decode cX4_fillProducts 11 = .ok (.aload_n 0, 1) := by decide +kernel
theorem dX4_fillProducts_12 : decode cX4_fillProducts 12 = .ok (.getfield 42, 3) := by decide +kernel
theorem dX4_fillProducts_15 : decode cX4_fillProducts 15 = .ok (.imul, 1) := by decide +kernel
theorem dX4_fillProducts_16 : decode cX4_fillProducts 16 = .ok (.istore_n 3, 1) := by decide +kernel
theorem dX4_fillProducts_17 : decode cX4_fillProducts 17 = .ok (.aload_n 0, 1) := by decide +kernel
theorem dX4_fillProducts_18 : decode cX4_fillProducts 18 = .ok (.getfield 9, 3) := by decide +kernel
theorem dX4_fillProducts_21 : decode cX4_fillProducts 21 = .ok (.iload_n 3, 1) := by decide +kernel
theorem dX4_fillProducts_22 : decode cX4_fillProducts 22 = .ok (.iload_n 2, 1) := by decide +kernel
theorem dX4_fillProducts_23 : decode cX4_fillProducts 23 = .ok (.iastore, 1) := by decide +kernel
theorem dX4_fillProducts_24 : decode cX4_fillProducts 24 = .ok (.iconst 1, 1) := by decide +kernel
theorem dX4_fillProducts_25 : decode cX4_fillProducts 25 = .ok (.istore 4, 2) := by decide +kernel
theorem dX4_fillProducts_27 : decode cX4_fillProducts 27 = .ok (.iload 4, 2) := by decide +kernel
theorem dX4_fillProducts_29 : decode cX4_fillProducts 29 = .ok (.aload_n 0, 1) := by decide +kernel
theorem dX4_fillProducts_30 : decode cX4_fillProducts 30 = .ok (.getfield 42, 3) := by decide +kernel
theorem dX4_fillProducts_33 : decode cX4_fillProducts 33 = .ok (.if_icmp .ge 55, 3) := by decide +kernel
theorem dX4_fillProducts_36 : decode cX4_fillProducts 36 = .ok (.aload_n 0, 1) := by decide +kernel
theorem dX4_fillProducts_37 : decode cX4_fillProducts 37 = .ok (.getfield 9, 3) := by decide +kernel
theorem dX4_fillProducts_40 : decode cX4_fillProducts 40 = .ok (.iload_n 3, 1) := by decide +kernel
theorem dX4_fillProducts_41 : decode cX4_fillProducts 41 = .ok (.aload_n 1, 1) := by decide +kernel
theorem dX4_fillProducts_42 : decode cX4_fillProducts 42 = .ok (.getfield 67, 3) := by decide +kernel
theorem dX4_fillProducts_45 : decode cX4_fillProducts 45 = .ok (.iload 4, 2) := by decide +kernel
theorem dX4_fillProducts_47 : decode cX4_fillProducts 47 = .ok (.iaload, 1) := by decide +kernel
theorem dX4_fillProducts_48 : decode cX4_fillProducts 48 = .ok (.iadd, 1) := by decide +kernel
theorem dX4_fillProducts_49 : decode cX4_fillProducts 49 = .ok (.invokestatic 60, 3) := by decide +kernel
theorem dX4_fillProducts_52 : decode cX4_fillProducts 52 = .ok (.istore 5, 2) := by decide +kernel
theorem dX4_fillProducts_54 : decode cX4_fillProducts 54 = .ok (.aload_n 0, 1) := by decide +kernel
theorem dX4_fillProducts_55 : decode cX4_fillProducts 55 = .ok (.getfield 9, 3) := by decide +kernel
theorem dX4_fillProducts_58 : decode cX4_fillProducts 58 = .ok (.iload_n 3, 1) := by decide +kernel
theorem dX4_fillProducts_59 : decode cX4_fillProducts 59 = .ok (.iload 4, 2) := by decide +kernel
theorem dX4_fillProducts_61 : decode cX4_fillProducts 61 = .ok (.iadd, 1) := by decide +kernel
theorem dX4_fillProducts_62 : decode cX4_fillProducts 62 = .ok (.aload_n 1, 1) := by decide +kernel
theorem dX4_fillProducts_63 : decode cX4_fillProducts 63 = .ok (.getfield 70, 3) := by decide +kernel
theorem dX4_fillProducts_66 : decode cX4_fillProducts 66 = .ok (.iload 5, 2) := by decide +kernel
theorem dX4_fillProducts_68 : decode cX4_fillProducts 68 = .ok (.iconst 4, 1) := by decide +kernel
theorem dX4_fillProducts_69 : decode cX4_fillProducts 69 = .ok (.imul, 1) := by decide +kernel
theorem dX4_fillProducts_70 : decode cX4_fillProducts 70 = .ok (.aload_n 1, 1) := by decide +kernel
theorem dX4_fillProducts_71 : decode cX4_fillProducts 71 = .ok (.getfield 73, 3) := by decide +kernel
theorem dX4_fillProducts_74 : decode cX4_fillProducts 74 = .ok (.iload 4, 2) := by decide +kernel
theorem dX4_fillProducts_76 : decode cX4_fillProducts 76 = .ok (.iaload, 1) := by decide +kernel
theorem dX4_fillProducts_77 : decode cX4_fillProducts 77 = .ok (.iadd, 1) := by decide +kernel
theorem dX4_fillProducts_78 : decode cX4_fillProducts 78 = .ok (.invokestatic 60, 3) := by decide +kernel
theorem dX4_fillProducts_81 : decode cX4_fillProducts 81 = .ok (.iastore, 1) := by decide +kernel
theorem dX4_fillProducts_82 : decode cX4_fillProducts 82 = .ok (.iinc 4 1, 3) := by decide +kernel
theorem dX4_fillProducts_85 : decode cX4_fillProducts 85 = .ok (.goto (-58), 3) := by decide +kernel
theorem dX4_fillProducts_88 : decode cX4_fillProducts 88 = .ok (.iinc 2 1, 3) := by decide +kernel
theorem dX4_fillProducts_91 : decode cX4_fillProducts 91 = .ok (.goto (-89), 3) := by decide +kernel
theorem dX4_fillProducts_94 : decode cX4_fillProducts 94 = .ok (.return_, 1) := by decide +kernel
theorem B_X4_fillProducts_0 {g : Sg} {c t : Nat} (hL : Lay LC g c t σ) {a1 : Nat} (qa1 : isCl a1) (h : (Lay LC g c t σ → GG E mX4_fillProducts 2 [some (vr 24), some (vr a1), some (vi 0), none, none, none] [] σ rc rs Q)) : GG E mX4_fillProducts 0 [some (vr 24), some (vr a1), none, none, none, none] [] σ rc rs Q := by
  refine r_iconst (pc := 0) dX4_fillProducts_0 (inRk rfl) ?_
  refine r_istore_n (pc := 1) dX4_fillProducts_1 rfl (by decide) (l2 := [some (vr 24), some (vr a1), some (vi 0), none, none, none]) rfl ?_
  exact (h hL)
theorem B_X4_fillProducts_2 {g : Sg} {c t : Nat} (hL : Lay LC g c t σ) {a1 : Nat} (qa1 : isCl a1) {x2 : Int} (h : (((gI σ 24 6) ≤ x2 → (Lay LC g c t σ → Q (.inl none) σ)) ∧ (¬ ((gI σ 24 6) ≤ x2) → inR (x2 * (gI σ 24 6)) ∧ (0 ≤ (x2 * (gI σ 24 6)) ∧ (x2 * (gI σ 24 6)) < 14400) ∧ ∀ τ3 : Sg, τ3 = sI σ 25 (x2 * (gI σ 24 6)).toNat x2 → (Lay LC g c t τ3 → GG E mX4_fillProducts 27 [some (vr 24), some (vr a1), some (vi x2), some (vi (x2 * (gI σ 24 6))), some (vi 1), none] [] τ3 rc rs Q)))) : GG E mX4_fillProducts 2 [some (vr 24), some (vr a1), some (vi x2), none, none, none] [] σ rc rs Q := by
  refine r_iload_n (pc := 2) dX4_fillProducts_2 rfl rfl ?_
  refine r_aload_n (pc := 3) dX4_fillProducts_3 rfl rfl ?_
  refine r_getI (pc := 4) dX4_fillProducts_4 (k9 := 6) CL_4 (by decide) (by decide) w_218 rfl (okO_of (N := 12) (hL.sh (i := 8) rfl (by decide) (by decide)) (by decide)) (fun _ => ?_)
  refine r_icmp_ge (pc := 7) (tgt := 94) dX4_fillProducts_7 (by decide) (fun c9 => ?_) (fun c9 => ?_)
  · replace h := h.1 c9
    exact r_return (pc := 94) dX4_fillProducts_94 (by decide +kernel) rfl (h hL)
  · replace h := h.2 c9
    refine r_iload_n (pc := 10) dX4_fillProducts_10 rfl rfl ?_
    refine r_aload_n (pc := 11) dX4_fillProducts_11 rfl rfl ?_
    refine r_getI (pc := 12) dX4_fillProducts_12 (k9 := 6) CL_4 (by decide) (by decide) w_218 rfl (okO_of (N := 12) (hL.sh (i := 8) rfl (by decide) (by decide)) (by decide)) (fun _ => ?_)
    obtain ⟨o1, h⟩ := h
    refine r_imul (pc := 15) dX4_fillProducts_15 o1 ?_
    refine r_istore_n (pc := 16) dX4_fillProducts_16 rfl (by decide) (l2 := [some (vr 24), some (vr a1), some (vi x2), some (vi (x2 * (gI σ 24 6))), none, none]) rfl ?_
    refine r_aload_n (pc := 17) dX4_fillProducts_17 rfl rfl ?_
    refine r_getR (pc := 18) dX4_fillProducts_18 (k9 := 0) CL_4 (by decide) (by decide) w_199 rfl (okO_of (N := 12) (hL.sh (i := 8) rfl (by decide) (by decide)) (by decide)) ?_
    refine eqR (y := 25) (hL.rf (i := 8) rfl) ?_
    refine r_iload_n (pc := 21) dX4_fillProducts_21 rfl rfl ?_
    refine r_iload_n (pc := 22) dX4_fillProducts_22 rfl rfl ?_
    obtain ⟨o2, h⟩ := h
    refine r_iastore (pc := 23) dX4_fillProducts_23 (okB_of (c := 20) (n := 14400) (hL.sh (i := 9) rfl (by decide) (by decide)) (by decide) o2) ?_
    refine nmS (fun τ3 e3 => ?_)
    replace h := h τ3 e3
    have hL := hL.wI e3 (by decide) (.inl (by decide))
    refine r_iconst (pc := 24) dX4_fillProducts_24 (inRk rfl) ?_
    refine r_istore (pc := 25) dX4_fillProducts_25 (by decide) (l2 := [some (vr 24), some (vr a1), some (vi x2), some (vi (x2 * (gI σ 24 6))), some (vi 1), none]) rfl ?_
    exact (h hL)
theorem B_X4_fillProducts_27 {g : Sg} {c t : Nat} (hL : Lay LC g c t σ) {a1 : Nat} (qa1 : isCl a1) {x2 : Int} {x3 : Int} {x4 : Int} (h : (((gI σ 24 6) ≤ x4 → inR (x2 + 1) ∧ (Lay LC g c t σ → GG E mX4_fillProducts 2 [some (vr 24), some (vr a1), some (vi (x2 + 1)), none, none, none] [] σ rc rs Q)) ∧ (¬ ((gI σ 24 6) ≤ x4) → (0 ≤ x4 ∧ x4 < 120) ∧ inR (x3 + (gI σ (a1 + 4) x4.toNat)) ∧ (Lay LC g c t σ → CC E mX11_at [vr 25, vi (x3 + (gI σ (a1 + 4) x4.toNat))] σ (KI (fun r4 τ5 => Lay LC g c t τ5 ∧ (inR r4 → inR (x3 + x4) ∧ inR (r4 * 4) ∧ inR ((r4 * 4) + (gI τ5 (a1 + 5) x4.toNat)) ∧ (Lay LC g c t τ5 → CC E mX11_at [vr (a1 + 3), vi ((r4 * 4) + (gI τ5 (a1 + 5) x4.toNat))] τ5 (KI (fun r9 τ10 => Lay LC g c t τ10 ∧ (inR r9 → (0 ≤ (x3 + x4) ∧ (x3 + x4) < 14400) ∧ ∀ τ12 : Sg, τ12 = sI τ10 25 (x3 + x4).toNat r9 → inR (x4 + 1) ∧ (Lay LC g c t τ12 → GG E mX4_fillProducts 27 [some (vr 24), some (vr a1), some (vi x2), some (vi x3), some (vi (x4 + 1)), none] [] τ12 rc rs Q))) (fun _ _ => False))))) (fun _ _ => False)))))) : GG E mX4_fillProducts 27 [some (vr 24), some (vr a1), some (vi x2), some (vi x3), some (vi x4), none] [] σ rc rs Q := by
  refine r_iload (pc := 27) dX4_fillProducts_27 rfl ?_
  refine r_aload_n (pc := 29) dX4_fillProducts_29 rfl rfl ?_
  refine r_getI (pc := 30) dX4_fillProducts_30 (k9 := 6) CL_4 (by decide) (by decide) w_218 rfl (okO_of (N := 12) (hL.sh (i := 8) rfl (by decide) (by decide)) (by decide)) (fun _ => ?_)
  refine r_icmp_ge (pc := 33) (tgt := 88) dX4_fillProducts_33 (by decide) (fun c9 => ?_) (fun c9 => ?_)
  · replace h := h.1 c9
    obtain ⟨o1, h⟩ := h
    refine r_iinc (pc := 88) dX4_fillProducts_88 rfl (by decide) o1 (l2 := [some (vr 24), some (vr a1), some (vi (x2 + 1)), some (vi x3), some (vi x4), none]) rfl ?_
    refine r_goto (pc := 91) (tgt := 2) dX4_fillProducts_91 (by decide) ?_
    exact GG.msk [true, true, true, false, false, false] (h hL)
  · replace h := h.2 c9
    refine r_aload_n (pc := 36) dX4_fillProducts_36 rfl rfl ?_
    refine r_getR (pc := 37) dX4_fillProducts_37 (k9 := 0) CL_4 (by decide) (by decide) w_199 rfl (okO_of (N := 12) (hL.sh (i := 8) rfl (by decide) (by decide)) (by decide)) ?_
    refine eqR (y := 25) (hL.rf (i := 8) rfl) ?_
    refine r_iload_n (pc := 40) dX4_fillProducts_40 rfl rfl ?_
    refine r_aload_n (pc := 41) dX4_fillProducts_41 rfl rfl ?_
    refine r_getR (pc := 42) dX4_fillProducts_42 (k9 := 3) CL_1 (by decide) (by decide) w_457 rfl (okO_of (ci := 1) (N := 12) (qa1.r hL).1 (qa1.r hL).2.1) ?_
    refine eqR (y := a1 + 4) (qa1.f hL (k := 3) (by decide)) ?_
    refine r_iload (pc := 45) dX4_fillProducts_45 rfl ?_
    obtain ⟨o2, h⟩ := h
    refine r_iaload (pc := 47) dX4_fillProducts_47 (okA_of (c := 20) (n := 120) (qa1.s hL (k := 3) (by decide)) (qa1.b (k := 4) (by decide)).1 o2) ?_
    obtain ⟨o3, h⟩ := h
    refine r_iadd (pc := 48) dX4_fillProducts_48 o3 ?_
    refine c_SNI0N (M := mX4_fillProducts) (pc := 49) (As := [vr 25, vi (x3 + (gI σ (a1 + 4) x4.toNat))]) dX4_fillProducts_49 K_X11_at wt_555 ⟨by decide, by decide⟩ (Nat.le_of_ble_eq_true rfl) rfl rfl (h hL) (fun r4 τ5 h8 hr9 => ?_) rfl
    replace hL := h8.1
    replace h := h8.2 hr9
    refine r_istore (pc := 52) dX4_fillProducts_52 (by decide) (l2 := [some (vr 24), some (vr a1), some (vi x2), some (vi x3), some (vi x4), some (vi r4)]) rfl ?_
    refine r_aload_n (pc := 54) dX4_fillProducts_54 rfl rfl ?_
    refine r_getR (pc := 55) dX4_fillProducts_55 (k9 := 0) CL_4 (by decide) (by decide) w_199 rfl (okO_of (N := 12) (hL.sh (i := 8) rfl (by decide) (by decide)) (by decide)) ?_
    refine eqR (y := 25) (hL.rf (i := 8) rfl) ?_
    refine r_iload_n (pc := 58) dX4_fillProducts_58 rfl rfl ?_
    refine r_iload (pc := 59) dX4_fillProducts_59 rfl ?_
    obtain ⟨o6, h⟩ := h
    refine r_iadd (pc := 61) dX4_fillProducts_61 o6 ?_
    refine r_aload_n (pc := 62) dX4_fillProducts_62 rfl rfl ?_
    refine r_getR (pc := 63) dX4_fillProducts_63 (k9 := 2) CL_1 (by decide) (by decide) w_455 rfl (okO_of (ci := 1) (N := 12) (qa1.r hL).1 (qa1.r hL).2.1) ?_
    refine eqR (y := a1 + 3) (qa1.f hL (k := 2) (by decide)) ?_
    refine r_iload (pc := 66) dX4_fillProducts_66 rfl ?_
    refine r_iconst (pc := 68) dX4_fillProducts_68 (inRk rfl) ?_
    obtain ⟨o7, h⟩ := h
    refine r_imul (pc := 69) dX4_fillProducts_69 o7 ?_
    refine r_aload_n (pc := 70) dX4_fillProducts_70 rfl rfl ?_
    refine r_getR (pc := 71) dX4_fillProducts_71 (k9 := 4) CL_1 (by decide) (by decide) w_459 rfl (okO_of (ci := 1) (N := 12) (qa1.r hL).1 (qa1.r hL).2.1) ?_
    refine eqR (y := a1 + 5) (qa1.f hL (k := 4) (by decide)) ?_
    refine r_iload (pc := 74) dX4_fillProducts_74 rfl ?_
    refine r_iaload (pc := 76) dX4_fillProducts_76 (okA_of (c := 20) (n := 120) (qa1.s hL (k := 4) (by decide)) (qa1.b (k := 5) (by decide)).1 o2) ?_
    obtain ⟨o8, h⟩ := h
    refine r_iadd (pc := 77) dX4_fillProducts_77 o8 ?_
    refine c_SNI0N (M := mX4_fillProducts) (pc := 78) (As := [vr (a1 + 3), vi ((r4 * 4) + (gI τ5 (a1 + 5) x4.toNat))]) dX4_fillProducts_78 K_X11_at wt_555 ⟨by decide, by decide⟩ (Nat.le_of_ble_eq_true rfl) rfl rfl (h hL) (fun r9 τ10 h8 hr9 => ?_) rfl
    replace hL := h8.1
    replace h := h8.2 hr9
    obtain ⟨o11, h⟩ := h
    refine r_iastore (pc := 81) dX4_fillProducts_81 (okB_of (c := 20) (n := 14400) (hL.sh (i := 9) rfl (by decide) (by decide)) (by decide) o11) ?_
    refine nmS (fun τ12 e12 => ?_)
    replace h := h τ12 e12
    have hL := hL.wI e12 (by decide) (.inl (by decide))
    obtain ⟨o13, h⟩ := h
    refine r_iinc (pc := 82) dX4_fillProducts_82 rfl (by decide) o13 (l2 := [some (vr 24), some (vr a1), some (vi x2), some (vi x3), some (vi (x4 + 1)), some (vi r4)]) rfl ?_
    refine r_goto (pc := 85) (tgt := 27) dX4_fillProducts_85 (by decide) ?_
    exact GG.msk [true, true, true, true, true, false] (h hL)
theorem C_X4_fillProducts {a0 : Nat} {a1 : Nat} (h : GG E mX4_fillProducts 0 [some (vr a0), some (vr a1), none, none, none, none] [] σ 0 0 Q) : CC E mX4_fillProducts [vr a0, vr a1] σ Q := CC.of (by decide +kernel) rfl (by decide +kernel) (fun h9 => nomatch h9) (Nat.le_of_ble_eq_true rfl) h
theorem dX4_greatestShared_0 : decode cX4_greatestShared 0 = .ok (.iload_n 0, 1) := by decide +kernel
theorem dX4_greatestShared_1 : decode cX4_greatestShared 1 = .ok (.iconst 1, 1) := by decide +kernel
theorem dX4_greatestShared_2 : decode cX4_greatestShared 2 = .ok (.invokestatic 82, 3) := by decide +kernel
theorem dX4_greatestShared_5 : decode cX4_greatestShared 5 = .ok (.istore_n 2, 1) := by decide +kernel
theorem dX4_greatestShared_6 : decode cX4_greatestShared 6 = .ok (.iload_n 1, 1) := by decide +kernel
theorem dX4_greatestShared_7 : decode cX4_greatestShared 7 = .ok (.iconst 0, 1) := by decide +kernel
theorem dX4_greatestShared_8 : decode cX4_greatestShared 8 = .ok (.invokestatic 82, 3) := by decide +kernel
theorem dX4_greatestShared_11 : decode cX4_greatestShared 11 = .ok (.istore_n 3, 1) := by decide +kernel
theorem dX4_greatestShared_12 : decode cX4_greatestShared 12 = .ok (.iconst 0, 1) := by decide +kernel
theorem dX4_greatestShared_13 : decode cX4_greatestShared 13 = .ok (.istore 4, 2) := by decide +kernel
theorem dX4_greatestShared_15 : decode cX4_greatestShared 15 = .ok (.iload 4, 2) := by decide +kernel
theorem dX4_greatestShared_17 : decode cX4_greatestShared 17 = .ok (.bipush 64, 2) := by decide +kernel
theorem dX4_greatestShared_19 : decode cX4_greatestShared 19 = .ok (.if_icmp .ge 23, 3) := by decide +kernel
theorem dX4_greatestShared_22 : decode cX4_greatestShared 22 = .ok (.iload_n 3, 1) := by decide +kernel
theorem dX4_greatestShared_23 : decode cX4_greatestShared 23 = .ok (.ifCond .le 19, 3) := by decide +kernel
theorem dX4_greatestShared_26 : decode cX4_greatestShared 26 = .ok (.iload_n 2, 1) := by decide +kernel
theorem dX4_greatestShared_27 : decode cX4_greatestShared 27 = .ok (.iload_n 3, 1) := by decide +kernel
theorem dX4_greatestShared_28 : decode cX4_greatestShared 28 = .ok (.irem, 1) := by decide +kernel
theorem dX4_greatestShared_29 : decode cX4_greatestShared 29 = .ok (.istore 5, 2) := by decide +kernel
theorem dX4_greatestShared_31 : decode cX4_greatestShared 31 = .ok (.iload_n 3, 1) := by decide +kernel
theorem dX4_greatestShared_32 : decode cX4_greatestShared 32 = .ok (.istore_n 2, 1) := by decide +kernel
theorem dX4_greatestShared_33 : decode cX4_greatestShared 33 = .ok (.iload 5, 2) := by decide +kernel
theorem dX4_greatestShared_35 : decode cX4_greatestShared 35 = .ok (.istore_n 3, 1) := by decide +kernel
theorem dX4_greatestShared_36 : decode cX4_greatestShared 36 = .ok (.iinc 4 1, 3) := by decide +kernel
theorem dX4_greatestShared_39 : decode cX4_greatestShared 39 = .ok (.goto (-24), 3) := by decide +kernel
theorem dX4_greatestShared_42 : decode cX4_greatestShared 42 = .ok (.iload_n 2, 1) := by decide +kernel
theorem dX4_greatestShared_43 : decode cX4_greatestShared 43 = .ok (.ireturn, 1) := by decide +kernel
theorem B_X4_greatestShared_0 {x0 : Int} {x1 : Int} (h : ∀ v1 : Int, v1 = (if x0 < 1 then 1 else x0) → ∀ v2 : Int, v2 = (if x1 < 0 then 0 else x1) → GG E mX4_greatestShared 15 [none, none, some (vi v1), some (vi v2), some (vi 0), none] [] σ rc rs Q) : GG E mX4_greatestShared 0 [some (vi x0), some (vi x1), none, none, none, none] [] σ rc rs Q := by
  refine r_iload_n (pc := 0) dX4_greatestShared_0 rfl rfl ?_
  refine r_iconst (pc := 1) dX4_greatestShared_1 (inRk rfl) ?_
  refine r_mmax (pc := 2) dX4_greatestShared_2 w_566 w_567 w_111 w_568 (by decide) (Nat.le_of_ble_eq_true rfl) ?_
  refine nmI (fun v1 e9 => ?_)
  replace h := h v1 e9
  refine r_istore_n (pc := 5) dX4_greatestShared_5 rfl (by decide) (l2 := [some (vi x0), some (vi x1), some (vi v1), none, none, none]) rfl ?_
  refine r_iload_n (pc := 6) dX4_greatestShared_6 rfl rfl ?_
  refine r_iconst (pc := 7) dX4_greatestShared_7 (inRk rfl) ?_
  refine r_mmax (pc := 8) dX4_greatestShared_8 w_566 w_567 w_111 w_568 (by decide) (Nat.le_of_ble_eq_true rfl) ?_
  refine nmI (fun v2 e9 => ?_)
  replace h := h v2 e9
  refine r_istore_n (pc := 11) dX4_greatestShared_11 rfl (by decide) (l2 := [some (vi x0), some (vi x1), some (vi v1), some (vi v2), none, none]) rfl ?_
  refine r_iconst (pc := 12) dX4_greatestShared_12 (inRk rfl) ?_
  refine r_istore (pc := 13) dX4_greatestShared_13 (by decide) (l2 := [some (vi x0), some (vi x1), some (vi v1), some (vi v2), some (vi 0), none]) rfl ?_
  exact GG.msk [false, false, true, true, true, false] h
theorem B_X4_greatestShared_15 {x2 : Int} {x3 : Int} {x4 : Int} (h : ((64 ≤ x4 → Q (.inl (some (vi x2))) σ) ∧ (¬ (64 ≤ x4) → ((x3 ≤ 0 → Q (.inl (some (vi x2))) σ) ∧ (¬ (x3 ≤ 0) → x3 ≠ 0 ∧ inR (x4 + 1) ∧ GG E mX4_greatestShared 15 [none, none, some (vi x3), some (vi (x2.tmod x3)), some (vi (x4 + 1)), none] [] σ rc rs Q))))) : GG E mX4_greatestShared 15 [none, none, some (vi x2), some (vi x3), some (vi x4), none] [] σ rc rs Q := by
  refine r_iload (pc := 15) dX4_greatestShared_15 rfl ?_
  refine r_bipush (pc := 17) dX4_greatestShared_17 (by decide) ?_
  refine r_icmp_ge (pc := 19) (tgt := 42) dX4_greatestShared_19 (by decide) (fun c9 => ?_) (fun c9 => ?_)
  · replace h := h.1 c9
    refine r_iload_n (pc := 42) dX4_greatestShared_42 rfl rfl ?_
    exact r_ireturn (pc := 43) (ty := .int) dX4_greatestShared_43 (by decide +kernel) rfl (nar_i _) h
  · replace h := h.2 c9
    refine r_iload_n (pc := 22) dX4_greatestShared_22 rfl rfl ?_
    refine r_if_le (pc := 23) (tgt := 42) dX4_greatestShared_23 (by decide) (fun c9 => ?_) (fun c9 => ?_)
    · replace h := h.1 c9
      refine r_iload_n (pc := 42) dX4_greatestShared_42 rfl rfl ?_
      exact r_ireturn (pc := 43) (ty := .int) dX4_greatestShared_43 (by decide +kernel) rfl (nar_i _) h
    · replace h := h.2 c9
      refine r_iload_n (pc := 26) dX4_greatestShared_26 rfl rfl ?_
      refine r_iload_n (pc := 27) dX4_greatestShared_27 rfl rfl ?_
      obtain ⟨o1, h⟩ := h
      refine r_irem (pc := 28) dX4_greatestShared_28 o1 ?_
      refine r_istore (pc := 29) dX4_greatestShared_29 (by decide) (l2 := [none, none, some (vi x2), some (vi x3), some (vi x4), some (vi (x2.tmod x3))]) rfl ?_
      refine r_iload_n (pc := 31) dX4_greatestShared_31 rfl rfl ?_
      refine r_istore_n (pc := 32) dX4_greatestShared_32 rfl (by decide) (l2 := [none, none, some (vi x3), some (vi x3), some (vi x4), some (vi (x2.tmod x3))]) rfl ?_
      refine r_iload (pc := 33) dX4_greatestShared_33 rfl ?_
      refine r_istore_n (pc := 35) dX4_greatestShared_35 rfl (by decide) (l2 := [none, none, some (vi x3), some (vi (x2.tmod x3)), some (vi x4), some (vi (x2.tmod x3))]) rfl ?_
      obtain ⟨o2, h⟩ := h
      refine r_iinc (pc := 36) dX4_greatestShared_36 rfl (by decide) o2 (l2 := [none, none, some (vi x3), some (vi (x2.tmod x3)), some (vi (x4 + 1)), some (vi (x2.tmod x3))]) rfl ?_
      refine r_goto (pc := 39) (tgt := 15) dX4_greatestShared_39 (by decide) ?_
      exact GG.msk [false, false, true, true, true, false] h
theorem C_X4_greatestShared {x0 : Int} {x1 : Int} (h : GG E mX4_greatestShared 0 [some (vi x0), some (vi x1), none, none, none, none] [] σ 0 0 Q) : CC E mX4_greatestShared [vi x0, vi x1] σ Q := CC.of (by decide +kernel) rfl (by decide +kernel) (fun h9 => nomatch h9) (Nat.le_of_ble_eq_true rfl) h
theorem dX4_halves_0 : decode cX4_halves 0 = .ok (.aload_n 0, 1) := by decide +kernel
theorem dX4_halves_1 : decode cX4_halves 1 = .ok (.getfield 57, 3) := by decide +kernel
theorem dX4_halves_4 : decode cX4_halves 4 = .ok (.iconst (-1), 1) := by decide +kernel
theorem dX4_halves_5 : decode cX4_halves 5 = .ok (.if_icmp .ne 7, 3) := by decide +kernel
theorem dX4_halves_8 : decode cX4_halves 8 = .ok (.iconst 1, 1) := by decide +kernel
theorem dX4_halves_9 : decode cX4_halves 9 = .ok (.goto 4, 3) := by decide +kernel
theorem dX4_halves_12 : decode cX4_halves 12 = .ok (.iconst 2, 1) := by decide +kernel
theorem dX4_halves_13 : decode cX4_halves 13 = .ok (.ireturn, 1) := by decide +kernel
theorem B_X4_halves_0 {g : Sg} {c t : Nat} (hL : Lay LC g c t σ)  (h : (((gI σ 24 11) ≠ (-1) → (Lay LC g c t σ → Q (.inl (some (vi 2))) σ)) ∧ ((gI σ 24 11) = (-1) → (Lay LC g c t σ → Q (.inl (some (vi 1))) σ)))) : GG E mX4_halves 0 [some (vr 24)] [] σ rc rs Q := by
  refine r_aload_n (pc := 0) dX4_halves_0 rfl rfl ?_
  refine r_getI (pc := 1) dX4_halves_1 (k9 := 11) CL_4 (by decide) (by decide) w_234 rfl (okO_of (N := 12) (hL.sh (i := 8) rfl (by decide) (by decide)) (by decide)) (fun _ => ?_)
  refine r_iconst (pc := 4) dX4_halves_4 (inRk rfl) ?_
  refine r_icmp_ne (pc := 5) (tgt := 12) dX4_halves_5 (by decide) (fun c9 => ?_) (fun c9 => ?_)
  · replace h := h.1 c9
    refine r_iconst (pc := 12) dX4_halves_12 (inRk rfl) ?_
    exact r_ireturn (pc := 13) (ty := .int) dX4_halves_13 (by decide +kernel) rfl (nar_i _) (h hL)
  · replace h := h.2 c9
    refine r_iconst (pc := 8) dX4_halves_8 (inRk rfl) ?_
    refine r_goto (pc := 9) (tgt := 13) dX4_halves_9 (by decide) ?_
    exact r_ireturn (pc := 13) (ty := .int) dX4_halves_13 (by decide +kernel) rfl (nar_i _) (h hL)
theorem C_X4_halves {a0 : Nat} (h : GG E mX4_halves 0 [some (vr a0)] [] σ 0 0 Q) : CC E mX4_halves [vr a0] σ Q := CC.of (by decide +kernel) rfl (by decide +kernel) (fun h9 => nomatch h9) (Nat.le_of_ble_eq_true rfl) h
theorem dX4_init_0 : decode cX4_init 0 = .ok (.aload_n 0, 1) := by decide +kernel
theorem dX4_init_1 : decode cX4_init 1 = .ok (.invokespecial 3, 3) := by decide +kernel
theorem dX4_init_4 : decode cX4_init 4 = .ok (.aload_n 0, 1) := by decide +kernel
theorem dX4_init_5 : decode cX4_init 5 = .ok (.sipush 14400, 3) := by decide +kernel
theorem dX4_init_8 : decode cX4_init 8 = .ok (.newarray .int, 2) := by decide +kernel
theorem dX4_init_10 : decode cX4_init 10 = .ok (.putfield 9, 3) := by decide +kernel
theorem dX4_init_13 : decode cX4_init 13 = .ok (.aload_n 0, 1) := by decide +kernel
theorem dX4_init_14 : decode cX4_init 14 = .ok (.bipush 120, 2) := by decide +kernel
theorem dX4_init_16 : decode cX4_init 16 = .ok (.newarray .int, 2) := by decide +kernel
theorem dX4_init_18 : decode cX4_init 18 = .ok (.putfield 15, 3) := by decide +kernel
theorem dX4_init_21 : decode cX4_init 21 = .ok (.aload_n 0, 1) := by decide +kernel
theorem dX4_init_22 : decode cX4_init 22 = .ok (.bipush 120, 2) := by decide +kernel
theorem dX4_init_24 : decode cX4_init 24 = .ok (.newarray .int, 2) := by decide +kernel
theorem dX4_init_26 : decode cX4_init 26 = .ok (.putfield 18, 3) := by decide +kernel
theorem dX4_init_29 : decode cX4_init 29 = .ok (.aload_n 0, 1) := by decide +kernel
theorem dX4_init_30 : decode cX4_init 30 = .ok (.bipush 120, 2) := by decide +kernel
theorem dX4_init_32 : decode cX4_init 32 = .ok (.newarray .int, 2) := by decide +kernel
theorem dX4_init_34 : decode cX4_init 34 = .ok (.putfield 21, 3) := by decide +kernel
theorem dX4_init_37 : decode cX4_init 37 = .ok (.aload_n 0, 1) := by decide +kernel
theorem dX4_init_38 : decode cX4_init 38 = .ok (.bipush 120, 2) := by decide +kernel
theorem dX4_init_40 : decode cX4_init 40 = .ok (.newarray .int, 2) := by decide +kernel
theorem dX4_init_42 : decode cX4_init 42 = .ok (.putfield 24, 3) := by decide +kernel
theorem dX4_init_45 : decode cX4_init 45 = .ok (.aload_n 0, 1) := by decide +kernel
theorem dX4_init_46 : decode cX4_init 46 = .ok (.bipush 120, 2) := by decide +kernel
theorem dX4_init_48 : decode cX4_init 48 = .ok (.newarray .int, 2) := by decide +kernel
theorem dX4_init_50 : decode cX4_init 50 = .ok (.putfield 27, 3) := by decide +kernel
theorem dX4_init_53 : decode cX4_init 53 = .ok (.return_, 1) := by decide +kernel
theorem B_X4_init_0 {a0 : Nat} (h : 16 ≤ a0 ∧ 1 ≤ rc ∧ 14400 ≤ rs ∧ ∀ b1 : Nat, b1 = gz σ → okO (nw σ (20, 14400)) a0 4 ∧ ∀ τ3 : Sg, τ3 = sR (nw σ (20, 14400)) a0 0 b1 → 1 ≤ rc - 1 ∧ 120 ≤ rs - 14400 ∧ ∀ b4 : Nat, b4 = gz τ3 → okO (nw τ3 (20, 120)) a0 4 ∧ ∀ τ6 : Sg, τ6 = sR (nw τ3 (20, 120)) a0 1 b4 → 1 ≤ rc - 1 - 1 ∧ 120 ≤ rs - 14400 - 120 ∧ ∀ b7 : Nat, b7 = gz τ6 → okO (nw τ6 (20, 120)) a0 4 ∧ ∀ τ9 : Sg, τ9 = sR (nw τ6 (20, 120)) a0 2 b7 → 1 ≤ rc - 1 - 1 - 1 ∧ 120 ≤ rs - 14400 - 120 - 120 ∧ ∀ b10 : Nat, b10 = gz τ9 → okO (nw τ9 (20, 120)) a0 4 ∧ ∀ τ12 : Sg, τ12 = sR (nw τ9 (20, 120)) a0 3 b10 → 1 ≤ rc - 1 - 1 - 1 - 1 ∧ 120 ≤ rs - 14400 - 120 - 120 - 120 ∧ ∀ b13 : Nat, b13 = gz τ12 → okO (nw τ12 (20, 120)) a0 4 ∧ ∀ τ15 : Sg, τ15 = sR (nw τ12 (20, 120)) a0 4 b13 → 1 ≤ rc - 1 - 1 - 1 - 1 - 1 ∧ 120 ≤ rs - 14400 - 120 - 120 - 120 - 120 ∧ ∀ b16 : Nat, b16 = gz τ15 → okO (nw τ15 (20, 120)) a0 4 ∧ ∀ τ18 : Sg, τ18 = sR (nw τ15 (20, 120)) a0 5 b16 → Q (.inl none) τ18) : GG E mX4_init 0 [some (vr a0)] [] σ rc rs Q := by
  refine r_aload_n (pc := 0) dX4_init_0 rfl rfl ?_
  refine r_objInit (pc := 1) dX4_init_1 w_198 w_129 w_130 (by decide) (Nat.le_of_ble_eq_true rfl) h.1 ?_
  replace h := h.2
  refine r_aload_n (pc := 4) dX4_init_4 rfl rfl ?_
  refine r_sipush (pc := 5) dX4_init_5 (by decide) ?_
  refine r_newarray (pc := 8) dX4_init_8 (cc := 20) rfl (by decide) (by decide) w_175 (by decide) (by decide) h.1 h.2.1 ?_
  replace h := h.2.2
  change GG _ _ _ _ (vr _ :: _) (nw _ (20, 14400)) (_ - 1) (_ - 14400) _
  refine nmR (fun b1 e9 => ?_)
  replace h := h b1 e9
  obtain ⟨o2, h⟩ := h
  refine r_putRF (pc := 10) dX4_init_10 (k9 := 0) CL_4 (by decide) (by decide) w_199 rfl rfl rfl rfl o2 ?_
  refine nmS (fun τ3 e3 => ?_)
  replace h := h τ3 e3
  refine r_aload_n (pc := 13) dX4_init_13 rfl rfl ?_
  refine r_bipush (pc := 14) dX4_init_14 (by decide) ?_
  refine r_newarray (pc := 16) dX4_init_16 (cc := 20) rfl (by decide) (by decide) w_175 (by decide) (by decide) h.1 h.2.1 ?_
  replace h := h.2.2
  change GG _ _ _ _ (vr _ :: _) (nw _ (20, 120)) (_ - 1) (_ - 120) _
  refine nmR (fun b4 e9 => ?_)
  replace h := h b4 e9
  obtain ⟨o5, h⟩ := h
  refine r_putRF (pc := 18) dX4_init_18 (k9 := 1) CL_4 (by decide) (by decide) w_200 rfl rfl rfl rfl o5 ?_
  refine nmS (fun τ6 e6 => ?_)
  replace h := h τ6 e6
  refine r_aload_n (pc := 21) dX4_init_21 rfl rfl ?_
  refine r_bipush (pc := 22) dX4_init_22 (by decide) ?_
  refine r_newarray (pc := 24) dX4_init_24 (cc := 20) rfl (by decide) (by decide) w_175 (by decide) (by decide) h.1 h.2.1 ?_
  replace h := h.2.2
  change GG _ _ _ _ (vr _ :: _) (nw _ (20, 120)) (_ - 1) (_ - 120) _
  refine nmR (fun b7 e9 => ?_)
  replace h := h b7 e9
  obtain ⟨o8, h⟩ := h
  refine r_putRF (pc := 26) dX4_init_26 (k9 := 2) CL_4 (by decide) (by decide) w_203 rfl rfl rfl rfl o8 ?_
  refine nmS (fun τ9 e9 => ?_)
  replace h := h τ9 e9
  refine r_aload_n (pc := 29) dX4_init_29 rfl rfl ?_
  refine r_bipush (pc := 30) dX4_init_30 (by decide) ?_
  refine r_newarray (pc := 32) dX4_init_32 (cc := 20) rfl (by decide) (by decide) w_175 (by decide) (by decide) h.1 h.2.1 ?_
  replace h := h.2.2
  change GG _ _ _ _ (vr _ :: _) (nw _ (20, 120)) (_ - 1) (_ - 120) _
  refine nmR (fun b10 e9 => ?_)
  replace h := h b10 e9
  obtain ⟨o11, h⟩ := h
  refine r_putRF (pc := 34) dX4_init_34 (k9 := 3) CL_4 (by decide) (by decide) w_205 rfl rfl rfl rfl o11 ?_
  refine nmS (fun τ12 e12 => ?_)
  replace h := h τ12 e12
  refine r_aload_n (pc := 37) dX4_init_37 rfl rfl ?_
  refine r_bipush (pc := 38) dX4_init_38 (by decide) ?_
  refine r_newarray (pc := 40) dX4_init_40 (cc := 20) rfl (by decide) (by decide) w_175 (by decide) (by decide) h.1 h.2.1 ?_
  replace h := h.2.2
  change GG _ _ _ _ (vr _ :: _) (nw _ (20, 120)) (_ - 1) (_ - 120) _
  refine nmR (fun b13 e9 => ?_)
  replace h := h b13 e9
  obtain ⟨o14, h⟩ := h
  refine r_putRF (pc := 42) dX4_init_42 (k9 := 4) CL_4 (by decide) (by decide) w_208 rfl rfl rfl rfl o14 ?_
  refine nmS (fun τ15 e15 => ?_)
  replace h := h τ15 e15
  refine r_aload_n (pc := 45) dX4_init_45 rfl rfl ?_
  refine r_bipush (pc := 46) dX4_init_46 (by decide) ?_
  refine r_newarray (pc := 48) dX4_init_48 (cc := 20) rfl (by decide) (by decide) w_175 (by decide) (by decide) h.1 h.2.1 ?_
  replace h := h.2.2
  change GG _ _ _ _ (vr _ :: _) (nw _ (20, 120)) (_ - 1) (_ - 120) _
  refine nmR (fun b16 e9 => ?_)
  replace h := h b16 e9
  obtain ⟨o17, h⟩ := h
  refine r_putRF (pc := 50) dX4_init_50 (k9 := 5) CL_4 (by decide) (by decide) w_213 rfl rfl rfl rfl o17 ?_
  refine nmS (fun τ18 e18 => ?_)
  replace h := h τ18 e18
  exact r_return (pc := 53) dX4_init_53 (by decide +kernel) rfl h
theorem C_X4_init {a0 : Nat} (h : GG E mX4_init 0 [some (vr a0)] [] σ 6 15000 Q) : CC E mX4_init [vr a0] σ Q := CC.of (by decide +kernel) rfl (by decide +kernel) (fun h9 => rfl) (Nat.le_of_ble_eq_true rfl) h
theorem dX4_inverseClass_0 : decode cX4_inverseClass 0 = .ok (.aload_n 0, 1) := by decide +kernel
theorem dX4_inverseClass_1 : decode cX4_inverseClass 1 = .ok (.getfield 21, 3) := by decide +kernel
theorem dX4_inverseClass_4 : decode cX4_inverseClass 4 = .ok (.aload_n 0, 1) := by decide +kernel
theorem dX4_inverseClass_5 : decode cX4_inverseClass 5 = .ok (.getfield 15, 3) := by decide +kernel
theorem dX4_inverseClass_8 : decode cX4_inverseClass 8 = .ok (.aload_n 0, 1) := by decide +kernel
theorem dX4_inverseClass_9 : decode cX4_inverseClass 9 = .ok (.getfield 24, 3) := by decide +kernel
theorem dX4_inverseClass_12 : decode cX4_inverseClass 12 = .ok (.iload_n 1, 1) := by decide +kernel
theorem dX4_inverseClass_13 : decode cX4_inverseClass 13 = .ok (.invokestatic 60, 3) := by decide +kernel
theorem dX4_inverseClass_16 : decode cX4_inverseClass 16 = .ok (.invokestatic 60, 3) := by decide +kernel
theorem dX4_inverseClass_19 : decode cX4_inverseClass 19 = .ok (.invokestatic 60, 3) := by decide +kernel
theorem dX4_inverseClass_22 : decode cX4_inverseClass 22 = .ok (.ireturn, 1) := by decide +kernel
theorem B_X4_inverseClass_0 {g : Sg} {c t : Nat} (hL : Lay LC g c t σ) {x1 : Int} (h : (Lay LC g c t σ → CC E mX11_at [vr 29, vi x1] σ (KI (fun r1 τ2 => Lay LC g c t τ2 ∧ (inR r1 → (Lay LC g c t τ2 → CC E mX11_at [vr 26, vi r1] τ2 (KI (fun r3 τ4 => Lay LC g c t τ4 ∧ (inR r3 → (Lay LC g c t τ4 → CC E mX11_at [vr 28, vi r3] τ4 (KI (fun r5 τ6 => Lay LC g c t τ6 ∧ (inR r5 → (Lay LC g c t τ6 → Q (.inl (some (vi r5))) τ6))) (fun _ _ => False))))) (fun _ _ => False))))) (fun _ _ => False)))) : GG E mX4_inverseClass 0 [some (vr 24), some (vi x1)] [] σ rc rs Q := by
  refine r_aload_n (pc := 0) dX4_inverseClass_0 rfl rfl ?_
  refine r_getR (pc := 1) dX4_inverseClass_1 (k9 := 3) CL_4 (by decide) (by decide) w_205 rfl (okO_of (N := 12) (hL.sh (i := 8) rfl (by decide) (by decide)) (by decide)) ?_
  refine eqR (y := 28) (hL.rf (i := 11) rfl) ?_
  refine r_aload_n (pc := 4) dX4_inverseClass_4 rfl rfl ?_
  refine r_getR (pc := 5) dX4_inverseClass_5 (k9 := 1) CL_4 (by decide) (by decide) w_200 rfl (okO_of (N := 12) (hL.sh (i := 8) rfl (by decide) (by decide)) (by decide)) ?_
  refine eqR (y := 26) (hL.rf (i := 9) rfl) ?_
  refine r_aload_n (pc := 8) dX4_inverseClass_8 rfl rfl ?_
  refine r_getR (pc := 9) dX4_inverseClass_9 (k9 := 4) CL_4 (by decide) (by decide) w_208 rfl (okO_of (N := 12) (hL.sh (i := 8) rfl (by decide) (by decide)) (by decide)) ?_
  refine eqR (y := 29) (hL.rf (i := 12) rfl) ?_
  refine r_iload_n (pc := 12) dX4_inverseClass_12 rfl rfl ?_
  refine c_SNI0N (M := mX4_inverseClass) (pc := 13) (As := [vr 29, vi x1]) dX4_inverseClass_13 K_X11_at wt_555 ⟨by decide, by decide⟩ (Nat.le_of_ble_eq_true rfl) rfl rfl (h hL) (fun r1 τ2 h8 hr9 => ?_) rfl
  replace hL := h8.1
  replace h := h8.2 hr9
  refine c_SNI0N (M := mX4_inverseClass) (pc := 16) (As := [vr 26, vi r1]) dX4_inverseClass_16 K_X11_at wt_555 ⟨by decide, by decide⟩ (Nat.le_of_ble_eq_true rfl) rfl rfl (h hL) (fun r3 τ4 h8 hr9 => ?_) rfl
  replace hL := h8.1
  replace h := h8.2 hr9
  refine c_SNI0N (M := mX4_inverseClass) (pc := 19) (As := [vr 28, vi r3]) dX4_inverseClass_19 K_X11_at wt_555 ⟨by decide, by decide⟩ (Nat.le_of_ble_eq_true rfl) rfl rfl (h hL) (fun r5 τ6 h8 hr9 => ?_) rfl
  replace hL := h8.1
  replace h := h8.2 hr9
  exact r_ireturn (pc := 22) (ty := .int) dX4_inverseClass_22 (by decide +kernel) rfl (nar_i _) (h hL)
theorem C_X4_inverseClass {a0 : Nat} {x1 : Int} (h : GG E mX4_inverseClass 0 [some (vr a0), some (vi x1)] [] σ 0 0 Q) : CC E mX4_inverseClass [vr a0, vi x1] σ Q := CC.of (by decide +kernel) rfl (by decide +kernel) (fun h9 => nomatch h9) (Nat.le_of_ble_eq_true rfl) h
theorem dX4_kind_0 : decode cX4_kind 0 = .ok (.aload_n 0, 1) := by decide +kernel
theorem dX4_kind_1 : decode cX4_kind 1 = .ok (.getfield 79, 3) := by decide +kernel
theorem dX4_kind_4 : decode cX4_kind 4 = .ok (.aload_n 0, 1) := by decide +kernel
theorem dX4_kind_5 : decode cX4_kind 5 = .ok (.getfield 42, 3) := by decide +kernel
theorem dX4_kind_8 : decode cX4_kind 8 = .ok (.if_icmp .ne 5, 3) := by decide +kernel
theorem dX4_kind_11 : decode cX4_kind 11 = .ok (.iconst 0, 1) := by decide +kernel
theorem dX4_kind_12 : decode cX4_kind 12 = .ok (.ireturn, 1) := by decide +kernel
theorem dX4_kind_13 : decode cX4_kind 13 = .ok (.iconst 2, 1) := by decide +kernel
theorem dX4_kind_14 : decode cX4_kind 14 = .ok (.aload_n 0, 1) := by decide +kernel
theorem dX4_kind_15 : decode cX4_kind 15 = .ok (.getfield 79, 3) := by decide +kernel
theorem dX4_kind_18 : decode cX4_kind 18 = .ok (.imul, 1) := by decide +kernel
theorem dX4_kind_19 : decode cX4_kind 19 = .ok (.aload_n 0, 1) := by decide +kernel
theorem dX4_kind_20 : decode cX4_kind 20 = .ok (.getfield 42, 3) := by decide +kernel
theorem dX4_kind_23 : decode cX4_kind 23 = .ok (.if_icmp .ne 5, 3) := by decide +kernel
theorem dX4_kind_26 : decode cX4_kind 26 = .ok (.iconst 1, 1) := by decide +kernel
theorem dX4_kind_27 : decode cX4_kind 27 = .ok (.ireturn, 1) := by decide +kernel
theorem dX4_kind_28 : decode cX4_kind 28 = .ok (.aload_n 0, 1) := by decide +kernel
theorem dX4_kind_29 : decode cX4_kind 29 = .ok (.getfield 42, 3) := by decide +kernel
theorem dX4_kind_32 : decode cX4_kind 32 = .ok (.bipush 24, 2) := by decide +kernel
theorem dX4_kind_34 : decode cX4_kind 34 = .ok (.if_icmp .ne 5, 3) := by decide +kernel
theorem dX4_kind_37 : decode cX4_kind 37 = .ok (.iconst 2, 1) := by decide +kernel
theorem dX4_kind_38 : decode cX4_kind 38 = .ok (.ireturn, 1) := by decide +kernel
theorem dX4_kind_39 : decode cX4_kind 39 = .ok (.aload_n 0, 1) := by decide +kernel
theorem dX4_kind_40 : decode cX4_kind 40 = .ok (.getfield 42, 3) := by decide +kernel
theorem dX4_kind_43 : decode cX4_kind 43 = .ok (.bipush 48, 2) := by decide +kernel
theorem dX4_kind_45 : decode cX4_kind 45 = .ok (.if_icmp .ne 7, 3) := by decide +kernel
theorem dX4_kind_48 : decode cX4_kind 48 = .ok (.iconst 3, 1) := by decide +kernel
theorem dX4_kind_49 : decode cX4_kind 49 = .ok (.goto 4, 3) := by decide +kernel
theorem dX4_kind_52 : decode cX4_kind 52 = .ok (.iconst 4, 1) := by decide +kernel
theorem dX4_kind_53 : decode cX4_kind 53 = .ok (.ireturn, 1) := by decide +kernel
theorem B_X4_kind_0 {g : Sg} {c t : Nat} (hL : Lay LC g c t σ)  (h : (((gI σ 24 10) ≠ (gI σ 24 6) → inR (2 * (gI σ 24 10)) ∧ (((2 * (gI σ 24 10)) ≠ (gI σ 24 6) → (((gI σ 24 6) ≠ 24 → (((gI σ 24 6) ≠ 48 → (Lay LC g c t σ → Q (.inl (some (vi 4))) σ)) ∧ ((gI σ 24 6) = 48 → (Lay LC g c t σ → Q (.inl (some (vi 3))) σ)))) ∧ ((gI σ 24 6) = 24 → (Lay LC g c t σ → Q (.inl (some (vi 2))) σ)))) ∧ ((2 * (gI σ 24 10)) = (gI σ 24 6) → (Lay LC g c t σ → Q (.inl (some (vi 1))) σ)))) ∧ ((gI σ 24 10) = (gI σ 24 6) → (Lay LC g c t σ → Q (.inl (some (vi 0))) σ)))) : GG E mX4_kind 0 [some (vr 24)] [] σ rc rs Q := by
  refine r_aload_n (pc := 0) dX4_kind_0 rfl rfl ?_
  refine r_getI (pc := 1) dX4_kind_1 (k9 := 10) CL_4 (by decide) (by decide) w_233 rfl (okO_of (N := 12) (hL.sh (i := 8) rfl (by decide) (by decide)) (by decide)) (fun _ => ?_)
  refine r_aload_n (pc := 4) dX4_kind_4 rfl rfl ?_
  refine r_getI (pc := 5) dX4_kind_5 (k9 := 6) CL_4 (by decide) (by decide) w_218 rfl (okO_of (N := 12) (hL.sh (i := 8) rfl (by decide) (by decide)) (by decide)) (fun _ => ?_)
  refine r_icmp_ne (pc := 8) (tgt := 13) dX4_kind_8 (by decide) (fun c9 => ?_) (fun c9 => ?_)
  · replace h := h.1 c9
    refine r_iconst (pc := 13) dX4_kind_13 (inRk rfl) ?_
    refine r_aload_n (pc := 14) dX4_kind_14 rfl rfl ?_
    refine r_getI (pc := 15) dX4_kind_15 (k9 := 10) CL_4 (by decide) (by decide) w_233 rfl (okO_of (N := 12) (hL.sh (i := 8) rfl (by decide) (by decide)) (by decide)) (fun _ => ?_)
    obtain ⟨o1, h⟩ := h
    refine r_imul (pc := 18) dX4_kind_18 o1 ?_
    refine r_aload_n (pc := 19) dX4_kind_19 rfl rfl ?_
    refine r_getI (pc := 20) dX4_kind_20 (k9 := 6) CL_4 (by decide) (by decide) w_218 rfl (okO_of (N := 12) (hL.sh (i := 8) rfl (by decide) (by decide)) (by decide)) (fun _ => ?_)
    refine r_icmp_ne (pc := 23) (tgt := 28) dX4_kind_23 (by decide) (fun c9 => ?_) (fun c9 => ?_)
    · replace h := h.1 c9
      refine r_aload_n (pc := 28) dX4_kind_28 rfl rfl ?_
      refine r_getI (pc := 29) dX4_kind_29 (k9 := 6) CL_4 (by decide) (by decide) w_218 rfl (okO_of (N := 12) (hL.sh (i := 8) rfl (by decide) (by decide)) (by decide)) (fun _ => ?_)
      refine r_bipush (pc := 32) dX4_kind_32 (by decide) ?_
      refine r_icmp_ne (pc := 34) (tgt := 39) dX4_kind_34 (by decide) (fun c9 => ?_) (fun c9 => ?_)
      · replace h := h.1 c9
        refine r_aload_n (pc := 39) dX4_kind_39 rfl rfl ?_
        refine r_getI (pc := 40) dX4_kind_40 (k9 := 6) CL_4 (by decide) (by decide) w_218 rfl (okO_of (N := 12) (hL.sh (i := 8) rfl (by decide) (by decide)) (by decide)) (fun _ => ?_)
        refine r_bipush (pc := 43) dX4_kind_43 (by decide) ?_
        refine r_icmp_ne (pc := 45) (tgt := 52) dX4_kind_45 (by decide) (fun c9 => ?_) (fun c9 => ?_)
        · replace h := h.1 c9
          refine r_iconst (pc := 52) dX4_kind_52 (inRk rfl) ?_
          exact r_ireturn (pc := 53) (ty := .int) dX4_kind_53 (by decide +kernel) rfl (nar_i _) (h hL)
        · replace h := h.2 c9
          refine r_iconst (pc := 48) dX4_kind_48 (inRk rfl) ?_
          refine r_goto (pc := 49) (tgt := 53) dX4_kind_49 (by decide) ?_
          exact r_ireturn (pc := 53) (ty := .int) dX4_kind_53 (by decide +kernel) rfl (nar_i _) (h hL)
      · replace h := h.2 c9
        refine r_iconst (pc := 37) dX4_kind_37 (inRk rfl) ?_
        exact r_ireturn (pc := 38) (ty := .int) dX4_kind_38 (by decide +kernel) rfl (nar_i _) (h hL)
    · replace h := h.2 c9
      refine r_iconst (pc := 26) dX4_kind_26 (inRk rfl) ?_
      exact r_ireturn (pc := 27) (ty := .int) dX4_kind_27 (by decide +kernel) rfl (nar_i _) (h hL)
  · replace h := h.2 c9
    refine r_iconst (pc := 11) dX4_kind_11 (inRk rfl) ?_
    exact r_ireturn (pc := 12) (ty := .int) dX4_kind_12 (by decide +kernel) rfl (nar_i _) (h hL)
theorem C_X4_kind {a0 : Nat} (h : GG E mX4_kind 0 [some (vr a0)] [] σ 0 0 Q) : CC E mX4_kind [vr a0] σ Q := CC.of (by decide +kernel) rfl (by decide +kernel) (fun h9 => nomatch h9) (Nat.le_of_ble_eq_true rfl) h
theorem dX4_kindNumber_0 : decode cX4_kindNumber 0 = .ok (.aload_n 0, 1) := by decide +kernel
theorem dX4_kindNumber_1 : decode cX4_kindNumber 1 = .ok (.invokevirtual 101, 3) := by decide +kernel
theorem dX4_kindNumber_4 : decode cX4_kindNumber 4 = .ok (.tableswitch 48 0 3 #[32, 37, 44, 46], 32) := by decide +kernel
theorem dX4_kindNumber_36 : decode cX4_kindNumber 36 = .ok (.aload_n 0, 1) := by decide +kernel
theorem dX4_kindNumber_37 : decode cX4_kindNumber 37 = .ok (.getfield 42, 3) := by decide +kernel
theorem dX4_kindNumber_40 : decode cX4_kindNumber 40 = .ok (.ireturn, 1) := by decide +kernel
theorem dX4_kindNumber_41 : decode cX4_kindNumber 41 = .ok (.aload_n 0, 1) := by decide +kernel
theorem dX4_kindNumber_42 : decode cX4_kindNumber 42 = .ok (.getfield 42, 3) := by decide +kernel
theorem dX4_kindNumber_45 : decode cX4_kindNumber 45 = .ok (.iconst 4, 1) := by decide +kernel
theorem dX4_kindNumber_46 : decode cX4_kindNumber 46 = .ok (.idiv, 1) := by decide +kernel
theorem dX4_kindNumber_47 : decode cX4_kindNumber 47 = .ok (.ireturn, 1) := by decide +kernel
theorem dX4_kindNumber_48 : decode cX4_kindNumber 48 = .ok (.iconst 3, 1) := by decide +kernel
theorem dX4_kindNumber_49 : decode cX4_kindNumber 49 = .ok (.ireturn, 1) := by decide +kernel
theorem dX4_kindNumber_50 : decode cX4_kindNumber 50 = .ok (.iconst 4, 1) := by decide +kernel
theorem dX4_kindNumber_51 : decode cX4_kindNumber 51 = .ok (.ireturn, 1) := by decide +kernel
theorem dX4_kindNumber_52 : decode cX4_kindNumber 52 = .ok (.iconst 5, 1) := by decide +kernel
theorem dX4_kindNumber_53 : decode cX4_kindNumber 53 = .ok (.ireturn, 1) := by decide +kernel
theorem B_X4_kindNumber_0 {g : Sg} {c t : Nat} (hL : Lay LC g c t σ)  (h : (Lay LC g c t σ → CC E mX4_kind [vr 24] σ (KI (fun r1 τ2 => Lay LC g c t τ2 ∧ (inR r1 → ((r1 = 0 → (Lay LC g c t τ2 → Q (.inl (some (vi (gI τ2 24 6)))) τ2)) ∧ (r1 = 1 → inR ((gI τ2 24 6).tdiv 4) ∧ (Lay LC g c t τ2 → Q (.inl (some (vi ((gI τ2 24 6).tdiv 4)))) τ2)) ∧ (r1 = 2 → (Lay LC g c t τ2 → Q (.inl (some (vi 3))) τ2)) ∧ (r1 = 3 → (Lay LC g c t τ2 → Q (.inl (some (vi 4))) τ2)) ∧ ((r1 < 0 ∨ 3 < r1) → (Lay LC g c t τ2 → Q (.inl (some (vi 5))) τ2))))) (fun _ _ => False)))) : GG E mX4_kindNumber 0 [some (vr 24)] [] σ rc rs Q := by
  refine r_aload_n (pc := 0) dX4_kindNumber_0 rfl rfl ?_
  refine c_VI0N (M := mX4_kindNumber) (pc := 1) (As := []) dX4_kindNumber_1 K_X4_kind w_1120 ⟨by decide, by decide⟩ (Nat.le_of_ble_eq_true rfl) rfl rfl (ci := 4) rfl rfl (by decide) (okO_of (N := 12) (hL.sh (i := 8) rfl (by decide) (by decide)) (by decide)) (h hL) (fun r1 τ2 h8 hr9 => ?_) rfl
  replace hL := h8.1
  replace h := h8.2 hr9
  have c8 : r1 = 0 ∨ r1 = 1 ∨ r1 = 2 ∨ r1 = 3 ∨ (r1 < 0 ∨ 3 < r1) := by omega
  rcases c8 with c9 | c9 | c9 | c9 | c9
  · replace h := h.1 c9
    refine r_tabE (pc := 4) (tgt := 36) dX4_kindNumber_4 c9 (by decide) (by decide) rfl (by decide) ?_
    refine r_aload_n (pc := 36) dX4_kindNumber_36 rfl rfl ?_
    refine r_getI (pc := 37) dX4_kindNumber_37 (k9 := 6) CL_4 (by decide) (by decide) w_218 rfl (okO_of (N := 12) (hL.sh (i := 8) rfl (by decide) (by decide)) (by decide)) (fun _ => ?_)
    exact r_ireturn (pc := 40) (ty := .int) dX4_kindNumber_40 (by decide +kernel) rfl (nar_i _) (h hL)
  · replace h := h.2.1 c9
    refine r_tabE (pc := 4) (tgt := 41) dX4_kindNumber_4 c9 (by decide) (by decide) rfl (by decide) ?_
    refine r_aload_n (pc := 41) dX4_kindNumber_41 rfl rfl ?_
    refine r_getI (pc := 42) dX4_kindNumber_42 (k9 := 6) CL_4 (by decide) (by decide) w_218 rfl (okO_of (N := 12) (hL.sh (i := 8) rfl (by decide) (by decide)) (by decide)) (fun _ => ?_)
    refine r_iconst (pc := 45) dX4_kindNumber_45 (inRk rfl) ?_
    obtain ⟨o3, h⟩ := h
    refine r_idiv (pc := 46) dX4_kindNumber_46 (by decide) o3 ?_
    exact r_ireturn (pc := 47) (ty := .int) dX4_kindNumber_47 (by decide +kernel) rfl (nar_i _) (h hL)
  · replace h := h.2.2.1 c9
    refine r_tabE (pc := 4) (tgt := 48) dX4_kindNumber_4 c9 (by decide) (by decide) rfl (by decide) ?_
    refine r_iconst (pc := 48) dX4_kindNumber_48 (inRk rfl) ?_
    exact r_ireturn (pc := 49) (ty := .int) dX4_kindNumber_49 (by decide +kernel) rfl (nar_i _) (h hL)
  · replace h := h.2.2.2.1 c9
    refine r_tabE (pc := 4) (tgt := 50) dX4_kindNumber_4 c9 (by decide) (by decide) rfl (by decide) ?_
    refine r_iconst (pc := 50) dX4_kindNumber_50 (inRk rfl) ?_
    exact r_ireturn (pc := 51) (ty := .int) dX4_kindNumber_51 (by decide +kernel) rfl (nar_i _) (h hL)
  · replace h := h.2.2.2.2 c9
    refine r_tabOut (pc := 4) (tgt := 52) dX4_kindNumber_4 c9 (by decide) ?_
    refine r_iconst (pc := 52) dX4_kindNumber_52 (inRk rfl) ?_
    exact r_ireturn (pc := 53) (ty := .int) dX4_kindNumber_53 (by decide +kernel) rfl (nar_i _) (h hL)
theorem C_X4_kindNumber {a0 : Nat} (h : GG E mX4_kindNumber 0 [some (vr a0)] [] σ 0 0 Q) : CC E mX4_kindNumber [vr a0] σ Q := CC.of (by decide +kernel) rfl (by decide +kernel) (fun h9 => nomatch h9) (Nat.le_of_ble_eq_true rfl) h
theorem dX4_leastOfOrder_0 : decode cX4_leastOfOrder 0 = .ok (.iconst 0, 1) := by decide +kernel
theorem dX4_leastOfOrder_1 : decode cX4_leastOfOrder 1 = .ok (.istore_n 2, 1) := by decide +kernel
theorem dX4_leastOfOrder_2 : decode cX4_leastOfOrder 2 = .ok (.iload_n 2, 1) := by decide +kernel
theorem dX4_leastOfOrder_3 : decode cX4_leastOfOrder 3 = .ok (.aload_n 0, 1) := by decide +kernel
theorem dX4_leastOfOrder_4 : decode cX4_leastOfOrder 4 = .ok (.getfield 42, 3) := by decide +kernel
theorem dX4_leastOfOrder_7 : decode cX4_leastOfOrder 7 = .ok (.if_icmp .ge 21, 3) := by decide +kernel
theorem dX4_leastOfOrder_10 : decode cX4_leastOfOrder 10 = .ok (.aload_n 0, 1) := by decide +kernel
theorem dX4_leastOfOrder_11 : decode cX4_leastOfOrder 11 = .ok (.getfield 18, 3) := by decide +kernel
theorem dX4_leastOfOrder_14 : decode cX4_leastOfOrder 14 = .ok (.iload_n 2, 1) := by decide +kernel
theorem dX4_leastOfOrder_15 : decode cX4_leastOfOrder 15 = .ok (.iaload, 1) := by decide +kernel
theorem dX4_leastOfOrder_16 : decode cX4_leastOfOrder 16 = .ok (.iload_n 1, 1) := by decide +kernel
theorem dX4_leastOfOrder_17 : decode cX4_leastOfOrder 17 = .ok (.if_icmp .ne 5, 3) := by decide +kernel
theorem dX4_leastOfOrder_20 : decode cX4_leastOfOrder 20 = .ok (.iload_n 2, 1) := by decide +kernel
theorem dX4_leastOfOrder_21 : decode cX4_leastOfOrder 21 = .ok (.ireturn, 1) := by decide +kernel
theorem dX4_leastOfOrder_22 : decode cX4_leastOfOrder 22 = .ok (.iinc 2 1, 3) := by decide +kernel
theorem dX4_leastOfOrder_25 : decode cX4_leastOfOrder 25 = .ok (.goto (-23), 3) := by decide +kernel
theorem dX4_leastOfOrder_28 : decode cX4_leastOfOrder 28 = .ok (.iconst (-1), 1) := by decide +kernel
theorem dX4_leastOfOrder_29 : decode cX4_leastOfOrder 29 = .ok (.ireturn, 1) := by decide +kernel
theorem B_X4_leastOfOrder_0 {g : Sg} {c t : Nat} (hL : Lay LC g c t σ) {x1 : Int} (h : (Lay LC g c t σ → GG E mX4_leastOfOrder 2 [some (vr 24), some (vi x1), some (vi 0)] [] σ rc rs Q)) : GG E mX4_leastOfOrder 0 [some (vr 24), some (vi x1), none] [] σ rc rs Q := by
  refine r_iconst (pc := 0) dX4_leastOfOrder_0 (inRk rfl) ?_
  refine r_istore_n (pc := 1) dX4_leastOfOrder_1 rfl (by decide) (l2 := [some (vr 24), some (vi x1), some (vi 0)]) rfl ?_
  exact (h hL)
theorem B_X4_leastOfOrder_2 {g : Sg} {c t : Nat} (hL : Lay LC g c t σ) {x1 : Int} {x2 : Int} (h : (((gI σ 24 6) ≤ x2 → (Lay LC g c t σ → Q (.inl (some (vi (-1)))) σ)) ∧ (¬ ((gI σ 24 6) ≤ x2) → (0 ≤ x2 ∧ x2 < 120) ∧ (((gI σ 27 x2.toNat) ≠ x1 → inR (x2 + 1) ∧ (Lay LC g c t σ → GG E mX4_leastOfOrder 2 [some (vr 24), some (vi x1), some (vi (x2 + 1))] [] σ rc rs Q)) ∧ ((gI σ 27 x2.toNat) = x1 → (Lay LC g c t σ → Q (.inl (some (vi x2))) σ)))))) : GG E mX4_leastOfOrder 2 [some (vr 24), some (vi x1), some (vi x2)] [] σ rc rs Q := by
  refine r_iload_n (pc := 2) dX4_leastOfOrder_2 rfl rfl ?_
  refine r_aload_n (pc := 3) dX4_leastOfOrder_3 rfl rfl ?_
  refine r_getI (pc := 4) dX4_leastOfOrder_4 (k9 := 6) CL_4 (by decide) (by decide) w_218 rfl (okO_of (N := 12) (hL.sh (i := 8) rfl (by decide) (by decide)) (by decide)) (fun _ => ?_)
  refine r_icmp_ge (pc := 7) (tgt := 28) dX4_leastOfOrder_7 (by decide) (fun c9 => ?_) (fun c9 => ?_)
  · replace h := h.1 c9
    refine r_iconst (pc := 28) dX4_leastOfOrder_28 (inRk rfl) ?_
    exact r_ireturn (pc := 29) (ty := .int) dX4_leastOfOrder_29 (by decide +kernel) rfl (nar_i _) (h hL)
  · replace h := h.2 c9
    refine r_aload_n (pc := 10) dX4_leastOfOrder_10 rfl rfl ?_
    refine r_getR (pc := 11) dX4_leastOfOrder_11 (k9 := 2) CL_4 (by decide) (by decide) w_203 rfl (okO_of (N := 12) (hL.sh (i := 8) rfl (by decide) (by decide)) (by decide)) ?_
    refine eqR (y := 27) (hL.rf (i := 10) rfl) ?_
    refine r_iload_n (pc := 14) dX4_leastOfOrder_14 rfl rfl ?_
    obtain ⟨o1, h⟩ := h
    refine r_iaload (pc := 15) dX4_leastOfOrder_15 (okA_of (c := 20) (n := 120) (hL.sh (i := 11) rfl (by decide) (by decide)) (by decide) o1) ?_
    refine r_iload_n (pc := 16) dX4_leastOfOrder_16 rfl rfl ?_
    refine r_icmp_ne (pc := 17) (tgt := 22) dX4_leastOfOrder_17 (by decide) (fun c9 => ?_) (fun c9 => ?_)
    · replace h := h.1 c9
      obtain ⟨o2, h⟩ := h
      refine r_iinc (pc := 22) dX4_leastOfOrder_22 rfl (by decide) o2 (l2 := [some (vr 24), some (vi x1), some (vi (x2 + 1))]) rfl ?_
      refine r_goto (pc := 25) (tgt := 2) dX4_leastOfOrder_25 (by decide) ?_
      exact (h hL)
    · replace h := h.2 c9
      refine r_iload_n (pc := 20) dX4_leastOfOrder_20 rfl rfl ?_
      exact r_ireturn (pc := 21) (ty := .int) dX4_leastOfOrder_21 (by decide +kernel) rfl (nar_i _) (h hL)
theorem C_X4_leastOfOrder {a0 : Nat} {x1 : Int} (h : GG E mX4_leastOfOrder 0 [some (vr a0), some (vi x1), none] [] σ 0 0 Q) : CC E mX4_leastOfOrder [vr a0, vi x1] σ Q := CC.of (by decide +kernel) rfl (by decide +kernel) (fun h9 => nomatch h9) (Nat.le_of_ble_eq_true rfl) h
theorem dX4_times_0 : decode cX4_times 0 = .ok (.iload_n 1, 1) := by decide +kernel
theorem dX4_times_1 : decode cX4_times 1 = .ok (.ifCond .lt 39, 3) := by decide +kernel
theorem dX4_times_4 : decode cX4_times 4 = .ok (.iload_n 1, 1) := by decide +kernel
theorem dX4_times_5 : decode cX4_times 5 = .ok (.aload_n 0, 1) := by decide +kernel
theorem dX4_times_6 : decode cX4_times 6 = .ok (.getfield 42, 3) := by decide +kernel
theorem dX4_times_9 : decode cX4_times 9 = .ok (.if_icmp .ge 31, 3) := by decide +kernel
theorem dX4_times_12 : decode cX4_times 12 = .ok (.iload_n 2, 1) := by decide +kernel
theorem dX4_times_13 : decode cX4_times 13 = .ok (.ifCond .lt 27, 3) := by decide +kernel
theorem dX4_times_16 : decode cX4_times 16 = .ok (.iload_n 2, 1) := by decide +kernel
theorem dX4_times_17 : decode cX4_times 17 = .ok (.aload_n 0, 1) := by decide +kernel
theorem dX4_times_18 : decode cX4_times 18 = .ok (.getfield 42, 3) := by decide +kernel
theorem dX4_times_21 : decode cX4_times 21 = .ok (.if_icmp .ge 19, 3) := by decide +kernel
theorem dX4_times_24 : decode cX4_times 24 = .ok (.aload_n 0, 1) := by decide +kernel
theorem dX4_times_25 : decode cX4_times 25 = .ok (.getfield 9, 3) := by decide +kernel
theorem dX4_times_28 : decode cX4_times 28 = .ok (.iload_n 1, 1) := by decide +kernel
theorem dX4_times_29 : decode cX4_times 29 = .ok (.aload_n 0, 1) := by decide +kernel
theorem dX4_times_30 : decode cX4_times 30 = .ok (.getfield 42, 3) := by decide +kernel
theorem dX4_times_33 : decode cX4_times 33 = .ok (.imul, 1) := by decide +kernel
theorem dX4_times_34 : decode cX4_times 34 = .ok (.iload_n 2, 1) := by decide +kernel
theorem dX4_times_35 : decode cX4_times 35 = .ok (.iadd, 1) := by decide +kernel
theorem dX4_times_36 : decode cX4_times 36 = .ok (.iaload, 1) := by decide +kernel
theorem dX4_times_37 : decode cX4_times 37 = .ok (.goto 4, 3) := by decide +kernel
theorem dX4_times_40 : decode cX4_times 40 = .ok (.iconst 0, 1) := by decide +kernel
theorem dX4_times_41 : decode cX4_times 41 = .ok (.ireturn, 1) := by decide +kernel
theorem B_X4_times_0 {g : Sg} {c t : Nat} (hL : Lay LC g c t σ) {x1 : Int} {x2 : Int} (h : ((x1 < 0 → (Lay LC g c t σ → Q (.inl (some (vi 0))) σ)) ∧ (¬ (x1 < 0) → (((gI σ 24 6) ≤ x1 → (Lay LC g c t σ → Q (.inl (some (vi 0))) σ)) ∧ (¬ ((gI σ 24 6) ≤ x1) → ((x2 < 0 → (Lay LC g c t σ → Q (.inl (some (vi 0))) σ)) ∧ (¬ (x2 < 0) → (((gI σ 24 6) ≤ x2 → (Lay LC g c t σ → Q (.inl (some (vi 0))) σ)) ∧ (¬ ((gI σ 24 6) ≤ x2) → inR (x1 * (gI σ 24 6)) ∧ inR ((x1 * (gI σ 24 6)) + x2) ∧ (0 ≤ ((x1 * (gI σ 24 6)) + x2) ∧ ((x1 * (gI σ 24 6)) + x2) < 14400) ∧ (Lay LC g c t σ → Q (.inl (some (vi (gI σ 25 ((x1 * (gI σ 24 6)) + x2).toNat)))) σ)))))))))) : GG E mX4_times 0 [some (vr 24), some (vi x1), some (vi x2)] [] σ rc rs Q := by
  refine r_iload_n (pc := 0) dX4_times_0 rfl rfl ?_
  refine r_if_lt (pc := 1) (tgt := 40) dX4_times_1 (by decide) (fun c9 => ?_) (fun c9 => ?_)
  · replace h := h.1 c9
    refine r_iconst (pc := 40) dX4_times_40 (inRk rfl) ?_
    exact r_ireturn (pc := 41) (ty := .int) dX4_times_41 (by decide +kernel) rfl (nar_i _) (h hL)
  · replace h := h.2 c9
    refine r_iload_n (pc := 4) dX4_times_4 rfl rfl ?_
    refine r_aload_n (pc := 5) dX4_times_5 rfl rfl ?_
    refine r_getI (pc := 6) dX4_times_6 (k9 := 6) CL_4 (by decide) (by decide) w_218 rfl (okO_of (N := 12) (hL.sh (i := 8) rfl (by decide) (by decide)) (by decide)) (fun _ => ?_)
    refine r_icmp_ge (pc := 9) (tgt := 40) dX4_times_9 (by decide) (fun c9 => ?_) (fun c9 => ?_)
    · replace h := h.1 c9
      refine r_iconst (pc := 40) dX4_times_40 (inRk rfl) ?_
      exact r_ireturn (pc := 41) (ty := .int) dX4_times_41 (by decide +kernel) rfl (nar_i _) (h hL)
    · replace h := h.2 c9
      refine r_iload_n (pc := 12) dX4_times_12 rfl rfl ?_
      refine r_if_lt (pc := 13) (tgt := 40) dX4_times_13 (by decide) (fun c9 => ?_) (fun c9 => ?_)
      · replace h := h.1 c9
        refine r_iconst (pc := 40) dX4_times_40 (inRk rfl) ?_
        exact r_ireturn (pc := 41) (ty := .int) dX4_times_41 (by decide +kernel) rfl (nar_i _) (h hL)
      · replace h := h.2 c9
        refine r_iload_n (pc := 16) dX4_times_16 rfl rfl ?_
        refine r_aload_n (pc := 17) dX4_times_17 rfl rfl ?_
        refine r_getI (pc := 18) dX4_times_18 (k9 := 6) CL_4 (by decide) (by decide) w_218 rfl (okO_of (N := 12) (hL.sh (i := 8) rfl (by decide) (by decide)) (by decide)) (fun _ => ?_)
        refine r_icmp_ge (pc := 21) (tgt := 40) dX4_times_21 (by decide) (fun c9 => ?_) (fun c9 => ?_)
        · replace h := h.1 c9
          refine r_iconst (pc := 40) dX4_times_40 (inRk rfl) ?_
          exact r_ireturn (pc := 41) (ty := .int) dX4_times_41 (by decide +kernel) rfl (nar_i _) (h hL)
        · replace h := h.2 c9
          refine r_aload_n (pc := 24) dX4_times_24 rfl rfl ?_
          refine r_getR (pc := 25) dX4_times_25 (k9 := 0) CL_4 (by decide) (by decide) w_199 rfl (okO_of (N := 12) (hL.sh (i := 8) rfl (by decide) (by decide)) (by decide)) ?_
          refine eqR (y := 25) (hL.rf (i := 8) rfl) ?_
          refine r_iload_n (pc := 28) dX4_times_28 rfl rfl ?_
          refine r_aload_n (pc := 29) dX4_times_29 rfl rfl ?_
          refine r_getI (pc := 30) dX4_times_30 (k9 := 6) CL_4 (by decide) (by decide) w_218 rfl (okO_of (N := 12) (hL.sh (i := 8) rfl (by decide) (by decide)) (by decide)) (fun _ => ?_)
          obtain ⟨o1, h⟩ := h
          refine r_imul (pc := 33) dX4_times_33 o1 ?_
          refine r_iload_n (pc := 34) dX4_times_34 rfl rfl ?_
          obtain ⟨o2, h⟩ := h
          refine r_iadd (pc := 35) dX4_times_35 o2 ?_
          obtain ⟨o3, h⟩ := h
          refine r_iaload (pc := 36) dX4_times_36 (okA_of (c := 20) (n := 14400) (hL.sh (i := 9) rfl (by decide) (by decide)) (by decide) o3) ?_
          refine r_goto (pc := 37) (tgt := 41) dX4_times_37 (by decide) ?_
          exact r_ireturn (pc := 41) (ty := .int) dX4_times_41 (by decide +kernel) rfl (nar_i _) (h hL)
theorem C_X4_times {a0 : Nat} {x1 : Int} {x2 : Int} (h : GG E mX4_times 0 [some (vr a0), some (vi x1), some (vi x2)] [] σ 0 0 Q) : CC E mX4_times [vr a0, vi x1, vi x2] σ Q := CC.of (by decide +kernel) rfl (by decide +kernel) (fun h9 => nomatch h9) (Nat.le_of_ble_eq_true rfl) h
theorem dX4_turned_0 : decode cX4_turned 0 = .ok (.aload_n 0, 1) := by decide +kernel
theorem dX4_turned_1 : decode cX4_turned 1 = .ok (.aload_n 0, 1) := by decide +kernel
theorem dX4_turned_2 : decode cX4_turned 2 = .ok (.aload_n 0, 1) := by decide +kernel
theorem dX4_turned_3 : decode cX4_turned 3 = .ok (.getfield 15, 3) := by decide +kernel
theorem dX4_turned_6 : decode cX4_turned 6 = .ok (.iload_n 2, 1) := by decide +kernel
theorem dX4_turned_7 : decode cX4_turned 7 = .ok (.invokestatic 60, 3) := by decide +kernel
theorem dX4_turned_10 : decode cX4_turned 10 = .ok (.iload_n 1, 1) := by decide +kernel
theorem dX4_turned_11 : decode cX4_turned 11 = .ok (.invokevirtual 64, 3) := by decide +kernel
theorem dX4_turned_14 : decode cX4_turned 14 = .ok (.iload_n 2, 1) := by decide +kernel
theorem dX4_turned_15 : decode cX4_turned 15 = .ok (.invokevirtual 64, 3) := by decide +kernel
theorem dX4_turned_18 : decode cX4_turned 18 = .ok (.ireturn, 1) := by decide +kernel
theorem B_X4_turned_0 {g : Sg} {c t : Nat} (hL : Lay LC g c t σ) {x1 : Int} {x2 : Int} (h : (Lay LC g c t σ → CC E mX11_at [vr 26, vi x2] σ (KI (fun r1 τ2 => Lay LC g c t τ2 ∧ (inR r1 → (Lay LC g c t τ2 → CC E mX4_times [vr 24, vi r1, vi x1] τ2 (KI (fun r3 τ4 => Lay LC g c t τ4 ∧ (inR r3 → (Lay LC g c t τ4 → CC E mX4_times [vr 24, vi r3, vi x2] τ4 (KI (fun r5 τ6 => Lay LC g c t τ6 ∧ (inR r5 → (Lay LC g c t τ6 → Q (.inl (some (vi r5))) τ6))) (fun _ _ => False))))) (fun _ _ => False))))) (fun _ _ => False)))) : GG E mX4_turned 0 [some (vr 24), some (vi x1), some (vi x2)] [] σ rc rs Q := by
  refine r_aload_n (pc := 0) dX4_turned_0 rfl rfl ?_
  refine r_aload_n (pc := 1) dX4_turned_1 rfl rfl ?_
  refine r_aload_n (pc := 2) dX4_turned_2 rfl rfl ?_
  refine r_getR (pc := 3) dX4_turned_3 (k9 := 1) CL_4 (by decide) (by decide) w_200 rfl (okO_of (N := 12) (hL.sh (i := 8) rfl (by decide) (by decide)) (by decide)) ?_
  refine eqR (y := 26) (hL.rf (i := 9) rfl) ?_
  refine r_iload_n (pc := 6) dX4_turned_6 rfl rfl ?_
  refine c_SNI0N (M := mX4_turned) (pc := 7) (As := [vr 26, vi x2]) dX4_turned_7 K_X11_at wt_555 ⟨by decide, by decide⟩ (Nat.le_of_ble_eq_true rfl) rfl rfl (h hL) (fun r1 τ2 h8 hr9 => ?_) rfl
  replace hL := h8.1
  replace h := h8.2 hr9
  refine r_iload_n (pc := 10) dX4_turned_10 rfl rfl ?_
  refine c_VI0N (M := mX4_turned) (pc := 11) (As := [vi r1, vi x1]) dX4_turned_11 K_X4_times w_562 ⟨by decide, by decide⟩ (Nat.le_of_ble_eq_true rfl) rfl rfl (ci := 4) rfl rfl (by decide) (okO_of (N := 12) (hL.sh (i := 8) rfl (by decide) (by decide)) (by decide)) (h hL) (fun r3 τ4 h8 hr9 => ?_) rfl
  replace hL := h8.1
  replace h := h8.2 hr9
  refine r_iload_n (pc := 14) dX4_turned_14 rfl rfl ?_
  refine c_VI0N (M := mX4_turned) (pc := 15) (As := [vi r3, vi x2]) dX4_turned_15 K_X4_times w_562 ⟨by decide, by decide⟩ (Nat.le_of_ble_eq_true rfl) rfl rfl (ci := 4) rfl rfl (by decide) (okO_of (N := 12) (hL.sh (i := 8) rfl (by decide) (by decide)) (by decide)) (h hL) (fun r5 τ6 h8 hr9 => ?_) rfl
  replace hL := h8.1
  replace h := h8.2 hr9
  exact r_ireturn (pc := 18) (ty := .int) dX4_turned_18 (by decide +kernel) rfl (nar_i _) (h hL)
theorem C_X4_turned {a0 : Nat} {x1 : Int} {x2 : Int} (h : GG E mX4_turned 0 [some (vr a0), some (vi x1), some (vi x2)] [] σ 0 0 Q) : CC E mX4_turned [vr a0, vi x1, vi x2] σ Q := CC.of (by decide +kernel) rfl (by decide +kernel) (fun h9 => nomatch h9) (Nat.le_of_ble_eq_true rfl) h
theorem dX9_holds_0 : decode cX9_holds 0 = .ok (.iload_n 1, 1) := by decide +kernel
theorem dX9_holds_1 : decode cX9_holds 1 = .ok (.ifCond .lt 26, 3) := by decide +kernel
theorem dX9_holds_4 : decode cX9_holds 4 = .ok (.iload_n 1, 1) := by decide +kernel
theorem dX9_holds_5 : decode cX9_holds 5 = .ok (.aload_n 0, 1) := by decide +kernel
theorem dX9_holds_6 : decode cX9_holds 6 = .ok (.getfield 9, 3) := by decide +kernel
theorem dX9_holds_9 : decode cX9_holds 9 = .ok (.arraylength, 1) := by decide +kernel
theorem dX9_holds_10 : decode cX9_holds 10 = .ok (.if_icmp .ge 17, 3) := by decide +kernel
theorem dX9_holds_13 : decode cX9_holds 13 = .ok (.aload_n 0, 1) := by decide +kernel
theorem dX9_holds_14 : decode cX9_holds 14 = .ok (.getfield 9, 3) := by decide +kernel
theorem dX9_holds_17 : decode cX9_holds 17 = .ok (.iload_n 1, 1) := by decide +kernel
theorem dX9_holds_18 : decode cX9_holds 18 = .ok (.iaload, 1) := by decide +kernel
theorem dX9_holds_19 : decode cX9_holds 19 = .ok (.iconst (-1), 1) := by decide +kernel
theorem dX9_holds_20 : decode cX9_holds 20 = .ok (.if_icmp .eq 7, 3) := by decide +kernel
theorem dX9_holds_23 : decode cX9_holds 23 = .ok (.iconst 1, 1) := by decide +kernel
theorem dX9_holds_24 : decode cX9_holds 24 = .ok (.goto 4, 3) := by decide +kernel
theorem dX9_holds_27 : decode cX9_holds 27 = .ok (.iconst 0, 1) := by decide +kernel
theorem dX9_holds_28 : decode cX9_holds 28 = .ok (.ireturn, 1) := by decide +kernel
theorem B_X9_holds_0 {g : Sg} {c t : Nat} (hL : Lay LC g c t σ) {x1 : Int} (h : ((x1 < 0 → (Lay LC g c t σ → Q (.inl (some (vi 0))) σ)) ∧ (¬ (x1 < 0) → ((120 ≤ x1 → (Lay LC g c t σ → Q (.inl (some (vi 0))) σ)) ∧ (¬ (120 ≤ x1) → (0 ≤ x1 ∧ x1 < 120) ∧ (((gI σ 32 x1.toNat) = (-1) → (Lay LC g c t σ → Q (.inl (some (vi 0))) σ)) ∧ (¬ ((gI σ 32 x1.toNat) = (-1)) → (Lay LC g c t σ → Q (.inl (some (vi 1))) σ)))))))) : GG E mX9_holds 0 [some (vr 31), some (vi x1)] [] σ rc rs Q := by
  refine r_iload_n (pc := 0) dX9_holds_0 rfl rfl ?_
  refine r_if_lt (pc := 1) (tgt := 27) dX9_holds_1 (by decide) (fun c9 => ?_) (fun c9 => ?_)
  · replace h := h.1 c9
    refine r_iconst (pc := 27) dX9_holds_27 (inRk rfl) ?_
    exact r_ireturn (pc := 28) (ty := .boolean) dX9_holds_28 (by decide +kernel) rfl (nar_bool (by decide)) (h hL)
  · replace h := h.2 c9
    refine r_iload_n (pc := 4) dX9_holds_4 rfl rfl ?_
    refine r_aload_n (pc := 5) dX9_holds_5 rfl rfl ?_
    refine r_getR (pc := 6) dX9_holds_6 (k9 := 0) CL_9 (by decide) (by decide) w_267 rfl (okO_of (N := 5) (hL.sh (i := 15) rfl (by decide) (by decide)) (by decide)) ?_
    refine eqR (y := 32) (hL.rf (i := 15) rfl) ?_
    have o2 : okN σ 32 := okN_of (hL.sh (i := 16) rfl (by decide) (by decide)) (by decide) (by decide) (by decide)
    refine r_alen (pc := 9) dX9_holds_9 o2.1 o2.2 ?_
    refine eqI (y := 120) (by rw [(hL.sh (i := 16) rfl (by decide) (by decide))] <;> rfl) ?_
    refine r_icmp_ge (pc := 10) (tgt := 27) dX9_holds_10 (by decide) (fun c9 => ?_) (fun c9 => ?_)
    · replace h := h.1 c9
      refine r_iconst (pc := 27) dX9_holds_27 (inRk rfl) ?_
      exact r_ireturn (pc := 28) (ty := .boolean) dX9_holds_28 (by decide +kernel) rfl (nar_bool (by decide)) (h hL)
    · replace h := h.2 c9
      refine r_aload_n (pc := 13) dX9_holds_13 rfl rfl ?_
      refine r_getR (pc := 14) dX9_holds_14 (k9 := 0) CL_9 (by decide) (by decide) w_267 rfl (okO_of (N := 5) (hL.sh (i := 15) rfl (by decide) (by decide)) (by decide)) ?_
      refine eqR (y := 32) (hL.rf (i := 15) rfl) ?_
      refine r_iload_n (pc := 17) dX9_holds_17 rfl rfl ?_
      obtain ⟨o1, h⟩ := h
      refine r_iaload (pc := 18) dX9_holds_18 (okA_of (c := 20) (n := 120) (hL.sh (i := 16) rfl (by decide) (by decide)) (by decide) o1) ?_
      refine r_iconst (pc := 19) dX9_holds_19 (inRk rfl) ?_
      refine r_icmp_eq (pc := 20) (tgt := 27) dX9_holds_20 (by decide) (fun c9 => ?_) (fun c9 => ?_)
      · replace h := h.1 c9
        refine r_iconst (pc := 27) dX9_holds_27 (inRk rfl) ?_
        exact r_ireturn (pc := 28) (ty := .boolean) dX9_holds_28 (by decide +kernel) rfl (nar_bool (by decide)) (h hL)
      · replace h := h.2 c9
        refine r_iconst (pc := 23) dX9_holds_23 (inRk rfl) ?_
        refine r_goto (pc := 24) (tgt := 28) dX9_holds_24 (by decide) ?_
        exact r_ireturn (pc := 28) (ty := .boolean) dX9_holds_28 (by decide +kernel) rfl (nar_bool (by decide)) (h hL)
theorem C_X9_holds {a0 : Nat} {x1 : Int} (h : GG E mX9_holds 0 [some (vr a0), some (vi x1)] [] σ 0 0 Q) : CC E mX9_holds [vr a0, vi x1] σ Q := CC.of (by decide +kernel) rfl (by decide +kernel) (fun h9 => nomatch h9) (Nat.le_of_ble_eq_true rfl) h
theorem dX9_holdsTurned_0 : decode cX9_holdsTurned 0 = .ok (.iconst 0, 1) := by decide +kernel
theorem dX9_holdsTurned_1 : decode cX9_holdsTurned 1 = .ok (.istore_n 3, 1) := by decide +kernel
theorem dX9_holdsTurned_2 : decode cX9_holdsTurned 2 = .ok (.iload_n 3, 1) := by decide +kernel
theorem dX9_holdsTurned_3 : decode cX9_holdsTurned 3 = .ok (.aload_n 1, 1) := by decide +kernel
theorem dX9_holdsTurned_4 : decode cX9_holdsTurned 4 = .ok (.getfield 38, 3) := by decide +kernel
theorem dX9_holdsTurned_7 : decode cX9_holdsTurned 7 = .ok (.if_icmp .ge 24, 3) := by decide +kernel
theorem dX9_holdsTurned_10 : decode cX9_holdsTurned 10 = .ok (.aload_n 0, 1) := by decide +kernel
theorem dX9_holdsTurned_11 : decode cX9_holdsTurned 11 = .ok (.aload_n 1, 1) := by decide +kernel
theorem dX9_holdsTurned_12 : decode cX9_holdsTurned 12 = .ok (.iload_n 2, 1) := by decide +kernel
theorem dX9_holdsTurned_13 : decode cX9_holdsTurned 13 = .ok (.iload_n 3, 1) := by decide +kernel
theorem dX9_holdsTurned_14 : decode cX9_holdsTurned 14 = .ok (.invokevirtual 39, 3) := by decide +kernel
theorem dX9_holdsTurned_17 : decode cX9_holdsTurned 17 = .ok (.invokevirtual 42, 3) := by decide +kernel
theorem dX9_holdsTurned_20 : decode cX9_holdsTurned 20 = .ok (.ifCond .ne 5, 3) := by decide +kernel
theorem dX9_holdsTurned_23 : decode cX9_holdsTurned 23 = .ok (.iconst 0, 1) := by decide +kernel
theorem dX9_holdsTurned_24 : decode cX9_holdsTurned 24 = .ok (.ireturn, 1) := by decide +kernel
theorem dX9_holdsTurned_25 : decode cX9_holdsTurned 25 = .ok (.iinc 3 1, 3) := by decide +kernel
theorem dX9_holdsTurned_28 : decode cX9_holdsTurned 28 = .ok (.goto (-26), 3) := by decide +kernel
theorem dX9_holdsTurned_31 : decode cX9_holdsTurned 31 = .ok (.iconst 1, 1) := by decide +kernel
theorem dX9_holdsTurned_32 : decode cX9_holdsTurned 32 = .ok (.ireturn, 1) := by decide +kernel
theorem B_X9_holdsTurned_0 {g : Sg} {c t : Nat} (hL : Lay LC g c t σ) {x2 : Int} (h : (Lay LC g c t σ → GG E mX9_holdsTurned 2 [some (vr 31), some (vr 24), some (vi x2), some (vi 0)] [] σ rc rs Q)) : GG E mX9_holdsTurned 0 [some (vr 31), some (vr 24), some (vi x2), none] [] σ rc rs Q := by
  refine r_iconst (pc := 0) dX9_holdsTurned_0 (inRk rfl) ?_
  refine r_istore_n (pc := 1) dX9_holdsTurned_1 rfl (by decide) (l2 := [some (vr 31), some (vr 24), some (vi x2), some (vi 0)]) rfl ?_
  exact (h hL)
theorem B_X9_holdsTurned_2 {g : Sg} {c t : Nat} (hL : Lay LC g c t σ) {x2 : Int} {x3 : Int} (h : (((gI σ 24 6) ≤ x3 → (Lay LC g c t σ → Q (.inl (some (vi 1))) σ)) ∧ (¬ ((gI σ 24 6) ≤ x3) → (Lay LC g c t σ → CC E mX4_turned [vr 24, vi x2, vi x3] σ (KI (fun r1 τ2 => Lay LC g c t τ2 ∧ (inR r1 → (Lay LC g c t τ2 → CC E mX9_holds [vr 31, vi r1] τ2 (KI (fun r3 τ4 => Lay LC g c t τ4 ∧ (inR r3 → ((r3 ≠ 0 → inR (x3 + 1) ∧ (Lay LC g c t τ4 → GG E mX9_holdsTurned 2 [some (vr 31), some (vr 24), some (vi x2), some (vi (x3 + 1))] [] τ4 rc rs Q)) ∧ (r3 = 0 → (Lay LC g c t τ4 → Q (.inl (some (vi 0))) τ4))))) (fun _ _ => False))))) (fun _ _ => False)))))) : GG E mX9_holdsTurned 2 [some (vr 31), some (vr 24), some (vi x2), some (vi x3)] [] σ rc rs Q := by
  refine r_iload_n (pc := 2) dX9_holdsTurned_2 rfl rfl ?_
  refine r_aload_n (pc := 3) dX9_holdsTurned_3 rfl rfl ?_
  refine r_getI (pc := 4) dX9_holdsTurned_4 (k9 := 6) CL_4 (by decide) (by decide) w_220 rfl (okO_of (N := 12) (hL.sh (i := 8) rfl (by decide) (by decide)) (by decide)) (fun _ => ?_)
  refine r_icmp_ge (pc := 7) (tgt := 31) dX9_holdsTurned_7 (by decide) (fun c9 => ?_) (fun c9 => ?_)
  · replace h := h.1 c9
    refine r_iconst (pc := 31) dX9_holdsTurned_31 (inRk rfl) ?_
    exact r_ireturn (pc := 32) (ty := .boolean) dX9_holdsTurned_32 (by decide +kernel) rfl (nar_bool (by decide)) (h hL)
  · replace h := h.2 c9
    refine r_aload_n (pc := 10) dX9_holdsTurned_10 rfl rfl ?_
    refine r_aload_n (pc := 11) dX9_holdsTurned_11 rfl rfl ?_
    refine r_iload_n (pc := 12) dX9_holdsTurned_12 rfl rfl ?_
    refine r_iload_n (pc := 13) dX9_holdsTurned_13 rfl rfl ?_
    refine c_VI0N (M := mX9_holdsTurned) (pc := 14) (As := [vi x2, vi x3]) dX9_holdsTurned_14 K_X4_turned w_1334 ⟨by decide, by decide⟩ (Nat.le_of_ble_eq_true rfl) rfl rfl (ci := 4) rfl rfl (by decide) (okO_of (N := 12) (hL.sh (i := 8) rfl (by decide) (by decide)) (by decide)) (h hL) (fun r1 τ2 h8 hr9 => ?_) rfl
    replace hL := h8.1
    replace h := h8.2 hr9
    refine c_VI0N (M := mX9_holdsTurned) (pc := 17) (As := [vi r1]) dX9_holdsTurned_17 K_X9_holds w_1311 ⟨by decide, by decide⟩ (Nat.le_of_ble_eq_true rfl) rfl rfl (ci := 9) rfl rfl (by decide) (okO_of (N := 5) (hL.sh (i := 15) rfl (by decide) (by decide)) (by decide)) (h hL) (fun r3 τ4 h8 hr9 => ?_) rfl
    replace hL := h8.1
    replace h := h8.2 hr9
    refine r_if_ne (pc := 20) (tgt := 25) dX9_holdsTurned_20 (by decide) (fun c9 => ?_) (fun c9 => ?_)
    · replace h := h.1 c9
      obtain ⟨o5, h⟩ := h
      refine r_iinc (pc := 25) dX9_holdsTurned_25 rfl (by decide) o5 (l2 := [some (vr 31), some (vr 24), some (vi x2), some (vi (x3 + 1))]) rfl ?_
      refine r_goto (pc := 28) (tgt := 2) dX9_holdsTurned_28 (by decide) ?_
      exact (h hL)
    · replace h := h.2 c9
      refine r_iconst (pc := 23) dX9_holdsTurned_23 (inRk rfl) ?_
      exact r_ireturn (pc := 24) (ty := .boolean) dX9_holdsTurned_24 (by decide +kernel) rfl (nar_bool (by decide)) (h hL)
theorem C_X9_holdsTurned {a0 : Nat} {a1 : Nat} {x2 : Int} (h : GG E mX9_holdsTurned 0 [some (vr a0), some (vr a1), some (vi x2), none] [] σ 0 0 Q) : CC E mX9_holdsTurned [vr a0, vr a1, vi x2] σ Q := CC.of (by decide +kernel) rfl (by decide +kernel) (fun h9 => nomatch h9) (Nat.le_of_ble_eq_true rfl) h
theorem dX9_init_0 : decode cX9_init 0 = .ok (.aload_n 0, 1) := by decide +kernel
theorem dX9_init_1 : decode cX9_init 1 = .ok (.invokespecial 3, 3) := by decide +kernel
theorem dX9_init_4 : decode cX9_init 4 = .ok (.aload_n 0, 1) := by decide +kernel
theorem dX9_init_5 : decode cX9_init 5 = .ok (.bipush 120, 2) := by decide +kernel
theorem dX9_init_7 : decode cX9_init 7 = .ok (.newarray .int, 2) := by decide +kernel
theorem dX9_init_9 : decode cX9_init 9 = .ok (.putfield 9, 3) := by decide +kernel
theorem dX9_init_12 : decode cX9_init 12 = .ok (.aload_n 0, 1) := by decide +kernel
theorem dX9_init_13 : decode cX9_init 13 = .ok (.bipush 120, 2) := by decide +kernel
theorem dX9_init_15 : decode cX9_init 15 = .ok (.newarray .int, 2) := by decide +kernel
theorem dX9_init_17 : decode cX9_init 17 = .ok (.putfield 15, 3) := by decide +kernel
theorem dX9_init_20 : decode cX9_init 20 = .ok (.aload_n 0, 1) := by decide +kernel
theorem dX9_init_21 : decode cX9_init 21 = .ok (.iconst (-1), 1) := by decide +kernel
theorem dX9_init_22 : decode cX9_init 22 = .ok (.putfield 18, 3) := by decide +kernel
theorem dX9_init_25 : decode cX9_init 25 = .ok (.aload_n 0, 1) := by decide +kernel
theorem dX9_init_26 : decode cX9_init 26 = .ok (.iconst (-1), 1) := by decide +kernel
theorem dX9_init_27 : decode cX9_init 27 = .ok (.putfield 22, 3) := by decide +kernel
theorem dX9_init_30 : decode cX9_init 30 = .ok (.return_, 1) := by decide +kernel
theorem B_X9_init_0 {a0 : Nat} (h : 16 ≤ a0 ∧ 1 ≤ rc ∧ 120 ≤ rs ∧ ∀ b1 : Nat, b1 = gz σ → okO (nw σ (20, 120)) a0 9 ∧ ∀ τ3 : Sg, τ3 = sR (nw σ (20, 120)) a0 0 b1 → 1 ≤ rc - 1 ∧ 120 ≤ rs - 120 ∧ ∀ b4 : Nat, b4 = gz τ3 → okO (nw τ3 (20, 120)) a0 9 ∧ ∀ τ6 : Sg, τ6 = sR (nw τ3 (20, 120)) a0 1 b4 → okO τ6 a0 9 ∧ ∀ τ8 : Sg, τ8 = sI τ6 a0 3 (-1) → okO τ8 a0 9 ∧ ∀ τ10 : Sg, τ10 = sI τ8 a0 4 (-1) → Q (.inl none) τ10) : GG E mX9_init 0 [some (vr a0)] [] σ rc rs Q := by
  refine r_aload_n (pc := 0) dX9_init_0 rfl rfl ?_
  refine r_objInit (pc := 1) dX9_init_1 w_266 w_129 w_130 (by decide) (Nat.le_of_ble_eq_true rfl) h.1 ?_
  replace h := h.2
  refine r_aload_n (pc := 4) dX9_init_4 rfl rfl ?_
  refine r_bipush (pc := 5) dX9_init_5 (by decide) ?_
  refine r_newarray (pc := 7) dX9_init_7 (cc := 20) rfl (by decide) (by decide) w_175 (by decide) (by decide) h.1 h.2.1 ?_
  replace h := h.2.2
  change GG _ _ _ _ (vr _ :: _) (nw _ (20, 120)) (_ - 1) (_ - 120) _
  refine nmR (fun b1 e9 => ?_)
  replace h := h b1 e9
  obtain ⟨o2, h⟩ := h
  refine r_putRF (pc := 9) dX9_init_9 (k9 := 0) CL_9 (by decide) (by decide) w_267 rfl rfl rfl rfl o2 ?_
  refine nmS (fun τ3 e3 => ?_)
  replace h := h τ3 e3
  refine r_aload_n (pc := 12) dX9_init_12 rfl rfl ?_
  refine r_bipush (pc := 13) dX9_init_13 (by decide) ?_
  refine r_newarray (pc := 15) dX9_init_15 (cc := 20) rfl (by decide) (by decide) w_175 (by decide) (by decide) h.1 h.2.1 ?_
  replace h := h.2.2
  change GG _ _ _ _ (vr _ :: _) (nw _ (20, 120)) (_ - 1) (_ - 120) _
  refine nmR (fun b4 e9 => ?_)
  replace h := h b4 e9
  obtain ⟨o5, h⟩ := h
  refine r_putRF (pc := 17) dX9_init_17 (k9 := 1) CL_9 (by decide) (by decide) w_268 rfl rfl rfl rfl o5 ?_
  refine nmS (fun τ6 e6 => ?_)
  replace h := h τ6 e6
  refine r_aload_n (pc := 20) dX9_init_20 rfl rfl ?_
  refine r_iconst (pc := 21) dX9_init_21 (inRk rfl) ?_
  obtain ⟨o7, h⟩ := h
  refine r_putI (pc := 22) dX9_init_22 (k9 := 3) CL_9 (by decide) (by decide) w_271 rfl rfl (fun h9 => absurd h9 (by decide +kernel)) o7 ?_
  refine nmS (fun τ8 e8 => ?_)
  replace h := h τ8 e8
  refine r_aload_n (pc := 25) dX9_init_25 rfl rfl ?_
  refine r_iconst (pc := 26) dX9_init_26 (inRk rfl) ?_
  obtain ⟨o9, h⟩ := h
  refine r_putI (pc := 27) dX9_init_27 (k9 := 4) CL_9 (by decide) (by decide) w_273 rfl rfl (fun h9 => absurd h9 (by decide +kernel)) o9 ?_
  refine nmS (fun τ10 e10 => ?_)
  replace h := h τ10 e10
  exact r_return (pc := 30) dX9_init_30 (by decide +kernel) rfl h
theorem C_X9_init {a0 : Nat} (h : GG E mX9_init 0 [some (vr a0)] [] σ 2 240 Q) : CC E mX9_init [vr a0] σ Q := CC.of (by decide +kernel) rfl (by decide +kernel) (fun h9 => rfl) (Nat.le_of_ble_eq_true rfl) h
theorem dX9_leastBeside_0 : decode cX9_leastBeside 0 = .ok (.iconst 0, 1) := by decide +kernel
theorem dX9_leastBeside_1 : decode cX9_leastBeside 1 = .ok (.istore_n 2, 1) := by decide +kernel
theorem dX9_leastBeside_2 : decode cX9_leastBeside 2 = .ok (.iload_n 2, 1) := by decide +kernel
theorem dX9_leastBeside_3 : decode cX9_leastBeside 3 = .ok (.iload_n 1, 1) := by decide +kernel
theorem dX9_leastBeside_4 : decode cX9_leastBeside 4 = .ok (.if_icmp .ge 19, 3) := by decide +kernel
theorem dX9_leastBeside_7 : decode cX9_leastBeside 7 = .ok (.aload_n 0, 1) := by decide +kernel
theorem dX9_leastBeside_8 : decode cX9_leastBeside 8 = .ok (.iload_n 2, 1) := by decide +kernel
theorem dX9_leastBeside_9 : decode cX9_leastBeside 9 = .ok (.invokevirtual 42, 3) := by decide +kernel
theorem dX9_leastBeside_12 : decode cX9_leastBeside 12 = .ok (.ifCond .ne 5, 3) := by decide +kernel
theorem dX9_leastBeside_15 : decode cX9_leastBeside 15 = .ok (.iload_n 2, 1) := by decide +kernel
theorem dX9_leastBeside_16 : decode cX9_leastBeside 16 = .ok (.ireturn, 1) := by decide +kernel
theorem dX9_leastBeside_17 : decode cX9_leastBeside 17 = .ok (.iinc 2 1, 3) := by decide +kernel
theorem dX9_leastBeside_20 : decode cX9_leastBeside 20 = .ok (.goto (-18), 3) := by decide +kernel
theorem dX9_leastBeside_23 : decode cX9_leastBeside 23 = .ok (.iconst (-1), 1) := by decide +kernel
theorem dX9_leastBeside_24 : decode cX9_leastBeside 24 = .ok (.ireturn, 1) := by decide +kernel
theorem B_X9_leastBeside_0 {g : Sg} {c t : Nat} (hL : Lay LC g c t σ) {x1 : Int} (h : (Lay LC g c t σ → GG E mX9_leastBeside 2 [some (vr 31), some (vi x1), some (vi 0)] [] σ rc rs Q)) : GG E mX9_leastBeside 0 [some (vr 31), some (vi x1), none] [] σ rc rs Q := by
  refine r_iconst (pc := 0) dX9_leastBeside_0 (inRk rfl) ?_
  refine r_istore_n (pc := 1) dX9_leastBeside_1 rfl (by decide) (l2 := [some (vr 31), some (vi x1), some (vi 0)]) rfl ?_
  exact (h hL)
theorem B_X9_leastBeside_2 {g : Sg} {c t : Nat} (hL : Lay LC g c t σ) {x1 : Int} {x2 : Int} (h : ((x1 ≤ x2 → (Lay LC g c t σ → Q (.inl (some (vi (-1)))) σ)) ∧ (¬ (x1 ≤ x2) → (Lay LC g c t σ → CC E mX9_holds [vr 31, vi x2] σ (KI (fun r1 τ2 => Lay LC g c t τ2 ∧ (inR r1 → ((r1 ≠ 0 → inR (x2 + 1) ∧ (Lay LC g c t τ2 → GG E mX9_leastBeside 2 [some (vr 31), some (vi x1), some (vi (x2 + 1))] [] τ2 rc rs Q)) ∧ (r1 = 0 → (Lay LC g c t τ2 → Q (.inl (some (vi x2))) τ2))))) (fun _ _ => False)))))) : GG E mX9_leastBeside 2 [some (vr 31), some (vi x1), some (vi x2)] [] σ rc rs Q := by
  refine r_iload_n (pc := 2) dX9_leastBeside_2 rfl rfl ?_
  refine r_iload_n (pc := 3) dX9_leastBeside_3 rfl rfl ?_
  refine r_icmp_ge (pc := 4) (tgt := 23) dX9_leastBeside_4 (by decide) (fun c9 => ?_) (fun c9 => ?_)
  · replace h := h.1 c9
    refine r_iconst (pc := 23) dX9_leastBeside_23 (inRk rfl) ?_
    exact r_ireturn (pc := 24) (ty := .int) dX9_leastBeside_24 (by decide +kernel) rfl (nar_i _) (h hL)
  · replace h := h.2 c9
    refine r_aload_n (pc := 7) dX9_leastBeside_7 rfl rfl ?_
    refine r_iload_n (pc := 8) dX9_leastBeside_8 rfl rfl ?_
    refine c_VI0N (M := mX9_leastBeside) (pc := 9) (As := [vi x2]) dX9_leastBeside_9 K_X9_holds w_1311 ⟨by decide, by decide⟩ (Nat.le_of_ble_eq_true rfl) rfl rfl (ci := 9) rfl rfl (by decide) (okO_of (N := 5) (hL.sh (i := 15) rfl (by decide) (by decide)) (by decide)) (h hL) (fun r1 τ2 h8 hr9 => ?_) rfl
    replace hL := h8.1
    replace h := h8.2 hr9
    refine r_if_ne (pc := 12) (tgt := 17) dX9_leastBeside_12 (by decide) (fun c9 => ?_) (fun c9 => ?_)
    · replace h := h.1 c9
      obtain ⟨o3, h⟩ := h
      refine r_iinc (pc := 17) dX9_leastBeside_17 rfl (by decide) o3 (l2 := [some (vr 31), some (vi x1), some (vi (x2 + 1))]) rfl ?_
      refine r_goto (pc := 20) (tgt := 2) dX9_leastBeside_20 (by decide) ?_
      exact (h hL)
    · replace h := h.2 c9
      refine r_iload_n (pc := 15) dX9_leastBeside_15 rfl rfl ?_
      exact r_ireturn (pc := 16) (ty := .int) dX9_leastBeside_16 (by decide +kernel) rfl (nar_i _) (h hL)
theorem C_X9_leastBeside {a0 : Nat} {x1 : Int} (h : GG E mX9_leastBeside 0 [some (vr a0), some (vi x1), none] [] σ 0 0 Q) : CC E mX9_leastBeside [vr a0, vi x1] σ Q := CC.of (by decide +kernel) rfl (by decide +kernel) (fun h9 => nomatch h9) (Nat.le_of_ble_eq_true rfl) h
theorem dX9_make_0 : decode cX9_make 0 = .ok (.iconst 0, 1) := by decide +kernel
theorem dX9_make_1 : decode cX9_make 1 = .ok (.istore 4, 2) := by decide +kernel
theorem dX9_make_3 : decode cX9_make 3 = .ok (.iload 4, 2) := by decide +kernel
theorem dX9_make_5 : decode cX9_make 5 = .ok (.aload_n 0, 1) := by decide +kernel
theorem dX9_make_6 : decode cX9_make 6 = .ok (.getfield 9, 3) := by decide +kernel
theorem dX9_make_9 : decode cX9_make 9 = .ok (.arraylength, 1) := by decide +kernel
theorem dX9_make_10 : decode cX9_make 10 = .ok (.if_icmp .ge 17, 3) := by decide +kernel
theorem dX9_make_13 : decode cX9_make 13 = .ok (.aload_n 0, 1) := by decide +kernel
theorem dX9_make_14 : decode cX9_make 14 = .ok (.getfield 9, 3) := by decide +kernel
theorem dX9_make_17 : decode cX9_make 17 = .ok (.iload 4, 2) := by decide +kernel
theorem dX9_make_19 : decode cX9_make 19 = .ok (.iconst (-1), 1) := by decide +kernel
theorem dX9_make_20 : decode cX9_make 20 = .ok (.iastore, 1) := by decide +kernel
theorem dX9_make_21 : decode cX9_make 21 = .ok (.iinc 4 1, 3) := by decide +kernel
theorem dX9_make_24 : decode cX9_make 24 = .ok (.goto (-21), 3) := by decide +kernel
theorem dX9_make_27 : decode cX9_make 27 = .ok (.aload_n 0, 1) := by decide +kernel
theorem dX9_make_28 : decode cX9_make 28 = .ok (.iconst 0, 1) := by decide +kernel
theorem dX9_make_29 : decode cX9_make 29 = .ok (.putfield 25, 3) := by decide +kernel
theorem dX9_make_32 : decode cX9_make 32 = .ok (.aload_n 0, 1) := by decide +kernel
theorem dX9_make_33 : decode cX9_make 33 = .ok (.iconst 0, 1) := by decide +kernel
theorem dX9_make_34 : decode cX9_make 34 = .ok (.invokevirtual 28, 3) := by decide +kernel
theorem dX9_make_37 : decode cX9_make 37 = .ok (.iconst 0, 1) := by decide +kernel
theorem dX9_make_38 : decode cX9_make 38 = .ok (.istore 4, 2) := by decide +kernel
theorem dX9_make_40 : decode cX9_make 40 = .ok (.iload 4, 2) := by decide +kernel
theorem dX9_make_42 : decode cX9_make 42 = .ok (.aload_n 0, 1) := by decide +kernel
theorem dX9_make_43 : decode cX9_make 43 = .ok (.getfield 25, 3) := by decide +kernel
theorem dX9_make_46 : decode cX9_make 46 = .ok (.if_icmp .ge 48, 3) := by decide +kernel
theorem dX9_make_49 : decode cX9_make 49 = .ok (.iload 4, 2) := by decide +kernel
theorem dX9_make_51 : decode cX9_make 51 = .ok (.bipush 120, 2) := by decide +kernel
theorem dX9_make_53 : decode cX9_make 53 = .ok (.if_icmp .ge 41, 3) := by decide +kernel
theorem dX9_make_56 : decode cX9_make 56 = .ok (.aload_n 0, 1) := by decide +kernel
theorem dX9_make_57 : decode cX9_make 57 = .ok (.aload_n 1, 1) := by decide +kernel
theorem dX9_make_58 : decode cX9_make 58 = .ok (.aload_n 0, 1) := by decide +kernel
theorem dX9_make_59 : decode cX9_make 59 = .ok (.getfield 15, 3) := by decide +kernel
theorem dX9_make_62 : decode cX9_make 62 = .ok (.iload 4, 2) := by decide +kernel
theorem dX9_make_64 : decode cX9_make 64 = .ok (.iaload, 1) := by decide +kernel
theorem dX9_make_65 : decode cX9_make 65 = .ok (.iload_n 2, 1) := by decide +kernel
theorem dX9_make_66 : decode cX9_make 66 = .ok (.invokevirtual 32, 3) := by decide +kernel
theorem dX9_make_69 : decode cX9_make 69 = .ok (.invokevirtual 28, 3) := by decide +kernel
theorem dX9_make_72 : decode cX9_make 72 = .ok (.aload_n 0, 1) := by decide +kernel
theorem dX9_make_73 : decode cX9_make 73 = .ok (.aload_n 1, 1) := by decide +kernel
theorem dX9_make_74 : decode cX9_make 74 = .ok (.aload_n 0, 1) := by decide +kernel
theorem dX9_make_75 : decode cX9_make 75 = .ok (.getfield 15, 3) := by decide +kernel
theorem dX9_make_78 : decode cX9_make 78 = .ok (.iload 4, 2) := by decide +kernel
theorem dX9_make_80 : decode cX9_make 80 = .ok (.iaload, 1) := by decide +kernel
theorem dX9_make_81 : decode cX9_make 81 = .ok (.iload_n 3, 1) := by decide +kernel
theorem dX9_make_82 : decode cX9_make 82 = .ok (.invokevirtual 32, 3) := by decide +kernel
theorem dX9_make_85 : decode cX9_make 85 = .ok (.invokevirtual 28, 3) := by decide +kernel
theorem dX9_make_88 : decode cX9_make 88 = .ok (.iinc 4 1, 3) := by decide +kernel
theorem dX9_make_91 : decode cX9_make 91 = .ok (.goto (-51), 3) := by decide +kernel
theorem dX9_make_94 : decode cX9_make 94 = .ok (.return_, 1) := by decide +kernel
theorem B_X9_make_0 {g : Sg} {c t : Nat} (hL : Lay LC g c t σ) {x2 : Int} {x3 : Int} (h : (Lay LC g c t σ → GG E mX9_make 3 [some (vr 31), some (vr 24), some (vi x2), some (vi x3), some (vi 0)] [] σ rc rs Q)) : GG E mX9_make 0 [some (vr 31), some (vr 24), some (vi x2), some (vi x3), none] [] σ rc rs Q := by
  refine r_iconst (pc := 0) dX9_make_0 (inRk rfl) ?_
  refine r_istore (pc := 1) dX9_make_1 (by decide) (l2 := [some (vr 31), some (vr 24), some (vi x2), some (vi x3), some (vi 0)]) rfl ?_
  exact (h hL)
theorem B_X9_make_3 {g : Sg} {c t : Nat} (hL : Lay LC g c t σ) {x2 : Int} {x3 : Int} {x4 : Int} (h : ((120 ≤ x4 → ∀ τ1 : Sg, τ1 = sI σ 31 2 0 → (Lay LC g c t τ1 → CC E mX9_take [vr 31, vi 0] τ1 (KV (fun τ3 => Lay LC g c t τ3 ∧ (Lay LC g c t τ3 → GG E mX9_make 40 [some (vr 31), some (vr 24), some (vi x2), some (vi x3), some (vi 0)] [] τ3 rc rs Q)) (fun _ _ => False)))) ∧ (¬ (120 ≤ x4) → (0 ≤ x4 ∧ x4 < 120) ∧ ∀ τ5 : Sg, τ5 = sI σ 32 x4.toNat (-1) → inR (x4 + 1) ∧ (Lay LC g c t τ5 → GG E mX9_make 3 [some (vr 31), some (vr 24), some (vi x2), some (vi x3), some (vi (x4 + 1))] [] τ5 rc rs Q)))) : GG E mX9_make 3 [some (vr 31), some (vr 24), some (vi x2), some (vi x3), some (vi x4)] [] σ rc rs Q := by
  refine r_iload (pc := 3) dX9_make_3 rfl ?_
  refine r_aload_n (pc := 5) dX9_make_5 rfl rfl ?_
  refine r_getR (pc := 6) dX9_make_6 (k9 := 0) CL_9 (by decide) (by decide) w_267 rfl (okO_of (N := 5) (hL.sh (i := 15) rfl (by decide) (by decide)) (by decide)) ?_
  refine eqR (y := 32) (hL.rf (i := 15) rfl) ?_
  have o7 : okN σ 32 := okN_of (hL.sh (i := 16) rfl (by decide) (by decide)) (by decide) (by decide) (by decide)
  refine r_alen (pc := 9) dX9_make_9 o7.1 o7.2 ?_
  refine eqI (y := 120) (by rw [(hL.sh (i := 16) rfl (by decide) (by decide))] <;> rfl) ?_
  refine r_icmp_ge (pc := 10) (tgt := 27) dX9_make_10 (by decide) (fun c9 => ?_) (fun c9 => ?_)
  · replace h := h.1 c9
    refine r_aload_n (pc := 27) dX9_make_27 rfl rfl ?_
    refine r_iconst (pc := 28) dX9_make_28 (inRk rfl) ?_
    refine r_putI (pc := 29) dX9_make_29 (k9 := 2) CL_9 (by decide) (by decide) w_269 rfl rfl (fun h9 => absurd h9 (by decide +kernel)) (okO_of (N := 5) (hL.sh (i := 15) rfl (by decide) (by decide)) (by decide)) ?_
    refine nmS (fun τ1 e1 => ?_)
    replace h := h τ1 e1
    have hL := hL.wI e1 (by decide) (.inl (by decide))
    refine r_aload_n (pc := 32) dX9_make_32 rfl rfl ?_
    refine r_iconst (pc := 33) dX9_make_33 (inRk rfl) ?_
    refine c_VV0N (M := mX9_make) (pc := 34) (As := [vi 0]) dX9_make_34 K_X9_take w_1302 ⟨by decide, by decide⟩ (Nat.le_of_ble_eq_true rfl) rfl rfl (ci := 9) rfl rfl (by decide) (okO_of (N := 5) (hL.sh (i := 15) rfl (by decide) (by decide)) (by decide)) (h hL) (fun τ3 h8 => ?_) rfl
    replace hL := h8.1
    replace h := h8.2
    refine r_iconst (pc := 37) dX9_make_37 (inRk rfl) ?_
    refine r_istore (pc := 38) dX9_make_38 (by decide) (l2 := [some (vr 31), some (vr 24), some (vi x2), some (vi x3), some (vi 0)]) rfl ?_
    exact (h hL)
  · replace h := h.2 c9
    refine r_aload_n (pc := 13) dX9_make_13 rfl rfl ?_
    refine r_getR (pc := 14) dX9_make_14 (k9 := 0) CL_9 (by decide) (by decide) w_267 rfl (okO_of (N := 5) (hL.sh (i := 15) rfl (by decide) (by decide)) (by decide)) ?_
    refine eqR (y := 32) (hL.rf (i := 15) rfl) ?_
    refine r_iload (pc := 17) dX9_make_17 rfl ?_
    refine r_iconst (pc := 19) dX9_make_19 (inRk rfl) ?_
    obtain ⟨o4, h⟩ := h
    refine r_iastore (pc := 20) dX9_make_20 (okB_of (c := 20) (n := 120) (hL.sh (i := 16) rfl (by decide) (by decide)) (by decide) o4) ?_
    refine nmS (fun τ5 e5 => ?_)
    replace h := h τ5 e5
    have hL := hL.wI e5 (by decide) (.inl (by decide))
    obtain ⟨o6, h⟩ := h
    refine r_iinc (pc := 21) dX9_make_21 rfl (by decide) o6 (l2 := [some (vr 31), some (vr 24), some (vi x2), some (vi x3), some (vi (x4 + 1))]) rfl ?_
    refine r_goto (pc := 24) (tgt := 3) dX9_make_24 (by decide) ?_
    exact (h hL)
theorem B_X9_make_40 {g : Sg} {c t : Nat} (hL : Lay LC g c t σ) {x2 : Int} {x3 : Int} {x4 : Int} (h : (((gI σ 31 2) ≤ x4 → (Lay LC g c t σ → Q (.inl none) σ)) ∧ (¬ ((gI σ 31 2) ≤ x4) → ((120 ≤ x4 → (Lay LC g c t σ → Q (.inl none) σ)) ∧ (¬ (120 ≤ x4) → (0 ≤ x4 ∧ x4 < 120) ∧ (Lay LC g c t σ → CC E mX4_times [vr 24, vi (gI σ 33 x4.toNat), vi x2] σ (KI (fun r2 τ3 => Lay LC g c t τ3 ∧ (inR r2 → (Lay LC g c t τ3 → CC E mX9_take [vr 31, vi r2] τ3 (KV (fun τ5 => Lay LC g c t τ5 ∧ (Lay LC g c t τ5 → CC E mX4_times [vr 24, vi (gI τ5 33 x4.toNat), vi x3] τ5 (KI (fun r6 τ7 => Lay LC g c t τ7 ∧ (inR r6 → (Lay LC g c t τ7 → CC E mX9_take [vr 31, vi r6] τ7 (KV (fun τ9 => Lay LC g c t τ9 ∧ inR (x4 + 1) ∧ (Lay LC g c t τ9 → GG E mX9_make 40 [some (vr 31), some (vr 24), some (vi x2), some (vi x3), some (vi (x4 + 1))] [] τ9 rc rs Q)) (fun _ _ => False))))) (fun _ _ => False)))) (fun _ _ => False))))) (fun _ _ => False)))))))) : GG E mX9_make 40 [some (vr 31), some (vr 24), some (vi x2), some (vi x3), some (vi x4)] [] σ rc rs Q := by
  refine r_iload (pc := 40) dX9_make_40 rfl ?_
  refine r_aload_n (pc := 42) dX9_make_42 rfl rfl ?_
  refine r_getI (pc := 43) dX9_make_43 (k9 := 2) CL_9 (by decide) (by decide) w_269 rfl (okO_of (N := 5) (hL.sh (i := 15) rfl (by decide) (by decide)) (by decide)) (fun _ => ?_)
  refine r_icmp_ge (pc := 46) (tgt := 94) dX9_make_46 (by decide) (fun c9 => ?_) (fun c9 => ?_)
  · replace h := h.1 c9
    exact r_return (pc := 94) dX9_make_94 (by decide +kernel) rfl (h hL)
  · replace h := h.2 c9
    refine r_iload (pc := 49) dX9_make_49 rfl ?_
    refine r_bipush (pc := 51) dX9_make_51 (by decide) ?_
    refine r_icmp_ge (pc := 53) (tgt := 94) dX9_make_53 (by decide) (fun c9 => ?_) (fun c9 => ?_)
    · replace h := h.1 c9
      exact r_return (pc := 94) dX9_make_94 (by decide +kernel) rfl (h hL)
    · replace h := h.2 c9
      refine r_aload_n (pc := 56) dX9_make_56 rfl rfl ?_
      refine r_aload_n (pc := 57) dX9_make_57 rfl rfl ?_
      refine r_aload_n (pc := 58) dX9_make_58 rfl rfl ?_
      refine r_getR (pc := 59) dX9_make_59 (k9 := 1) CL_9 (by decide) (by decide) w_268 rfl (okO_of (N := 5) (hL.sh (i := 15) rfl (by decide) (by decide)) (by decide)) ?_
      refine eqR (y := 33) (hL.rf (i := 16) rfl) ?_
      refine r_iload (pc := 62) dX9_make_62 rfl ?_
      obtain ⟨o1, h⟩ := h
      refine r_iaload (pc := 64) dX9_make_64 (okA_of (c := 20) (n := 120) (hL.sh (i := 17) rfl (by decide) (by decide)) (by decide) o1) ?_
      refine r_iload_n (pc := 65) dX9_make_65 rfl rfl ?_
      refine c_VI0N (M := mX9_make) (pc := 66) (As := [vi (gI σ 33 x4.toNat), vi x2]) dX9_make_66 K_X4_times w_1306 ⟨by decide, by decide⟩ (Nat.le_of_ble_eq_true rfl) rfl rfl (ci := 4) rfl rfl (by decide) (okO_of (N := 12) (hL.sh (i := 8) rfl (by decide) (by decide)) (by decide)) (h hL) (fun r2 τ3 h8 hr9 => ?_) rfl
      replace hL := h8.1
      replace h := h8.2 hr9
      refine c_VV0N (M := mX9_make) (pc := 69) (As := [vi r2]) dX9_make_69 K_X9_take w_1302 ⟨by decide, by decide⟩ (Nat.le_of_ble_eq_true rfl) rfl rfl (ci := 9) rfl rfl (by decide) (okO_of (N := 5) (hL.sh (i := 15) rfl (by decide) (by decide)) (by decide)) (h hL) (fun τ5 h8 => ?_) rfl
      replace hL := h8.1
      replace h := h8.2
      refine r_aload_n (pc := 72) dX9_make_72 rfl rfl ?_
      refine r_aload_n (pc := 73) dX9_make_73 rfl rfl ?_
      refine r_aload_n (pc := 74) dX9_make_74 rfl rfl ?_
      refine r_getR (pc := 75) dX9_make_75 (k9 := 1) CL_9 (by decide) (by decide) w_268 rfl (okO_of (N := 5) (hL.sh (i := 15) rfl (by decide) (by decide)) (by decide)) ?_
      refine eqR (y := 33) (hL.rf (i := 16) rfl) ?_
      refine r_iload (pc := 78) dX9_make_78 rfl ?_
      refine r_iaload (pc := 80) dX9_make_80 (okA_of (c := 20) (n := 120) (hL.sh (i := 17) rfl (by decide) (by decide)) (by decide) o1) ?_
      refine r_iload_n (pc := 81) dX9_make_81 rfl rfl ?_
      refine c_VI0N (M := mX9_make) (pc := 82) (As := [vi (gI τ5 33 x4.toNat), vi x3]) dX9_make_82 K_X4_times w_1306 ⟨by decide, by decide⟩ (Nat.le_of_ble_eq_true rfl) rfl rfl (ci := 4) rfl rfl (by decide) (okO_of (N := 12) (hL.sh (i := 8) rfl (by decide) (by decide)) (by decide)) (h hL) (fun r6 τ7 h8 hr9 => ?_) rfl
      replace hL := h8.1
      replace h := h8.2 hr9
      refine c_VV0N (M := mX9_make) (pc := 85) (As := [vi r6]) dX9_make_85 K_X9_take w_1302 ⟨by decide, by decide⟩ (Nat.le_of_ble_eq_true rfl) rfl rfl (ci := 9) rfl rfl (by decide) (okO_of (N := 5) (hL.sh (i := 15) rfl (by decide) (by decide)) (by decide)) (h hL) (fun τ9 h8 => ?_) rfl
      replace hL := h8.1
      replace h := h8.2
      obtain ⟨o10, h⟩ := h
      refine r_iinc (pc := 88) dX9_make_88 rfl (by decide) o10 (l2 := [some (vr 31), some (vr 24), some (vi x2), some (vi x3), some (vi (x4 + 1))]) rfl ?_
      refine r_goto (pc := 91) (tgt := 40) dX9_make_91 (by decide) ?_
      exact (h hL)
theorem C_X9_make {a0 : Nat} {a1 : Nat} {x2 : Int} {x3 : Int} (h : GG E mX9_make 0 [some (vr a0), some (vr a1), some (vi x2), some (vi x3), none] [] σ 0 0 Q) : CC E mX9_make [vr a0, vr a1, vi x2, vi x3] σ Q := CC.of (by decide +kernel) rfl (by decide +kernel) (fun h9 => nomatch h9) (Nat.le_of_ble_eq_true rfl) h
theorem dX9_searchMakers_0 : decode cX9_searchMakers 0 = .ok (.aload_n 0, 1) := by decide +kernel
theorem dX9_searchMakers_1 : decode cX9_searchMakers 1 = .ok (.iconst (-1), 1) := by decide +kernel
theorem dX9_searchMakers_2 : decode cX9_searchMakers 2 = .ok (.putfield 18, 3) := by decide +kernel
theorem dX9_searchMakers_5 : decode cX9_searchMakers 5 = .ok (.aload_n 0, 1) := by decide +kernel
theorem dX9_searchMakers_6 : decode cX9_searchMakers 6 = .ok (.iconst (-1), 1) := by decide +kernel
theorem dX9_searchMakers_7 : decode cX9_searchMakers 7 = .ok (.putfield 22, 3) := by decide +kernel
theorem dX9_searchMakers_10 : decode cX9_searchMakers 10 = .ok (.iconst 0, 1) := by decide +kernel
theorem dX9_searchMakers_11 : decode cX9_searchMakers 11 = .ok (.istore_n 2, 1) := by decide +kernel
theorem dX9_searchMakers_12 : decode cX9_searchMakers 12 = .ok (.iload_n 2, 1) := by decide +kernel
theorem dX9_searchMakers_13 : decode cX9_searchMakers 13 = .ok (.aload_n 1, 1) := by decide +kernel
theorem dX9_searchMakers_14 : decode cX9_searchMakers 14 = .ok (.getfield 38, 3) := by decide +kernel
theorem dX9_searchMakers_17 : decode cX9_searchMakers 17 = .ok (.if_icmp .ge 23, 3) := by decide +kernel
theorem dX9_searchMakers_20 : decode cX9_searchMakers 20 = .ok (.aload_n 0, 1) := by decide +kernel
theorem dX9_searchMakers_21 : decode cX9_searchMakers 21 = .ok (.getfield 18, 3) := by decide +kernel
theorem dX9_searchMakers_24 : decode cX9_searchMakers 24 = .ok (.iconst (-1), 1) := by decide +kernel
theorem dX9_searchMakers_25 : decode cX9_searchMakers 25 = .ok (.if_icmp .ne 15, 3) := by decide +kernel
theorem dX9_searchMakers_28 : decode cX9_searchMakers 28 = .ok (.aload_n 0, 1) := by decide +kernel
theorem dX9_searchMakers_29 : decode cX9_searchMakers 29 = .ok (.aload_n 1, 1) := by decide +kernel
theorem dX9_searchMakers_30 : decode cX9_searchMakers 30 = .ok (.iload_n 2, 1) := by decide +kernel
theorem dX9_searchMakers_31 : decode cX9_searchMakers 31 = .ok (.invokevirtual 46, 3) := by decide +kernel
theorem dX9_searchMakers_34 : decode cX9_searchMakers 34 = .ok (.iinc 2 1, 3) := by decide +kernel
theorem dX9_searchMakers_37 : decode cX9_searchMakers 37 = .ok (.goto (-25), 3) := by decide +kernel
theorem dX9_searchMakers_40 : decode cX9_searchMakers 40 = .ok (.return_, 1) := by decide +kernel
theorem B_X9_searchMakers_0 {g : Sg} {c t : Nat} (hL : Lay LC g c t σ)  (h : ∀ τ1 : Sg, τ1 = sI σ 31 3 (-1) → ∀ τ2 : Sg, τ2 = sI τ1 31 4 (-1) → (Lay LC g c t τ2 → GG E mX9_searchMakers 12 [some (vr 31), some (vr 24), some (vi 0)] [] τ2 rc rs Q)) : GG E mX9_searchMakers 0 [some (vr 31), some (vr 24), none] [] σ rc rs Q := by
  refine r_aload_n (pc := 0) dX9_searchMakers_0 rfl rfl ?_
  refine r_iconst (pc := 1) dX9_searchMakers_1 (inRk rfl) ?_
  refine r_putI (pc := 2) dX9_searchMakers_2 (k9 := 3) CL_9 (by decide) (by decide) w_271 rfl rfl (fun h9 => absurd h9 (by decide +kernel)) (okO_of (N := 5) (hL.sh (i := 15) rfl (by decide) (by decide)) (by decide)) ?_
  refine nmS (fun τ1 e1 => ?_)
  replace h := h τ1 e1
  have hL := hL.wI e1 (by decide) (.inl (by decide))
  refine r_aload_n (pc := 5) dX9_searchMakers_5 rfl rfl ?_
  refine r_iconst (pc := 6) dX9_searchMakers_6 (inRk rfl) ?_
  refine r_putI (pc := 7) dX9_searchMakers_7 (k9 := 4) CL_9 (by decide) (by decide) w_273 rfl rfl (fun h9 => absurd h9 (by decide +kernel)) (okO_of (N := 5) (hL.sh (i := 15) rfl (by decide) (by decide)) (by decide)) ?_
  refine nmS (fun τ2 e2 => ?_)
  replace h := h τ2 e2
  have hL := hL.wI e2 (by decide) (.inl (by decide))
  refine r_iconst (pc := 10) dX9_searchMakers_10 (inRk rfl) ?_
  refine r_istore_n (pc := 11) dX9_searchMakers_11 rfl (by decide) (l2 := [some (vr 31), some (vr 24), some (vi 0)]) rfl ?_
  exact (h hL)
theorem B_X9_searchMakers_12 {g : Sg} {c t : Nat} (hL : Lay LC g c t σ) {x2 : Int} (h : (((gI σ 24 6) ≤ x2 → (Lay LC g c t σ → Q (.inl none) σ)) ∧ (¬ ((gI σ 24 6) ≤ x2) → (((gI σ 31 3) ≠ (-1) → (Lay LC g c t σ → Q (.inl none) σ)) ∧ ((gI σ 31 3) = (-1) → (Lay LC g c t σ → CC E mX9_searchSecond [vr 31, vr 24, vi x2] σ (KV (fun τ2 => Lay LC g c t τ2 ∧ inR (x2 + 1) ∧ (Lay LC g c t τ2 → GG E mX9_searchMakers 12 [some (vr 31), some (vr 24), some (vi (x2 + 1))] [] τ2 rc rs Q)) (fun _ _ => False)))))))) : GG E mX9_searchMakers 12 [some (vr 31), some (vr 24), some (vi x2)] [] σ rc rs Q := by
  refine r_iload_n (pc := 12) dX9_searchMakers_12 rfl rfl ?_
  refine r_aload_n (pc := 13) dX9_searchMakers_13 rfl rfl ?_
  refine r_getI (pc := 14) dX9_searchMakers_14 (k9 := 6) CL_4 (by decide) (by decide) w_220 rfl (okO_of (N := 12) (hL.sh (i := 8) rfl (by decide) (by decide)) (by decide)) (fun _ => ?_)
  refine r_icmp_ge (pc := 17) (tgt := 40) dX9_searchMakers_17 (by decide) (fun c9 => ?_) (fun c9 => ?_)
  · replace h := h.1 c9
    exact r_return (pc := 40) dX9_searchMakers_40 (by decide +kernel) rfl (h hL)
  · replace h := h.2 c9
    refine r_aload_n (pc := 20) dX9_searchMakers_20 rfl rfl ?_
    refine r_getI (pc := 21) dX9_searchMakers_21 (k9 := 3) CL_9 (by decide) (by decide) w_271 rfl (okO_of (N := 5) (hL.sh (i := 15) rfl (by decide) (by decide)) (by decide)) (fun _ => ?_)
    refine r_iconst (pc := 24) dX9_searchMakers_24 (inRk rfl) ?_
    refine r_icmp_ne (pc := 25) (tgt := 40) dX9_searchMakers_25 (by decide) (fun c9 => ?_) (fun c9 => ?_)
    · replace h := h.1 c9
      exact r_return (pc := 40) dX9_searchMakers_40 (by decide +kernel) rfl (h hL)
    · replace h := h.2 c9
      refine r_aload_n (pc := 28) dX9_searchMakers_28 rfl rfl ?_
      refine r_aload_n (pc := 29) dX9_searchMakers_29 rfl rfl ?_
      refine r_iload_n (pc := 30) dX9_searchMakers_30 rfl rfl ?_
      refine c_VV0N (M := mX9_searchMakers) (pc := 31) (As := [vr 24, vi x2]) dX9_searchMakers_31 K_X9_searchSecond w_1361 ⟨by decide, by decide⟩ (Nat.le_of_ble_eq_true rfl) rfl rfl (ci := 9) rfl rfl (by decide) (okO_of (N := 5) (hL.sh (i := 15) rfl (by decide) (by decide)) (by decide)) (h hL) (fun τ2 h8 => ?_) rfl
      replace hL := h8.1
      replace h := h8.2
      obtain ⟨o3, h⟩ := h
      refine r_iinc (pc := 34) dX9_searchMakers_34 rfl (by decide) o3 (l2 := [some (vr 31), some (vr 24), some (vi (x2 + 1))]) rfl ?_
      refine r_goto (pc := 37) (tgt := 12) dX9_searchMakers_37 (by decide) ?_
      exact (h hL)
theorem C_X9_searchMakers {a0 : Nat} {a1 : Nat} (h : GG E mX9_searchMakers 0 [some (vr a0), some (vr a1), none] [] σ 0 0 Q) : CC E mX9_searchMakers [vr a0, vr a1] σ Q := CC.of (by decide +kernel) rfl (by decide +kernel) (fun h9 => nomatch h9) (Nat.le_of_ble_eq_true rfl) h
theorem dX9_searchSecond_0 : decode cX9_searchSecond 0 = .ok (.iload_n 2, 1) := by decide +kernel
theorem dX9_searchSecond_1 : decode cX9_searchSecond 1 = .ok (.istore_n 3, 1) := by decide +kernel
theorem dX9_searchSecond_2 : decode cX9_searchSecond 2 = .ok (.iload_n 3, 1) := by decide +kernel
theorem dX9_searchSecond_3 : decode cX9_searchSecond 3 = .ok (.aload_n 1, 1) := by decide +kernel
theorem dX9_searchSecond_4 : decode cX9_searchSecond 4 = .ok (.getfield 38, 3) := by decide +kernel
theorem dX9_searchSecond_7 : decode cX9_searchSecond 7 = .ok (.if_icmp .ge 38, 3) := by decide +kernel
theorem dX9_searchSecond_10 : decode cX9_searchSecond 10 = .ok (.aload_n 0, 1) := by decide +kernel
theorem dX9_searchSecond_11 : decode cX9_searchSecond 11 = .ok (.aload_n 1, 1) := by decide +kernel
theorem dX9_searchSecond_12 : decode cX9_searchSecond 12 = .ok (.iload_n 2, 1) := by decide +kernel
theorem dX9_searchSecond_13 : decode cX9_searchSecond 13 = .ok (.iload_n 3, 1) := by decide +kernel
theorem dX9_searchSecond_14 : decode cX9_searchSecond 14 = .ok (.invokevirtual 50, 3) := by decide +kernel
theorem dX9_searchSecond_17 : decode cX9_searchSecond 17 = .ok (.aload_n 0, 1) := by decide +kernel
theorem dX9_searchSecond_18 : decode cX9_searchSecond 18 = .ok (.getfield 25, 3) := by decide +kernel
theorem dX9_searchSecond_21 : decode cX9_searchSecond 21 = .ok (.aload_n 1, 1) := by decide +kernel
theorem dX9_searchSecond_22 : decode cX9_searchSecond 22 = .ok (.getfield 38, 3) := by decide +kernel
theorem dX9_searchSecond_25 : decode cX9_searchSecond 25 = .ok (.if_icmp .ne 14, 3) := by decide +kernel
theorem dX9_searchSecond_28 : decode cX9_searchSecond 28 = .ok (.aload_n 0, 1) := by decide +kernel
theorem dX9_searchSecond_29 : decode cX9_searchSecond 29 = .ok (.iload_n 2, 1) := by decide +kernel
theorem dX9_searchSecond_30 : decode cX9_searchSecond 30 = .ok (.putfield 18, 3) := by decide +kernel
theorem dX9_searchSecond_33 : decode cX9_searchSecond 33 = .ok (.aload_n 0, 1) := by decide +kernel
theorem dX9_searchSecond_34 : decode cX9_searchSecond 34 = .ok (.iload_n 3, 1) := by decide +kernel
theorem dX9_searchSecond_35 : decode cX9_searchSecond 35 = .ok (.putfield 22, 3) := by decide +kernel
theorem dX9_searchSecond_38 : decode cX9_searchSecond 38 = .ok (.return_, 1) := by decide +kernel
theorem dX9_searchSecond_39 : decode cX9_searchSecond 39 = .ok (.iinc 3 1, 3) := by decide +kernel
theorem dX9_searchSecond_42 : decode cX9_searchSecond 42 = .ok (.goto (-40), 3) := by decide +kernel
theorem dX9_searchSecond_45 : decode cX9_searchSecond 45 = .ok (.return_, 1) := by decide +kernel
theorem B_X9_searchSecond_0 {g : Sg} {c t : Nat} (hL : Lay LC g c t σ) {x2 : Int} (h : (Lay LC g c t σ → GG E mX9_searchSecond 2 [some (vr 31), some (vr 24), some (vi x2), some (vi x2)] [] σ rc rs Q)) : GG E mX9_searchSecond 0 [some (vr 31), some (vr 24), some (vi x2), none] [] σ rc rs Q := by
  refine r_iload_n (pc := 0) dX9_searchSecond_0 rfl rfl ?_
  refine r_istore_n (pc := 1) dX9_searchSecond_1 rfl (by decide) (l2 := [some (vr 31), some (vr 24), some (vi x2), some (vi x2)]) rfl ?_
  exact (h hL)
theorem B_X9_searchSecond_2 {g : Sg} {c t : Nat} (hL : Lay LC g c t σ) {x2 : Int} {x3 : Int} (h : (((gI σ 24 6) ≤ x3 → (Lay LC g c t σ → Q (.inl none) σ)) ∧ (¬ ((gI σ 24 6) ≤ x3) → (Lay LC g c t σ → CC E mX9_make [vr 31, vr 24, vi x2, vi x3] σ (KV (fun τ2 => Lay LC g c t τ2 ∧ (((gI τ2 31 2) ≠ (gI τ2 24 6) → inR (x3 + 1) ∧ (Lay LC g c t τ2 → GG E mX9_searchSecond 2 [some (vr 31), some (vr 24), some (vi x2), some (vi (x3 + 1))] [] τ2 rc rs Q)) ∧ ((gI τ2 31 2) = (gI τ2 24 6) → ∀ τ4 : Sg, τ4 = sI τ2 31 3 x2 → ∀ τ5 : Sg, τ5 = sI τ4 31 4 x3 → (Lay LC g c t τ5 → Q (.inl none) τ5)))) (fun _ _ => False)))))) : GG E mX9_searchSecond 2 [some (vr 31), some (vr 24), some (vi x2), some (vi x3)] [] σ rc rs Q := by
  refine r_iload_n (pc := 2) dX9_searchSecond_2 rfl rfl ?_
  refine r_aload_n (pc := 3) dX9_searchSecond_3 rfl rfl ?_
  refine r_getI (pc := 4) dX9_searchSecond_4 (k9 := 6) CL_4 (by decide) (by decide) w_220 rfl (okO_of (N := 12) (hL.sh (i := 8) rfl (by decide) (by decide)) (by decide)) (fun _ => ?_)
  refine r_icmp_ge (pc := 7) (tgt := 45) dX9_searchSecond_7 (by decide) (fun c9 => ?_) (fun c9 => ?_)
  · replace h := h.1 c9
    exact r_return (pc := 45) dX9_searchSecond_45 (by decide +kernel) rfl (h hL)
  · replace h := h.2 c9
    refine r_aload_n (pc := 10) dX9_searchSecond_10 rfl rfl ?_
    refine r_aload_n (pc := 11) dX9_searchSecond_11 rfl rfl ?_
    refine r_iload_n (pc := 12) dX9_searchSecond_12 rfl rfl ?_
    refine r_iload_n (pc := 13) dX9_searchSecond_13 rfl rfl ?_
    refine c_VV0N (M := mX9_searchSecond) (pc := 14) (As := [vr 24, vi x2, vi x3]) dX9_searchSecond_14 K_X9_make w_1365 ⟨by decide, by decide⟩ (Nat.le_of_ble_eq_true rfl) rfl rfl (ci := 9) rfl rfl (by decide) (okO_of (N := 5) (hL.sh (i := 15) rfl (by decide) (by decide)) (by decide)) (h hL) (fun τ2 h8 => ?_) rfl
    replace hL := h8.1
    replace h := h8.2
    refine r_aload_n (pc := 17) dX9_searchSecond_17 rfl rfl ?_
    refine r_getI (pc := 18) dX9_searchSecond_18 (k9 := 2) CL_9 (by decide) (by decide) w_269 rfl (okO_of (N := 5) (hL.sh (i := 15) rfl (by decide) (by decide)) (by decide)) (fun _ => ?_)
    refine r_aload_n (pc := 21) dX9_searchSecond_21 rfl rfl ?_
    refine r_getI (pc := 22) dX9_searchSecond_22 (k9 := 6) CL_4 (by decide) (by decide) w_220 rfl (okO_of (N := 12) (hL.sh (i := 8) rfl (by decide) (by decide)) (by decide)) (fun _ => ?_)
    refine r_icmp_ne (pc := 25) (tgt := 39) dX9_searchSecond_25 (by decide) (fun c9 => ?_) (fun c9 => ?_)
    · replace h := h.1 c9
      obtain ⟨o3, h⟩ := h
      refine r_iinc (pc := 39) dX9_searchSecond_39 rfl (by decide) o3 (l2 := [some (vr 31), some (vr 24), some (vi x2), some (vi (x3 + 1))]) rfl ?_
      refine r_goto (pc := 42) (tgt := 2) dX9_searchSecond_42 (by decide) ?_
      exact (h hL)
    · replace h := h.2 c9
      refine r_aload_n (pc := 28) dX9_searchSecond_28 rfl rfl ?_
      refine r_iload_n (pc := 29) dX9_searchSecond_29 rfl rfl ?_
      refine r_putI (pc := 30) dX9_searchSecond_30 (k9 := 3) CL_9 (by decide) (by decide) w_271 rfl rfl (fun h9 => absurd h9 (by decide +kernel)) (okO_of (N := 5) (hL.sh (i := 15) rfl (by decide) (by decide)) (by decide)) ?_
      refine nmS (fun τ4 e4 => ?_)
      replace h := h τ4 e4
      have hL := hL.wI e4 (by decide) (.inl (by decide))
      refine r_aload_n (pc := 33) dX9_searchSecond_33 rfl rfl ?_
      refine r_iload_n (pc := 34) dX9_searchSecond_34 rfl rfl ?_
      refine r_putI (pc := 35) dX9_searchSecond_35 (k9 := 4) CL_9 (by decide) (by decide) w_273 rfl rfl (fun h9 => absurd h9 (by decide +kernel)) (okO_of (N := 5) (hL.sh (i := 15) rfl (by decide) (by decide)) (by decide)) ?_
      refine nmS (fun τ5 e5 => ?_)
      replace h := h τ5 e5
      have hL := hL.wI e5 (by decide) (.inl (by decide))
      exact r_return (pc := 38) dX9_searchSecond_38 (by decide +kernel) rfl (h hL)
theorem C_X9_searchSecond {a0 : Nat} {a1 : Nat} {x2 : Int} (h : GG E mX9_searchSecond 0 [some (vr a0), some (vr a1), some (vi x2), none] [] σ 0 0 Q) : CC E mX9_searchSecond [vr a0, vr a1, vi x2] σ Q := CC.of (by decide +kernel) rfl (by decide +kernel) (fun h9 => nomatch h9) (Nat.le_of_ble_eq_true rfl) h
theorem dX9_take_0 : decode cX9_take 0 = .ok (.iload_n 1, 1) := by decide +kernel
theorem dX9_take_1 : decode cX9_take 1 = .ok (.ifCond .lt 64, 3) := by decide +kernel
theorem dX9_take_4 : decode cX9_take 4 = .ok (.iload_n 1, 1) := by decide +kernel
theorem dX9_take_5 : decode cX9_take 5 = .ok (.aload_n 0, 1) := by decide +kernel
theorem dX9_take_6 : decode cX9_take 6 = .ok (.getfield 9, 3) := by decide +kernel
theorem dX9_take_9 : decode cX9_take 9 = .ok (.arraylength, 1) := by decide +kernel
theorem dX9_take_10 : decode cX9_take 10 = .ok (.if_icmp .ge 55, 3) := by decide +kernel
theorem dX9_take_13 : decode cX9_take 13 = .ok (.aload_n 0, 1) := by decide +kernel
theorem dX9_take_14 : decode cX9_take 14 = .ok (.getfield 25, 3) := by decide +kernel
theorem dX9_take_17 : decode cX9_take 17 = .ok (.aload_n 0, 1) := by decide +kernel
theorem dX9_take_18 : decode cX9_take 18 = .ok (.getfield 15, 3) := by decide +kernel
theorem dX9_take_21 : decode cX9_take 21 = .ok (.arraylength, 1) := by decide +kernel
theorem dX9_take_22 : decode cX9_take 22 = .ok (.if_icmp .ge 43, 3) := by decide +kernel
theorem dX9_take_25 : decode cX9_take 25 = .ok (.aload_n 0, 1) := by decide +kernel
theorem dX9_take_26 : decode cX9_take 26 = .ok (.getfield 9, 3) := by decide +kernel
theorem dX9_take_29 : decode cX9_take 29 = .ok (.iload_n 1, 1) := by decide +kernel
theorem dX9_take_30 : decode cX9_take 30 = .ok (.iaload, 1) := by decide +kernel
theorem dX9_take_31 : decode cX9_take 31 = .ok (.iconst (-1), 1) := by decide +kernel
theorem dX9_take_32 : decode cX9_take 32 = .ok (.if_icmp .ne 33, 3) := by decide +kernel
theorem dX9_take_35 : decode cX9_take 35 = .ok (.aload_n 0, 1) := by decide +kernel
theorem dX9_take_36 : decode cX9_take 36 = .ok (.getfield 9, 3) := by decide +kernel
theorem dX9_take_39 : decode cX9_take 39 = .ok (.iload_n 1, 1) := by decide +kernel
theorem dX9_take_40 : decode cX9_take 40 = .ok (.aload_n 0, 1) := by decide +kernel
theorem dX9_take_41 : decode cX9_take 41 = .ok (.getfield 25, 3) := by decide +kernel
theorem dX9_take_44 : decode cX9_take 44 = .ok (.iastore, 1) := by decide +kernel
theorem dX9_take_45 : decode cX9_take 45 = .ok (.aload_n 0, 1) := by decide +kernel
theorem dX9_take_46 : decode cX9_take 46 = .ok (.getfield 15, 3) := by decide +kernel
theorem dX9_take_49 : decode cX9_take 49 = .ok (.aload_n 0, 1) := by decide +kernel
theorem dX9_take_50 : decode cX9_take 50 = .ok (.getfield 25, 3) := by decide +kernel
theorem dX9_take_53 : decode cX9_take 53 = .ok (.iload_n 1, 1) := by decide +kernel
theorem dX9_take_54 : decode cX9_take 54 = .ok (.iastore, 1) := by decide +kernel
theorem dX9_take_55 : decode cX9_take 55 = .ok (.aload_n 0, 1) := by decide +kernel
theorem dX9_take_56 : decode cX9_take 56 = .ok (.dup, 1) := by decide +kernel
theorem dX9_take_57 : decode cX9_take 57 = .ok (.getfield 25, 3) := by decide +kernel
theorem dX9_take_60 : decode cX9_take 60 = .ok (.iconst 1, 1) := by decide +kernel
theorem dX9_take_61 : decode cX9_take 61 = .ok (.iadd, 1) := by decide +kernel
theorem dX9_take_62 : decode cX9_take 62 = .ok (.putfield 25, 3) := by decide +kernel
theorem dX9_take_65 : decode cX9_take 65 = .ok (.return_, 1) := by decide +kernel
theorem B_X9_take_0 {g : Sg} {c t : Nat} (hL : Lay LC g c t σ) {x1 : Int} (h : ((x1 < 0 → (Lay LC g c t σ → Q (.inl none) σ)) ∧ (¬ (x1 < 0) → ((120 ≤ x1 → (Lay LC g c t σ → Q (.inl none) σ)) ∧ (¬ (120 ≤ x1) → ((120 ≤ (gI σ 31 2) → (Lay LC g c t σ → Q (.inl none) σ)) ∧ (¬ (120 ≤ (gI σ 31 2)) → (0 ≤ x1 ∧ x1 < 120) ∧ (((gI σ 32 x1.toNat) ≠ (-1) → (Lay LC g c t σ → Q (.inl none) σ)) ∧ ((gI σ 32 x1.toNat) = (-1) → ∀ τ2 : Sg, τ2 = sI σ 32 x1.toNat (gI σ 31 2) → (0 ≤ (gI τ2 31 2) ∧ (gI τ2 31 2) < 120) ∧ ∀ τ4 : Sg, τ4 = sI τ2 33 (gI τ2 31 2).toNat x1 → inR ((gI τ4 31 2) + 1) ∧ ∀ τ6 : Sg, τ6 = sI τ4 31 2 ((gI τ4 31 2) + 1) → (Lay LC g c t τ6 → Q (.inl none) τ6)))))))))) : GG E mX9_take 0 [some (vr 31), some (vi x1)] [] σ rc rs Q := by
  refine r_iload_n (pc := 0) dX9_take_0 rfl rfl ?_
  refine r_if_lt (pc := 1) (tgt := 65) dX9_take_1 (by decide) (fun c9 => ?_) (fun c9 => ?_)
  · replace h := h.1 c9
    exact r_return (pc := 65) dX9_take_65 (by decide +kernel) rfl (h hL)
  · replace h := h.2 c9
    refine r_iload_n (pc := 4) dX9_take_4 rfl rfl ?_
    refine r_aload_n (pc := 5) dX9_take_5 rfl rfl ?_
    refine r_getR (pc := 6) dX9_take_6 (k9 := 0) CL_9 (by decide) (by decide) w_267 rfl (okO_of (N := 5) (hL.sh (i := 15) rfl (by decide) (by decide)) (by decide)) ?_
    refine eqR (y := 32) (hL.rf (i := 15) rfl) ?_
    have o8 : okN σ 32 := okN_of (hL.sh (i := 16) rfl (by decide) (by decide)) (by decide) (by decide) (by decide)
    refine r_alen (pc := 9) dX9_take_9 o8.1 o8.2 ?_
    refine eqI (y := 120) (by rw [(hL.sh (i := 16) rfl (by decide) (by decide))] <;> rfl) ?_
    refine r_icmp_ge (pc := 10) (tgt := 65) dX9_take_10 (by decide) (fun c9 => ?_) (fun c9 => ?_)
    · replace h := h.1 c9
      exact r_return (pc := 65) dX9_take_65 (by decide +kernel) rfl (h hL)
    · replace h := h.2 c9
      refine r_aload_n (pc := 13) dX9_take_13 rfl rfl ?_
      refine r_getI (pc := 14) dX9_take_14 (k9 := 2) CL_9 (by decide) (by decide) w_269 rfl (okO_of (N := 5) (hL.sh (i := 15) rfl (by decide) (by decide)) (by decide)) (fun _ => ?_)
      refine r_aload_n (pc := 17) dX9_take_17 rfl rfl ?_
      refine r_getR (pc := 18) dX9_take_18 (k9 := 1) CL_9 (by decide) (by decide) w_268 rfl (okO_of (N := 5) (hL.sh (i := 15) rfl (by decide) (by decide)) (by decide)) ?_
      refine eqR (y := 33) (hL.rf (i := 16) rfl) ?_
      have o7 : okN σ 33 := okN_of (hL.sh (i := 17) rfl (by decide) (by decide)) (by decide) (by decide) (by decide)
      refine r_alen (pc := 21) dX9_take_21 o7.1 o7.2 ?_
      refine eqI (y := 120) (by rw [(hL.sh (i := 17) rfl (by decide) (by decide))] <;> rfl) ?_
      refine r_icmp_ge (pc := 22) (tgt := 65) dX9_take_22 (by decide) (fun c9 => ?_) (fun c9 => ?_)
      · replace h := h.1 c9
        exact r_return (pc := 65) dX9_take_65 (by decide +kernel) rfl (h hL)
      · replace h := h.2 c9
        refine r_aload_n (pc := 25) dX9_take_25 rfl rfl ?_
        refine r_getR (pc := 26) dX9_take_26 (k9 := 0) CL_9 (by decide) (by decide) w_267 rfl (okO_of (N := 5) (hL.sh (i := 15) rfl (by decide) (by decide)) (by decide)) ?_
        refine eqR (y := 32) (hL.rf (i := 15) rfl) ?_
        refine r_iload_n (pc := 29) dX9_take_29 rfl rfl ?_
        obtain ⟨o1, h⟩ := h
        refine r_iaload (pc := 30) dX9_take_30 (okA_of (c := 20) (n := 120) (hL.sh (i := 16) rfl (by decide) (by decide)) (by decide) o1) ?_
        refine r_iconst (pc := 31) dX9_take_31 (inRk rfl) ?_
        refine r_icmp_ne (pc := 32) (tgt := 65) dX9_take_32 (by decide) (fun c9 => ?_) (fun c9 => ?_)
        · replace h := h.1 c9
          exact r_return (pc := 65) dX9_take_65 (by decide +kernel) rfl (h hL)
        · replace h := h.2 c9
          refine r_aload_n (pc := 35) dX9_take_35 rfl rfl ?_
          refine r_getR (pc := 36) dX9_take_36 (k9 := 0) CL_9 (by decide) (by decide) w_267 rfl (okO_of (N := 5) (hL.sh (i := 15) rfl (by decide) (by decide)) (by decide)) ?_
          refine eqR (y := 32) (hL.rf (i := 15) rfl) ?_
          refine r_iload_n (pc := 39) dX9_take_39 rfl rfl ?_
          refine r_aload_n (pc := 40) dX9_take_40 rfl rfl ?_
          refine r_getI (pc := 41) dX9_take_41 (k9 := 2) CL_9 (by decide) (by decide) w_269 rfl (okO_of (N := 5) (hL.sh (i := 15) rfl (by decide) (by decide)) (by decide)) (fun _ => ?_)
          refine r_iastore (pc := 44) dX9_take_44 (okB_of (c := 20) (n := 120) (hL.sh (i := 16) rfl (by decide) (by decide)) (by decide) o1) ?_
          refine nmS (fun τ2 e2 => ?_)
          replace h := h τ2 e2
          have hL := hL.wI e2 (by decide) (.inl (by decide))
          refine r_aload_n (pc := 45) dX9_take_45 rfl rfl ?_
          refine r_getR (pc := 46) dX9_take_46 (k9 := 1) CL_9 (by decide) (by decide) w_268 rfl (okO_of (N := 5) (hL.sh (i := 15) rfl (by decide) (by decide)) (by decide)) ?_
          refine eqR (y := 33) (hL.rf (i := 16) rfl) ?_
          refine r_aload_n (pc := 49) dX9_take_49 rfl rfl ?_
          refine r_getI (pc := 50) dX9_take_50 (k9 := 2) CL_9 (by decide) (by decide) w_269 rfl (okO_of (N := 5) (hL.sh (i := 15) rfl (by decide) (by decide)) (by decide)) (fun _ => ?_)
          refine r_iload_n (pc := 53) dX9_take_53 rfl rfl ?_
          obtain ⟨o3, h⟩ := h
          refine r_iastore (pc := 54) dX9_take_54 (okB_of (c := 20) (n := 120) (hL.sh (i := 17) rfl (by decide) (by decide)) (by decide) o3) ?_
          refine nmS (fun τ4 e4 => ?_)
          replace h := h τ4 e4
          have hL := hL.wI e4 (by decide) (.inl (by decide))
          refine r_aload_n (pc := 55) dX9_take_55 rfl rfl ?_
          refine r_dup (pc := 56) dX9_take_56 (fun _ h9 => nomatch h9) ?_
          refine r_getI (pc := 57) dX9_take_57 (k9 := 2) CL_9 (by decide) (by decide) w_269 rfl (okO_of (N := 5) (hL.sh (i := 15) rfl (by decide) (by decide)) (by decide)) (fun _ => ?_)
          refine r_iconst (pc := 60) dX9_take_60 (inRk rfl) ?_
          obtain ⟨o5, h⟩ := h
          refine r_iadd (pc := 61) dX9_take_61 o5 ?_
          refine r_putI (pc := 62) dX9_take_62 (k9 := 2) CL_9 (by decide) (by decide) w_269 rfl rfl (fun h9 => absurd h9 (by decide +kernel)) (okO_of (N := 5) (hL.sh (i := 15) rfl (by decide) (by decide)) (by decide)) ?_
          refine nmS (fun τ6 e6 => ?_)
          replace h := h τ6 e6
          have hL := hL.wI e6 (by decide) (.inl (by decide))
          exact r_return (pc := 65) dX9_take_65 (by decide +kernel) rfl (h hL)
theorem C_X9_take {a0 : Nat} {x1 : Int} (h : GG E mX9_take 0 [some (vr a0), some (vi x1)] [] σ 0 0 Q) : CC E mX9_take [vr a0, vi x1] σ Q := CC.of (by decide +kernel) rfl (by decide +kernel) (fun h9 => nomatch h9) (Nat.le_of_ble_eq_true rfl) h
end G23
