/-! ===== decode rows and trees: 24.reader ===== -/
section G24
variable {E : Ev} {σ : Sg} {rc rs : Nat} {Q : NO → Sg → Prop}
theorem dX7_fail_0 : decode cX7_fail 0 = .ok (.aload_n 0, 1) := by decide +kernel
theorem dX7_fail_1 : decode cX7_fail 1 = .ok (.iload_n 1, 1) := by decide +kernel
theorem dX7_fail_2 : decode cX7_fail 2 = .ok (.putfield 26, 3) := by decide +kernel
theorem dX7_fail_5 : decode cX7_fail 5 = .ok (.aload_n 0, 1) := by decide +kernel
theorem dX7_fail_6 : decode cX7_fail 6 = .ok (.iload_n 2, 1) := by decide +kernel
theorem dX7_fail_7 : decode cX7_fail 7 = .ok (.putfield 29, 3) := by decide +kernel
theorem dX7_fail_10 : decode cX7_fail 10 = .ok (.iconst 0, 1) := by decide +kernel
theorem dX7_fail_11 : decode cX7_fail 11 = .ok (.ireturn, 1) := by decide +kernel
theorem B_X7_fail_0 {g : Sg} {c t : Nat} (hL : Lay LC g c t σ) {x1 : Int} {x2 : Int} (h : ∀ τ1 : Sg, τ1 = sI σ 19 4 x1 → ∀ τ2 : Sg, τ2 = sI τ1 19 5 x2 → (Lay LC g c t τ2 → Q (.inl (some (vi 0))) τ2)) : GG E mX7_fail 0 [some (vr 19), some (vi x1), some (vi x2)] [] σ rc rs Q := by
  refine r_aload_n (pc := 0) dX7_fail_0 rfl rfl ?_
  refine r_iload_n (pc := 1) dX7_fail_1 rfl rfl ?_
  refine r_putI (pc := 2) dX7_fail_2 (k9 := 4) CL_7 (by decide) (by decide) w_158 rfl rfl (fun h9 => absurd h9 (by decide +kernel)) (okO_of (N := 6) (hL.sh (i := 3) rfl (by decide) (by decide)) (by decide)) ?_
  refine nmS (fun τ1 e1 => ?_)
  replace h := h τ1 e1
  have hL := hL.wI e1 (by decide) (.inl (by decide))
  refine r_aload_n (pc := 5) dX7_fail_5 rfl rfl ?_
  refine r_iload_n (pc := 6) dX7_fail_6 rfl rfl ?_
  refine r_putI (pc := 7) dX7_fail_7 (k9 := 5) CL_7 (by decide) (by decide) w_160 rfl rfl (fun h9 => absurd h9 (by decide +kernel)) (okO_of (N := 6) (hL.sh (i := 3) rfl (by decide) (by decide)) (by decide)) ?_
  refine nmS (fun τ2 e2 => ?_)
  replace h := h τ2 e2
  have hL := hL.wI e2 (by decide) (.inl (by decide))
  refine r_iconst (pc := 10) dX7_fail_10 (inRk rfl) ?_
  exact r_ireturn (pc := 11) (ty := .boolean) dX7_fail_11 (by decide +kernel) rfl (nar_bool (by decide)) (h hL)
theorem C_X7_fail {a0 : Nat} {x1 : Int} {x2 : Int} (h : GG E mX7_fail 0 [some (vr a0), some (vi x1), some (vi x2)] [] σ 0 0 Q) : CC E mX7_fail [vr a0, vi x1, vi x2] σ Q := CC.of (by decide +kernel) rfl (by decide +kernel) (fun h9 => nomatch h9) (Nat.le_of_ble_eq_true rfl) h
theorem dX7_here_0 : decode cX7_here 0 = .ok (.aload_n 0, 1) := by decide +kernel
theorem dX7_here_1 : decode cX7_here 1 = .ok (.getfield 23, 3) := by decide +kernel
theorem dX7_here_4 : decode cX7_here 4 = .ok (.ifCond .lt 47, 3) := by decide +kernel
theorem dX7_here_7 : decode cX7_here 7 = .ok (.aload_n 0, 1) := by decide +kernel
theorem dX7_here_8 : decode cX7_here 8 = .ok (.getfield 23, 3) := by decide +kernel
theorem dX7_here_11 : decode cX7_here 11 = .ok (.aload_n 0, 1) := by decide +kernel
theorem dX7_here_12 : decode cX7_here 12 = .ok (.getfield 19, 3) := by decide +kernel
theorem dX7_here_15 : decode cX7_here 15 = .ok (.if_icmp .ge 36, 3) := by decide +kernel
theorem dX7_here_18 : decode cX7_here 18 = .ok (.aload_n 0, 1) := by decide +kernel
theorem dX7_here_19 : decode cX7_here 19 = .ok (.getfield 23, 3) := by decide +kernel
theorem dX7_here_22 : decode cX7_here 22 = .ok (.aload_n 0, 1) := by decide +kernel
theorem dX7_here_23 : decode cX7_here 23 = .ok (.getfield 15, 3) := by decide +kernel
theorem dX7_here_26 : decode cX7_here 26 = .ok (.getfield 105, 3) := by decide +kernel
theorem dX7_here_29 : decode cX7_here 29 = .ok (.if_icmp .ge 22, 3) := by decide +kernel
theorem dX7_here_32 : decode cX7_here 32 = .ok (.aload_n 0, 1) := by decide +kernel
theorem dX7_here_33 : decode cX7_here 33 = .ok (.getfield 15, 3) := by decide +kernel
theorem dX7_here_36 : decode cX7_here 36 = .ok (.getfield 110, 3) := by decide +kernel
theorem dX7_here_39 : decode cX7_here 39 = .ok (.aload_n 0, 1) := by decide +kernel
theorem dX7_here_40 : decode cX7_here 40 = .ok (.getfield 23, 3) := by decide +kernel
theorem dX7_here_43 : decode cX7_here 43 = .ok (.baload, 1) := by decide +kernel
theorem dX7_here_44 : decode cX7_here 44 = .ok (.sipush 255, 3) := by decide +kernel
theorem dX7_here_47 : decode cX7_here 47 = .ok (.iand, 1) := by decide +kernel
theorem dX7_here_48 : decode cX7_here 48 = .ok (.goto 4, 3) := by decide +kernel
theorem dX7_here_51 : decode cX7_here 51 = .ok (.iconst (-1), 1) := by decide +kernel
theorem dX7_here_52 : decode cX7_here 52 = .ok (.ireturn, 1) := by decide +kernel
theorem B_X7_here_0 {g : Sg} {c t : Nat} (hL : Lay LC g c t σ)  (h : (((gI σ 19 3) < 0 → (Lay LC g c t σ → Q (.inl (some (vi (-1)))) σ)) ∧ (¬ ((gI σ 19 3) < 0) → (((gI σ 19 2) ≤ (gI σ 19 3) → (Lay LC g c t σ → Q (.inl (some (vi (-1)))) σ)) ∧ (¬ ((gI σ 19 2) ≤ (gI σ 19 3)) → (((gI σ 17 1) ≤ (gI σ 19 3) → (Lay LC g c t σ → Q (.inl (some (vi (-1)))) σ)) ∧ (¬ ((gI σ 17 1) ≤ (gI σ 19 3)) → (0 ≤ (gI σ 19 3) ∧ (gI σ 19 3) < 400) ∧ (Lay LC g c t σ → Q (.inl (some (vi (b_iandq (gI σ 18 (gI σ 19 3).toNat) 255)))) σ)))))))) : GG E mX7_here 0 [some (vr 19)] [] σ rc rs Q := by
  refine r_aload_n (pc := 0) dX7_here_0 rfl rfl ?_
  refine r_getI (pc := 1) dX7_here_1 (k9 := 3) CL_7 (by decide) (by decide) w_157 rfl (okO_of (N := 6) (hL.sh (i := 3) rfl (by decide) (by decide)) (by decide)) (fun _ => ?_)
  refine r_if_lt (pc := 4) (tgt := 51) dX7_here_4 (by decide) (fun c9 => ?_) (fun c9 => ?_)
  · replace h := h.1 c9
    refine r_iconst (pc := 51) dX7_here_51 (inRk rfl) ?_
    exact r_ireturn (pc := 52) (ty := .int) dX7_here_52 (by decide +kernel) rfl (nar_i _) (h hL)
  · replace h := h.2 c9
    refine r_aload_n (pc := 7) dX7_here_7 rfl rfl ?_
    refine r_getI (pc := 8) dX7_here_8 (k9 := 3) CL_7 (by decide) (by decide) w_157 rfl (okO_of (N := 6) (hL.sh (i := 3) rfl (by decide) (by decide)) (by decide)) (fun _ => ?_)
    refine r_aload_n (pc := 11) dX7_here_11 rfl rfl ?_
    refine r_getI (pc := 12) dX7_here_12 (k9 := 2) CL_7 (by decide) (by decide) w_156 rfl (okO_of (N := 6) (hL.sh (i := 3) rfl (by decide) (by decide)) (by decide)) (fun _ => ?_)
    refine r_icmp_ge (pc := 15) (tgt := 51) dX7_here_15 (by decide) (fun c9 => ?_) (fun c9 => ?_)
    · replace h := h.1 c9
      refine r_iconst (pc := 51) dX7_here_51 (inRk rfl) ?_
      exact r_ireturn (pc := 52) (ty := .int) dX7_here_52 (by decide +kernel) rfl (nar_i _) (h hL)
    · replace h := h.2 c9
      refine r_aload_n (pc := 18) dX7_here_18 rfl rfl ?_
      refine r_getI (pc := 19) dX7_here_19 (k9 := 3) CL_7 (by decide) (by decide) w_157 rfl (okO_of (N := 6) (hL.sh (i := 3) rfl (by decide) (by decide)) (by decide)) (fun _ => ?_)
      refine r_aload_n (pc := 22) dX7_here_22 rfl rfl ?_
      refine r_getR (pc := 23) dX7_here_23 (k9 := 0) CL_7 (by decide) (by decide) w_154 rfl (okO_of (N := 6) (hL.sh (i := 3) rfl (by decide) (by decide)) (by decide)) ?_
      refine eqR (y := 17) (hL.rf (i := 3) rfl) ?_
      refine r_getI (pc := 26) dX7_here_26 (k9 := 1) CL_10 (by decide) (by decide) w_141 rfl (okO_of (N := 2) (hL.sh (i := 1) rfl (by decide) (by decide)) (by decide)) (fun _ => ?_)
      refine r_icmp_ge (pc := 29) (tgt := 51) dX7_here_29 (by decide) (fun c9 => ?_) (fun c9 => ?_)
      · replace h := h.1 c9
        refine r_iconst (pc := 51) dX7_here_51 (inRk rfl) ?_
        exact r_ireturn (pc := 52) (ty := .int) dX7_here_52 (by decide +kernel) rfl (nar_i _) (h hL)
      · replace h := h.2 c9
        refine r_aload_n (pc := 32) dX7_here_32 rfl rfl ?_
        refine r_getR (pc := 33) dX7_here_33 (k9 := 0) CL_7 (by decide) (by decide) w_154 rfl (okO_of (N := 6) (hL.sh (i := 3) rfl (by decide) (by decide)) (by decide)) ?_
        refine eqR (y := 17) (hL.rf (i := 3) rfl) ?_
        refine r_getR (pc := 36) dX7_here_36 (k9 := 0) CL_10 (by decide) (by decide) w_138 rfl (okO_of (N := 2) (hL.sh (i := 1) rfl (by decide) (by decide)) (by decide)) ?_
        refine eqR (y := 18) (hL.rf (i := 0) rfl) ?_
        refine r_aload_n (pc := 39) dX7_here_39 rfl rfl ?_
        refine r_getI (pc := 40) dX7_here_40 (k9 := 3) CL_7 (by decide) (by decide) w_157 rfl (okO_of (N := 6) (hL.sh (i := 3) rfl (by decide) (by decide)) (by decide)) (fun _ => ?_)
        obtain ⟨o1, h⟩ := h
        refine r_baload (pc := 43) dX7_here_43 (okA_of (c := 21) (n := 400) (hL.sh (i := 2) rfl (by decide) (by decide)) (by decide) o1) ?_
        refine r_sipush (pc := 44) dX7_here_44 (by decide) ?_
        refine r_iand (pc := 47) dX7_here_47 ?_
        refine r_goto (pc := 48) (tgt := 52) dX7_here_48 (by decide) ?_
        exact r_ireturn (pc := 52) (ty := .int) dX7_here_52 (by decide +kernel) rfl (nar_i _) (h hL)
theorem C_X7_here {a0 : Nat} (h : GG E mX7_here 0 [some (vr a0)] [] σ 0 0 Q) : CC E mX7_here [vr a0] σ Q := CC.of (by decide +kernel) rfl (by decide +kernel) (fun h9 => nomatch h9) (Nat.le_of_ble_eq_true rfl) h
theorem dX7_init_0 : decode cX7_init 0 = .ok (.aload_n 0, 1) := by decide +kernel
theorem dX7_init_1 : decode cX7_init 1 = .ok (.invokespecial 3, 3) := by decide +kernel
theorem dX7_init_4 : decode cX7_init 4 = .ok (.aload_n 0, 1) := by decide +kernel
theorem dX7_init_5 : decode cX7_init 5 = .ok (.bipush 8, 2) := by decide +kernel
theorem dX7_init_7 : decode cX7_init 7 = .ok (.newarray .int, 2) := by decide +kernel
theorem dX7_init_9 : decode cX7_init 9 = .ok (.putfield 9, 3) := by decide +kernel
theorem dX7_init_12 : decode cX7_init 12 = .ok (.aload_n 0, 1) := by decide +kernel
theorem dX7_init_13 : decode cX7_init 13 = .ok (.aload_n 1, 1) := by decide +kernel
theorem dX7_init_14 : decode cX7_init 14 = .ok (.putfield 15, 3) := by decide +kernel
theorem dX7_init_17 : decode cX7_init 17 = .ok (.return_, 1) := by decide +kernel
theorem B_X7_init_0 {a0 : Nat} {a1 : Nat} (h : 16 ≤ a0 ∧ 1 ≤ rc ∧ 8 ≤ rs ∧ ∀ b1 : Nat, b1 = gz σ → okO (nw σ (20, 8)) a0 7 ∧ ∀ τ3 : Sg, τ3 = sR (nw σ (20, 8)) a0 1 b1 → okO τ3 a0 7 ∧ ∀ τ5 : Sg, τ5 = sR τ3 a0 0 a1 → Q (.inl none) τ5) : GG E mX7_init 0 [some (vr a0), some (vr a1)] [] σ rc rs Q := by
  refine r_aload_n (pc := 0) dX7_init_0 rfl rfl ?_
  refine r_objInit (pc := 1) dX7_init_1 w_153 w_129 w_130 (by decide) (Nat.le_of_ble_eq_true rfl) h.1 ?_
  replace h := h.2
  refine r_aload_n (pc := 4) dX7_init_4 rfl rfl ?_
  refine r_bipush (pc := 5) dX7_init_5 (by decide) ?_
  refine r_newarray (pc := 7) dX7_init_7 (cc := 20) rfl (by decide) (by decide) w_175 (by decide) (by decide) h.1 h.2.1 ?_
  replace h := h.2.2
  change GG _ _ _ _ (vr _ :: _) (nw _ (20, 8)) (_ - 1) (_ - 8) _
  refine nmR (fun b1 e9 => ?_)
  replace h := h b1 e9
  obtain ⟨o2, h⟩ := h
  refine r_putRF (pc := 9) dX7_init_9 (k9 := 1) CL_7 (by decide) (by decide) w_155 rfl rfl rfl rfl o2 ?_
  refine nmS (fun τ3 e3 => ?_)
  replace h := h τ3 e3
  refine r_aload_n (pc := 12) dX7_init_12 rfl rfl ?_
  refine r_aload_n (pc := 13) dX7_init_13 rfl rfl ?_
  obtain ⟨o4, h⟩ := h
  refine r_putRF (pc := 14) dX7_init_14 (k9 := 0) CL_7 (by decide) (by decide) w_154 rfl rfl rfl rfl o4 ?_
  refine nmS (fun τ5 e5 => ?_)
  replace h := h τ5 e5
  exact r_return (pc := 17) dX7_init_17 (by decide +kernel) rfl h
theorem C_X7_init {a0 : Nat} {a1 : Nat} (h : GG E mX7_init 0 [some (vr a0), some (vr a1)] [] σ 1 8 Q) : CC E mX7_init [vr a0, vr a1] σ Q := CC.of (by decide +kernel) rfl (by decide +kernel) (fun h9 => rfl) (Nat.le_of_ble_eq_true rfl) h
theorem dX7_isDigit_0 : decode cX7_isDigit 0 = .ok (.iload_n 0, 1) := by decide +kernel
theorem dX7_isDigit_1 : decode cX7_isDigit 1 = .ok (.bipush 48, 2) := by decide +kernel
theorem dX7_isDigit_3 : decode cX7_isDigit 3 = .ok (.if_icmp .lt 13, 3) := by decide +kernel
theorem dX7_isDigit_6 : decode cX7_isDigit 6 = .ok (.iload_n 0, 1) := by decide +kernel
theorem dX7_isDigit_7 : decode cX7_isDigit 7 = .ok (.bipush 57, 2) := by decide +kernel
theorem dX7_isDigit_9 : decode cX7_isDigit 9 = .ok (.if_icmp .gt 7, 3) := by decide +kernel
theorem dX7_isDigit_12 : decode cX7_isDigit 12 = .ok (.iconst 1, 1) := by decide +kernel
theorem dX7_isDigit_13 : decode cX7_isDigit 13 = .ok (.goto 4, 3) := by decide +kernel
theorem dX7_isDigit_16 : decode cX7_isDigit 16 = .ok (.iconst 0, 1) := by decide +kernel
theorem dX7_isDigit_17 : decode cX7_isDigit 17 = .ok (.ireturn, 1) := by decide +kernel
theorem B_X7_isDigit_0 {x0 : Int} (h : ((x0 < 48 → Q (.inl (some (vi 0))) σ) ∧ (¬ (x0 < 48) → ((57 < x0 → Q (.inl (some (vi 0))) σ) ∧ (¬ (57 < x0) → Q (.inl (some (vi 1))) σ))))) : GG E mX7_isDigit 0 [some (vi x0)] [] σ rc rs Q := by
  refine r_iload_n (pc := 0) dX7_isDigit_0 rfl rfl ?_
  refine r_bipush (pc := 1) dX7_isDigit_1 (by decide) ?_
  refine r_icmp_lt (pc := 3) (tgt := 16) dX7_isDigit_3 (by decide) (fun c9 => ?_) (fun c9 => ?_)
  · replace h := h.1 c9
    refine r_iconst (pc := 16) dX7_isDigit_16 (inRk rfl) ?_
    exact r_ireturn (pc := 17) (ty := .boolean) dX7_isDigit_17 (by decide +kernel) rfl (nar_bool (by decide)) h
  · replace h := h.2 c9
    refine r_iload_n (pc := 6) dX7_isDigit_6 rfl rfl ?_
    refine r_bipush (pc := 7) dX7_isDigit_7 (by decide) ?_
    refine r_icmp_gt (pc := 9) (tgt := 16) dX7_isDigit_9 (by decide) (fun c9 => ?_) (fun c9 => ?_)
    · replace h := h.1 c9
      refine r_iconst (pc := 16) dX7_isDigit_16 (inRk rfl) ?_
      exact r_ireturn (pc := 17) (ty := .boolean) dX7_isDigit_17 (by decide +kernel) rfl (nar_bool (by decide)) h
    · replace h := h.2 c9
      refine r_iconst (pc := 12) dX7_isDigit_12 (inRk rfl) ?_
      refine r_goto (pc := 13) (tgt := 17) dX7_isDigit_13 (by decide) ?_
      exact r_ireturn (pc := 17) (ty := .boolean) dX7_isDigit_17 (by decide +kernel) rfl (nar_bool (by decide)) h
theorem C_X7_isDigit {x0 : Int} (h : GG E mX7_isDigit 0 [some (vi x0)] [] σ 0 0 Q) : CC E mX7_isDigit [vi x0] σ Q := CC.of (by decide +kernel) rfl (by decide +kernel) (fun h9 => nomatch h9) (Nat.le_of_ble_eq_true rfl) h
theorem dX7_isSmallLetter_0 : decode cX7_isSmallLetter 0 = .ok (.iload_n 0, 1) := by decide +kernel
theorem dX7_isSmallLetter_1 : decode cX7_isSmallLetter 1 = .ok (.bipush 97, 2) := by decide +kernel
theorem dX7_isSmallLetter_3 : decode cX7_isSmallLetter 3 = .ok (.if_icmp .lt 13, 3) := by decide +kernel
theorem dX7_isSmallLetter_6 : decode cX7_isSmallLetter 6 = .ok (.iload_n 0, 1) := by decide +kernel
theorem dX7_isSmallLetter_7 : decode cX7_isSmallLetter 7 = .ok (.bipush 122, 2) := by decide +kernel
theorem dX7_isSmallLetter_9 : decode cX7_isSmallLetter 9 = .ok (.if_icmp .gt 7, 3) := by decide +kernel
theorem dX7_isSmallLetter_12 : decode cX7_isSmallLetter 12 = .ok (.iconst 1, 1) := by decide +kernel
theorem dX7_isSmallLetter_13 : decode cX7_isSmallLetter 13 = .ok (.goto 4, 3) := by decide +kernel
theorem dX7_isSmallLetter_16 : decode cX7_isSmallLetter 16 = .ok (.iconst 0, 1) := by decide +kernel
theorem dX7_isSmallLetter_17 : decode cX7_isSmallLetter 17 = .ok (.ireturn, 1) := by decide +kernel
theorem B_X7_isSmallLetter_0 {x0 : Int} (h : ((x0 < 97 → Q (.inl (some (vi 0))) σ) ∧ (¬ (x0 < 97) → ((122 < x0 → Q (.inl (some (vi 0))) σ) ∧ (¬ (122 < x0) → Q (.inl (some (vi 1))) σ))))) : GG E mX7_isSmallLetter 0 [some (vi x0)] [] σ rc rs Q := by
  refine r_iload_n (pc := 0) dX7_isSmallLetter_0 rfl rfl ?_
  refine r_bipush (pc := 1) dX7_isSmallLetter_1 (by decide) ?_
  refine r_icmp_lt (pc := 3) (tgt := 16) dX7_isSmallLetter_3 (by decide) (fun c9 => ?_) (fun c9 => ?_)
  · replace h := h.1 c9
    refine r_iconst (pc := 16) dX7_isSmallLetter_16 (inRk rfl) ?_
    exact r_ireturn (pc := 17) (ty := .boolean) dX7_isSmallLetter_17 (by decide +kernel) rfl (nar_bool (by decide)) h
  · replace h := h.2 c9
    refine r_iload_n (pc := 6) dX7_isSmallLetter_6 rfl rfl ?_
    refine r_bipush (pc := 7) dX7_isSmallLetter_7 (by decide) ?_
    refine r_icmp_gt (pc := 9) (tgt := 16) dX7_isSmallLetter_9 (by decide) (fun c9 => ?_) (fun c9 => ?_)
    · replace h := h.1 c9
      refine r_iconst (pc := 16) dX7_isSmallLetter_16 (inRk rfl) ?_
      exact r_ireturn (pc := 17) (ty := .boolean) dX7_isSmallLetter_17 (by decide +kernel) rfl (nar_bool (by decide)) h
    · replace h := h.2 c9
      refine r_iconst (pc := 12) dX7_isSmallLetter_12 (inRk rfl) ?_
      refine r_goto (pc := 13) (tgt := 17) dX7_isSmallLetter_13 (by decide) ?_
      exact r_ireturn (pc := 17) (ty := .boolean) dX7_isSmallLetter_17 (by decide +kernel) rfl (nar_bool (by decide)) h
theorem C_X7_isSmallLetter {x0 : Int} (h : GG E mX7_isSmallLetter 0 [some (vi x0)] [] σ 0 0 Q) : CC E mX7_isSmallLetter [vi x0] σ Q := CC.of (by decide +kernel) rfl (by decide +kernel) (fun h9 => nomatch h9) (Nat.le_of_ble_eq_true rfl) h
theorem dX7_read_0 : decode cX7_read 0 = .ok (.aload_n 0, 1) := by decide +kernel
theorem dX7_read_1 : decode cX7_read 1 = .ok (.iload_n 1, 1) := by decide +kernel
theorem dX7_read_2 : decode cX7_read 2 = .ok (.putfield 19, 3) := by decide +kernel
theorem dX7_read_5 : decode cX7_read 5 = .ok (.aload_n 0, 1) := by decide +kernel
theorem dX7_read_6 : decode cX7_read 6 = .ok (.iconst 0, 1) := by decide +kernel
theorem dX7_read_7 : decode cX7_read 7 = .ok (.putfield 23, 3) := by decide +kernel
theorem dX7_read_10 : decode cX7_read 10 = .ok (.aload_n 0, 1) := by decide +kernel
theorem dX7_read_11 : decode cX7_read 11 = .ok (.iconst 0, 1) := by decide +kernel
theorem dX7_read_12 : decode cX7_read 12 = .ok (.putfield 26, 3) := by decide +kernel
theorem dX7_read_15 : decode cX7_read 15 = .ok (.aload_n 0, 1) := by decide +kernel
theorem dX7_read_16 : decode cX7_read 16 = .ok (.iconst (-1), 1) := by decide +kernel
theorem dX7_read_17 : decode cX7_read 17 = .ok (.putfield 29, 3) := by decide +kernel
theorem dX7_read_20 : decode cX7_read 20 = .ok (.aload_n 0, 1) := by decide +kernel
theorem dX7_read_21 : decode cX7_read 21 = .ok (.ldc 32, 2) := by decide +kernel
theorem dX7_read_23 : decode cX7_read 23 = .ok (.invokevirtual 34, 3) := by decide +kernel
theorem dX7_read_26 : decode cX7_read 26 = .ok (.ifCond .eq 20, 3) := by decide +kernel
theorem dX7_read_29 : decode cX7_read 29 = .ok (.aload_n 0, 1) := by decide +kernel
theorem dX7_read_30 : decode cX7_read 30 = .ok (.aload_n 2, 1) := by decide +kernel
theorem dX7_read_31 : decode cX7_read 31 = .ok (.invokevirtual 38, 3) := by decide +kernel
theorem dX7_read_34 : decode cX7_read 34 = .ok (.ifCond .eq 12, 3) := by decide +kernel
theorem dX7_read_37 : decode cX7_read 37 = .ok (.aload_n 0, 1) := by decide +kernel
theorem dX7_read_38 : decode cX7_read 38 = .ok (.bipush 59, 2) := by decide +kernel
theorem dX7_read_40 : decode cX7_read 40 = .ok (.invokevirtual 42, 3) := by decide +kernel
theorem dX7_read_43 : decode cX7_read 43 = .ok (.ifCond .ne 5, 3) := by decide +kernel
theorem dX7_read_46 : decode cX7_read 46 = .ok (.iconst 0, 1) := by decide +kernel
theorem dX7_read_47 : decode cX7_read 47 = .ok (.ireturn, 1) := by decide +kernel
theorem dX7_read_48 : decode cX7_read 48 = .ok (.aload_n 2, 1) := by decide +kernel
theorem dX7_read_49 : decode cX7_read 49 = .ok (.invokevirtual 46, 3) := by decide +kernel
theorem dX7_read_52 : decode cX7_read 52 = .ok (.pop, 1) := by decide +kernel
theorem dX7_read_53 : decode cX7_read 53 = .ok (.iconst 0, 1) := by decide +kernel
theorem dX7_read_54 : decode cX7_read 54 = .ok (.istore_n 3, 1) := by decide +kernel
theorem dX7_read_55 : decode cX7_read 55 = .ok (.iload_n 3, 1) := by decide +kernel
theorem dX7_read_56 : decode cX7_read 56 = .ok (.iconst 4, 1) := by decide +kernel
theorem dX7_read_57 : decode cX7_read 57 = .ok (.if_icmp .gt 36, 3) := by decide +kernel
theorem dX7_read_60 : decode cX7_read 60 = .ok (.aload_n 0, 1) := by decide +kernel
theorem dX7_read_61 : decode cX7_read 61 = .ok (.invokevirtual 52, 3) := by decide +kernel
theorem dX7_read_64 : decode cX7_read 64 = .ok (.aload_n 0, 1) := by decide +kernel
theorem dX7_read_65 : decode cX7_read 65 = .ok (.getfield 23, 3) := by decide +kernel
theorem dX7_read_68 : decode cX7_read 68 = .ok (.aload_n 0, 1) := by decide +kernel
theorem dX7_read_69 : decode cX7_read 69 = .ok (.getfield 19, 3) := by decide +kernel
theorem dX7_read_72 : decode cX7_read 72 = .ok (.if_icmp .lt 5, 3) := by decide +kernel
theorem dX7_read_75 : decode cX7_read 75 = .ok (.iconst 1, 1) := by decide +kernel
theorem dX7_read_76 : decode cX7_read 76 = .ok (.ireturn, 1) := by decide +kernel
theorem dX7_read_77 : decode cX7_read 77 = .ok (.aload_n 0, 1) := by decide +kernel
theorem dX7_read_78 : decode cX7_read 78 = .ok (.aload_n 2, 1) := by decide +kernel
theorem dX7_read_79 : decode cX7_read 79 = .ok (.invokevirtual 55, 3) := by decide +kernel
theorem dX7_read_82 : decode cX7_read 82 = .ok (.ifCond .ne 5, 3) := by decide +kernel
theorem dX7_read_85 : decode cX7_read 85 = .ok (.iconst 0, 1) := by decide +kernel
theorem dX7_read_86 : decode cX7_read 86 = .ok (.ireturn, 1) := by decide +kernel
theorem dX7_read_87 : decode cX7_read 87 = .ok (.iinc 3 1, 3) := by decide +kernel
theorem dX7_read_90 : decode cX7_read 90 = .ok (.goto (-35), 3) := by decide +kernel
theorem dX7_read_93 : decode cX7_read 93 = .ok (.iconst 1, 1) := by decide +kernel
theorem dX7_read_94 : decode cX7_read 94 = .ok (.ireturn, 1) := by decide +kernel
theorem B_X7_read_0 {g : Sg} {c t : Nat} (hL : Lay LC g c t σ) {x1 : Int} {a2 : Nat} (qa2 : isCl a2) (h : ∀ τ1 : Sg, τ1 = sI σ 19 2 x1 → ∀ τ2 : Sg, τ2 = sI τ1 19 3 0 → ∀ τ3 : Sg, τ3 = sI τ2 19 4 0 → ∀ τ4 : Sg, τ4 = sI τ3 19 5 (-1) → (Lay LC g c t τ4 → CC E mX7_readWord [vr 19, vr 6] τ4 (KI (fun r5 τ6 => Lay LC g c t τ6 ∧ (inR r5 → ((r5 = 0 → (Lay LC g c t τ6 → Q (.inl (some (vi 0))) τ6)) ∧ (¬ (r5 = 0) → (Lay LC g c t τ6 → CC E mX7_readRoot [vr 19, vr a2] τ6 (KI (fun r7 τ8 => Lay LC g c t τ8 ∧ (inR r7 → ((r7 = 0 → (Lay LC g c t τ8 → Q (.inl (some (vi 0))) τ8)) ∧ (¬ (r7 = 0) → (Lay LC g c t τ8 → CC E mX7_readSign [vr 19, vi 59] τ8 (KI (fun r9 τ10 => Lay LC g c t τ10 ∧ (inR r9 → ((r9 ≠ 0 → (Lay LC g c t τ10 → CC E mX1_close [vr a2] τ10 (KI (fun r11 τ12 => Lay LC g c t τ12 ∧ (inR r11 → (Lay LC g c t τ12 → GG E mX7_read 55 [some (vr 19), none, some (vr a2), some (vi 0)] [] τ12 rc rs Q))) (fun _ _ => False)))) ∧ (r9 = 0 → (Lay LC g c t τ10 → Q (.inl (some (vi 0))) τ10))))) (fun _ _ => False))))))) (fun _ _ => False))))))) (fun _ _ => False)))) : GG E mX7_read 0 [some (vr 19), some (vi x1), some (vr a2), none] [] σ rc rs Q := by
  refine r_aload_n (pc := 0) dX7_read_0 rfl rfl ?_
  refine r_iload_n (pc := 1) dX7_read_1 rfl rfl ?_
  refine r_putI (pc := 2) dX7_read_2 (k9 := 2) CL_7 (by decide) (by decide) w_156 rfl rfl (fun h9 => absurd h9 (by decide +kernel)) (okO_of (N := 6) (hL.sh (i := 3) rfl (by decide) (by decide)) (by decide)) ?_
  refine nmS (fun τ1 e1 => ?_)
  replace h := h τ1 e1
  have hL := hL.wI e1 (by decide) (.inl (by decide))
  refine r_aload_n (pc := 5) dX7_read_5 rfl rfl ?_
  refine r_iconst (pc := 6) dX7_read_6 (inRk rfl) ?_
  refine r_putI (pc := 7) dX7_read_7 (k9 := 3) CL_7 (by decide) (by decide) w_157 rfl rfl (fun h9 => absurd h9 (by decide +kernel)) (okO_of (N := 6) (hL.sh (i := 3) rfl (by decide) (by decide)) (by decide)) ?_
  refine nmS (fun τ2 e2 => ?_)
  replace h := h τ2 e2
  have hL := hL.wI e2 (by decide) (.inl (by decide))
  refine r_aload_n (pc := 10) dX7_read_10 rfl rfl ?_
  refine r_iconst (pc := 11) dX7_read_11 (inRk rfl) ?_
  refine r_putI (pc := 12) dX7_read_12 (k9 := 4) CL_7 (by decide) (by decide) w_158 rfl rfl (fun h9 => absurd h9 (by decide +kernel)) (okO_of (N := 6) (hL.sh (i := 3) rfl (by decide) (by decide)) (by decide)) ?_
  refine nmS (fun τ3 e3 => ?_)
  replace h := h τ3 e3
  have hL := hL.wI e3 (by decide) (.inl (by decide))
  refine r_aload_n (pc := 15) dX7_read_15 rfl rfl ?_
  refine r_iconst (pc := 16) dX7_read_16 (inRk rfl) ?_
  refine r_putI (pc := 17) dX7_read_17 (k9 := 5) CL_7 (by decide) (by decide) w_160 rfl rfl (fun h9 => absurd h9 (by decide +kernel)) (okO_of (N := 6) (hL.sh (i := 3) rfl (by decide) (by decide)) (by decide)) ?_
  refine nmS (fun τ4 e4 => ?_)
  replace h := h τ4 e4
  have hL := hL.wI e4 (by decide) (.inl (by decide))
  refine r_aload_n (pc := 20) dX7_read_20 rfl rfl ?_
  refine r_ldcS (pc := 21) (a := 6) dX7_read_21 (List.mem_of_getElem? (i := 0) rfl) (by decide) ?_
  refine c_VI0N (M := mX7_read) (pc := 23) (As := [vr 6]) dX7_read_23 K_X7_readWord w_783 ⟨by decide, by decide⟩ (Nat.le_of_ble_eq_true rfl) rfl rfl (ci := 7) rfl rfl (by decide) (okO_of (N := 6) (hL.sh (i := 3) rfl (by decide) (by decide)) (by decide)) (h hL) (fun r5 τ6 h8 hr9 => ?_) rfl
  replace hL := h8.1
  replace h := h8.2 hr9
  refine r_if_eq (pc := 26) (tgt := 46) dX7_read_26 (by decide) (fun c9 => ?_) (fun c9 => ?_)
  · replace h := h.1 c9
    refine r_iconst (pc := 46) dX7_read_46 (inRk rfl) ?_
    exact r_ireturn (pc := 47) (ty := .boolean) dX7_read_47 (by decide +kernel) rfl (nar_bool (by decide)) (h hL)
  · replace h := h.2 c9
    refine r_aload_n (pc := 29) dX7_read_29 rfl rfl ?_
    refine r_aload_n (pc := 30) dX7_read_30 rfl rfl ?_
    refine c_VI0N (M := mX7_read) (pc := 31) (As := [vr a2]) dX7_read_31 K_X7_readRoot w_850 ⟨by decide, by decide⟩ (Nat.le_of_ble_eq_true rfl) rfl rfl (ci := 7) rfl rfl (by decide) (okO_of (N := 6) (hL.sh (i := 3) rfl (by decide) (by decide)) (by decide)) (h hL) (fun r7 τ8 h8 hr9 => ?_) rfl
    replace hL := h8.1
    replace h := h8.2 hr9
    refine r_if_eq (pc := 34) (tgt := 46) dX7_read_34 (by decide) (fun c9 => ?_) (fun c9 => ?_)
    · replace h := h.1 c9
      refine r_iconst (pc := 46) dX7_read_46 (inRk rfl) ?_
      exact r_ireturn (pc := 47) (ty := .boolean) dX7_read_47 (by decide +kernel) rfl (nar_bool (by decide)) (h hL)
    · replace h := h.2 c9
      refine r_aload_n (pc := 37) dX7_read_37 rfl rfl ?_
      refine r_bipush (pc := 38) dX7_read_38 (by decide) ?_
      refine c_VI0N (M := mX7_read) (pc := 40) (As := [vi 59]) dX7_read_40 K_X7_readSign w_862 ⟨by decide, by decide⟩ (Nat.le_of_ble_eq_true rfl) rfl rfl (ci := 7) rfl rfl (by decide) (okO_of (N := 6) (hL.sh (i := 3) rfl (by decide) (by decide)) (by decide)) (h hL) (fun r9 τ10 h8 hr9 => ?_) rfl
      replace hL := h8.1
      replace h := h8.2 hr9
      refine r_if_ne (pc := 43) (tgt := 48) dX7_read_43 (by decide) (fun c9 => ?_) (fun c9 => ?_)
      · replace h := h.1 c9
        refine r_aload_n (pc := 48) dX7_read_48 rfl rfl ?_
        refine c_VI0N (M := mX7_read) (pc := 49) (As := []) dX7_read_49 K_X1_close w_866 ⟨by decide, by decide⟩ (Nat.le_of_ble_eq_true rfl) rfl rfl (ci := 1) rfl rfl (by decide) (okO_of (ci := 1) (N := 12) (qa2.r hL).1 (qa2.r hL).2.1) (h hL) (fun r11 τ12 h8 hr9 => ?_) rfl
        replace hL := h8.1
        replace h := h8.2 hr9
        refine r_pop (pc := 52) dX7_read_52 (fun _ h9 => nomatch h9) ?_
        refine r_iconst (pc := 53) dX7_read_53 (inRk rfl) ?_
        refine r_istore_n (pc := 54) dX7_read_54 rfl (by decide) (l2 := [some (vr 19), some (vi x1), some (vr a2), some (vi 0)]) rfl ?_
        exact GG.msk [true, false, true, true] (h hL)
      · replace h := h.2 c9
        refine r_iconst (pc := 46) dX7_read_46 (inRk rfl) ?_
        exact r_ireturn (pc := 47) (ty := .boolean) dX7_read_47 (by decide +kernel) rfl (nar_bool (by decide)) (h hL)
theorem B_X7_read_55 {g : Sg} {c t : Nat} (hL : Lay LC g c t σ) {a2 : Nat} (qa2 : isCl a2) {x3 : Int} (h : ((4 < x3 → (Lay LC g c t σ → Q (.inl (some (vi 1))) σ)) ∧ (¬ (4 < x3) → (Lay LC g c t σ → CC E mX7_skipBlanks [vr 19] σ (KV (fun τ2 => Lay LC g c t τ2 ∧ (((gI τ2 19 3) < (gI τ2 19 2) → (Lay LC g c t τ2 → CC E mX7_readTurn [vr 19, vr a2] τ2 (KI (fun r3 τ4 => Lay LC g c t τ4 ∧ (inR r3 → ((r3 ≠ 0 → inR (x3 + 1) ∧ (Lay LC g c t τ4 → GG E mX7_read 55 [some (vr 19), none, some (vr a2), some (vi (x3 + 1))] [] τ4 rc rs Q)) ∧ (r3 = 0 → (Lay LC g c t τ4 → Q (.inl (some (vi 0))) τ4))))) (fun _ _ => False)))) ∧ (¬ ((gI τ2 19 3) < (gI τ2 19 2)) → (Lay LC g c t τ2 → Q (.inl (some (vi 1))) τ2)))) (fun _ _ => False)))))) : GG E mX7_read 55 [some (vr 19), none, some (vr a2), some (vi x3)] [] σ rc rs Q := by
  refine r_iload_n (pc := 55) dX7_read_55 rfl rfl ?_
  refine r_iconst (pc := 56) dX7_read_56 (inRk rfl) ?_
  refine r_icmp_gt (pc := 57) (tgt := 93) dX7_read_57 (by decide) (fun c9 => ?_) (fun c9 => ?_)
  · replace h := h.1 c9
    refine r_iconst (pc := 93) dX7_read_93 (inRk rfl) ?_
    exact r_ireturn (pc := 94) (ty := .boolean) dX7_read_94 (by decide +kernel) rfl (nar_bool (by decide)) (h hL)
  · replace h := h.2 c9
    refine r_aload_n (pc := 60) dX7_read_60 rfl rfl ?_
    refine c_VV0N (M := mX7_read) (pc := 61) (As := []) dX7_read_61 K_X7_skipBlanks w_787 ⟨by decide, by decide⟩ (Nat.le_of_ble_eq_true rfl) rfl rfl (ci := 7) rfl rfl (by decide) (okO_of (N := 6) (hL.sh (i := 3) rfl (by decide) (by decide)) (by decide)) (h hL) (fun τ2 h8 => ?_) rfl
    replace hL := h8.1
    replace h := h8.2
    refine r_aload_n (pc := 64) dX7_read_64 rfl rfl ?_
    refine r_getI (pc := 65) dX7_read_65 (k9 := 3) CL_7 (by decide) (by decide) w_157 rfl (okO_of (N := 6) (hL.sh (i := 3) rfl (by decide) (by decide)) (by decide)) (fun _ => ?_)
    refine r_aload_n (pc := 68) dX7_read_68 rfl rfl ?_
    refine r_getI (pc := 69) dX7_read_69 (k9 := 2) CL_7 (by decide) (by decide) w_156 rfl (okO_of (N := 6) (hL.sh (i := 3) rfl (by decide) (by decide)) (by decide)) (fun _ => ?_)
    refine r_icmp_lt (pc := 72) (tgt := 77) dX7_read_72 (by decide) (fun c9 => ?_) (fun c9 => ?_)
    · replace h := h.1 c9
      refine r_aload_n (pc := 77) dX7_read_77 rfl rfl ?_
      refine r_aload_n (pc := 78) dX7_read_78 rfl rfl ?_
      refine c_VI0N (M := mX7_read) (pc := 79) (As := [vr a2]) dX7_read_79 K_X7_readTurn w_867 ⟨by decide, by decide⟩ (Nat.le_of_ble_eq_true rfl) rfl rfl (ci := 7) rfl rfl (by decide) (okO_of (N := 6) (hL.sh (i := 3) rfl (by decide) (by decide)) (by decide)) (h hL) (fun r3 τ4 h8 hr9 => ?_) rfl
      replace hL := h8.1
      replace h := h8.2 hr9
      refine r_if_ne (pc := 82) (tgt := 87) dX7_read_82 (by decide) (fun c9 => ?_) (fun c9 => ?_)
      · replace h := h.1 c9
        obtain ⟨o5, h⟩ := h
        refine r_iinc (pc := 87) dX7_read_87 rfl (by decide) o5 (l2 := [some (vr 19), none, some (vr a2), some (vi (x3 + 1))]) rfl ?_
        refine r_goto (pc := 90) (tgt := 55) dX7_read_90 (by decide) ?_
        exact (h hL)
      · replace h := h.2 c9
        refine r_iconst (pc := 85) dX7_read_85 (inRk rfl) ?_
        exact r_ireturn (pc := 86) (ty := .boolean) dX7_read_86 (by decide +kernel) rfl (nar_bool (by decide)) (h hL)
    · replace h := h.2 c9
      refine r_iconst (pc := 75) dX7_read_75 (inRk rfl) ?_
      exact r_ireturn (pc := 76) (ty := .boolean) dX7_read_76 (by decide +kernel) rfl (nar_bool (by decide)) (h hL)
theorem C_X7_read {a0 : Nat} {x1 : Int} {a2 : Nat} (h : GG E mX7_read 0 [some (vr a0), some (vi x1), some (vr a2), none] [] σ 0 0 Q) : CC E mX7_read [vr a0, vi x1, vr a2] σ Q := CC.of (by decide +kernel) rfl (by decide +kernel) (fun h9 => nomatch h9) (Nat.le_of_ble_eq_true rfl) h
theorem dX7_readNumber_0 : decode cX7_readNumber 0 = .ok (.aload_n 0, 1) := by decide +kernel
theorem dX7_readNumber_1 : decode cX7_readNumber 1 = .ok (.invokevirtual 52, 3) := by decide +kernel
theorem dX7_readNumber_4 : decode cX7_readNumber 4 = .ok (.aload_n 0, 1) := by decide +kernel
theorem dX7_readNumber_5 : decode cX7_readNumber 5 = .ok (.invokevirtual 88, 3) := by decide +kernel
theorem dX7_readNumber_8 : decode cX7_readNumber 8 = .ok (.invokestatic 91, 3) := by decide +kernel
theorem dX7_readNumber_11 : decode cX7_readNumber 11 = .ok (.ifCond .ne 15, 3) := by decide +kernel
theorem dX7_readNumber_14 : decode cX7_readNumber 14 = .ok (.aload_n 0, 1) := by decide +kernel
theorem dX7_readNumber_15 : decode cX7_readNumber 15 = .ok (.iconst 1, 1) := by decide +kernel
theorem dX7_readNumber_16 : decode cX7_readNumber 16 = .ok (.aload_n 0, 1) := by decide +kernel
theorem dX7_readNumber_17 : decode cX7_readNumber 17 = .ok (.getfield 23, 3) := by decide +kernel
theorem dX7_readNumber_20 : decode cX7_readNumber 20 = .ok (.invokevirtual 62, 3) := by decide +kernel
theorem dX7_readNumber_23 : decode cX7_readNumber 23 = .ok (.pop, 1) := by decide +kernel
theorem dX7_readNumber_24 : decode cX7_readNumber 24 = .ok (.iconst (-1), 1) := by decide +kernel
theorem dX7_readNumber_25 : decode cX7_readNumber 25 = .ok (.ireturn, 1) := by decide +kernel
theorem dX7_readNumber_26 : decode cX7_readNumber 26 = .ok (.iconst 0, 1) := by decide +kernel
theorem dX7_readNumber_27 : decode cX7_readNumber 27 = .ok (.istore_n 1, 1) := by decide +kernel
theorem dX7_readNumber_28 : decode cX7_readNumber 28 = .ok (.aload_n 0, 1) := by decide +kernel
theorem dX7_readNumber_29 : decode cX7_readNumber 29 = .ok (.getfield 23, 3) := by decide +kernel
theorem dX7_readNumber_32 : decode cX7_readNumber 32 = .ok (.aload_n 0, 1) := by decide +kernel
theorem dX7_readNumber_33 : decode cX7_readNumber 33 = .ok (.getfield 19, 3) := by decide +kernel
theorem dX7_readNumber_36 : decode cX7_readNumber 36 = .ok (.if_icmp .ge 46, 3) := by decide +kernel
theorem dX7_readNumber_39 : decode cX7_readNumber 39 = .ok (.aload_n 0, 1) := by decide +kernel
theorem dX7_readNumber_40 : decode cX7_readNumber 40 = .ok (.invokevirtual 88, 3) := by decide +kernel
theorem dX7_readNumber_43 : decode cX7_readNumber 43 = .ok (.invokestatic 91, 3) := by decide +kernel
theorem dX7_readNumber_46 : decode cX7_readNumber 46 = .ok (.ifCond .eq 36, 3) := by decide +kernel
theorem dX7_readNumber_49 : decode cX7_readNumber 49 = .ok (.iload_n 1, 1) := by decide +kernel
theorem dX7_readNumber_50 : decode cX7_readNumber 50 = .ok (.sipush 1000, 3) := by decide +kernel
theorem dX7_readNumber_53 : decode cX7_readNumber 53 = .ok (.if_icmp .ge 16, 3) := by decide +kernel
theorem dX7_readNumber_56 : decode cX7_readNumber 56 = .ok (.bipush 10, 2) := by decide +kernel
theorem dX7_readNumber_58 : decode cX7_readNumber 58 = .ok (.iload_n 1, 1) := by decide +kernel
theorem dX7_readNumber_59 : decode cX7_readNumber 59 = .ok (.imul, 1) := by decide +kernel
theorem dX7_readNumber_60 : decode cX7_readNumber 60 = .ok (.aload_n 0, 1) := by decide +kernel
theorem dX7_readNumber_61 : decode cX7_readNumber 61 = .ok (.invokevirtual 88, 3) := by decide +kernel
theorem dX7_readNumber_64 : decode cX7_readNumber 64 = .ok (.iadd, 1) := by decide +kernel
theorem dX7_readNumber_65 : decode cX7_readNumber 65 = .ok (.bipush 48, 2) := by decide +kernel
theorem dX7_readNumber_67 : decode cX7_readNumber 67 = .ok (.isub, 1) := by decide +kernel
theorem dX7_readNumber_68 : decode cX7_readNumber 68 = .ok (.istore_n 1, 1) := by decide +kernel
theorem dX7_readNumber_69 : decode cX7_readNumber 69 = .ok (.aload_n 0, 1) := by decide +kernel
theorem dX7_readNumber_70 : decode cX7_readNumber 70 = .ok (.dup, 1) := by decide +kernel
theorem dX7_readNumber_71 : decode cX7_readNumber 71 = .ok (.getfield 23, 3) := by decide +kernel
theorem dX7_readNumber_74 : decode cX7_readNumber 74 = .ok (.iconst 1, 1) := by decide +kernel
theorem dX7_readNumber_75 : decode cX7_readNumber 75 = .ok (.iadd, 1) := by decide +kernel
theorem dX7_readNumber_76 : decode cX7_readNumber 76 = .ok (.putfield 23, 3) := by decide +kernel
theorem dX7_readNumber_79 : decode cX7_readNumber 79 = .ok (.goto (-51), 3) := by decide +kernel
theorem dX7_readNumber_82 : decode cX7_readNumber 82 = .ok (.iload_n 1, 1) := by decide +kernel
theorem dX7_readNumber_83 : decode cX7_readNumber 83 = .ok (.ireturn, 1) := by decide +kernel
theorem B_X7_readNumber_0 {g : Sg} {c t : Nat} (hL : Lay LC g c t σ)  (h : (Lay LC g c t σ → CC E mX7_skipBlanks [vr 19] σ (KV (fun τ2 => Lay LC g c t τ2 ∧ (Lay LC g c t τ2 → CC E mX7_here [vr 19] τ2 (KI (fun r3 τ4 => Lay LC g c t τ4 ∧ (inR r3 → (Lay LC g c t τ4 → CC E mX7_isDigit [vi r3] τ4 (KI (fun r5 τ6 => Lay LC g c t τ6 ∧ (inR r5 → ((r5 ≠ 0 → (Lay LC g c t τ6 → GG E mX7_readNumber 28 [some (vr 19), some (vi 0)] [] τ6 rc rs Q)) ∧ (r5 = 0 → (Lay LC g c t τ6 → CC E mX7_fail [vr 19, vi 1, vi (gI τ6 19 3)] τ6 (KI (fun r7 τ8 => Lay LC g c t τ8 ∧ (inR r7 → (Lay LC g c t τ8 → Q (.inl (some (vi (-1)))) τ8))) (fun _ _ => False))))))) (fun _ _ => False))))) (fun _ _ => False)))) (fun _ _ => False)))) : GG E mX7_readNumber 0 [some (vr 19), none] [] σ rc rs Q := by
  refine r_aload_n (pc := 0) dX7_readNumber_0 rfl rfl ?_
  refine c_VV0N (M := mX7_readNumber) (pc := 1) (As := []) dX7_readNumber_1 K_X7_skipBlanks w_787 ⟨by decide, by decide⟩ (Nat.le_of_ble_eq_true rfl) rfl rfl (ci := 7) rfl rfl (by decide) (okO_of (N := 6) (hL.sh (i := 3) rfl (by decide) (by decide)) (by decide)) (h hL) (fun τ2 h8 => ?_) rfl
  replace hL := h8.1
  replace h := h8.2
  refine r_aload_n (pc := 4) dX7_readNumber_4 rfl rfl ?_
  refine c_VI0N (M := mX7_readNumber) (pc := 5) (As := []) dX7_readNumber_5 K_X7_here w_791 ⟨by decide, by decide⟩ (Nat.le_of_ble_eq_true rfl) rfl rfl (ci := 7) rfl rfl (by decide) (okO_of (N := 6) (hL.sh (i := 3) rfl (by decide) (by decide)) (by decide)) (h hL) (fun r3 τ4 h8 hr9 => ?_) rfl
  replace hL := h8.1
  replace h := h8.2 hr9
  refine c_SI0N (M := mX7_readNumber) (pc := 8) (As := [vi r3]) dX7_readNumber_8 K_X7_isDigit w_858 ⟨by decide, by decide⟩ (Nat.le_of_ble_eq_true rfl) rfl rfl (h hL) (fun r5 τ6 h8 hr9 => ?_) rfl
  replace hL := h8.1
  replace h := h8.2 hr9
  refine r_if_ne (pc := 11) (tgt := 26) dX7_readNumber_11 (by decide) (fun c9 => ?_) (fun c9 => ?_)
  · replace h := h.1 c9
    refine r_iconst (pc := 26) dX7_readNumber_26 (inRk rfl) ?_
    refine r_istore_n (pc := 27) dX7_readNumber_27 rfl (by decide) (l2 := [some (vr 19), some (vi 0)]) rfl ?_
    exact (h hL)
  · replace h := h.2 c9
    refine r_aload_n (pc := 14) dX7_readNumber_14 rfl rfl ?_
    refine r_iconst (pc := 15) dX7_readNumber_15 (inRk rfl) ?_
    refine r_aload_n (pc := 16) dX7_readNumber_16 rfl rfl ?_
    refine r_getI (pc := 17) dX7_readNumber_17 (k9 := 3) CL_7 (by decide) (by decide) w_157 rfl (okO_of (N := 6) (hL.sh (i := 3) rfl (by decide) (by decide)) (by decide)) (fun _ => ?_)
    refine c_VI0N (M := mX7_readNumber) (pc := 20) (As := [vi 1, vi (gI τ6 19 3)]) dX7_readNumber_20 K_X7_fail w_846 ⟨by decide, by decide⟩ (Nat.le_of_ble_eq_true rfl) rfl rfl (ci := 7) rfl rfl (by decide) (okO_of (N := 6) (hL.sh (i := 3) rfl (by decide) (by decide)) (by decide)) (h hL) (fun r7 τ8 h8 hr9 => ?_) rfl
    replace hL := h8.1
    replace h := h8.2 hr9
    refine r_pop (pc := 23) dX7_readNumber_23 (fun _ h9 => nomatch h9) ?_
    refine r_iconst (pc := 24) dX7_readNumber_24 (inRk rfl) ?_
    exact r_ireturn (pc := 25) (ty := .int) dX7_readNumber_25 (by decide +kernel) rfl (nar_i _) (h hL)
theorem B_X7_readNumber_28 {g : Sg} {c t : Nat} (hL : Lay LC g c t σ) {x1 : Int} (h : (((gI σ 19 2) ≤ (gI σ 19 3) → (Lay LC g c t σ → Q (.inl (some (vi x1))) σ)) ∧ (¬ ((gI σ 19 2) ≤ (gI σ 19 3)) → (Lay LC g c t σ → CC E mX7_here [vr 19] σ (KI (fun r1 τ2 => Lay LC g c t τ2 ∧ (inR r1 → (Lay LC g c t τ2 → CC E mX7_isDigit [vi r1] τ2 (KI (fun r3 τ4 => Lay LC g c t τ4 ∧ (inR r3 → ((r3 = 0 → (Lay LC g c t τ4 → Q (.inl (some (vi x1))) τ4)) ∧ (¬ (r3 = 0) → ((1000 ≤ x1 → inR ((gI τ4 19 3) + 1) ∧ ∀ τ6 : Sg, τ6 = sI τ4 19 3 ((gI τ4 19 3) + 1) → (Lay LC g c t τ6 → GG E mX7_readNumber 28 [some (vr 19), some (vi x1)] [] τ6 rc rs Q)) ∧ (¬ (1000 ≤ x1) → inR (10 * x1) ∧ (Lay LC g c t τ4 → CC E mX7_here [vr 19] τ4 (KI (fun r8 τ9 => Lay LC g c t τ9 ∧ (inR r8 → inR ((10 * x1) + r8) ∧ inR (((10 * x1) + r8) - 48) ∧ inR ((gI τ9 19 3) + 1) ∧ ∀ τ13 : Sg, τ13 = sI τ9 19 3 ((gI τ9 19 3) + 1) → (Lay LC g c t τ13 → GG E mX7_readNumber 28 [some (vr 19), some (vi (((10 * x1) + r8) - 48))] [] τ13 rc rs Q))) (fun _ _ => False))))))))) (fun _ _ => False))))) (fun _ _ => False)))))) : GG E mX7_readNumber 28 [some (vr 19), some (vi x1)] [] σ rc rs Q := by
  refine r_aload_n (pc := 28) dX7_readNumber_28 rfl rfl ?_
  refine r_getI (pc := 29) dX7_readNumber_29 (k9 := 3) CL_7 (by decide) (by decide) w_157 rfl (okO_of (N := 6) (hL.sh (i := 3) rfl (by decide) (by decide)) (by decide)) (fun _ => ?_)
  refine r_aload_n (pc := 32) dX7_readNumber_32 rfl rfl ?_
  refine r_getI (pc := 33) dX7_readNumber_33 (k9 := 2) CL_7 (by decide) (by decide) w_156 rfl (okO_of (N := 6) (hL.sh (i := 3) rfl (by decide) (by decide)) (by decide)) (fun _ => ?_)
  refine r_icmp_ge (pc := 36) (tgt := 82) dX7_readNumber_36 (by decide) (fun c9 => ?_) (fun c9 => ?_)
  · replace h := h.1 c9
    refine r_iload_n (pc := 82) dX7_readNumber_82 rfl rfl ?_
    exact r_ireturn (pc := 83) (ty := .int) dX7_readNumber_83 (by decide +kernel) rfl (nar_i _) (h hL)
  · replace h := h.2 c9
    refine r_aload_n (pc := 39) dX7_readNumber_39 rfl rfl ?_
    refine c_VI0N (M := mX7_readNumber) (pc := 40) (As := []) dX7_readNumber_40 K_X7_here w_791 ⟨by decide, by decide⟩ (Nat.le_of_ble_eq_true rfl) rfl rfl (ci := 7) rfl rfl (by decide) (okO_of (N := 6) (hL.sh (i := 3) rfl (by decide) (by decide)) (by decide)) (h hL) (fun r1 τ2 h8 hr9 => ?_) rfl
    replace hL := h8.1
    replace h := h8.2 hr9
    refine c_SI0N (M := mX7_readNumber) (pc := 43) (As := [vi r1]) dX7_readNumber_43 K_X7_isDigit w_858 ⟨by decide, by decide⟩ (Nat.le_of_ble_eq_true rfl) rfl rfl (h hL) (fun r3 τ4 h8 hr9 => ?_) rfl
    replace hL := h8.1
    replace h := h8.2 hr9
    refine r_if_eq (pc := 46) (tgt := 82) dX7_readNumber_46 (by decide) (fun c9 => ?_) (fun c9 => ?_)
    · replace h := h.1 c9
      refine r_iload_n (pc := 82) dX7_readNumber_82 rfl rfl ?_
      exact r_ireturn (pc := 83) (ty := .int) dX7_readNumber_83 (by decide +kernel) rfl (nar_i _) (h hL)
    · replace h := h.2 c9
      refine r_iload_n (pc := 49) dX7_readNumber_49 rfl rfl ?_
      refine r_sipush (pc := 50) dX7_readNumber_50 (by decide) ?_
      refine r_icmp_ge (pc := 53) (tgt := 69) dX7_readNumber_53 (by decide) (fun c9 => ?_) (fun c9 => ?_)
      · replace h := h.1 c9
        refine r_aload_n (pc := 69) dX7_readNumber_69 rfl rfl ?_
        refine r_dup (pc := 70) dX7_readNumber_70 (fun _ h9 => nomatch h9) ?_
        refine r_getI (pc := 71) dX7_readNumber_71 (k9 := 3) CL_7 (by decide) (by decide) w_157 rfl (okO_of (N := 6) (hL.sh (i := 3) rfl (by decide) (by decide)) (by decide)) (fun _ => ?_)
        refine r_iconst (pc := 74) dX7_readNumber_74 (inRk rfl) ?_
        obtain ⟨o5, h⟩ := h
        refine r_iadd (pc := 75) dX7_readNumber_75 o5 ?_
        refine r_putI (pc := 76) dX7_readNumber_76 (k9 := 3) CL_7 (by decide) (by decide) w_157 rfl rfl (fun h9 => absurd h9 (by decide +kernel)) (okO_of (N := 6) (hL.sh (i := 3) rfl (by decide) (by decide)) (by decide)) ?_
        refine nmS (fun τ6 e6 => ?_)
        replace h := h τ6 e6
        have hL := hL.wI e6 (by decide) (.inl (by decide))
        refine r_goto (pc := 79) (tgt := 28) dX7_readNumber_79 (by decide) ?_
        exact (h hL)
      · replace h := h.2 c9
        refine r_bipush (pc := 56) dX7_readNumber_56 (by decide) ?_
        refine r_iload_n (pc := 58) dX7_readNumber_58 rfl rfl ?_
        obtain ⟨o7, h⟩ := h
        refine r_imul (pc := 59) dX7_readNumber_59 o7 ?_
        refine r_aload_n (pc := 60) dX7_readNumber_60 rfl rfl ?_
        refine c_VI0N (M := mX7_readNumber) (pc := 61) (As := []) dX7_readNumber_61 K_X7_here w_791 ⟨by decide, by decide⟩ (Nat.le_of_ble_eq_true rfl) rfl rfl (ci := 7) rfl rfl (by decide) (okO_of (N := 6) (hL.sh (i := 3) rfl (by decide) (by decide)) (by decide)) (h hL) (fun r8 τ9 h8 hr9 => ?_) rfl
        replace hL := h8.1
        replace h := h8.2 hr9
        obtain ⟨o10, h⟩ := h
        refine r_iadd (pc := 64) dX7_readNumber_64 o10 ?_
        refine r_bipush (pc := 65) dX7_readNumber_65 (by decide) ?_
        obtain ⟨o11, h⟩ := h
        refine r_isub (pc := 67) dX7_readNumber_67 o11 ?_
        refine r_istore_n (pc := 68) dX7_readNumber_68 rfl (by decide) (l2 := [some (vr 19), some (vi (((10 * x1) + r8) - 48))]) rfl ?_
        refine r_aload_n (pc := 69) dX7_readNumber_69 rfl rfl ?_
        refine r_dup (pc := 70) dX7_readNumber_70 (fun _ h9 => nomatch h9) ?_
        refine r_getI (pc := 71) dX7_readNumber_71 (k9 := 3) CL_7 (by decide) (by decide) w_157 rfl (okO_of (N := 6) (hL.sh (i := 3) rfl (by decide) (by decide)) (by decide)) (fun _ => ?_)
        refine r_iconst (pc := 74) dX7_readNumber_74 (inRk rfl) ?_
        obtain ⟨o12, h⟩ := h
        refine r_iadd (pc := 75) dX7_readNumber_75 o12 ?_
        refine r_putI (pc := 76) dX7_readNumber_76 (k9 := 3) CL_7 (by decide) (by decide) w_157 rfl rfl (fun h9 => absurd h9 (by decide +kernel)) (okO_of (N := 6) (hL.sh (i := 3) rfl (by decide) (by decide)) (by decide)) ?_
        refine nmS (fun τ13 e13 => ?_)
        replace h := h τ13 e13
        have hL := hL.wI e13 (by decide) (.inl (by decide))
        refine r_goto (pc := 79) (tgt := 28) dX7_readNumber_79 (by decide) ?_
        exact (h hL)
theorem C_X7_readNumber {a0 : Nat} (h : GG E mX7_readNumber 0 [some (vr a0), none] [] σ 0 0 Q) : CC E mX7_readNumber [vr a0] σ Q := CC.of (by decide +kernel) rfl (by decide +kernel) (fun h9 => nomatch h9) (Nat.le_of_ble_eq_true rfl) h
theorem dX7_readRoot_0 : decode cX7_readRoot 0 = .ok (.aload_n 0, 1) := by decide +kernel
theorem dX7_readRoot_1 : decode cX7_readRoot 1 = .ok (.invokevirtual 52, 3) := by decide +kernel
theorem dX7_readRoot_4 : decode cX7_readRoot 4 = .ok (.aload_n 0, 1) := by decide +kernel
theorem dX7_readRoot_5 : decode cX7_readRoot 5 = .ok (.getfield 23, 3) := by decide +kernel
theorem dX7_readRoot_8 : decode cX7_readRoot 8 = .ok (.istore_n 2, 1) := by decide +kernel
theorem dX7_readRoot_9 : decode cX7_readRoot 9 = .ok (.aload_n 0, 1) := by decide +kernel
theorem dX7_readRoot_10 : decode cX7_readRoot 10 = .ok (.invokevirtual 58, 3) := by decide +kernel
theorem dX7_readRoot_13 : decode cX7_readRoot 13 = .ok (.istore_n 3, 1) := by decide +kernel
theorem dX7_readRoot_14 : decode cX7_readRoot 14 = .ok (.iload_n 3, 1) := by decide +kernel
theorem dX7_readRoot_15 : decode cX7_readRoot 15 = .ok (.iconst (-1), 1) := by decide +kernel
theorem dX7_readRoot_16 : decode cX7_readRoot 16 = .ok (.if_icmp .ne 5, 3) := by decide +kernel
theorem dX7_readRoot_19 : decode cX7_readRoot 19 = .ok (.iconst 0, 1) := by decide +kernel
theorem dX7_readRoot_20 : decode cX7_readRoot 20 = .ok (.ireturn, 1) := by decide +kernel
theorem dX7_readRoot_21 : decode cX7_readRoot 21 = .ok (.iload_n 3, 1) := by decide +kernel
theorem dX7_readRoot_22 : decode cX7_readRoot 22 = .ok (.iconst 2, 1) := by decide +kernel
theorem dX7_readRoot_23 : decode cX7_readRoot 23 = .ok (.if_icmp .eq 20, 3) := by decide +kernel
theorem dX7_readRoot_26 : decode cX7_readRoot 26 = .ok (.iload_n 3, 1) := by decide +kernel
theorem dX7_readRoot_27 : decode cX7_readRoot 27 = .ok (.iconst 3, 1) := by decide +kernel
theorem dX7_readRoot_28 : decode cX7_readRoot 28 = .ok (.if_icmp .eq 15, 3) := by decide +kernel
theorem dX7_readRoot_31 : decode cX7_readRoot 31 = .ok (.iload_n 3, 1) := by decide +kernel
theorem dX7_readRoot_32 : decode cX7_readRoot 32 = .ok (.iconst 5, 1) := by decide +kernel
theorem dX7_readRoot_33 : decode cX7_readRoot 33 = .ok (.if_icmp .eq 10, 3) := by decide +kernel
theorem dX7_readRoot_36 : decode cX7_readRoot 36 = .ok (.aload_n 0, 1) := by decide +kernel
theorem dX7_readRoot_37 : decode cX7_readRoot 37 = .ok (.iconst 2, 1) := by decide +kernel
theorem dX7_readRoot_38 : decode cX7_readRoot 38 = .ok (.iload_n 2, 1) := by decide +kernel
theorem dX7_readRoot_39 : decode cX7_readRoot 39 = .ok (.invokevirtual 62, 3) := by decide +kernel
theorem dX7_readRoot_42 : decode cX7_readRoot 42 = .ok (.ireturn, 1) := by decide +kernel
theorem dX7_readRoot_43 : decode cX7_readRoot 43 = .ok (.aload_n 1, 1) := by decide +kernel
theorem dX7_readRoot_44 : decode cX7_readRoot 44 = .ok (.iload_n 3, 1) := by decide +kernel
theorem dX7_readRoot_45 : decode cX7_readRoot 45 = .ok (.invokevirtual 66, 3) := by decide +kernel
theorem dX7_readRoot_48 : decode cX7_readRoot 48 = .ok (.iconst 1, 1) := by decide +kernel
theorem dX7_readRoot_49 : decode cX7_readRoot 49 = .ok (.ireturn, 1) := by decide +kernel
theorem B_X7_readRoot_0 {g : Sg} {c t : Nat} (hL : Lay LC g c t σ) {a1 : Nat} (qa1 : isCl a1) (h : (Lay LC g c t σ → CC E mX7_skipBlanks [vr 19] σ (KV (fun τ2 => Lay LC g c t τ2 ∧ (Lay LC g c t τ2 → CC E mX7_readNumber [vr 19] τ2 (KI (fun r3 τ4 => Lay LC g c t τ4 ∧ (inR r3 → ((r3 ≠ (-1) → ((r3 = 2 → (Lay LC g c t τ4 → CC E mX1_begin [vr a1, vi r3] τ4 (KV (fun τ6 => Lay LC g c t τ6 ∧ (Lay LC g c t τ6 → Q (.inl (some (vi 1))) τ6)) (fun _ _ => False)))) ∧ (¬ (r3 = 2) → ((r3 = 3 → (Lay LC g c t τ4 → CC E mX1_begin [vr a1, vi r3] τ4 (KV (fun τ8 => Lay LC g c t τ8 ∧ (Lay LC g c t τ8 → Q (.inl (some (vi 1))) τ8)) (fun _ _ => False)))) ∧ (¬ (r3 = 3) → ((r3 = 5 → (Lay LC g c t τ4 → CC E mX1_begin [vr a1, vi r3] τ4 (KV (fun τ10 => Lay LC g c t τ10 ∧ (Lay LC g c t τ10 → Q (.inl (some (vi 1))) τ10)) (fun _ _ => False)))) ∧ (¬ (r3 = 5) → (Lay LC g c t τ4 → CC E mX7_fail [vr 19, vi 2, vi (gI τ2 19 3)] τ4 (KI (fun r11 τ12 => Lay LC g c t τ12 ∧ (inR r11 → (r11 = 0 ∨ r11 = 1) ∧ (Lay LC g c t τ12 → Q (.inl (some (vi r11))) τ12))) (fun _ _ => False)))))))))) ∧ (r3 = (-1) → (Lay LC g c t τ4 → Q (.inl (some (vi 0))) τ4))))) (fun _ _ => False)))) (fun _ _ => False)))) : GG E mX7_readRoot 0 [some (vr 19), some (vr a1), none, none] [] σ rc rs Q := by
  refine r_aload_n (pc := 0) dX7_readRoot_0 rfl rfl ?_
  refine c_VV0N (M := mX7_readRoot) (pc := 1) (As := []) dX7_readRoot_1 K_X7_skipBlanks w_787 ⟨by decide, by decide⟩ (Nat.le_of_ble_eq_true rfl) rfl rfl (ci := 7) rfl rfl (by decide) (okO_of (N := 6) (hL.sh (i := 3) rfl (by decide) (by decide)) (by decide)) (h hL) (fun τ2 h8 => ?_) rfl
  replace hL := h8.1
  replace h := h8.2
  refine r_aload_n (pc := 4) dX7_readRoot_4 rfl rfl ?_
  refine r_getI (pc := 5) dX7_readRoot_5 (k9 := 3) CL_7 (by decide) (by decide) w_157 rfl (okO_of (N := 6) (hL.sh (i := 3) rfl (by decide) (by decide)) (by decide)) (fun _ => ?_)
  refine r_istore_n (pc := 8) dX7_readRoot_8 rfl (by decide) (l2 := [some (vr 19), some (vr a1), some (vi (gI τ2 19 3)), none]) rfl ?_
  refine r_aload_n (pc := 9) dX7_readRoot_9 rfl rfl ?_
  refine c_VI0N (M := mX7_readRoot) (pc := 10) (As := []) dX7_readRoot_10 K_X7_readNumber w_854 ⟨by decide, by decide⟩ (Nat.le_of_ble_eq_true rfl) rfl rfl (ci := 7) rfl rfl (by decide) (okO_of (N := 6) (hL.sh (i := 3) rfl (by decide) (by decide)) (by decide)) (h hL) (fun r3 τ4 h8 hr9 => ?_) rfl
  replace hL := h8.1
  replace h := h8.2 hr9
  refine r_istore_n (pc := 13) dX7_readRoot_13 rfl (by decide) (l2 := [some (vr 19), some (vr a1), some (vi (gI τ2 19 3)), some (vi r3)]) rfl ?_
  refine r_iload_n (pc := 14) dX7_readRoot_14 rfl rfl ?_
  refine r_iconst (pc := 15) dX7_readRoot_15 (inRk rfl) ?_
  refine r_icmp_ne (pc := 16) (tgt := 21) dX7_readRoot_16 (by decide) (fun c9 => ?_) (fun c9 => ?_)
  · replace h := h.1 c9
    refine r_iload_n (pc := 21) dX7_readRoot_21 rfl rfl ?_
    refine r_iconst (pc := 22) dX7_readRoot_22 (inRk rfl) ?_
    refine r_icmp_eq (pc := 23) (tgt := 43) dX7_readRoot_23 (by decide) (fun c9 => ?_) (fun c9 => ?_)
    · replace h := h.1 c9
      refine r_aload_n (pc := 43) dX7_readRoot_43 rfl rfl ?_
      refine r_iload_n (pc := 44) dX7_readRoot_44 rfl rfl ?_
      refine c_VV0N (M := mX7_readRoot) (pc := 45) (As := [vi r3]) dX7_readRoot_45 K_X1_begin w_861 ⟨by decide, by decide⟩ (Nat.le_of_ble_eq_true rfl) rfl rfl (ci := 1) rfl rfl (by decide) (okO_of (ci := 1) (N := 12) (qa1.r hL).1 (qa1.r hL).2.1) (h hL) (fun τ6 h8 => ?_) rfl
      replace hL := h8.1
      replace h := h8.2
      refine r_iconst (pc := 48) dX7_readRoot_48 (inRk rfl) ?_
      exact r_ireturn (pc := 49) (ty := .boolean) dX7_readRoot_49 (by decide +kernel) rfl (nar_bool (by decide)) (h hL)
    · replace h := h.2 c9
      refine r_iload_n (pc := 26) dX7_readRoot_26 rfl rfl ?_
      refine r_iconst (pc := 27) dX7_readRoot_27 (inRk rfl) ?_
      refine r_icmp_eq (pc := 28) (tgt := 43) dX7_readRoot_28 (by decide) (fun c9 => ?_) (fun c9 => ?_)
      · replace h := h.1 c9
        refine r_aload_n (pc := 43) dX7_readRoot_43 rfl rfl ?_
        refine r_iload_n (pc := 44) dX7_readRoot_44 rfl rfl ?_
        refine c_VV0N (M := mX7_readRoot) (pc := 45) (As := [vi r3]) dX7_readRoot_45 K_X1_begin w_861 ⟨by decide, by decide⟩ (Nat.le_of_ble_eq_true rfl) rfl rfl (ci := 1) rfl rfl (by decide) (okO_of (ci := 1) (N := 12) (qa1.r hL).1 (qa1.r hL).2.1) (h hL) (fun τ8 h8 => ?_) rfl
        replace hL := h8.1
        replace h := h8.2
        refine r_iconst (pc := 48) dX7_readRoot_48 (inRk rfl) ?_
        exact r_ireturn (pc := 49) (ty := .boolean) dX7_readRoot_49 (by decide +kernel) rfl (nar_bool (by decide)) (h hL)
      · replace h := h.2 c9
        refine r_iload_n (pc := 31) dX7_readRoot_31 rfl rfl ?_
        refine r_iconst (pc := 32) dX7_readRoot_32 (inRk rfl) ?_
        refine r_icmp_eq (pc := 33) (tgt := 43) dX7_readRoot_33 (by decide) (fun c9 => ?_) (fun c9 => ?_)
        · replace h := h.1 c9
          refine r_aload_n (pc := 43) dX7_readRoot_43 rfl rfl ?_
          refine r_iload_n (pc := 44) dX7_readRoot_44 rfl rfl ?_
          refine c_VV0N (M := mX7_readRoot) (pc := 45) (As := [vi r3]) dX7_readRoot_45 K_X1_begin w_861 ⟨by decide, by decide⟩ (Nat.le_of_ble_eq_true rfl) rfl rfl (ci := 1) rfl rfl (by decide) (okO_of (ci := 1) (N := 12) (qa1.r hL).1 (qa1.r hL).2.1) (h hL) (fun τ10 h8 => ?_) rfl
          replace hL := h8.1
          replace h := h8.2
          refine r_iconst (pc := 48) dX7_readRoot_48 (inRk rfl) ?_
          exact r_ireturn (pc := 49) (ty := .boolean) dX7_readRoot_49 (by decide +kernel) rfl (nar_bool (by decide)) (h hL)
        · replace h := h.2 c9
          refine r_aload_n (pc := 36) dX7_readRoot_36 rfl rfl ?_
          refine r_iconst (pc := 37) dX7_readRoot_37 (inRk rfl) ?_
          refine r_iload_n (pc := 38) dX7_readRoot_38 rfl rfl ?_
          refine c_VI0N (M := mX7_readRoot) (pc := 39) (As := [vi 2, vi (gI τ2 19 3)]) dX7_readRoot_39 K_X7_fail w_846 ⟨by decide, by decide⟩ (Nat.le_of_ble_eq_true rfl) rfl rfl (ci := 7) rfl rfl (by decide) (okO_of (N := 6) (hL.sh (i := 3) rfl (by decide) (by decide)) (by decide)) (h hL) (fun r11 τ12 h8 hr9 => ?_) rfl
          replace hL := h8.1
          replace h := h8.2 hr9
          exact r_ireturn (pc := 42) (ty := .boolean) dX7_readRoot_42 (by decide +kernel) rfl (nar_bool h.1) (h.2 hL)
  · replace h := h.2 c9
    refine r_iconst (pc := 19) dX7_readRoot_19 (inRk rfl) ?_
    exact r_ireturn (pc := 20) (ty := .boolean) dX7_readRoot_20 (by decide +kernel) rfl (nar_bool (by decide)) (h hL)
theorem C_X7_readRoot {a0 : Nat} {a1 : Nat} (h : GG E mX7_readRoot 0 [some (vr a0), some (vr a1), none, none] [] σ 0 0 Q) : CC E mX7_readRoot [vr a0, vr a1] σ Q := CC.of (by decide +kernel) rfl (by decide +kernel) (fun h9 => nomatch h9) (Nat.le_of_ble_eq_true rfl) h
theorem dX7_readSign_0 : decode cX7_readSign 0 = .ok (.aload_n 0, 1) := by decide +kernel
theorem dX7_readSign_1 : decode cX7_readSign 1 = .ok (.invokevirtual 52, 3) := by decide +kernel
theorem dX7_readSign_4 : decode cX7_readSign 4 = .ok (.aload_n 0, 1) := by decide +kernel
theorem dX7_readSign_5 : decode cX7_readSign 5 = .ok (.invokevirtual 88, 3) := by decide +kernel
theorem dX7_readSign_8 : decode cX7_readSign 8 = .ok (.iload_n 1, 1) := by decide +kernel
theorem dX7_readSign_9 : decode cX7_readSign 9 = .ok (.if_icmp .eq 13, 3) := by decide +kernel
theorem dX7_readSign_12 : decode cX7_readSign 12 = .ok (.aload_n 0, 1) := by decide +kernel
theorem dX7_readSign_13 : decode cX7_readSign 13 = .ok (.iconst 1, 1) := by decide +kernel
theorem dX7_readSign_14 : decode cX7_readSign 14 = .ok (.aload_n 0, 1) := by decide +kernel
theorem dX7_readSign_15 : decode cX7_readSign 15 = .ok (.getfield 23, 3) := by decide +kernel
theorem dX7_readSign_18 : decode cX7_readSign 18 = .ok (.invokevirtual 62, 3) := by decide +kernel
theorem dX7_readSign_21 : decode cX7_readSign 21 = .ok (.ireturn, 1) := by decide +kernel
theorem dX7_readSign_22 : decode cX7_readSign 22 = .ok (.aload_n 0, 1) := by decide +kernel
theorem dX7_readSign_23 : decode cX7_readSign 23 = .ok (.dup, 1) := by decide +kernel
theorem dX7_readSign_24 : decode cX7_readSign 24 = .ok (.getfield 23, 3) := by decide +kernel
theorem dX7_readSign_27 : decode cX7_readSign 27 = .ok (.iconst 1, 1) := by decide +kernel
theorem dX7_readSign_28 : decode cX7_readSign 28 = .ok (.iadd, 1) := by decide +kernel
theorem dX7_readSign_29 : decode cX7_readSign 29 = .ok (.putfield 23, 3) := by decide +kernel
theorem dX7_readSign_32 : decode cX7_readSign 32 = .ok (.iconst 1, 1) := by decide +kernel
theorem dX7_readSign_33 : decode cX7_readSign 33 = .ok (.ireturn, 1) := by decide +kernel
theorem B_X7_readSign_0 {g : Sg} {c t : Nat} (hL : Lay LC g c t σ) {x1 : Int} (h : (Lay LC g c t σ → CC E mX7_skipBlanks [vr 19] σ (KV (fun τ2 => Lay LC g c t τ2 ∧ (Lay LC g c t τ2 → CC E mX7_here [vr 19] τ2 (KI (fun r3 τ4 => Lay LC g c t τ4 ∧ (inR r3 → ((r3 = x1 → inR ((gI τ4 19 3) + 1) ∧ ∀ τ6 : Sg, τ6 = sI τ4 19 3 ((gI τ4 19 3) + 1) → (Lay LC g c t τ6 → Q (.inl (some (vi 1))) τ6)) ∧ (¬ (r3 = x1) → (Lay LC g c t τ4 → CC E mX7_fail [vr 19, vi 1, vi (gI τ4 19 3)] τ4 (KI (fun r7 τ8 => Lay LC g c t τ8 ∧ (inR r7 → (r7 = 0 ∨ r7 = 1) ∧ (Lay LC g c t τ8 → Q (.inl (some (vi r7))) τ8))) (fun _ _ => False))))))) (fun _ _ => False)))) (fun _ _ => False)))) : GG E mX7_readSign 0 [some (vr 19), some (vi x1)] [] σ rc rs Q := by
  refine r_aload_n (pc := 0) dX7_readSign_0 rfl rfl ?_
  refine c_VV0N (M := mX7_readSign) (pc := 1) (As := []) dX7_readSign_1 K_X7_skipBlanks w_787 ⟨by decide, by decide⟩ (Nat.le_of_ble_eq_true rfl) rfl rfl (ci := 7) rfl rfl (by decide) (okO_of (N := 6) (hL.sh (i := 3) rfl (by decide) (by decide)) (by decide)) (h hL) (fun τ2 h8 => ?_) rfl
  replace hL := h8.1
  replace h := h8.2
  refine r_aload_n (pc := 4) dX7_readSign_4 rfl rfl ?_
  refine c_VI0N (M := mX7_readSign) (pc := 5) (As := []) dX7_readSign_5 K_X7_here w_791 ⟨by decide, by decide⟩ (Nat.le_of_ble_eq_true rfl) rfl rfl (ci := 7) rfl rfl (by decide) (okO_of (N := 6) (hL.sh (i := 3) rfl (by decide) (by decide)) (by decide)) (h hL) (fun r3 τ4 h8 hr9 => ?_) rfl
  replace hL := h8.1
  replace h := h8.2 hr9
  refine r_iload_n (pc := 8) dX7_readSign_8 rfl rfl ?_
  refine r_icmp_eq (pc := 9) (tgt := 22) dX7_readSign_9 (by decide) (fun c9 => ?_) (fun c9 => ?_)
  · replace h := h.1 c9
    refine r_aload_n (pc := 22) dX7_readSign_22 rfl rfl ?_
    refine r_dup (pc := 23) dX7_readSign_23 (fun _ h9 => nomatch h9) ?_
    refine r_getI (pc := 24) dX7_readSign_24 (k9 := 3) CL_7 (by decide) (by decide) w_157 rfl (okO_of (N := 6) (hL.sh (i := 3) rfl (by decide) (by decide)) (by decide)) (fun _ => ?_)
    refine r_iconst (pc := 27) dX7_readSign_27 (inRk rfl) ?_
    obtain ⟨o5, h⟩ := h
    refine r_iadd (pc := 28) dX7_readSign_28 o5 ?_
    refine r_putI (pc := 29) dX7_readSign_29 (k9 := 3) CL_7 (by decide) (by decide) w_157 rfl rfl (fun h9 => absurd h9 (by decide +kernel)) (okO_of (N := 6) (hL.sh (i := 3) rfl (by decide) (by decide)) (by decide)) ?_
    refine nmS (fun τ6 e6 => ?_)
    replace h := h τ6 e6
    have hL := hL.wI e6 (by decide) (.inl (by decide))
    refine r_iconst (pc := 32) dX7_readSign_32 (inRk rfl) ?_
    exact r_ireturn (pc := 33) (ty := .boolean) dX7_readSign_33 (by decide +kernel) rfl (nar_bool (by decide)) (h hL)
  · replace h := h.2 c9
    refine r_aload_n (pc := 12) dX7_readSign_12 rfl rfl ?_
    refine r_iconst (pc := 13) dX7_readSign_13 (inRk rfl) ?_
    refine r_aload_n (pc := 14) dX7_readSign_14 rfl rfl ?_
    refine r_getI (pc := 15) dX7_readSign_15 (k9 := 3) CL_7 (by decide) (by decide) w_157 rfl (okO_of (N := 6) (hL.sh (i := 3) rfl (by decide) (by decide)) (by decide)) (fun _ => ?_)
    refine c_VI0N (M := mX7_readSign) (pc := 18) (As := [vi 1, vi (gI τ4 19 3)]) dX7_readSign_18 K_X7_fail w_846 ⟨by decide, by decide⟩ (Nat.le_of_ble_eq_true rfl) rfl rfl (ci := 7) rfl rfl (by decide) (okO_of (N := 6) (hL.sh (i := 3) rfl (by decide) (by decide)) (by decide)) (h hL) (fun r7 τ8 h8 hr9 => ?_) rfl
    replace hL := h8.1
    replace h := h8.2 hr9
    exact r_ireturn (pc := 21) (ty := .boolean) dX7_readSign_21 (by decide +kernel) rfl (nar_bool h.1) (h.2 hL)
theorem C_X7_readSign {a0 : Nat} {x1 : Int} (h : GG E mX7_readSign 0 [some (vr a0), some (vi x1)] [] σ 0 0 Q) : CC E mX7_readSign [vr a0, vi x1] σ Q := CC.of (by decide +kernel) rfl (by decide +kernel) (fun h9 => nomatch h9) (Nat.le_of_ble_eq_true rfl) h
theorem dX7_readTold_0 : decode cX7_readTold 0 = .ok (.aload_n 0, 1) := by decide +kernel
theorem dX7_readTold_1 : decode cX7_readTold 1 = .ok (.invokevirtual 52, 3) := by decide +kernel
theorem dX7_readTold_4 : decode cX7_readTold 4 = .ok (.aload_n 0, 1) := by decide +kernel
theorem dX7_readTold_5 : decode cX7_readTold 5 = .ok (.getfield 23, 3) := by decide +kernel
theorem dX7_readTold_8 : decode cX7_readTold 8 = .ok (.istore_n 2, 1) := by decide +kernel
theorem dX7_readTold_9 : decode cX7_readTold 9 = .ok (.aload_n 0, 1) := by decide +kernel
theorem dX7_readTold_10 : decode cX7_readTold 10 = .ok (.invokevirtual 88, 3) := by decide +kernel
theorem dX7_readTold_13 : decode cX7_readTold 13 = .ok (.bipush 45, 2) := by decide +kernel
theorem dX7_readTold_15 : decode cX7_readTold 15 = .ok (.if_icmp .ne 7, 3) := by decide +kernel
theorem dX7_readTold_18 : decode cX7_readTold 18 = .ok (.iconst 1, 1) := by decide +kernel
theorem dX7_readTold_19 : decode cX7_readTold 19 = .ok (.goto 4, 3) := by decide +kernel
theorem dX7_readTold_22 : decode cX7_readTold 22 = .ok (.iconst 0, 1) := by decide +kernel
theorem dX7_readTold_23 : decode cX7_readTold 23 = .ok (.istore_n 3, 1) := by decide +kernel
theorem dX7_readTold_24 : decode cX7_readTold 24 = .ok (.iload_n 3, 1) := by decide +kernel
theorem dX7_readTold_25 : decode cX7_readTold 25 = .ok (.ifCond .eq 13, 3) := by decide +kernel
theorem dX7_readTold_28 : decode cX7_readTold 28 = .ok (.aload_n 0, 1) := by decide +kernel
theorem dX7_readTold_29 : decode cX7_readTold 29 = .ok (.dup, 1) := by decide +kernel
theorem dX7_readTold_30 : decode cX7_readTold 30 = .ok (.getfield 23, 3) := by decide +kernel
theorem dX7_readTold_33 : decode cX7_readTold 33 = .ok (.iconst 1, 1) := by decide +kernel
theorem dX7_readTold_34 : decode cX7_readTold 34 = .ok (.iadd, 1) := by decide +kernel
theorem dX7_readTold_35 : decode cX7_readTold 35 = .ok (.putfield 23, 3) := by decide +kernel
theorem dX7_readTold_38 : decode cX7_readTold 38 = .ok (.aload_n 0, 1) := by decide +kernel
theorem dX7_readTold_39 : decode cX7_readTold 39 = .ok (.invokevirtual 58, 3) := by decide +kernel
theorem dX7_readTold_42 : decode cX7_readTold 42 = .ok (.istore 4, 2) := by decide +kernel
theorem dX7_readTold_44 : decode cX7_readTold 44 = .ok (.iload 4, 2) := by decide +kernel
theorem dX7_readTold_46 : decode cX7_readTold 46 = .ok (.iconst (-1), 1) := by decide +kernel
theorem dX7_readTold_47 : decode cX7_readTold 47 = .ok (.if_icmp .ne 5, 3) := by decide +kernel
theorem dX7_readTold_50 : decode cX7_readTold 50 = .ok (.iconst 0, 1) := by decide +kernel
theorem dX7_readTold_51 : decode cX7_readTold 51 = .ok (.ireturn, 1) := by decide +kernel
theorem dX7_readTold_52 : decode cX7_readTold 52 = .ok (.iload 4, 2) := by decide +kernel
theorem dX7_readTold_54 : decode cX7_readTold 54 = .ok (.iconst 4, 1) := by decide +kernel
theorem dX7_readTold_55 : decode cX7_readTold 55 = .ok (.if_icmp .le 10, 3) := by decide +kernel
theorem dX7_readTold_58 : decode cX7_readTold 58 = .ok (.aload_n 0, 1) := by decide +kernel
theorem dX7_readTold_59 : decode cX7_readTold 59 = .ok (.iconst 2, 1) := by decide +kernel
theorem dX7_readTold_60 : decode cX7_readTold 60 = .ok (.iload_n 2, 1) := by decide +kernel
theorem dX7_readTold_61 : decode cX7_readTold 61 = .ok (.invokevirtual 62, 3) := by decide +kernel
theorem dX7_readTold_64 : decode cX7_readTold 64 = .ok (.ireturn, 1) := by decide +kernel
theorem dX7_readTold_65 : decode cX7_readTold 65 = .ok (.iload_n 1, 1) := by decide +kernel
theorem dX7_readTold_66 : decode cX7_readTold 66 = .ok (.ifCond .lt 30, 3) := by decide +kernel
theorem dX7_readTold_69 : decode cX7_readTold 69 = .ok (.iload_n 1, 1) := by decide +kernel
theorem dX7_readTold_70 : decode cX7_readTold 70 = .ok (.aload_n 0, 1) := by decide +kernel
theorem dX7_readTold_71 : decode cX7_readTold 71 = .ok (.getfield 9, 3) := by decide +kernel
theorem dX7_readTold_74 : decode cX7_readTold 74 = .ok (.arraylength, 1) := by decide +kernel
theorem dX7_readTold_75 : decode cX7_readTold 75 = .ok (.if_icmp .ge 21, 3) := by decide +kernel
theorem dX7_readTold_78 : decode cX7_readTold 78 = .ok (.aload_n 0, 1) := by decide +kernel
theorem dX7_readTold_79 : decode cX7_readTold 79 = .ok (.getfield 9, 3) := by decide +kernel
theorem dX7_readTold_82 : decode cX7_readTold 82 = .ok (.iload_n 1, 1) := by decide +kernel
theorem dX7_readTold_83 : decode cX7_readTold 83 = .ok (.iload_n 3, 1) := by decide +kernel
theorem dX7_readTold_84 : decode cX7_readTold 84 = .ok (.ifCond .eq 9, 3) := by decide +kernel
theorem dX7_readTold_87 : decode cX7_readTold 87 = .ok (.iload 4, 2) := by decide +kernel
theorem dX7_readTold_89 : decode cX7_readTold 89 = .ok (.ineg, 1) := by decide +kernel
theorem dX7_readTold_90 : decode cX7_readTold 90 = .ok (.goto 5, 3) := by decide +kernel
theorem dX7_readTold_93 : decode cX7_readTold 93 = .ok (.iload 4, 2) := by decide +kernel
theorem dX7_readTold_95 : decode cX7_readTold 95 = .ok (.iastore, 1) := by decide +kernel
theorem dX7_readTold_96 : decode cX7_readTold 96 = .ok (.iconst 1, 1) := by decide +kernel
theorem dX7_readTold_97 : decode cX7_readTold 97 = .ok (.ireturn, 1) := by decide +kernel
theorem B_X7_readTold_0 {g : Sg} {c t : Nat} (hL : Lay LC g c t σ) {x1 : Int} (h : (Lay LC g c t σ → CC E mX7_skipBlanks [vr 19] σ (KV (fun τ2 => Lay LC g c t τ2 ∧ (Lay LC g c t τ2 → CC E mX7_here [vr 19] τ2 (KI (fun r3 τ4 => Lay LC g c t τ4 ∧ (inR r3 → ((r3 ≠ 45 → (((0 : Int) = 0 → (Lay LC g c t τ4 → GG E mX7_readTold 38 [some (vr 19), some (vi x1), some (vi (gI τ2 19 3)), some (vi 0), none] [] τ4 rc rs Q)) ∧ (¬ ((0 : Int) = 0) → inR ((gI τ4 19 3) + 1) ∧ ∀ τ6 : Sg, τ6 = sI τ4 19 3 ((gI τ4 19 3) + 1) → (Lay LC g c t τ6 → GG E mX7_readTold 38 [some (vr 19), some (vi x1), some (vi (gI τ2 19 3)), some (vi 0), none] [] τ6 rc rs Q)))) ∧ (r3 = 45 → (((1 : Int) = 0 → (Lay LC g c t τ4 → GG E mX7_readTold 38 [some (vr 19), some (vi x1), some (vi (gI τ2 19 3)), some (vi 1), none] [] τ4 rc rs Q)) ∧ (¬ ((1 : Int) = 0) → inR ((gI τ4 19 3) + 1) ∧ ∀ τ8 : Sg, τ8 = sI τ4 19 3 ((gI τ4 19 3) + 1) → (Lay LC g c t τ8 → GG E mX7_readTold 38 [some (vr 19), some (vi x1), some (vi (gI τ2 19 3)), some (vi 1), none] [] τ8 rc rs Q))))))) (fun _ _ => False)))) (fun _ _ => False)))) : GG E mX7_readTold 0 [some (vr 19), some (vi x1), none, none, none] [] σ rc rs Q := by
  refine r_aload_n (pc := 0) dX7_readTold_0 rfl rfl ?_
  refine c_VV0N (M := mX7_readTold) (pc := 1) (As := []) dX7_readTold_1 K_X7_skipBlanks w_787 ⟨by decide, by decide⟩ (Nat.le_of_ble_eq_true rfl) rfl rfl (ci := 7) rfl rfl (by decide) (okO_of (N := 6) (hL.sh (i := 3) rfl (by decide) (by decide)) (by decide)) (h hL) (fun τ2 h8 => ?_) rfl
  replace hL := h8.1
  replace h := h8.2
  refine r_aload_n (pc := 4) dX7_readTold_4 rfl rfl ?_
  refine r_getI (pc := 5) dX7_readTold_5 (k9 := 3) CL_7 (by decide) (by decide) w_157 rfl (okO_of (N := 6) (hL.sh (i := 3) rfl (by decide) (by decide)) (by decide)) (fun _ => ?_)
  refine r_istore_n (pc := 8) dX7_readTold_8 rfl (by decide) (l2 := [some (vr 19), some (vi x1), some (vi (gI τ2 19 3)), none, none]) rfl ?_
  refine r_aload_n (pc := 9) dX7_readTold_9 rfl rfl ?_
  refine c_VI0N (M := mX7_readTold) (pc := 10) (As := []) dX7_readTold_10 K_X7_here w_791 ⟨by decide, by decide⟩ (Nat.le_of_ble_eq_true rfl) rfl rfl (ci := 7) rfl rfl (by decide) (okO_of (N := 6) (hL.sh (i := 3) rfl (by decide) (by decide)) (by decide)) (h hL) (fun r3 τ4 h8 hr9 => ?_) rfl
  replace hL := h8.1
  replace h := h8.2 hr9
  refine r_bipush (pc := 13) dX7_readTold_13 (by decide) ?_
  refine r_icmp_ne (pc := 15) (tgt := 22) dX7_readTold_15 (by decide) (fun c9 => ?_) (fun c9 => ?_)
  · replace h := h.1 c9
    refine r_iconst (pc := 22) dX7_readTold_22 (inRk rfl) ?_
    refine r_istore_n (pc := 23) dX7_readTold_23 rfl (by decide) (l2 := [some (vr 19), some (vi x1), some (vi (gI τ2 19 3)), some (vi 0), none]) rfl ?_
    refine r_iload_n (pc := 24) dX7_readTold_24 rfl rfl ?_
    refine r_if_eq (pc := 25) (tgt := 38) dX7_readTold_25 (by decide) (fun c9 => ?_) (fun c9 => ?_)
    · replace h := h.1 c9
      exact (h hL)
    · replace h := h.2 c9
      refine r_aload_n (pc := 28) dX7_readTold_28 rfl rfl ?_
      refine r_dup (pc := 29) dX7_readTold_29 (fun _ h9 => nomatch h9) ?_
      refine r_getI (pc := 30) dX7_readTold_30 (k9 := 3) CL_7 (by decide) (by decide) w_157 rfl (okO_of (N := 6) (hL.sh (i := 3) rfl (by decide) (by decide)) (by decide)) (fun _ => ?_)
      refine r_iconst (pc := 33) dX7_readTold_33 (inRk rfl) ?_
      obtain ⟨o5, h⟩ := h
      refine r_iadd (pc := 34) dX7_readTold_34 o5 ?_
      refine r_putI (pc := 35) dX7_readTold_35 (k9 := 3) CL_7 (by decide) (by decide) w_157 rfl rfl (fun h9 => absurd h9 (by decide +kernel)) (okO_of (N := 6) (hL.sh (i := 3) rfl (by decide) (by decide)) (by decide)) ?_
      refine nmS (fun τ6 e6 => ?_)
      replace h := h τ6 e6
      have hL := hL.wI e6 (by decide) (.inl (by decide))
      exact (h hL)
  · replace h := h.2 c9
    refine r_iconst (pc := 18) dX7_readTold_18 (inRk rfl) ?_
    refine r_goto (pc := 19) (tgt := 23) dX7_readTold_19 (by decide) ?_
    refine r_istore_n (pc := 23) dX7_readTold_23 rfl (by decide) (l2 := [some (vr 19), some (vi x1), some (vi (gI τ2 19 3)), some (vi 1), none]) rfl ?_
    refine r_iload_n (pc := 24) dX7_readTold_24 rfl rfl ?_
    refine r_if_eq (pc := 25) (tgt := 38) dX7_readTold_25 (by decide) (fun c9 => ?_) (fun c9 => ?_)
    · replace h := h.1 c9
      exact (h hL)
    · replace h := h.2 c9
      refine r_aload_n (pc := 28) dX7_readTold_28 rfl rfl ?_
      refine r_dup (pc := 29) dX7_readTold_29 (fun _ h9 => nomatch h9) ?_
      refine r_getI (pc := 30) dX7_readTold_30 (k9 := 3) CL_7 (by decide) (by decide) w_157 rfl (okO_of (N := 6) (hL.sh (i := 3) rfl (by decide) (by decide)) (by decide)) (fun _ => ?_)
      refine r_iconst (pc := 33) dX7_readTold_33 (inRk rfl) ?_
      obtain ⟨o7, h⟩ := h
      refine r_iadd (pc := 34) dX7_readTold_34 o7 ?_
      refine r_putI (pc := 35) dX7_readTold_35 (k9 := 3) CL_7 (by decide) (by decide) w_157 rfl rfl (fun h9 => absurd h9 (by decide +kernel)) (okO_of (N := 6) (hL.sh (i := 3) rfl (by decide) (by decide)) (by decide)) ?_
      refine nmS (fun τ8 e8 => ?_)
      replace h := h τ8 e8
      have hL := hL.wI e8 (by decide) (.inl (by decide))
      exact (h hL)
theorem B_X7_readTold_38 {g : Sg} {c t : Nat} (hL : Lay LC g c t σ) {x1 : Int} {x2 : Int} {x3 : Int} (h : (Lay LC g c t σ → CC E mX7_readNumber [vr 19] σ (KI (fun r1 τ2 => Lay LC g c t τ2 ∧ (inR r1 → ((r1 ≠ (-1) → ((r1 ≤ 4 → ((x1 < 0 → (Lay LC g c t τ2 → Q (.inl (some (vi 1))) τ2)) ∧ (¬ (x1 < 0) → ((8 ≤ x1 → (Lay LC g c t τ2 → Q (.inl (some (vi 1))) τ2)) ∧ (¬ (8 ≤ x1) → ((x3 = 0 → (0 ≤ x1 ∧ x1 < 8) ∧ ∀ τ4 : Sg, τ4 = sI τ2 20 x1.toNat r1 → (Lay LC g c t τ4 → Q (.inl (some (vi 1))) τ4)) ∧ (¬ (x3 = 0) → inR (-r1) ∧ (0 ≤ x1 ∧ x1 < 8) ∧ ∀ τ7 : Sg, τ7 = sI τ2 20 x1.toNat (-r1) → (Lay LC g c t τ7 → Q (.inl (some (vi 1))) τ7)))))))) ∧ (¬ (r1 ≤ 4) → (Lay LC g c t τ2 → CC E mX7_fail [vr 19, vi 2, vi x2] τ2 (KI (fun r9 τ10 => Lay LC g c t τ10 ∧ (inR r9 → (r9 = 0 ∨ r9 = 1) ∧ (Lay LC g c t τ10 → Q (.inl (some (vi r9))) τ10))) (fun _ _ => False)))))) ∧ (r1 = (-1) → (Lay LC g c t τ2 → Q (.inl (some (vi 0))) τ2))))) (fun _ _ => False)))) : GG E mX7_readTold 38 [some (vr 19), some (vi x1), some (vi x2), some (vi x3), none] [] σ rc rs Q := by
  refine r_aload_n (pc := 38) dX7_readTold_38 rfl rfl ?_
  refine c_VI0N (M := mX7_readTold) (pc := 39) (As := []) dX7_readTold_39 K_X7_readNumber w_854 ⟨by decide, by decide⟩ (Nat.le_of_ble_eq_true rfl) rfl rfl (ci := 7) rfl rfl (by decide) (okO_of (N := 6) (hL.sh (i := 3) rfl (by decide) (by decide)) (by decide)) (h hL) (fun r1 τ2 h8 hr9 => ?_) rfl
  replace hL := h8.1
  replace h := h8.2 hr9
  refine r_istore (pc := 42) dX7_readTold_42 (by decide) (l2 := [some (vr 19), some (vi x1), some (vi x2), some (vi x3), some (vi r1)]) rfl ?_
  refine r_iload (pc := 44) dX7_readTold_44 rfl ?_
  refine r_iconst (pc := 46) dX7_readTold_46 (inRk rfl) ?_
  refine r_icmp_ne (pc := 47) (tgt := 52) dX7_readTold_47 (by decide) (fun c9 => ?_) (fun c9 => ?_)
  · replace h := h.1 c9
    refine r_iload (pc := 52) dX7_readTold_52 rfl ?_
    refine r_iconst (pc := 54) dX7_readTold_54 (inRk rfl) ?_
    refine r_icmp_le (pc := 55) (tgt := 65) dX7_readTold_55 (by decide) (fun c9 => ?_) (fun c9 => ?_)
    · replace h := h.1 c9
      refine r_iload_n (pc := 65) dX7_readTold_65 rfl rfl ?_
      refine r_if_lt (pc := 66) (tgt := 96) dX7_readTold_66 (by decide) (fun c9 => ?_) (fun c9 => ?_)
      · replace h := h.1 c9
        refine r_iconst (pc := 96) dX7_readTold_96 (inRk rfl) ?_
        exact r_ireturn (pc := 97) (ty := .boolean) dX7_readTold_97 (by decide +kernel) rfl (nar_bool (by decide)) (h hL)
      · replace h := h.2 c9
        refine r_iload_n (pc := 69) dX7_readTold_69 rfl rfl ?_
        refine r_aload_n (pc := 70) dX7_readTold_70 rfl rfl ?_
        refine r_getR (pc := 71) dX7_readTold_71 (k9 := 1) CL_7 (by decide) (by decide) w_155 rfl (okO_of (N := 6) (hL.sh (i := 3) rfl (by decide) (by decide)) (by decide)) ?_
        refine eqR (y := 20) (hL.rf (i := 2) rfl) ?_
        have o8 : okN τ2 20 := okN_of (hL.sh (i := 4) rfl (by decide) (by decide)) (by decide) (by decide) (by decide)
        refine r_alen (pc := 74) dX7_readTold_74 o8.1 o8.2 ?_
        refine eqI (y := 8) (by rw [(hL.sh (i := 4) rfl (by decide) (by decide))] <;> rfl) ?_
        refine r_icmp_ge (pc := 75) (tgt := 96) dX7_readTold_75 (by decide) (fun c9 => ?_) (fun c9 => ?_)
        · replace h := h.1 c9
          refine r_iconst (pc := 96) dX7_readTold_96 (inRk rfl) ?_
          exact r_ireturn (pc := 97) (ty := .boolean) dX7_readTold_97 (by decide +kernel) rfl (nar_bool (by decide)) (h hL)
        · replace h := h.2 c9
          refine r_aload_n (pc := 78) dX7_readTold_78 rfl rfl ?_
          refine r_getR (pc := 79) dX7_readTold_79 (k9 := 1) CL_7 (by decide) (by decide) w_155 rfl (okO_of (N := 6) (hL.sh (i := 3) rfl (by decide) (by decide)) (by decide)) ?_
          refine eqR (y := 20) (hL.rf (i := 2) rfl) ?_
          refine r_iload_n (pc := 82) dX7_readTold_82 rfl rfl ?_
          refine r_iload_n (pc := 83) dX7_readTold_83 rfl rfl ?_
          refine r_if_eq (pc := 84) (tgt := 93) dX7_readTold_84 (by decide) (fun c9 => ?_) (fun c9 => ?_)
          · replace h := h.1 c9
            refine r_iload (pc := 93) dX7_readTold_93 rfl ?_
            obtain ⟨o3, h⟩ := h
            refine r_iastore (pc := 95) dX7_readTold_95 (okB_of (c := 20) (n := 8) (hL.sh (i := 4) rfl (by decide) (by decide)) (by decide) o3) ?_
            refine nmS (fun τ4 e4 => ?_)
            replace h := h τ4 e4
            have hL := hL.wI e4 (by decide) (.inl (by decide))
            refine r_iconst (pc := 96) dX7_readTold_96 (inRk rfl) ?_
            exact r_ireturn (pc := 97) (ty := .boolean) dX7_readTold_97 (by decide +kernel) rfl (nar_bool (by decide)) (h hL)
          · replace h := h.2 c9
            refine r_iload (pc := 87) dX7_readTold_87 rfl ?_
            obtain ⟨o5, h⟩ := h
            refine r_ineg (pc := 89) dX7_readTold_89 o5 ?_
            refine r_goto (pc := 90) (tgt := 95) dX7_readTold_90 (by decide) ?_
            obtain ⟨o6, h⟩ := h
            refine r_iastore (pc := 95) dX7_readTold_95 (okB_of (c := 20) (n := 8) (hL.sh (i := 4) rfl (by decide) (by decide)) (by decide) o6) ?_
            refine nmS (fun τ7 e7 => ?_)
            replace h := h τ7 e7
            have hL := hL.wI e7 (by decide) (.inl (by decide))
            refine r_iconst (pc := 96) dX7_readTold_96 (inRk rfl) ?_
            exact r_ireturn (pc := 97) (ty := .boolean) dX7_readTold_97 (by decide +kernel) rfl (nar_bool (by decide)) (h hL)
    · replace h := h.2 c9
      refine r_aload_n (pc := 58) dX7_readTold_58 rfl rfl ?_
      refine r_iconst (pc := 59) dX7_readTold_59 (inRk rfl) ?_
      refine r_iload_n (pc := 60) dX7_readTold_60 rfl rfl ?_
      refine c_VI0N (M := mX7_readTold) (pc := 61) (As := [vi 2, vi x2]) dX7_readTold_61 K_X7_fail w_846 ⟨by decide, by decide⟩ (Nat.le_of_ble_eq_true rfl) rfl rfl (ci := 7) rfl rfl (by decide) (okO_of (N := 6) (hL.sh (i := 3) rfl (by decide) (by decide)) (by decide)) (h hL) (fun r9 τ10 h8 hr9 => ?_) rfl
      replace hL := h8.1
      replace h := h8.2 hr9
      exact r_ireturn (pc := 64) (ty := .boolean) dX7_readTold_64 (by decide +kernel) rfl (nar_bool h.1) (h.2 hL)
  · replace h := h.2 c9
    refine r_iconst (pc := 50) dX7_readTold_50 (inRk rfl) ?_
    exact r_ireturn (pc := 51) (ty := .boolean) dX7_readTold_51 (by decide +kernel) rfl (nar_bool (by decide)) (h hL)
theorem C_X7_readTold {a0 : Nat} {x1 : Int} (h : GG E mX7_readTold 0 [some (vr a0), some (vi x1), none, none, none] [] σ 0 0 Q) : CC E mX7_readTold [vr a0, vi x1] σ Q := CC.of (by decide +kernel) rfl (by decide +kernel) (fun h9 => nomatch h9) (Nat.le_of_ble_eq_true rfl) h
theorem dX7_readTurn_0 : decode cX7_readTurn 0 = .ok (.aload_n 0, 1) := by decide +kernel
theorem dX7_readTurn_1 : decode cX7_readTurn 1 = .ok (.getfield 23, 3) := by decide +kernel
theorem dX7_readTurn_4 : decode cX7_readTurn 4 = .ok (.istore_n 2, 1) := by decide +kernel
theorem dX7_readTurn_5 : decode cX7_readTurn 5 = .ok (.aload_n 0, 1) := by decide +kernel
theorem dX7_readTurn_6 : decode cX7_readTurn 6 = .ok (.ldc 70, 2) := by decide +kernel
theorem dX7_readTurn_8 : decode cX7_readTurn 8 = .ok (.invokevirtual 34, 3) := by decide +kernel
theorem dX7_readTurn_11 : decode cX7_readTurn 11 = .ok (.ifCond .ne 5, 3) := by decide +kernel
theorem dX7_readTurn_14 : decode cX7_readTurn 14 = .ok (.iconst 0, 1) := by decide +kernel
theorem dX7_readTurn_15 : decode cX7_readTurn 15 = .ok (.ireturn, 1) := by decide +kernel
theorem dX7_readTurn_16 : decode cX7_readTurn 16 = .ok (.aload_n 1, 1) := by decide +kernel
theorem dX7_readTurn_17 : decode cX7_readTurn 17 = .ok (.getfield 71, 3) := by decide +kernel
theorem dX7_readTurn_20 : decode cX7_readTurn 20 = .ok (.iconst 4, 1) := by decide +kernel
theorem dX7_readTurn_21 : decode cX7_readTurn 21 = .ok (.if_icmp .lt 10, 3) := by decide +kernel
theorem dX7_readTurn_24 : decode cX7_readTurn 24 = .ok (.aload_n 0, 1) := by decide +kernel
theorem dX7_readTurn_25 : decode cX7_readTurn 25 = .ok (.iconst 3, 1) := by decide +kernel
theorem dX7_readTurn_26 : decode cX7_readTurn 26 = .ok (.iload_n 2, 1) := by decide +kernel
theorem dX7_readTurn_27 : decode cX7_readTurn 27 = .ok (.invokevirtual 62, 3) := by decide +kernel
theorem dX7_readTurn_30 : decode cX7_readTurn 30 = .ok (.ireturn, 1) := by decide +kernel
theorem dX7_readTurn_31 : decode cX7_readTurn 31 = .ok (.iconst 0, 1) := by decide +kernel
theorem dX7_readTurn_32 : decode cX7_readTurn 32 = .ok (.istore_n 3, 1) := by decide +kernel
theorem dX7_readTurn_33 : decode cX7_readTurn 33 = .ok (.iload_n 3, 1) := by decide +kernel
theorem dX7_readTurn_34 : decode cX7_readTurn 34 = .ok (.aload_n 0, 1) := by decide +kernel
theorem dX7_readTurn_35 : decode cX7_readTurn 35 = .ok (.getfield 9, 3) := by decide +kernel
theorem dX7_readTurn_38 : decode cX7_readTurn 38 = .ok (.arraylength, 1) := by decide +kernel
theorem dX7_readTurn_39 : decode cX7_readTurn 39 = .ok (.if_icmp .ge 19, 3) := by decide +kernel
theorem dX7_readTurn_42 : decode cX7_readTurn 42 = .ok (.aload_n 0, 1) := by decide +kernel
theorem dX7_readTurn_43 : decode cX7_readTurn 43 = .ok (.iload_n 3, 1) := by decide +kernel
theorem dX7_readTurn_44 : decode cX7_readTurn 44 = .ok (.invokevirtual 74, 3) := by decide +kernel
theorem dX7_readTurn_47 : decode cX7_readTurn 47 = .ok (.ifCond .ne 5, 3) := by decide +kernel
theorem dX7_readTurn_50 : decode cX7_readTurn 50 = .ok (.iconst 0, 1) := by decide +kernel
theorem dX7_readTurn_51 : decode cX7_readTurn 51 = .ok (.ireturn, 1) := by decide +kernel
theorem dX7_readTurn_52 : decode cX7_readTurn 52 = .ok (.iinc 3 1, 3) := by decide +kernel
theorem dX7_readTurn_55 : decode cX7_readTurn 55 = .ok (.goto (-22), 3) := by decide +kernel
theorem dX7_readTurn_58 : decode cX7_readTurn 58 = .ok (.aload_n 0, 1) := by decide +kernel
theorem dX7_readTurn_59 : decode cX7_readTurn 59 = .ok (.bipush 59, 2) := by decide +kernel
theorem dX7_readTurn_61 : decode cX7_readTurn 61 = .ok (.invokevirtual 42, 3) := by decide +kernel
theorem dX7_readTurn_64 : decode cX7_readTurn 64 = .ok (.ifCond .ne 5, 3) := by decide +kernel
theorem dX7_readTurn_67 : decode cX7_readTurn 67 = .ok (.iconst 0, 1) := by decide +kernel
theorem dX7_readTurn_68 : decode cX7_readTurn 68 = .ok (.ireturn, 1) := by decide +kernel
theorem dX7_readTurn_69 : decode cX7_readTurn 69 = .ok (.aload_n 0, 1) := by decide +kernel
theorem dX7_readTurn_70 : decode cX7_readTurn 70 = .ok (.getfield 9, 3) := by decide +kernel
theorem dX7_readTurn_73 : decode cX7_readTurn 73 = .ok (.aload_n 1, 1) := by decide +kernel
theorem dX7_readTurn_74 : decode cX7_readTurn 74 = .ok (.getfield 78, 3) := by decide +kernel
theorem dX7_readTurn_77 : decode cX7_readTurn 77 = .ok (.invokestatic 80, 3) := by decide +kernel
theorem dX7_readTurn_80 : decode cX7_readTurn 80 = .ok (.ifCond .ne 10, 3) := by decide +kernel
theorem dX7_readTurn_83 : decode cX7_readTurn 83 = .ok (.aload_n 0, 1) := by decide +kernel
theorem dX7_readTurn_84 : decode cX7_readTurn 84 = .ok (.iconst 4, 1) := by decide +kernel
theorem dX7_readTurn_85 : decode cX7_readTurn 85 = .ok (.iload_n 2, 1) := by decide +kernel
theorem dX7_readTurn_86 : decode cX7_readTurn 86 = .ok (.invokevirtual 62, 3) := by decide +kernel
theorem dX7_readTurn_89 : decode cX7_readTurn 89 = .ok (.ireturn, 1) := by decide +kernel
theorem dX7_readTurn_90 : decode cX7_readTurn 90 = .ok (.aload_n 1, 1) := by decide +kernel
theorem dX7_readTurn_91 : decode cX7_readTurn 91 = .ok (.aload_n 0, 1) := by decide +kernel
theorem dX7_readTurn_92 : decode cX7_readTurn 92 = .ok (.getfield 9, 3) := by decide +kernel
theorem dX7_readTurn_95 : decode cX7_readTurn 95 = .ok (.iconst 0, 1) := by decide +kernel
theorem dX7_readTurn_96 : decode cX7_readTurn 96 = .ok (.invokevirtual 84, 3) := by decide +kernel
theorem dX7_readTurn_99 : decode cX7_readTurn 99 = .ok (.aload_n 1, 1) := by decide +kernel
theorem dX7_readTurn_100 : decode cX7_readTurn 100 = .ok (.invokevirtual 46, 3) := by decide +kernel
theorem dX7_readTurn_103 : decode cX7_readTurn 103 = .ok (.ifCond .ne 12, 3) := by decide +kernel
theorem dX7_readTurn_106 : decode cX7_readTurn 106 = .ok (.aload_n 0, 1) := by decide +kernel
theorem dX7_readTurn_107 : decode cX7_readTurn 107 = .ok (.iconst 5, 1) := by decide +kernel
theorem dX7_readTurn_108 : decode cX7_readTurn 108 = .ok (.iload_n 2, 1) := by decide +kernel
theorem dX7_readTurn_109 : decode cX7_readTurn 109 = .ok (.invokevirtual 62, 3) := by decide +kernel
theorem dX7_readTurn_112 : decode cX7_readTurn 112 = .ok (.ifCond .eq 7, 3) := by decide +kernel
theorem dX7_readTurn_115 : decode cX7_readTurn 115 = .ok (.iconst 1, 1) := by decide +kernel
theorem dX7_readTurn_116 : decode cX7_readTurn 116 = .ok (.goto 4, 3) := by decide +kernel
theorem dX7_readTurn_119 : decode cX7_readTurn 119 = .ok (.iconst 0, 1) := by decide +kernel
theorem dX7_readTurn_120 : decode cX7_readTurn 120 = .ok (.ireturn, 1) := by decide +kernel
theorem B_X7_readTurn_0 {g : Sg} {c t : Nat} (hL : Lay LC g c t σ) {a1 : Nat} (qa1 : isCl a1) (h : (Lay LC g c t σ → CC E mX7_readWord [vr 19, vr 7] σ (KI (fun r1 τ2 => Lay LC g c t τ2 ∧ (inR r1 → ((r1 ≠ 0 → (((gI τ2 a1 7) < 4 → (Lay LC g c t τ2 → GG E mX7_readTurn 33 [some (vr 19), some (vr a1), some (vi (gI σ 19 3)), some (vi 0)] [] τ2 rc rs Q)) ∧ (¬ ((gI τ2 a1 7) < 4) → (Lay LC g c t τ2 → CC E mX7_fail [vr 19, vi 3, vi (gI σ 19 3)] τ2 (KI (fun r3 τ4 => Lay LC g c t τ4 ∧ (inR r3 → (r3 = 0 ∨ r3 = 1) ∧ (Lay LC g c t τ4 → Q (.inl (some (vi r3))) τ4))) (fun _ _ => False)))))) ∧ (r1 = 0 → (Lay LC g c t τ2 → Q (.inl (some (vi 0))) τ2))))) (fun _ _ => False)))) : GG E mX7_readTurn 0 [some (vr 19), some (vr a1), none, none] [] σ rc rs Q := by
  refine r_aload_n (pc := 0) dX7_readTurn_0 rfl rfl ?_
  refine r_getI (pc := 1) dX7_readTurn_1 (k9 := 3) CL_7 (by decide) (by decide) w_157 rfl (okO_of (N := 6) (hL.sh (i := 3) rfl (by decide) (by decide)) (by decide)) (fun _ => ?_)
  refine r_istore_n (pc := 4) dX7_readTurn_4 rfl (by decide) (l2 := [some (vr 19), some (vr a1), some (vi (gI σ 19 3)), none]) rfl ?_
  refine r_aload_n (pc := 5) dX7_readTurn_5 rfl rfl ?_
  refine r_ldcS (pc := 6) (a := 7) dX7_readTurn_6 (List.mem_of_getElem? (i := 1) rfl) (by decide) ?_
  refine c_VI0N (M := mX7_readTurn) (pc := 8) (As := [vr 7]) dX7_readTurn_8 K_X7_readWord w_783 ⟨by decide, by decide⟩ (Nat.le_of_ble_eq_true rfl) rfl rfl (ci := 7) rfl rfl (by decide) (okO_of (N := 6) (hL.sh (i := 3) rfl (by decide) (by decide)) (by decide)) (h hL) (fun r1 τ2 h8 hr9 => ?_) rfl
  replace hL := h8.1
  replace h := h8.2 hr9
  refine r_if_ne (pc := 11) (tgt := 16) dX7_readTurn_11 (by decide) (fun c9 => ?_) (fun c9 => ?_)
  · replace h := h.1 c9
    refine r_aload_n (pc := 16) dX7_readTurn_16 rfl rfl ?_
    refine r_getI (pc := 17) dX7_readTurn_17 (k9 := 7) CL_1 (by decide) (by decide) w_468 rfl (okO_of (ci := 1) (N := 12) (qa1.r hL).1 (qa1.r hL).2.1) (fun _ => ?_)
    refine r_iconst (pc := 20) dX7_readTurn_20 (inRk rfl) ?_
    refine r_icmp_lt (pc := 21) (tgt := 31) dX7_readTurn_21 (by decide) (fun c9 => ?_) (fun c9 => ?_)
    · replace h := h.1 c9
      refine r_iconst (pc := 31) dX7_readTurn_31 (inRk rfl) ?_
      refine r_istore_n (pc := 32) dX7_readTurn_32 rfl (by decide) (l2 := [some (vr 19), some (vr a1), some (vi (gI σ 19 3)), some (vi 0)]) rfl ?_
      exact (h hL)
    · replace h := h.2 c9
      refine r_aload_n (pc := 24) dX7_readTurn_24 rfl rfl ?_
      refine r_iconst (pc := 25) dX7_readTurn_25 (inRk rfl) ?_
      refine r_iload_n (pc := 26) dX7_readTurn_26 rfl rfl ?_
      refine c_VI0N (M := mX7_readTurn) (pc := 27) (As := [vi 3, vi (gI σ 19 3)]) dX7_readTurn_27 K_X7_fail w_846 ⟨by decide, by decide⟩ (Nat.le_of_ble_eq_true rfl) rfl rfl (ci := 7) rfl rfl (by decide) (okO_of (N := 6) (hL.sh (i := 3) rfl (by decide) (by decide)) (by decide)) (h hL) (fun r3 τ4 h8 hr9 => ?_) rfl
      replace hL := h8.1
      replace h := h8.2 hr9
      exact r_ireturn (pc := 30) (ty := .boolean) dX7_readTurn_30 (by decide +kernel) rfl (nar_bool h.1) (h.2 hL)
  · replace h := h.2 c9
    refine r_iconst (pc := 14) dX7_readTurn_14 (inRk rfl) ?_
    exact r_ireturn (pc := 15) (ty := .boolean) dX7_readTurn_15 (by decide +kernel) rfl (nar_bool (by decide)) (h hL)
theorem B_X7_readTurn_33 {g : Sg} {c t : Nat} (hL : Lay LC g c t σ) {a1 : Nat} (qa1 : isCl a1) {x2 : Int} {x3 : Int} (h : ((8 ≤ x3 → (Lay LC g c t σ → CC E mX7_readSign [vr 19, vi 59] σ (KI (fun r1 τ2 => Lay LC g c t τ2 ∧ (inR r1 → ((r1 ≠ 0 → (Lay LC g c t τ2 → CC E mX11_isTurn [vr 20, vi (gI τ2 a1 6)] τ2 (KI (fun r3 τ4 => Lay LC g c t τ4 ∧ (inR r3 → ((r3 ≠ 0 → (Lay LC g c t τ4 → CC E mX1_tell [vr a1, vr 20, vi 0] τ4 (KV (fun τ6 => Lay LC g c t τ6 ∧ (Lay LC g c t τ6 → CC E mX1_close [vr a1] τ6 (KI (fun r7 τ8 => Lay LC g c t τ8 ∧ (inR r7 → ((r7 ≠ 0 → (Lay LC g c t τ8 → Q (.inl (some (vi 1))) τ8)) ∧ (r7 = 0 → (Lay LC g c t τ8 → CC E mX7_fail [vr 19, vi 5, vi x2] τ8 (KI (fun r9 τ10 => Lay LC g c t τ10 ∧ (inR r9 → ((r9 = 0 → (Lay LC g c t τ10 → Q (.inl (some (vi 0))) τ10)) ∧ (¬ (r9 = 0) → (Lay LC g c t τ10 → Q (.inl (some (vi 1))) τ10))))) (fun _ _ => False))))))) (fun _ _ => False)))) (fun _ _ => False)))) ∧ (r3 = 0 → (Lay LC g c t τ4 → CC E mX7_fail [vr 19, vi 4, vi x2] τ4 (KI (fun r11 τ12 => Lay LC g c t τ12 ∧ (inR r11 → (r11 = 0 ∨ r11 = 1) ∧ (Lay LC g c t τ12 → Q (.inl (some (vi r11))) τ12))) (fun _ _ => False))))))) (fun _ _ => False)))) ∧ (r1 = 0 → (Lay LC g c t τ2 → Q (.inl (some (vi 0))) τ2))))) (fun _ _ => False)))) ∧ (¬ (8 ≤ x3) → (Lay LC g c t σ → CC E mX7_readTold [vr 19, vi x3] σ (KI (fun r13 τ14 => Lay LC g c t τ14 ∧ (inR r13 → ((r13 ≠ 0 → inR (x3 + 1) ∧ (Lay LC g c t τ14 → GG E mX7_readTurn 33 [some (vr 19), some (vr a1), some (vi x2), some (vi (x3 + 1))] [] τ14 rc rs Q)) ∧ (r13 = 0 → (Lay LC g c t τ14 → Q (.inl (some (vi 0))) τ14))))) (fun _ _ => False)))))) : GG E mX7_readTurn 33 [some (vr 19), some (vr a1), some (vi x2), some (vi x3)] [] σ rc rs Q := by
  refine r_iload_n (pc := 33) dX7_readTurn_33 rfl rfl ?_
  refine r_aload_n (pc := 34) dX7_readTurn_34 rfl rfl ?_
  refine r_getR (pc := 35) dX7_readTurn_35 (k9 := 1) CL_7 (by decide) (by decide) w_155 rfl (okO_of (N := 6) (hL.sh (i := 3) rfl (by decide) (by decide)) (by decide)) ?_
  refine eqR (y := 20) (hL.rf (i := 2) rfl) ?_
  have o16 : okN σ 20 := okN_of (hL.sh (i := 4) rfl (by decide) (by decide)) (by decide) (by decide) (by decide)
  refine r_alen (pc := 38) dX7_readTurn_38 o16.1 o16.2 ?_
  refine eqI (y := 8) (by rw [(hL.sh (i := 4) rfl (by decide) (by decide))] <;> rfl) ?_
  refine r_icmp_ge (pc := 39) (tgt := 58) dX7_readTurn_39 (by decide) (fun c9 => ?_) (fun c9 => ?_)
  · replace h := h.1 c9
    refine r_aload_n (pc := 58) dX7_readTurn_58 rfl rfl ?_
    refine r_bipush (pc := 59) dX7_readTurn_59 (by decide) ?_
    refine c_VI0N (M := mX7_readTurn) (pc := 61) (As := [vi 59]) dX7_readTurn_61 K_X7_readSign w_862 ⟨by decide, by decide⟩ (Nat.le_of_ble_eq_true rfl) rfl rfl (ci := 7) rfl rfl (by decide) (okO_of (N := 6) (hL.sh (i := 3) rfl (by decide) (by decide)) (by decide)) (h hL) (fun r1 τ2 h8 hr9 => ?_) rfl
    replace hL := h8.1
    replace h := h8.2 hr9
    refine r_if_ne (pc := 64) (tgt := 69) dX7_readTurn_64 (by decide) (fun c9 => ?_) (fun c9 => ?_)
    · replace h := h.1 c9
      refine r_aload_n (pc := 69) dX7_readTurn_69 rfl rfl ?_
      refine r_getR (pc := 70) dX7_readTurn_70 (k9 := 1) CL_7 (by decide) (by decide) w_155 rfl (okO_of (N := 6) (hL.sh (i := 3) rfl (by decide) (by decide)) (by decide)) ?_
      refine eqR (y := 20) (hL.rf (i := 2) rfl) ?_
      refine r_aload_n (pc := 73) dX7_readTurn_73 rfl rfl ?_
      refine r_getI (pc := 74) dX7_readTurn_74 (k9 := 6) CL_1 (by decide) (by decide) w_464 rfl (okO_of (ci := 1) (N := 12) (qa1.r hL).1 (qa1.r hL).2.1) (fun _ => ?_)
      refine c_SNI0N (M := mX7_readTurn) (pc := 77) (As := [vr 20, vi (gI τ2 a1 6)]) dX7_readTurn_77 K_X11_isTurn wt_876 ⟨by decide, by decide⟩ (Nat.le_of_ble_eq_true rfl) rfl rfl (h hL) (fun r3 τ4 h8 hr9 => ?_) rfl
      replace hL := h8.1
      replace h := h8.2 hr9
      refine r_if_ne (pc := 80) (tgt := 90) dX7_readTurn_80 (by decide) (fun c9 => ?_) (fun c9 => ?_)
      · replace h := h.1 c9
        refine r_aload_n (pc := 90) dX7_readTurn_90 rfl rfl ?_
        refine r_aload_n (pc := 91) dX7_readTurn_91 rfl rfl ?_
        refine r_getR (pc := 92) dX7_readTurn_92 (k9 := 1) CL_7 (by decide) (by decide) w_155 rfl (okO_of (N := 6) (hL.sh (i := 3) rfl (by decide) (by decide)) (by decide)) ?_
        refine eqR (y := 20) (hL.rf (i := 2) rfl) ?_
        refine r_iconst (pc := 95) dX7_readTurn_95 (inRk rfl) ?_
        refine c_VV0N (M := mX7_readTurn) (pc := 96) (As := [vr 20, vi 0]) dX7_readTurn_96 K_X1_tell w_879 ⟨by decide, by decide⟩ (Nat.le_of_ble_eq_true rfl) rfl rfl (ci := 1) rfl rfl (by decide) (okO_of (ci := 1) (N := 12) (qa1.r hL).1 (qa1.r hL).2.1) (h hL) (fun τ6 h8 => ?_) rfl
        replace hL := h8.1
        replace h := h8.2
        refine r_aload_n (pc := 99) dX7_readTurn_99 rfl rfl ?_
        refine c_VI0N (M := mX7_readTurn) (pc := 100) (As := []) dX7_readTurn_100 K_X1_close w_866 ⟨by decide, by decide⟩ (Nat.le_of_ble_eq_true rfl) rfl rfl (ci := 1) rfl rfl (by decide) (okO_of (ci := 1) (N := 12) (qa1.r hL).1 (qa1.r hL).2.1) (h hL) (fun r7 τ8 h8 hr9 => ?_) rfl
        replace hL := h8.1
        replace h := h8.2 hr9
        refine r_if_ne (pc := 103) (tgt := 115) dX7_readTurn_103 (by decide) (fun c9 => ?_) (fun c9 => ?_)
        · replace h := h.1 c9
          refine r_iconst (pc := 115) dX7_readTurn_115 (inRk rfl) ?_
          refine r_goto (pc := 116) (tgt := 120) dX7_readTurn_116 (by decide) ?_
          exact r_ireturn (pc := 120) (ty := .boolean) dX7_readTurn_120 (by decide +kernel) rfl (nar_bool (by decide)) (h hL)
        · replace h := h.2 c9
          refine r_aload_n (pc := 106) dX7_readTurn_106 rfl rfl ?_
          refine r_iconst (pc := 107) dX7_readTurn_107 (inRk rfl) ?_
          refine r_iload_n (pc := 108) dX7_readTurn_108 rfl rfl ?_
          refine c_VI0N (M := mX7_readTurn) (pc := 109) (As := [vi 5, vi x2]) dX7_readTurn_109 K_X7_fail w_846 ⟨by decide, by decide⟩ (Nat.le_of_ble_eq_true rfl) rfl rfl (ci := 7) rfl rfl (by decide) (okO_of (N := 6) (hL.sh (i := 3) rfl (by decide) (by decide)) (by decide)) (h hL) (fun r9 τ10 h8 hr9 => ?_) rfl
          replace hL := h8.1
          replace h := h8.2 hr9
          refine r_if_eq (pc := 112) (tgt := 119) dX7_readTurn_112 (by decide) (fun c9 => ?_) (fun c9 => ?_)
          · replace h := h.1 c9
            refine r_iconst (pc := 119) dX7_readTurn_119 (inRk rfl) ?_
            exact r_ireturn (pc := 120) (ty := .boolean) dX7_readTurn_120 (by decide +kernel) rfl (nar_bool (by decide)) (h hL)
          · replace h := h.2 c9
            refine r_iconst (pc := 115) dX7_readTurn_115 (inRk rfl) ?_
            refine r_goto (pc := 116) (tgt := 120) dX7_readTurn_116 (by decide) ?_
            exact r_ireturn (pc := 120) (ty := .boolean) dX7_readTurn_120 (by decide +kernel) rfl (nar_bool (by decide)) (h hL)
      · replace h := h.2 c9
        refine r_aload_n (pc := 83) dX7_readTurn_83 rfl rfl ?_
        refine r_iconst (pc := 84) dX7_readTurn_84 (inRk rfl) ?_
        refine r_iload_n (pc := 85) dX7_readTurn_85 rfl rfl ?_
        refine c_VI0N (M := mX7_readTurn) (pc := 86) (As := [vi 4, vi x2]) dX7_readTurn_86 K_X7_fail w_846 ⟨by decide, by decide⟩ (Nat.le_of_ble_eq_true rfl) rfl rfl (ci := 7) rfl rfl (by decide) (okO_of (N := 6) (hL.sh (i := 3) rfl (by decide) (by decide)) (by decide)) (h hL) (fun r11 τ12 h8 hr9 => ?_) rfl
        replace hL := h8.1
        replace h := h8.2 hr9
        exact r_ireturn (pc := 89) (ty := .boolean) dX7_readTurn_89 (by decide +kernel) rfl (nar_bool h.1) (h.2 hL)
    · replace h := h.2 c9
      refine r_iconst (pc := 67) dX7_readTurn_67 (inRk rfl) ?_
      exact r_ireturn (pc := 68) (ty := .boolean) dX7_readTurn_68 (by decide +kernel) rfl (nar_bool (by decide)) (h hL)
  · replace h := h.2 c9
    refine r_aload_n (pc := 42) dX7_readTurn_42 rfl rfl ?_
    refine r_iload_n (pc := 43) dX7_readTurn_43 rfl rfl ?_
    refine c_VI0N (M := mX7_readTurn) (pc := 44) (As := [vi x3]) dX7_readTurn_44 K_X7_readTold w_872 ⟨by decide, by decide⟩ (Nat.le_of_ble_eq_true rfl) rfl rfl (ci := 7) rfl rfl (by decide) (okO_of (N := 6) (hL.sh (i := 3) rfl (by decide) (by decide)) (by decide)) (h hL) (fun r13 τ14 h8 hr9 => ?_) rfl
    replace hL := h8.1
    replace h := h8.2 hr9
    refine r_if_ne (pc := 47) (tgt := 52) dX7_readTurn_47 (by decide) (fun c9 => ?_) (fun c9 => ?_)
    · replace h := h.1 c9
      obtain ⟨o15, h⟩ := h
      refine r_iinc (pc := 52) dX7_readTurn_52 rfl (by decide) o15 (l2 := [some (vr 19), some (vr a1), some (vi x2), some (vi (x3 + 1))]) rfl ?_
      refine r_goto (pc := 55) (tgt := 33) dX7_readTurn_55 (by decide) ?_
      exact (h hL)
    · replace h := h.2 c9
      refine r_iconst (pc := 50) dX7_readTurn_50 (inRk rfl) ?_
      exact r_ireturn (pc := 51) (ty := .boolean) dX7_readTurn_51 (by decide +kernel) rfl (nar_bool (by decide)) (h hL)
theorem C_X7_readTurn {a0 : Nat} {a1 : Nat} (h : GG E mX7_readTurn 0 [some (vr a0), some (vr a1), none, none] [] σ 0 0 Q) : CC E mX7_readTurn [vr a0, vr a1] σ Q := CC.of (by decide +kernel) rfl (by decide +kernel) (fun h9 => nomatch h9) (Nat.le_of_ble_eq_true rfl) h
theorem dX7_readWord_0 : decode cX7_readWord 0 = .ok (.aload_n 0, 1) := by decide +kernel
theorem dX7_readWord_1 : decode cX7_readWord 1 = .ok (.invokevirtual 52, 3) := by decide +kernel
theorem dX7_readWord_4 : decode cX7_readWord 4 = .ok (.aload_n 0, 1) := by decide +kernel
theorem dX7_readWord_5 : decode cX7_readWord 5 = .ok (.getfield 23, 3) := by decide +kernel
theorem dX7_readWord_8 : decode cX7_readWord 8 = .ok (.istore_n 2, 1) := by decide +kernel
theorem dX7_readWord_9 : decode cX7_readWord 9 = .ok (.iconst 1, 1) := by decide +kernel
theorem dX7_readWord_10 : decode cX7_readWord 10 = .ok (.istore_n 3, 1) := by decide +kernel
theorem dX7_readWord_11 : decode cX7_readWord 11 = .ok (.aload_n 0, 1) := by decide +kernel
theorem dX7_readWord_12 : decode cX7_readWord 12 = .ok (.getfield 23, 3) := by decide +kernel
theorem dX7_readWord_15 : decode cX7_readWord 15 = .ok (.aload_n 0, 1) := by decide +kernel
theorem dX7_readWord_16 : decode cX7_readWord 16 = .ok (.getfield 19, 3) := by decide +kernel
theorem dX7_readWord_19 : decode cX7_readWord 19 = .ok (.if_icmp .ge 66, 3) := by decide +kernel
theorem dX7_readWord_22 : decode cX7_readWord 22 = .ok (.aload_n 0, 1) := by decide +kernel
theorem dX7_readWord_23 : decode cX7_readWord 23 = .ok (.invokevirtual 88, 3) := by decide +kernel
theorem dX7_readWord_26 : decode cX7_readWord 26 = .ok (.invokestatic 94, 3) := by decide +kernel
theorem dX7_readWord_29 : decode cX7_readWord 29 = .ok (.ifCond .eq 56, 3) := by decide +kernel
theorem dX7_readWord_32 : decode cX7_readWord 32 = .ok (.aload_n 0, 1) := by decide +kernel
theorem dX7_readWord_33 : decode cX7_readWord 33 = .ok (.getfield 23, 3) := by decide +kernel
theorem dX7_readWord_36 : decode cX7_readWord 36 = .ok (.iload_n 2, 1) := by decide +kernel
theorem dX7_readWord_37 : decode cX7_readWord 37 = .ok (.isub, 1) := by decide +kernel
theorem dX7_readWord_38 : decode cX7_readWord 38 = .ok (.istore 4, 2) := by decide +kernel
theorem dX7_readWord_40 : decode cX7_readWord 40 = .ok (.iload_n 3, 1) := by decide +kernel
theorem dX7_readWord_41 : decode cX7_readWord 41 = .ok (.ifCond .eq 29, 3) := by decide +kernel
theorem dX7_readWord_44 : decode cX7_readWord 44 = .ok (.iload 4, 2) := by decide +kernel
theorem dX7_readWord_46 : decode cX7_readWord 46 = .ok (.aload_n 1, 1) := by decide +kernel
theorem dX7_readWord_47 : decode cX7_readWord 47 = .ok (.invokevirtual 97, 3) := by decide +kernel
theorem dX7_readWord_50 : decode cX7_readWord 50 = .ok (.if_icmp .ge 20, 3) := by decide +kernel
theorem dX7_readWord_53 : decode cX7_readWord 53 = .ok (.aload_n 1, 1) := by decide +kernel
theorem dX7_readWord_54 : decode cX7_readWord 54 = .ok (.iload 4, 2) := by decide +kernel
theorem dX7_readWord_56 : decode cX7_readWord 56 = .ok (.invokevirtual 101, 3) := by decide +kernel
theorem dX7_readWord_59 : decode cX7_readWord 59 = .ok (.aload_n 0, 1) := by decide +kernel
theorem dX7_readWord_60 : decode cX7_readWord 60 = .ok (.invokevirtual 88, 3) := by decide +kernel
theorem dX7_readWord_63 : decode cX7_readWord 63 = .ok (.if_icmp .ne 7, 3) := by decide +kernel
theorem dX7_readWord_66 : decode cX7_readWord 66 = .ok (.iconst 1, 1) := by decide +kernel
theorem dX7_readWord_67 : decode cX7_readWord 67 = .ok (.goto 4, 3) := by decide +kernel
theorem dX7_readWord_70 : decode cX7_readWord 70 = .ok (.iconst 0, 1) := by decide +kernel
theorem dX7_readWord_71 : decode cX7_readWord 71 = .ok (.istore_n 3, 1) := by decide +kernel
theorem dX7_readWord_72 : decode cX7_readWord 72 = .ok (.aload_n 0, 1) := by decide +kernel
theorem dX7_readWord_73 : decode cX7_readWord 73 = .ok (.dup, 1) := by decide +kernel
theorem dX7_readWord_74 : decode cX7_readWord 74 = .ok (.getfield 23, 3) := by decide +kernel
theorem dX7_readWord_77 : decode cX7_readWord 77 = .ok (.iconst 1, 1) := by decide +kernel
theorem dX7_readWord_78 : decode cX7_readWord 78 = .ok (.iadd, 1) := by decide +kernel
theorem dX7_readWord_79 : decode cX7_readWord 79 = .ok (.putfield 23, 3) := by decide +kernel
theorem dX7_readWord_82 : decode cX7_readWord 82 = .ok (.goto (-71), 3) := by decide +kernel
theorem dX7_readWord_85 : decode cX7_readWord 85 = .ok (.iload_n 3, 1) := by decide +kernel
theorem dX7_readWord_86 : decode cX7_readWord 86 = .ok (.ifCond .eq 16, 3) := by decide +kernel
theorem dX7_readWord_89 : decode cX7_readWord 89 = .ok (.aload_n 0, 1) := by decide +kernel
theorem dX7_readWord_90 : decode cX7_readWord 90 = .ok (.getfield 23, 3) := by decide +kernel
theorem dX7_readWord_93 : decode cX7_readWord 93 = .ok (.iload_n 2, 1) := by decide +kernel
theorem dX7_readWord_94 : decode cX7_readWord 94 = .ok (.isub, 1) := by decide +kernel
theorem dX7_readWord_95 : decode cX7_readWord 95 = .ok (.aload_n 1, 1) := by decide +kernel
theorem dX7_readWord_96 : decode cX7_readWord 96 = .ok (.invokevirtual 97, 3) := by decide +kernel
theorem dX7_readWord_99 : decode cX7_readWord 99 = .ok (.if_icmp .eq 12, 3) := by decide +kernel
theorem dX7_readWord_102 : decode cX7_readWord 102 = .ok (.aload_n 0, 1) := by decide +kernel
theorem dX7_readWord_103 : decode cX7_readWord 103 = .ok (.iconst 1, 1) := by decide +kernel
theorem dX7_readWord_104 : decode cX7_readWord 104 = .ok (.iload_n 2, 1) := by decide +kernel
theorem dX7_readWord_105 : decode cX7_readWord 105 = .ok (.invokevirtual 62, 3) := by decide +kernel
theorem dX7_readWord_108 : decode cX7_readWord 108 = .ok (.ifCond .eq 7, 3) := by decide +kernel
theorem dX7_readWord_111 : decode cX7_readWord 111 = .ok (.iconst 1, 1) := by decide +kernel
theorem dX7_readWord_112 : decode cX7_readWord 112 = .ok (.goto 4, 3) := by decide +kernel
theorem dX7_readWord_115 : decode cX7_readWord 115 = .ok (.iconst 0, 1) := by decide +kernel
theorem dX7_readWord_116 : decode cX7_readWord 116 = .ok (.ireturn, 1) := by decide +kernel
theorem B_X7_readWord_0 {g : Sg} {c t : Nat} (hL : Lay LC g c t σ) {a1 : Nat} (h : (Lay LC g c t σ → CC E mX7_skipBlanks [vr 19] σ (KV (fun τ2 => Lay LC g c t τ2 ∧ (Lay LC g c t τ2 → GG E mX7_readWord 11 [some (vr 19), some (vr a1), some (vi (gI τ2 19 3)), some (vi 1), none] [] τ2 rc rs Q)) (fun _ _ => False)))) : GG E mX7_readWord 0 [some (vr 19), some (vr a1), none, none, none] [] σ rc rs Q := by
  refine r_aload_n (pc := 0) dX7_readWord_0 rfl rfl ?_
  refine c_VV0N (M := mX7_readWord) (pc := 1) (As := []) dX7_readWord_1 K_X7_skipBlanks w_787 ⟨by decide, by decide⟩ (Nat.le_of_ble_eq_true rfl) rfl rfl (ci := 7) rfl rfl (by decide) (okO_of (N := 6) (hL.sh (i := 3) rfl (by decide) (by decide)) (by decide)) (h hL) (fun τ2 h8 => ?_) rfl
  replace hL := h8.1
  replace h := h8.2
  refine r_aload_n (pc := 4) dX7_readWord_4 rfl rfl ?_
  refine r_getI (pc := 5) dX7_readWord_5 (k9 := 3) CL_7 (by decide) (by decide) w_157 rfl (okO_of (N := 6) (hL.sh (i := 3) rfl (by decide) (by decide)) (by decide)) (fun _ => ?_)
  refine r_istore_n (pc := 8) dX7_readWord_8 rfl (by decide) (l2 := [some (vr 19), some (vr a1), some (vi (gI τ2 19 3)), none, none]) rfl ?_
  refine r_iconst (pc := 9) dX7_readWord_9 (inRk rfl) ?_
  refine r_istore_n (pc := 10) dX7_readWord_10 rfl (by decide) (l2 := [some (vr 19), some (vr a1), some (vi (gI τ2 19 3)), some (vi 1), none]) rfl ?_
  exact (h hL)
theorem B_X7_readWord_11 {g : Sg} {c t : Nat} (hL : Lay LC g c t σ) {a1 : Nat} {x2 : Int} {x3 : Int} (h : (((gI σ 19 2) ≤ (gI σ 19 3) → (Lay LC g c t σ → GG E mX7_readWord 85 [some (vr 19), some (vr a1), some (vi x2), some (vi x3), none] [] σ rc rs Q)) ∧ (¬ ((gI σ 19 2) ≤ (gI σ 19 3)) → (Lay LC g c t σ → CC E mX7_here [vr 19] σ (KI (fun r1 τ2 => Lay LC g c t τ2 ∧ (inR r1 → (Lay LC g c t τ2 → CC E mX7_isSmallLetter [vi r1] τ2 (KI (fun r3 τ4 => Lay LC g c t τ4 ∧ (inR r3 → ((r3 = 0 → (Lay LC g c t τ4 → GG E mX7_readWord 85 [some (vr 19), some (vr a1), some (vi x2), some (vi x3), none] [] τ4 rc rs Q)) ∧ (¬ (r3 = 0) → inR ((gI τ4 19 3) - x2) ∧ ((x3 = 0 → inR ((gI τ4 19 3) + 1) ∧ ∀ τ7 : Sg, τ7 = sI τ4 19 3 ((gI τ4 19 3) + 1) → (Lay LC g c t τ7 → GG E mX7_readWord 11 [some (vr 19), some (vr a1), some (vi x2), some (vi 0), none] [] τ7 rc rs Q)) ∧ (¬ (x3 = 0) → okT τ4 a1 ∧ (Lay LC g c t τ4 → CC E mJ0_length_8abf5 [vr a1] τ4 (KI (fun r9 τ10 => Lay LC g c t τ10 ∧ (inR r9 → ((r9 ≤ ((gI τ4 19 3) - x2) → inR ((gI τ10 19 3) + 1) ∧ ∀ τ12 : Sg, τ12 = sI τ10 19 3 ((gI τ10 19 3) + 1) → (Lay LC g c t τ12 → GG E mX7_readWord 11 [some (vr 19), some (vr a1), some (vi x2), some (vi 0), none] [] τ12 rc rs Q)) ∧ (¬ (r9 ≤ ((gI τ4 19 3) - x2)) → okT τ10 a1 ∧ (Lay LC g c t τ10 → CC E mJ0_charAt_5068e [vr a1, vi ((gI τ4 19 3) - x2)] τ10 (KI (fun r14 τ15 => Lay LC g c t τ15 ∧ (inR r14 → (Lay LC g c t τ15 → CC E mX7_here [vr 19] τ15 (KI (fun r16 τ17 => Lay LC g c t τ17 ∧ (inR r16 → ((r14 ≠ r16 → inR ((gI τ17 19 3) + 1) ∧ ∀ τ19 : Sg, τ19 = sI τ17 19 3 ((gI τ17 19 3) + 1) → (Lay LC g c t τ19 → GG E mX7_readWord 11 [some (vr 19), some (vr a1), some (vi x2), some (vi 0), none] [] τ19 rc rs Q)) ∧ (r14 = r16 → inR ((gI τ17 19 3) + 1) ∧ ∀ τ21 : Sg, τ21 = sI τ17 19 3 ((gI τ17 19 3) + 1) → (Lay LC g c t τ21 → GG E mX7_readWord 11 [some (vr 19), some (vr a1), some (vi x2), some (vi 1), none] [] τ21 rc rs Q))))) (fun _ _ => False))))) (fun _ _ => False))))))) (fun _ _ => False))))))))) (fun _ _ => False))))) (fun _ _ => False)))))) : GG E mX7_readWord 11 [some (vr 19), some (vr a1), some (vi x2), some (vi x3), none] [] σ rc rs Q := by
  refine r_aload_n (pc := 11) dX7_readWord_11 rfl rfl ?_
  refine r_getI (pc := 12) dX7_readWord_12 (k9 := 3) CL_7 (by decide) (by decide) w_157 rfl (okO_of (N := 6) (hL.sh (i := 3) rfl (by decide) (by decide)) (by decide)) (fun _ => ?_)
  refine r_aload_n (pc := 15) dX7_readWord_15 rfl rfl ?_
  refine r_getI (pc := 16) dX7_readWord_16 (k9 := 2) CL_7 (by decide) (by decide) w_156 rfl (okO_of (N := 6) (hL.sh (i := 3) rfl (by decide) (by decide)) (by decide)) (fun _ => ?_)
  refine r_icmp_ge (pc := 19) (tgt := 85) dX7_readWord_19 (by decide) (fun c9 => ?_) (fun c9 => ?_)
  · replace h := h.1 c9
    exact (h hL)
  · replace h := h.2 c9
    refine r_aload_n (pc := 22) dX7_readWord_22 rfl rfl ?_
    refine c_VI0N (M := mX7_readWord) (pc := 23) (As := []) dX7_readWord_23 K_X7_here w_791 ⟨by decide, by decide⟩ (Nat.le_of_ble_eq_true rfl) rfl rfl (ci := 7) rfl rfl (by decide) (okO_of (N := 6) (hL.sh (i := 3) rfl (by decide) (by decide)) (by decide)) (h hL) (fun r1 τ2 h8 hr9 => ?_) rfl
    replace hL := h8.1
    replace h := h8.2 hr9
    refine c_SI0N (M := mX7_readWord) (pc := 26) (As := [vi r1]) dX7_readWord_26 K_X7_isSmallLetter w_795 ⟨by decide, by decide⟩ (Nat.le_of_ble_eq_true rfl) rfl rfl (h hL) (fun r3 τ4 h8 hr9 => ?_) rfl
    replace hL := h8.1
    replace h := h8.2 hr9
    refine r_if_eq (pc := 29) (tgt := 85) dX7_readWord_29 (by decide) (fun c9 => ?_) (fun c9 => ?_)
    · replace h := h.1 c9
      exact (h hL)
    · replace h := h.2 c9
      refine r_aload_n (pc := 32) dX7_readWord_32 rfl rfl ?_
      refine r_getI (pc := 33) dX7_readWord_33 (k9 := 3) CL_7 (by decide) (by decide) w_157 rfl (okO_of (N := 6) (hL.sh (i := 3) rfl (by decide) (by decide)) (by decide)) (fun _ => ?_)
      refine r_iload_n (pc := 36) dX7_readWord_36 rfl rfl ?_
      obtain ⟨o5, h⟩ := h
      refine r_isub (pc := 37) dX7_readWord_37 o5 ?_
      refine r_istore (pc := 38) dX7_readWord_38 (by decide) (l2 := [some (vr 19), some (vr a1), some (vi x2), some (vi x3), some (vi ((gI τ4 19 3) - x2))]) rfl ?_
      refine r_iload_n (pc := 40) dX7_readWord_40 rfl rfl ?_
      refine r_if_eq (pc := 41) (tgt := 70) dX7_readWord_41 (by decide) (fun c9 => ?_) (fun c9 => ?_)
      · replace h := h.1 c9
        refine r_iconst (pc := 70) dX7_readWord_70 (inRk rfl) ?_
        refine r_istore_n (pc := 71) dX7_readWord_71 rfl (by decide) (l2 := [some (vr 19), some (vr a1), some (vi x2), some (vi 0), some (vi ((gI τ4 19 3) - x2))]) rfl ?_
        refine r_aload_n (pc := 72) dX7_readWord_72 rfl rfl ?_
        refine r_dup (pc := 73) dX7_readWord_73 (fun _ h9 => nomatch h9) ?_
        refine r_getI (pc := 74) dX7_readWord_74 (k9 := 3) CL_7 (by decide) (by decide) w_157 rfl (okO_of (N := 6) (hL.sh (i := 3) rfl (by decide) (by decide)) (by decide)) (fun _ => ?_)
        refine r_iconst (pc := 77) dX7_readWord_77 (inRk rfl) ?_
        obtain ⟨o6, h⟩ := h
        refine r_iadd (pc := 78) dX7_readWord_78 o6 ?_
        refine r_putI (pc := 79) dX7_readWord_79 (k9 := 3) CL_7 (by decide) (by decide) w_157 rfl rfl (fun h9 => absurd h9 (by decide +kernel)) (okO_of (N := 6) (hL.sh (i := 3) rfl (by decide) (by decide)) (by decide)) ?_
        refine nmS (fun τ7 e7 => ?_)
        replace h := h τ7 e7
        have hL := hL.wI e7 (by decide) (.inl (by decide))
        refine r_goto (pc := 82) (tgt := 11) dX7_readWord_82 (by decide) ?_
        exact GG.msk [true, true, true, true, false] (h hL)
      · replace h := h.2 c9
        refine r_iload (pc := 44) dX7_readWord_44 rfl ?_
        refine r_aload_n (pc := 46) dX7_readWord_46 rfl rfl ?_
        obtain ⟨o8, h⟩ := h
        refine c_VSI0N (M := mX7_readWord) (pc := 47) (As := []) dX7_readWord_47 K_J0_length_8abf5 w_798 ⟨by decide, by decide⟩ (Nat.le_of_ble_eq_true rfl) rfl rfl rfl o8 (h hL) (fun r9 τ10 h8 hr9 => ?_) rfl
        replace hL := h8.1
        replace h := h8.2 hr9
        refine r_icmp_ge (pc := 50) (tgt := 70) dX7_readWord_50 (by decide) (fun c9 => ?_) (fun c9 => ?_)
        · replace h := h.1 c9
          refine r_iconst (pc := 70) dX7_readWord_70 (inRk rfl) ?_
          refine r_istore_n (pc := 71) dX7_readWord_71 rfl (by decide) (l2 := [some (vr 19), some (vr a1), some (vi x2), some (vi 0), some (vi ((gI τ4 19 3) - x2))]) rfl ?_
          refine r_aload_n (pc := 72) dX7_readWord_72 rfl rfl ?_
          refine r_dup (pc := 73) dX7_readWord_73 (fun _ h9 => nomatch h9) ?_
          refine r_getI (pc := 74) dX7_readWord_74 (k9 := 3) CL_7 (by decide) (by decide) w_157 rfl (okO_of (N := 6) (hL.sh (i := 3) rfl (by decide) (by decide)) (by decide)) (fun _ => ?_)
          refine r_iconst (pc := 77) dX7_readWord_77 (inRk rfl) ?_
          obtain ⟨o11, h⟩ := h
          refine r_iadd (pc := 78) dX7_readWord_78 o11 ?_
          refine r_putI (pc := 79) dX7_readWord_79 (k9 := 3) CL_7 (by decide) (by decide) w_157 rfl rfl (fun h9 => absurd h9 (by decide +kernel)) (okO_of (N := 6) (hL.sh (i := 3) rfl (by decide) (by decide)) (by decide)) ?_
          refine nmS (fun τ12 e12 => ?_)
          replace h := h τ12 e12
          have hL := hL.wI e12 (by decide) (.inl (by decide))
          refine r_goto (pc := 82) (tgt := 11) dX7_readWord_82 (by decide) ?_
          exact GG.msk [true, true, true, true, false] (h hL)
        · replace h := h.2 c9
          refine r_aload_n (pc := 53) dX7_readWord_53 rfl rfl ?_
          refine r_iload (pc := 54) dX7_readWord_54 rfl ?_
          obtain ⟨o13, h⟩ := h
          refine c_VSI0N (M := mX7_readWord) (pc := 56) (As := [vi ((gI τ4 19 3) - x2)]) dX7_readWord_56 K_J0_charAt_5068e w_808 ⟨by decide, by decide⟩ (Nat.le_of_ble_eq_true rfl) rfl rfl rfl o13 (h hL) (fun r14 τ15 h8 hr9 => ?_) rfl
          replace hL := h8.1
          replace h := h8.2 hr9
          refine r_aload_n (pc := 59) dX7_readWord_59 rfl rfl ?_
          refine c_VI0N (M := mX7_readWord) (pc := 60) (As := []) dX7_readWord_60 K_X7_here w_791 ⟨by decide, by decide⟩ (Nat.le_of_ble_eq_true rfl) rfl rfl (ci := 7) rfl rfl (by decide) (okO_of (N := 6) (hL.sh (i := 3) rfl (by decide) (by decide)) (by decide)) (h hL) (fun r16 τ17 h8 hr9 => ?_) rfl
          replace hL := h8.1
          replace h := h8.2 hr9
          refine r_icmp_ne (pc := 63) (tgt := 70) dX7_readWord_63 (by decide) (fun c9 => ?_) (fun c9 => ?_)
          · replace h := h.1 c9
            refine r_iconst (pc := 70) dX7_readWord_70 (inRk rfl) ?_
            refine r_istore_n (pc := 71) dX7_readWord_71 rfl (by decide) (l2 := [some (vr 19), some (vr a1), some (vi x2), some (vi 0), some (vi ((gI τ4 19 3) - x2))]) rfl ?_
            refine r_aload_n (pc := 72) dX7_readWord_72 rfl rfl ?_
            refine r_dup (pc := 73) dX7_readWord_73 (fun _ h9 => nomatch h9) ?_
            refine r_getI (pc := 74) dX7_readWord_74 (k9 := 3) CL_7 (by decide) (by decide) w_157 rfl (okO_of (N := 6) (hL.sh (i := 3) rfl (by decide) (by decide)) (by decide)) (fun _ => ?_)
            refine r_iconst (pc := 77) dX7_readWord_77 (inRk rfl) ?_
            obtain ⟨o18, h⟩ := h
            refine r_iadd (pc := 78) dX7_readWord_78 o18 ?_
            refine r_putI (pc := 79) dX7_readWord_79 (k9 := 3) CL_7 (by decide) (by decide) w_157 rfl rfl (fun h9 => absurd h9 (by decide +kernel)) (okO_of (N := 6) (hL.sh (i := 3) rfl (by decide) (by decide)) (by decide)) ?_
            refine nmS (fun τ19 e19 => ?_)
            replace h := h τ19 e19
            have hL := hL.wI e19 (by decide) (.inl (by decide))
            refine r_goto (pc := 82) (tgt := 11) dX7_readWord_82 (by decide) ?_
            exact GG.msk [true, true, true, true, false] (h hL)
          · replace h := h.2 c9
            refine r_iconst (pc := 66) dX7_readWord_66 (inRk rfl) ?_
            refine r_goto (pc := 67) (tgt := 71) dX7_readWord_67 (by decide) ?_
            refine r_istore_n (pc := 71) dX7_readWord_71 rfl (by decide) (l2 := [some (vr 19), some (vr a1), some (vi x2), some (vi 1), some (vi ((gI τ4 19 3) - x2))]) rfl ?_
            refine r_aload_n (pc := 72) dX7_readWord_72 rfl rfl ?_
            refine r_dup (pc := 73) dX7_readWord_73 (fun _ h9 => nomatch h9) ?_
            refine r_getI (pc := 74) dX7_readWord_74 (k9 := 3) CL_7 (by decide) (by decide) w_157 rfl (okO_of (N := 6) (hL.sh (i := 3) rfl (by decide) (by decide)) (by decide)) (fun _ => ?_)
            refine r_iconst (pc := 77) dX7_readWord_77 (inRk rfl) ?_
            obtain ⟨o20, h⟩ := h
            refine r_iadd (pc := 78) dX7_readWord_78 o20 ?_
            refine r_putI (pc := 79) dX7_readWord_79 (k9 := 3) CL_7 (by decide) (by decide) w_157 rfl rfl (fun h9 => absurd h9 (by decide +kernel)) (okO_of (N := 6) (hL.sh (i := 3) rfl (by decide) (by decide)) (by decide)) ?_
            refine nmS (fun τ21 e21 => ?_)
            replace h := h τ21 e21
            have hL := hL.wI e21 (by decide) (.inl (by decide))
            refine r_goto (pc := 82) (tgt := 11) dX7_readWord_82 (by decide) ?_
            exact GG.msk [true, true, true, true, false] (h hL)
theorem B_X7_readWord_85 {g : Sg} {c t : Nat} (hL : Lay LC g c t σ) {a1 : Nat} {x2 : Int} {x3 : Int} (h : ((x3 = 0 → (Lay LC g c t σ → CC E mX7_fail [vr 19, vi 1, vi x2] σ (KI (fun r1 τ2 => Lay LC g c t τ2 ∧ (inR r1 → ((r1 = 0 → (Lay LC g c t τ2 → Q (.inl (some (vi 0))) τ2)) ∧ (¬ (r1 = 0) → (Lay LC g c t τ2 → Q (.inl (some (vi 1))) τ2))))) (fun _ _ => False)))) ∧ (¬ (x3 = 0) → inR ((gI σ 19 3) - x2) ∧ okT σ a1 ∧ (Lay LC g c t σ → CC E mJ0_length_8abf5 [vr a1] σ (KI (fun r5 τ6 => Lay LC g c t τ6 ∧ (inR r5 → ((((gI σ 19 3) - x2) = r5 → (Lay LC g c t τ6 → Q (.inl (some (vi 1))) τ6)) ∧ (¬ (((gI σ 19 3) - x2) = r5) → (Lay LC g c t τ6 → CC E mX7_fail [vr 19, vi 1, vi x2] τ6 (KI (fun r7 τ8 => Lay LC g c t τ8 ∧ (inR r7 → ((r7 = 0 → (Lay LC g c t τ8 → Q (.inl (some (vi 0))) τ8)) ∧ (¬ (r7 = 0) → (Lay LC g c t τ8 → Q (.inl (some (vi 1))) τ8))))) (fun _ _ => False))))))) (fun _ _ => False)))))) : GG E mX7_readWord 85 [some (vr 19), some (vr a1), some (vi x2), some (vi x3), none] [] σ rc rs Q := by
  refine r_iload_n (pc := 85) dX7_readWord_85 rfl rfl ?_
  refine r_if_eq (pc := 86) (tgt := 102) dX7_readWord_86 (by decide) (fun c9 => ?_) (fun c9 => ?_)
  · replace h := h.1 c9
    refine r_aload_n (pc := 102) dX7_readWord_102 rfl rfl ?_
    refine r_iconst (pc := 103) dX7_readWord_103 (inRk rfl) ?_
    refine r_iload_n (pc := 104) dX7_readWord_104 rfl rfl ?_
    refine c_VI0N (M := mX7_readWord) (pc := 105) (As := [vi 1, vi x2]) dX7_readWord_105 K_X7_fail w_846 ⟨by decide, by decide⟩ (Nat.le_of_ble_eq_true rfl) rfl rfl (ci := 7) rfl rfl (by decide) (okO_of (N := 6) (hL.sh (i := 3) rfl (by decide) (by decide)) (by decide)) (h hL) (fun r1 τ2 h8 hr9 => ?_) rfl
    replace hL := h8.1
    replace h := h8.2 hr9
    refine r_if_eq (pc := 108) (tgt := 115) dX7_readWord_108 (by decide) (fun c9 => ?_) (fun c9 => ?_)
    · replace h := h.1 c9
      refine r_iconst (pc := 115) dX7_readWord_115 (inRk rfl) ?_
      exact r_ireturn (pc := 116) (ty := .boolean) dX7_readWord_116 (by decide +kernel) rfl (nar_bool (by decide)) (h hL)
    · replace h := h.2 c9
      refine r_iconst (pc := 111) dX7_readWord_111 (inRk rfl) ?_
      refine r_goto (pc := 112) (tgt := 116) dX7_readWord_112 (by decide) ?_
      exact r_ireturn (pc := 116) (ty := .boolean) dX7_readWord_116 (by decide +kernel) rfl (nar_bool (by decide)) (h hL)
  · replace h := h.2 c9
    refine r_aload_n (pc := 89) dX7_readWord_89 rfl rfl ?_
    refine r_getI (pc := 90) dX7_readWord_90 (k9 := 3) CL_7 (by decide) (by decide) w_157 rfl (okO_of (N := 6) (hL.sh (i := 3) rfl (by decide) (by decide)) (by decide)) (fun _ => ?_)
    refine r_iload_n (pc := 93) dX7_readWord_93 rfl rfl ?_
    obtain ⟨o3, h⟩ := h
    refine r_isub (pc := 94) dX7_readWord_94 o3 ?_
    refine r_aload_n (pc := 95) dX7_readWord_95 rfl rfl ?_
    obtain ⟨o4, h⟩ := h
    refine c_VSI0N (M := mX7_readWord) (pc := 96) (As := []) dX7_readWord_96 K_J0_length_8abf5 w_798 ⟨by decide, by decide⟩ (Nat.le_of_ble_eq_true rfl) rfl rfl rfl o4 (h hL) (fun r5 τ6 h8 hr9 => ?_) rfl
    replace hL := h8.1
    replace h := h8.2 hr9
    refine r_icmp_eq (pc := 99) (tgt := 111) dX7_readWord_99 (by decide) (fun c9 => ?_) (fun c9 => ?_)
    · replace h := h.1 c9
      refine r_iconst (pc := 111) dX7_readWord_111 (inRk rfl) ?_
      refine r_goto (pc := 112) (tgt := 116) dX7_readWord_112 (by decide) ?_
      exact r_ireturn (pc := 116) (ty := .boolean) dX7_readWord_116 (by decide +kernel) rfl (nar_bool (by decide)) (h hL)
    · replace h := h.2 c9
      refine r_aload_n (pc := 102) dX7_readWord_102 rfl rfl ?_
      refine r_iconst (pc := 103) dX7_readWord_103 (inRk rfl) ?_
      refine r_iload_n (pc := 104) dX7_readWord_104 rfl rfl ?_
      refine c_VI0N (M := mX7_readWord) (pc := 105) (As := [vi 1, vi x2]) dX7_readWord_105 K_X7_fail w_846 ⟨by decide, by decide⟩ (Nat.le_of_ble_eq_true rfl) rfl rfl (ci := 7) rfl rfl (by decide) (okO_of (N := 6) (hL.sh (i := 3) rfl (by decide) (by decide)) (by decide)) (h hL) (fun r7 τ8 h8 hr9 => ?_) rfl
      replace hL := h8.1
      replace h := h8.2 hr9
      refine r_if_eq (pc := 108) (tgt := 115) dX7_readWord_108 (by decide) (fun c9 => ?_) (fun c9 => ?_)
      · replace h := h.1 c9
        refine r_iconst (pc := 115) dX7_readWord_115 (inRk rfl) ?_
        exact r_ireturn (pc := 116) (ty := .boolean) dX7_readWord_116 (by decide +kernel) rfl (nar_bool (by decide)) (h hL)
      · replace h := h.2 c9
        refine r_iconst (pc := 111) dX7_readWord_111 (inRk rfl) ?_
        refine r_goto (pc := 112) (tgt := 116) dX7_readWord_112 (by decide) ?_
        exact r_ireturn (pc := 116) (ty := .boolean) dX7_readWord_116 (by decide +kernel) rfl (nar_bool (by decide)) (h hL)
theorem C_X7_readWord {a0 : Nat} {a1 : Nat} (h : GG E mX7_readWord 0 [some (vr a0), some (vr a1), none, none, none] [] σ 0 0 Q) : CC E mX7_readWord [vr a0, vr a1] σ Q := CC.of (by decide +kernel) rfl (by decide +kernel) (fun h9 => nomatch h9) (Nat.le_of_ble_eq_true rfl) h
theorem dX7_skipBlanks_0 : decode cX7_skipBlanks 0 = .ok (.aload_n 0, 1) := by decide +kernel
theorem dX7_skipBlanks_1 : decode cX7_skipBlanks 1 = .ok (.getfield 23, 3) := by decide +kernel
theorem dX7_skipBlanks_4 : decode cX7_skipBlanks 4 = .ok (.aload_n 0, 1) := by decide +kernel
theorem dX7_skipBlanks_5 : decode cX7_skipBlanks 5 = .ok (.getfield 19, 3) := by decide +kernel
theorem dX7_skipBlanks_8 : decode cX7_skipBlanks 8 = .ok (.if_icmp .ge 25, 3) := by decide +kernel
theorem dX7_skipBlanks_11 : decode cX7_skipBlanks 11 = .ok (.aload_n 0, 1) := by decide +kernel
theorem dX7_skipBlanks_12 : decode cX7_skipBlanks 12 = .ok (.invokevirtual 88, 3) := by decide +kernel
theorem dX7_skipBlanks_15 : decode cX7_skipBlanks 15 = .ok (.bipush 32, 2) := by decide +kernel
theorem dX7_skipBlanks_17 : decode cX7_skipBlanks 17 = .ok (.if_icmp .ne 16, 3) := by decide +kernel
theorem dX7_skipBlanks_20 : decode cX7_skipBlanks 20 = .ok (.aload_n 0, 1) := by decide +kernel
theorem dX7_skipBlanks_21 : decode cX7_skipBlanks 21 = .ok (.dup, 1) := by decide +kernel
theorem dX7_skipBlanks_22 : decode cX7_skipBlanks 22 = .ok (.getfield 23, 3) := by decide +kernel
theorem dX7_skipBlanks_25 : decode cX7_skipBlanks 25 = .ok (.iconst 1, 1) := by decide +kernel
theorem dX7_skipBlanks_26 : decode cX7_skipBlanks 26 = .ok (.iadd, 1) := by decide +kernel
theorem dX7_skipBlanks_27 : decode cX7_skipBlanks 27 = .ok (.putfield 23, 3) := by decide +kernel
theorem dX7_skipBlanks_30 : decode cX7_skipBlanks 30 = .ok (.goto (-30), 3) := by decide +kernel
theorem dX7_skipBlanks_33 : decode cX7_skipBlanks 33 = .ok (.return_, 1) := by decide +kernel
theorem B_X7_skipBlanks_0 {g : Sg} {c t : Nat} (hL : Lay LC g c t σ)  (h : (((gI σ 19 2) ≤ (gI σ 19 3) → (Lay LC g c t σ → Q (.inl none) σ)) ∧ (¬ ((gI σ 19 2) ≤ (gI σ 19 3)) → (Lay LC g c t σ → CC E mX7_here [vr 19] σ (KI (fun r1 τ2 => Lay LC g c t τ2 ∧ (inR r1 → ((r1 ≠ 32 → (Lay LC g c t τ2 → Q (.inl none) τ2)) ∧ (r1 = 32 → inR ((gI τ2 19 3) + 1) ∧ ∀ τ4 : Sg, τ4 = sI τ2 19 3 ((gI τ2 19 3) + 1) → (Lay LC g c t τ4 → GG E mX7_skipBlanks 0 [some (vr 19)] [] τ4 rc rs Q))))) (fun _ _ => False)))))) : GG E mX7_skipBlanks 0 [some (vr 19)] [] σ rc rs Q := by
  refine r_aload_n (pc := 0) dX7_skipBlanks_0 rfl rfl ?_
  refine r_getI (pc := 1) dX7_skipBlanks_1 (k9 := 3) CL_7 (by decide) (by decide) w_157 rfl (okO_of (N := 6) (hL.sh (i := 3) rfl (by decide) (by decide)) (by decide)) (fun _ => ?_)
  refine r_aload_n (pc := 4) dX7_skipBlanks_4 rfl rfl ?_
  refine r_getI (pc := 5) dX7_skipBlanks_5 (k9 := 2) CL_7 (by decide) (by decide) w_156 rfl (okO_of (N := 6) (hL.sh (i := 3) rfl (by decide) (by decide)) (by decide)) (fun _ => ?_)
  refine r_icmp_ge (pc := 8) (tgt := 33) dX7_skipBlanks_8 (by decide) (fun c9 => ?_) (fun c9 => ?_)
  · replace h := h.1 c9
    exact r_return (pc := 33) dX7_skipBlanks_33 (by decide +kernel) rfl (h hL)
  · replace h := h.2 c9
    refine r_aload_n (pc := 11) dX7_skipBlanks_11 rfl rfl ?_
    refine c_VI0N (M := mX7_skipBlanks) (pc := 12) (As := []) dX7_skipBlanks_12 K_X7_here w_791 ⟨by decide, by decide⟩ (Nat.le_of_ble_eq_true rfl) rfl rfl (ci := 7) rfl rfl (by decide) (okO_of (N := 6) (hL.sh (i := 3) rfl (by decide) (by decide)) (by decide)) (h hL) (fun r1 τ2 h8 hr9 => ?_) rfl
    replace hL := h8.1
    replace h := h8.2 hr9
    refine r_bipush (pc := 15) dX7_skipBlanks_15 (by decide) ?_
    refine r_icmp_ne (pc := 17) (tgt := 33) dX7_skipBlanks_17 (by decide) (fun c9 => ?_) (fun c9 => ?_)
    · replace h := h.1 c9
      exact r_return (pc := 33) dX7_skipBlanks_33 (by decide +kernel) rfl (h hL)
    · replace h := h.2 c9
      refine r_aload_n (pc := 20) dX7_skipBlanks_20 rfl rfl ?_
      refine r_dup (pc := 21) dX7_skipBlanks_21 (fun _ h9 => nomatch h9) ?_
      refine r_getI (pc := 22) dX7_skipBlanks_22 (k9 := 3) CL_7 (by decide) (by decide) w_157 rfl (okO_of (N := 6) (hL.sh (i := 3) rfl (by decide) (by decide)) (by decide)) (fun _ => ?_)
      refine r_iconst (pc := 25) dX7_skipBlanks_25 (inRk rfl) ?_
      obtain ⟨o3, h⟩ := h
      refine r_iadd (pc := 26) dX7_skipBlanks_26 o3 ?_
      refine r_putI (pc := 27) dX7_skipBlanks_27 (k9 := 3) CL_7 (by decide) (by decide) w_157 rfl rfl (fun h9 => absurd h9 (by decide +kernel)) (okO_of (N := 6) (hL.sh (i := 3) rfl (by decide) (by decide)) (by decide)) ?_
      refine nmS (fun τ4 e4 => ?_)
      replace h := h τ4 e4
      have hL := hL.wI e4 (by decide) (.inl (by decide))
      refine r_goto (pc := 30) (tgt := 0) dX7_skipBlanks_30 (by decide) ?_
      exact (h hL)
theorem C_X7_skipBlanks {a0 : Nat} (h : GG E mX7_skipBlanks 0 [some (vr a0)] [] σ 0 0 Q) : CC E mX7_skipBlanks [vr a0] σ Q := CC.of (by decide +kernel) rfl (by decide +kernel) (fun h9 => nomatch h9) (Nat.le_of_ble_eq_true rfl) h
end G24
