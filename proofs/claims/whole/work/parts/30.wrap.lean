/-! ===== decode rows and trees: 30.wrap ===== -/
section G30
variable {E : Ev} {σ : Sg} {rc rs : Nat} {Q : NO → Sg → Prop}
theorem dL_add_0 : decode cL_add 0 = .ok (.aload 9, 2) := by decide +kernel
theorem dL_add_2 : decode cL_add 2 = .ok (.iconst 0, 1) := by decide +kernel
theorem dL_add_3 : decode cL_add 3 = .ok (.aload_n 0, 1) := by decide +kernel
theorem dL_add_4 : decode cL_add 4 = .ok (.iload_n 1, 1) := by decide +kernel
theorem dL_add_5 : decode cL_add 5 = .ok (.iload_n 2, 1) := by decide +kernel
theorem dL_add_6 : decode cL_add 6 = .ok (.iload_n 3, 1) := by decide +kernel
theorem dL_add_7 : decode cL_add 7 = .ok (.iload 4, 2) := by decide +kernel
theorem dL_add_9 : decode cL_add 9 = .ok (.iload 5, 2) := by decide +kernel
theorem dL_add_11 : decode cL_add 11 = .ok (.iload 6, 2) := by decide +kernel
theorem dL_add_13 : decode cL_add 13 = .ok (.iload 7, 2) := by decide +kernel
theorem dL_add_15 : decode cL_add 15 = .ok (.iload 8, 2) := by decide +kernel
theorem dL_add_17 : decode cL_add 17 = .ok (.invokevirtual 15, 3) := by decide +kernel
theorem dL_add_20 : decode cL_add 20 = .ok (.i2l, 1) := by decide +kernel
theorem dL_add_21 : decode cL_add 21 = .ok (.lastore, 1) := by decide +kernel
theorem dL_add_22 : decode cL_add 22 = .ok (.goto 11, 3) := by decide +kernel
theorem dL_add_25 : decode cL_add 25 = .ok (.astore 10, 2) := by decide +kernel
theorem dL_add_27 : decode cL_add 27 = .ok (.iconst 1, 1) := by decide +kernel
theorem dL_add_28 : decode cL_add 28 = .ok (.ireturn, 1) := by decide +kernel
theorem dL_add_29 : decode cL_add 29 = .ok (.astore 10, 2) := by decide +kernel
theorem dL_add_31 : decode cL_add 31 = .ok (.iconst 2, 1) := by decide +kernel
theorem dL_add_32 : decode cL_add 32 = .ok (.ireturn, 1) := by decide +kernel
theorem dL_add_33 : decode cL_add 33 = .ok (.iconst 0, 1) := by decide +kernel
theorem dL_add_34 : decode cL_add 34 = .ok (.ireturn, 1) := by decide +kernel
theorem B_L_add_0 {a0 : Nat} {x1 : Int} {x2 : Int} {x3 : Int} {x4 : Int} {x5 : Int} {x6 : Int} {x7 : Int} {x8 : Int} {a9 : Nat} (h : 3 ≤ rc ∧ 18 ≤ rs ∧ okO σ a0 11 ∧ CC E mX11_add [vr a0, vi x1, vi x2, vi x3, vi x4, vi x5, vi x6, vi x7, vi x8] σ (KI (fun r1 τ2 => inR r1 → okB 23 τ2 a9 0 ∧ ∀ τ4 : Sg, τ4 = sI τ2 a9 0 r1 → Q (.inl (some (vi 0))) τ4) (fun k9 τ9 => (k9 = 0 → False) ∧ (k9 = 1 → Q (.inl (some (vi 1))) τ9) ∧ (k9 = 2 → Q (.inl (some (vi 2))) τ9)))) : GG E mL_add 0 [some (vr a0), some (vi x1), some (vi x2), some (vi x3), some (vi x4), some (vi x5), some (vi x6), some (vi x7), some (vi x8), some (vr a9), none] [] σ rc rs Q := by
  refine r_aload (pc := 0) dL_add_0 rfl ?_
  refine r_iconst (pc := 2) dL_add_2 (inRk rfl) ?_
  refine r_aload_n (pc := 3) dL_add_3 rfl rfl ?_
  refine r_iload_n (pc := 4) dL_add_4 rfl rfl ?_
  refine r_iload_n (pc := 5) dL_add_5 rfl rfl ?_
  refine r_iload_n (pc := 6) dL_add_6 rfl rfl ?_
  refine r_iload (pc := 7) dL_add_7 rfl ?_
  refine r_iload (pc := 9) dL_add_9 rfl ?_
  refine r_iload (pc := 11) dL_add_11 rfl ?_
  refine r_iload (pc := 13) dL_add_13 rfl ?_
  refine r_iload (pc := 15) dL_add_15 rfl ?_
  refine c_VIAX (M := mL_add) (pc := 17) (As := [vi x1, vi x2, vi x3, vi x4, vi x5, vi x6, vi x7, vi x8]) dL_add_17 K_X11_add w_896 ⟨by decide, by decide⟩ (Nat.le_of_ble_eq_true rfl) h.1 h.2.1 (ci := 11) rfl rfl (by decide) h.2.2.1 h.2.2.2 (fun r1 τ2 h8 hr9 => ?_) (fun k9 τ9 hk9 h8 => ?_) rfl
  · replace h := h8 hr9
    refine r_i2l (pc := 20) dL_add_20 ?_
    obtain ⟨o3, h⟩ := h
    refine r_lastore (pc := 21) dL_add_21 o3 ?_
    refine nmS (fun τ4 e4 => ?_)
    replace h := h τ4 e4
    refine r_goto (pc := 22) (tgt := 33) dL_add_22 (by decide) ?_
    refine r_iconst (pc := 33) dL_add_33 (inRk rfl) ?_
    exact r_ireturn (pc := 34) (ty := .int) dL_add_34 (by decide +kernel) rfl (nar_i _) h
  · have c8 : k9 = 0 ∨ k9 = 1 ∨ k9 = 2 := by omega
    rcases c8 with rfl | rfl | rfl
    · exact (h8.1 rfl).elim
    · replace h := h8.2.1 rfl
      refine TT.catch9 (x := 1) (i := 10) (h9 := 25) (t9 := 13) (pre := []) (suf := [(0, 22, 29, 19)]) (a9 := 0) (b9 := 22) rfl (by decide) (by decide) w_698 wt_713 (fun z hz => nomatch hz) (by decide) (.inl ⟨dL_add_25, rfl⟩) ?_
      change GG _ _ _ [some (vr a0), some (vi x1), some (vi x2), some (vi x3), some (vi x4), some (vi x5), some (vi x6), some (vi x7), some (vi x8), some (vr a9), none] _ _ _ _ _
      refine r_iconst (pc := 27) dL_add_27 (inRk rfl) ?_
      exact r_ireturn (pc := 28) (ty := .int) dL_add_28 (by decide +kernel) rfl (nar_i _) h
    · replace h := h8.2.2 rfl
      refine TT.catch9 (x := 2) (i := 10) (h9 := 29) (t9 := 19) (pre := [(0, 22, 25, 13)]) (suf := []) (a9 := 0) (b9 := 22) rfl (by decide) (by decide) w_895 wt_907 (fun z hz => by rw [List.mem_singleton.mp hz]; exact ⟨1, by decide, w_698, by decide⟩) (by decide) (.inl ⟨dL_add_29, rfl⟩) ?_
      change GG _ _ _ [some (vr a0), some (vi x1), some (vi x2), some (vi x3), some (vi x4), some (vi x5), some (vi x6), some (vi x7), some (vi x8), some (vr a9), none] _ _ _ _ _
      refine r_iconst (pc := 31) dL_add_31 (inRk rfl) ?_
      exact r_ireturn (pc := 32) (ty := .int) dL_add_32 (by decide +kernel) rfl (nar_i _) h
theorem C_L_add {a0 : Nat} {x1 : Int} {x2 : Int} {x3 : Int} {x4 : Int} {x5 : Int} {x6 : Int} {x7 : Int} {x8 : Int} {a9 : Nat} (h : GG E mL_add 0 [some (vr a0), some (vi x1), some (vi x2), some (vi x3), some (vi x4), some (vi x5), some (vi x6), some (vi x7), some (vi x8), some (vr a9), none] [] σ 3 18 Q) : CC E mL_add [vr a0, vi x1, vi x2, vi x3, vi x4, vi x5, vi x6, vi x7, vi x8, vr a9] σ Q := CC.ofH (by decide +kernel) rfl (by decide +kernel) rfl (Nat.le_of_ble_eq_true rfl) h
theorem dL_axes_0 : decode cL_axes 0 = .ok (.aload_n 2, 1) := by decide +kernel
theorem dL_axes_1 : decode cL_axes 1 = .ok (.iconst 0, 1) := by decide +kernel
theorem dL_axes_2 : decode cL_axes 2 = .ok (.aload_n 0, 1) := by decide +kernel
theorem dL_axes_3 : decode cL_axes 3 = .ok (.iload_n 1, 1) := by decide +kernel
theorem dL_axes_4 : decode cL_axes 4 = .ok (.invokevirtual 46, 3) := by decide +kernel
theorem dL_axes_7 : decode cL_axes 7 = .ok (.i2l, 1) := by decide +kernel
theorem dL_axes_8 : decode cL_axes 8 = .ok (.lastore, 1) := by decide +kernel
theorem dL_axes_9 : decode cL_axes 9 = .ok (.goto 6, 3) := by decide +kernel
theorem dL_axes_12 : decode cL_axes 12 = .ok (.astore_n 3, 1) := by decide +kernel
theorem dL_axes_13 : decode cL_axes 13 = .ok (.iconst 1, 1) := by decide +kernel
theorem dL_axes_14 : decode cL_axes 14 = .ok (.ireturn, 1) := by decide +kernel
theorem dL_axes_15 : decode cL_axes 15 = .ok (.iconst 0, 1) := by decide +kernel
theorem dL_axes_16 : decode cL_axes 16 = .ok (.ireturn, 1) := by decide +kernel
theorem B_L_axes_0 {a0 : Nat} {x1 : Int} {a2 : Nat} (h : 1 ≤ rc ∧ 6 ≤ rs ∧ okO σ a0 11 ∧ CC E mX11_axes [vr a0, vi x1] σ (KI (fun r1 τ2 => inR r1 → okB 23 τ2 a2 0 ∧ ∀ τ4 : Sg, τ4 = sI τ2 a2 0 r1 → Q (.inl (some (vi 0))) τ4) (fun k9 τ9 => (k9 = 0 → False) ∧ (k9 = 1 → Q (.inl (some (vi 1))) τ9) ∧ (k9 = 2 → False)))) : GG E mL_axes 0 [some (vr a0), some (vi x1), some (vr a2), none] [] σ rc rs Q := by
  refine r_aload_n (pc := 0) dL_axes_0 rfl rfl ?_
  refine r_iconst (pc := 1) dL_axes_1 (inRk rfl) ?_
  refine r_aload_n (pc := 2) dL_axes_2 rfl rfl ?_
  refine r_iload_n (pc := 3) dL_axes_3 rfl rfl ?_
  refine c_VIAX (M := mL_axes) (pc := 4) (As := [vi x1]) dL_axes_4 K_X11_axes w_1180 ⟨by decide, by decide⟩ (Nat.le_of_ble_eq_true rfl) h.1 h.2.1 (ci := 11) rfl rfl (by decide) h.2.2.1 h.2.2.2 (fun r1 τ2 h8 hr9 => ?_) (fun k9 τ9 hk9 h8 => ?_) rfl
  · replace h := h8 hr9
    refine r_i2l (pc := 7) dL_axes_7 ?_
    obtain ⟨o3, h⟩ := h
    refine r_lastore (pc := 8) dL_axes_8 o3 ?_
    refine nmS (fun τ4 e4 => ?_)
    replace h := h τ4 e4
    refine r_goto (pc := 9) (tgt := 15) dL_axes_9 (by decide) ?_
    refine r_iconst (pc := 15) dL_axes_15 (inRk rfl) ?_
    exact r_ireturn (pc := 16) (ty := .int) dL_axes_16 (by decide +kernel) rfl (nar_i _) h
  · have c8 : k9 = 0 ∨ k9 = 1 ∨ k9 = 2 := by omega
    rcases c8 with rfl | rfl | rfl
    · exact (h8.1 rfl).elim
    · replace h := h8.2.1 rfl
      refine TT.catch9 (x := 1) (i := 3) (h9 := 12) (t9 := 13) (pre := []) (suf := []) (a9 := 0) (b9 := 9) rfl (by decide) (by decide) w_698 wt_713 (fun z hz => nomatch hz) (by decide) (.inr ⟨3, rfl, dL_axes_12, rfl⟩) ?_
      change GG _ _ _ [some (vr a0), some (vi x1), some (vr a2), none] _ _ _ _ _
      refine r_iconst (pc := 13) dL_axes_13 (inRk rfl) ?_
      exact r_ireturn (pc := 14) (ty := .int) dL_axes_14 (by decide +kernel) rfl (nar_i _) h
    · exact (h8.2.2 rfl).elim
theorem C_L_axes {a0 : Nat} {x1 : Int} {a2 : Nat} (h : GG E mL_axes 0 [some (vr a0), some (vi x1), some (vr a2), none] [] σ 1 6 Q) : CC E mL_axes [vr a0, vi x1, vr a2] σ Q := CC.ofH (by decide +kernel) rfl (by decide +kernel) rfl (Nat.le_of_ble_eq_true rfl) h
theorem dL_couples_0 : decode cL_couples 0 = .ok (.aload 4, 2) := by decide +kernel
theorem dL_couples_2 : decode cL_couples 2 = .ok (.iconst 0, 1) := by decide +kernel
theorem dL_couples_3 : decode cL_couples 3 = .ok (.aload_n 0, 1) := by decide +kernel
theorem dL_couples_4 : decode cL_couples 4 = .ok (.iload_n 1, 1) := by decide +kernel
theorem dL_couples_5 : decode cL_couples 5 = .ok (.iload_n 2, 1) := by decide +kernel
theorem dL_couples_6 : decode cL_couples 6 = .ok (.iload_n 3, 1) := by decide +kernel
theorem dL_couples_7 : decode cL_couples 7 = .ok (.invokevirtual 42, 3) := by decide +kernel
theorem dL_couples_10 : decode cL_couples 10 = .ok (.i2l, 1) := by decide +kernel
theorem dL_couples_11 : decode cL_couples 11 = .ok (.lastore, 1) := by decide +kernel
theorem dL_couples_12 : decode cL_couples 12 = .ok (.goto 7, 3) := by decide +kernel
theorem dL_couples_15 : decode cL_couples 15 = .ok (.astore 5, 2) := by decide +kernel
theorem dL_couples_17 : decode cL_couples 17 = .ok (.iconst 1, 1) := by decide +kernel
theorem dL_couples_18 : decode cL_couples 18 = .ok (.ireturn, 1) := by decide +kernel
theorem dL_couples_19 : decode cL_couples 19 = .ok (.iconst 0, 1) := by decide +kernel
theorem dL_couples_20 : decode cL_couples 20 = .ok (.ireturn, 1) := by decide +kernel
theorem B_L_couples_0 {a0 : Nat} {x1 : Int} {x2 : Int} {x3 : Int} {a4 : Nat} (h : 3 ≤ rc ∧ 18 ≤ rs ∧ okO σ a0 11 ∧ CC E mX11_couples [vr a0, vi x1, vi x2, vi x3] σ (KI (fun r1 τ2 => inR r1 → okB 23 τ2 a4 0 ∧ ∀ τ4 : Sg, τ4 = sI τ2 a4 0 r1 → Q (.inl (some (vi 0))) τ4) (fun k9 τ9 => (k9 = 0 → Q (.inl (some (vi 1))) τ9) ∧ (k9 = 1 → False) ∧ (k9 = 2 → False)))) : GG E mL_couples 0 [some (vr a0), some (vi x1), some (vi x2), some (vi x3), some (vr a4), none] [] σ rc rs Q := by
  refine r_aload (pc := 0) dL_couples_0 rfl ?_
  refine r_iconst (pc := 2) dL_couples_2 (inRk rfl) ?_
  refine r_aload_n (pc := 3) dL_couples_3 rfl rfl ?_
  refine r_iload_n (pc := 4) dL_couples_4 rfl rfl ?_
  refine r_iload_n (pc := 5) dL_couples_5 rfl rfl ?_
  refine r_iload_n (pc := 6) dL_couples_6 rfl rfl ?_
  refine c_VIAX (M := mL_couples) (pc := 7) (As := [vi x1, vi x2, vi x3]) dL_couples_7 K_X11_couples w_1169 ⟨by decide, by decide⟩ (Nat.le_of_ble_eq_true rfl) h.1 h.2.1 (ci := 11) rfl rfl (by decide) h.2.2.1 h.2.2.2 (fun r1 τ2 h8 hr9 => ?_) (fun k9 τ9 hk9 h8 => ?_) rfl
  · replace h := h8 hr9
    refine r_i2l (pc := 10) dL_couples_10 ?_
    obtain ⟨o3, h⟩ := h
    refine r_lastore (pc := 11) dL_couples_11 o3 ?_
    refine nmS (fun τ4 e4 => ?_)
    replace h := h τ4 e4
    refine r_goto (pc := 12) (tgt := 19) dL_couples_12 (by decide) ?_
    refine r_iconst (pc := 19) dL_couples_19 (inRk rfl) ?_
    exact r_ireturn (pc := 20) (ty := .int) dL_couples_20 (by decide +kernel) rfl (nar_i _) h
  · have c8 : k9 = 0 ∨ k9 = 1 ∨ k9 = 2 := by omega
    rcases c8 with rfl | rfl | rfl
    · replace h := h8.1 rfl
      refine TT.catch9 (x := 0) (i := 5) (h9 := 15) (t9 := 24) (pre := []) (suf := []) (a9 := 0) (b9 := 12) rfl (by decide) (by decide) w_941 wt_952 (fun z hz => nomatch hz) (by decide) (.inl ⟨dL_couples_15, rfl⟩) ?_
      change GG _ _ _ [some (vr a0), some (vi x1), some (vi x2), some (vi x3), some (vr a4), none] _ _ _ _ _
      refine r_iconst (pc := 17) dL_couples_17 (inRk rfl) ?_
      exact r_ireturn (pc := 18) (ty := .int) dL_couples_18 (by decide +kernel) rfl (nar_i _) h
    · exact (h8.2.1 rfl).elim
    · exact (h8.2.2 rfl).elim
theorem C_L_couples {a0 : Nat} {x1 : Int} {x2 : Int} {x3 : Int} {a4 : Nat} (h : GG E mL_couples 0 [some (vr a0), some (vi x1), some (vi x2), some (vi x3), some (vr a4), none] [] σ 3 18 Q) : CC E mL_couples [vr a0, vi x1, vi x2, vi x3, vr a4] σ Q := CC.ofH (by decide +kernel) rfl (by decide +kernel) rfl (Nat.le_of_ble_eq_true rfl) h
theorem dL_degree_0 : decode cL_degree 0 = .ok (.aload_n 2, 1) := by decide +kernel
theorem dL_degree_1 : decode cL_degree 1 = .ok (.iconst 0, 1) := by decide +kernel
theorem dL_degree_2 : decode cL_degree 2 = .ok (.aload_n 0, 1) := by decide +kernel
theorem dL_degree_3 : decode cL_degree 3 = .ok (.iload_n 1, 1) := by decide +kernel
theorem dL_degree_4 : decode cL_degree 4 = .ok (.invokevirtual 49, 3) := by decide +kernel
theorem dL_degree_7 : decode cL_degree 7 = .ok (.i2l, 1) := by decide +kernel
theorem dL_degree_8 : decode cL_degree 8 = .ok (.lastore, 1) := by decide +kernel
theorem dL_degree_9 : decode cL_degree 9 = .ok (.goto 6, 3) := by decide +kernel
theorem dL_degree_12 : decode cL_degree 12 = .ok (.astore_n 3, 1) := by decide +kernel
theorem dL_degree_13 : decode cL_degree 13 = .ok (.iconst 1, 1) := by decide +kernel
theorem dL_degree_14 : decode cL_degree 14 = .ok (.ireturn, 1) := by decide +kernel
theorem dL_degree_15 : decode cL_degree 15 = .ok (.iconst 0, 1) := by decide +kernel
theorem dL_degree_16 : decode cL_degree 16 = .ok (.ireturn, 1) := by decide +kernel
theorem B_L_degree_0 {a0 : Nat} {x1 : Int} {a2 : Nat} (h : 1 ≤ rc ∧ 6 ≤ rs ∧ okO σ a0 11 ∧ CC E mX11_degree [vr a0, vi x1] σ (KI (fun r1 τ2 => inR r1 → okB 23 τ2 a2 0 ∧ ∀ τ4 : Sg, τ4 = sI τ2 a2 0 r1 → Q (.inl (some (vi 0))) τ4) (fun k9 τ9 => (k9 = 0 → Q (.inl (some (vi 1))) τ9) ∧ (k9 = 1 → False) ∧ (k9 = 2 → False)))) : GG E mL_degree 0 [some (vr a0), some (vi x1), some (vr a2), none] [] σ rc rs Q := by
  refine r_aload_n (pc := 0) dL_degree_0 rfl rfl ?_
  refine r_iconst (pc := 1) dL_degree_1 (inRk rfl) ?_
  refine r_aload_n (pc := 2) dL_degree_2 rfl rfl ?_
  refine r_iload_n (pc := 3) dL_degree_3 rfl rfl ?_
  refine c_VIAX (M := mL_degree) (pc := 4) (As := [vi x1]) dL_degree_4 K_X11_degree w_1192 ⟨by decide, by decide⟩ (Nat.le_of_ble_eq_true rfl) h.1 h.2.1 (ci := 11) rfl rfl (by decide) h.2.2.1 h.2.2.2 (fun r1 τ2 h8 hr9 => ?_) (fun k9 τ9 hk9 h8 => ?_) rfl
  · replace h := h8 hr9
    refine r_i2l (pc := 7) dL_degree_7 ?_
    obtain ⟨o3, h⟩ := h
    refine r_lastore (pc := 8) dL_degree_8 o3 ?_
    refine nmS (fun τ4 e4 => ?_)
    replace h := h τ4 e4
    refine r_goto (pc := 9) (tgt := 15) dL_degree_9 (by decide) ?_
    refine r_iconst (pc := 15) dL_degree_15 (inRk rfl) ?_
    exact r_ireturn (pc := 16) (ty := .int) dL_degree_16 (by decide +kernel) rfl (nar_i _) h
  · have c8 : k9 = 0 ∨ k9 = 1 ∨ k9 = 2 := by omega
    rcases c8 with rfl | rfl | rfl
    · replace h := h8.1 rfl
      refine TT.catch9 (x := 0) (i := 3) (h9 := 12) (t9 := 24) (pre := []) (suf := []) (a9 := 0) (b9 := 9) rfl (by decide) (by decide) w_941 wt_952 (fun z hz => nomatch hz) (by decide) (.inr ⟨3, rfl, dL_degree_12, rfl⟩) ?_
      change GG _ _ _ [some (vr a0), some (vi x1), some (vr a2), none] _ _ _ _ _
      refine r_iconst (pc := 13) dL_degree_13 (inRk rfl) ?_
      exact r_ireturn (pc := 14) (ty := .int) dL_degree_14 (by decide +kernel) rfl (nar_i _) h
    · exact (h8.2.1 rfl).elim
    · exact (h8.2.2 rfl).elim
theorem C_L_degree {a0 : Nat} {x1 : Int} {a2 : Nat} (h : GG E mL_degree 0 [some (vr a0), some (vi x1), some (vr a2), none] [] σ 1 6 Q) : CC E mL_degree [vr a0, vi x1, vr a2] σ Q := CC.ofH (by decide +kernel) rfl (by decide +kernel) rfl (Nat.le_of_ble_eq_true rfl) h
theorem dL_drop_0 : decode cL_drop 0 = .ok (.aload_n 2, 1) := by decide +kernel
theorem dL_drop_1 : decode cL_drop 1 = .ok (.iconst 0, 1) := by decide +kernel
theorem dL_drop_2 : decode cL_drop 2 = .ok (.aload_n 0, 1) := by decide +kernel
theorem dL_drop_3 : decode cL_drop 3 = .ok (.iload_n 1, 1) := by decide +kernel
theorem dL_drop_4 : decode cL_drop 4 = .ok (.invokevirtual 21, 3) := by decide +kernel
theorem dL_drop_7 : decode cL_drop 7 = .ok (.i2l, 1) := by decide +kernel
theorem dL_drop_8 : decode cL_drop 8 = .ok (.lastore, 1) := by decide +kernel
theorem dL_drop_9 : decode cL_drop 9 = .ok (.goto 6, 3) := by decide +kernel
theorem dL_drop_12 : decode cL_drop 12 = .ok (.astore_n 3, 1) := by decide +kernel
theorem dL_drop_13 : decode cL_drop 13 = .ok (.iconst 1, 1) := by decide +kernel
theorem dL_drop_14 : decode cL_drop 14 = .ok (.ireturn, 1) := by decide +kernel
theorem dL_drop_15 : decode cL_drop 15 = .ok (.iconst 0, 1) := by decide +kernel
theorem dL_drop_16 : decode cL_drop 16 = .ok (.ireturn, 1) := by decide +kernel
theorem B_L_drop_0 {a0 : Nat} {x1 : Int} {a2 : Nat} (h : 1 ≤ rc ∧ 6 ≤ rs ∧ okO σ a0 11 ∧ CC E mX11_drop [vr a0, vi x1] σ (KI (fun r1 τ2 => inR r1 → okB 23 τ2 a2 0 ∧ ∀ τ4 : Sg, τ4 = sI τ2 a2 0 r1 → Q (.inl (some (vi 0))) τ4) (fun k9 τ9 => (k9 = 0 → Q (.inl (some (vi 1))) τ9) ∧ (k9 = 1 → False) ∧ (k9 = 2 → False)))) : GG E mL_drop 0 [some (vr a0), some (vi x1), some (vr a2), none] [] σ rc rs Q := by
  refine r_aload_n (pc := 0) dL_drop_0 rfl rfl ?_
  refine r_iconst (pc := 1) dL_drop_1 (inRk rfl) ?_
  refine r_aload_n (pc := 2) dL_drop_2 rfl rfl ?_
  refine r_iload_n (pc := 3) dL_drop_3 rfl rfl ?_
  refine c_VIAX (M := mL_drop) (pc := 4) (As := [vi x1]) dL_drop_4 K_X11_drop w_942 ⟨by decide, by decide⟩ (Nat.le_of_ble_eq_true rfl) h.1 h.2.1 (ci := 11) rfl rfl (by decide) h.2.2.1 h.2.2.2 (fun r1 τ2 h8 hr9 => ?_) (fun k9 τ9 hk9 h8 => ?_) rfl
  · replace h := h8 hr9
    refine r_i2l (pc := 7) dL_drop_7 ?_
    obtain ⟨o3, h⟩ := h
    refine r_lastore (pc := 8) dL_drop_8 o3 ?_
    refine nmS (fun τ4 e4 => ?_)
    replace h := h τ4 e4
    refine r_goto (pc := 9) (tgt := 15) dL_drop_9 (by decide) ?_
    refine r_iconst (pc := 15) dL_drop_15 (inRk rfl) ?_
    exact r_ireturn (pc := 16) (ty := .int) dL_drop_16 (by decide +kernel) rfl (nar_i _) h
  · have c8 : k9 = 0 ∨ k9 = 1 ∨ k9 = 2 := by omega
    rcases c8 with rfl | rfl | rfl
    · replace h := h8.1 rfl
      refine TT.catch9 (x := 0) (i := 3) (h9 := 12) (t9 := 24) (pre := []) (suf := []) (a9 := 0) (b9 := 9) rfl (by decide) (by decide) w_941 wt_952 (fun z hz => nomatch hz) (by decide) (.inr ⟨3, rfl, dL_drop_12, rfl⟩) ?_
      change GG _ _ _ [some (vr a0), some (vi x1), some (vr a2), none] _ _ _ _ _
      refine r_iconst (pc := 13) dL_drop_13 (inRk rfl) ?_
      exact r_ireturn (pc := 14) (ty := .int) dL_drop_14 (by decide +kernel) rfl (nar_i _) h
    · exact (h8.2.1 rfl).elim
    · exact (h8.2.2 rfl).elim
theorem C_L_drop {a0 : Nat} {x1 : Int} {a2 : Nat} (h : GG E mL_drop 0 [some (vr a0), some (vi x1), some (vr a2), none] [] σ 1 6 Q) : CC E mL_drop [vr a0, vi x1, vr a2] σ Q := CC.ofH (by decide +kernel) rfl (by decide +kernel) rfl (Nat.le_of_ble_eq_true rfl) h
theorem dL_element_0 : decode cL_element 0 = .ok (.aload_n 3, 1) := by decide +kernel
theorem dL_element_1 : decode cL_element 1 = .ok (.iconst 0, 1) := by decide +kernel
theorem dL_element_2 : decode cL_element 2 = .ok (.aload_n 0, 1) := by decide +kernel
theorem dL_element_3 : decode cL_element 3 = .ok (.iload_n 1, 1) := by decide +kernel
theorem dL_element_4 : decode cL_element 4 = .ok (.iload_n 2, 1) := by decide +kernel
theorem dL_element_5 : decode cL_element 5 = .ok (.invokevirtual 29, 3) := by decide +kernel
theorem dL_element_8 : decode cL_element 8 = .ok (.i2l, 1) := by decide +kernel
theorem dL_element_9 : decode cL_element 9 = .ok (.lastore, 1) := by decide +kernel
theorem dL_element_10 : decode cL_element 10 = .ok (.goto 11, 3) := by decide +kernel
theorem dL_element_13 : decode cL_element 13 = .ok (.astore 4, 2) := by decide +kernel
theorem dL_element_15 : decode cL_element 15 = .ok (.iconst 1, 1) := by decide +kernel
theorem dL_element_16 : decode cL_element 16 = .ok (.ireturn, 1) := by decide +kernel
theorem dL_element_17 : decode cL_element 17 = .ok (.astore 4, 2) := by decide +kernel
theorem dL_element_19 : decode cL_element 19 = .ok (.iconst 2, 1) := by decide +kernel
theorem dL_element_20 : decode cL_element 20 = .ok (.ireturn, 1) := by decide +kernel
theorem dL_element_21 : decode cL_element 21 = .ok (.iconst 0, 1) := by decide +kernel
theorem dL_element_22 : decode cL_element 22 = .ok (.ireturn, 1) := by decide +kernel
theorem B_L_element_0 {a0 : Nat} {x1 : Int} {x2 : Int} {a3 : Nat} (h : 2 ≤ rc ∧ 12 ≤ rs ∧ okO σ a0 11 ∧ CC E mX11_element [vr a0, vi x1, vi x2] σ (KI (fun r1 τ2 => inR r1 → okB 23 τ2 a3 0 ∧ ∀ τ4 : Sg, τ4 = sI τ2 a3 0 r1 → Q (.inl (some (vi 0))) τ4) (fun k9 τ9 => (k9 = 0 → Q (.inl (some (vi 1))) τ9) ∧ (k9 = 1 → Q (.inl (some (vi 2))) τ9) ∧ (k9 = 2 → False)))) : GG E mL_element 0 [some (vr a0), some (vi x1), some (vi x2), some (vr a3), none] [] σ rc rs Q := by
  refine r_aload_n (pc := 0) dL_element_0 rfl rfl ?_
  refine r_iconst (pc := 1) dL_element_1 (inRk rfl) ?_
  refine r_aload_n (pc := 2) dL_element_2 rfl rfl ?_
  refine r_iload_n (pc := 3) dL_element_3 rfl rfl ?_
  refine r_iload_n (pc := 4) dL_element_4 rfl rfl ?_
  refine c_VIAX (M := mL_element) (pc := 5) (As := [vi x1, vi x2]) dL_element_5 K_X11_element w_1136 ⟨by decide, by decide⟩ (Nat.le_of_ble_eq_true rfl) h.1 h.2.1 (ci := 11) rfl rfl (by decide) h.2.2.1 h.2.2.2 (fun r1 τ2 h8 hr9 => ?_) (fun k9 τ9 hk9 h8 => ?_) rfl
  · replace h := h8 hr9
    refine r_i2l (pc := 8) dL_element_8 ?_
    obtain ⟨o3, h⟩ := h
    refine r_lastore (pc := 9) dL_element_9 o3 ?_
    refine nmS (fun τ4 e4 => ?_)
    replace h := h τ4 e4
    refine r_goto (pc := 10) (tgt := 21) dL_element_10 (by decide) ?_
    refine r_iconst (pc := 21) dL_element_21 (inRk rfl) ?_
    exact r_ireturn (pc := 22) (ty := .int) dL_element_22 (by decide +kernel) rfl (nar_i _) h
  · have c8 : k9 = 0 ∨ k9 = 1 ∨ k9 = 2 := by omega
    rcases c8 with rfl | rfl | rfl
    · replace h := h8.1 rfl
      refine TT.catch9 (x := 0) (i := 4) (h9 := 13) (t9 := 24) (pre := []) (suf := [(0, 10, 17, 13)]) (a9 := 0) (b9 := 10) rfl (by decide) (by decide) w_941 wt_952 (fun z hz => nomatch hz) (by decide) (.inl ⟨dL_element_13, rfl⟩) ?_
      change GG _ _ _ [some (vr a0), some (vi x1), some (vi x2), some (vr a3), none] _ _ _ _ _
      refine r_iconst (pc := 15) dL_element_15 (inRk rfl) ?_
      exact r_ireturn (pc := 16) (ty := .int) dL_element_16 (by decide +kernel) rfl (nar_i _) h
    · replace h := h8.2.1 rfl
      refine TT.catch9 (x := 1) (i := 4) (h9 := 17) (t9 := 13) (pre := [(0, 10, 13, 24)]) (suf := []) (a9 := 0) (b9 := 10) rfl (by decide) (by decide) w_698 wt_713 (fun z hz => by rw [List.mem_singleton.mp hz]; exact ⟨0, by decide, w_941, by decide⟩) (by decide) (.inl ⟨dL_element_17, rfl⟩) ?_
      change GG _ _ _ [some (vr a0), some (vi x1), some (vi x2), some (vr a3), none] _ _ _ _ _
      refine r_iconst (pc := 19) dL_element_19 (inRk rfl) ?_
      exact r_ireturn (pc := 20) (ty := .int) dL_element_20 (by decide +kernel) rfl (nar_i _) h
    · exact (h8.2.2 rfl).elim
theorem C_L_element {a0 : Nat} {x1 : Int} {x2 : Int} {a3 : Nat} (h : GG E mL_element 0 [some (vr a0), some (vi x1), some (vi x2), some (vr a3), none] [] σ 2 12 Q) : CC E mL_element [vr a0, vi x1, vi x2, vr a3] σ Q := CC.ofH (by decide +kernel) rfl (by decide +kernel) rfl (Nat.le_of_ble_eq_true rfl) h
theorem dL_far_0 : decode cL_far 0 = .ok (.aload_n 3, 1) := by decide +kernel
theorem dL_far_1 : decode cL_far 1 = .ok (.iconst 0, 1) := by decide +kernel
theorem dL_far_2 : decode cL_far 2 = .ok (.aload_n 0, 1) := by decide +kernel
theorem dL_far_3 : decode cL_far 3 = .ok (.iload_n 1, 1) := by decide +kernel
theorem dL_far_4 : decode cL_far 4 = .ok (.iload_n 2, 1) := by decide +kernel
theorem dL_far_5 : decode cL_far 5 = .ok (.invokevirtual 64, 3) := by decide +kernel
theorem dL_far_8 : decode cL_far 8 = .ok (.i2l, 1) := by decide +kernel
theorem dL_far_9 : decode cL_far 9 = .ok (.lastore, 1) := by decide +kernel
theorem dL_far_10 : decode cL_far 10 = .ok (.goto 7, 3) := by decide +kernel
theorem dL_far_13 : decode cL_far 13 = .ok (.astore 4, 2) := by decide +kernel
theorem dL_far_15 : decode cL_far 15 = .ok (.iconst 1, 1) := by decide +kernel
theorem dL_far_16 : decode cL_far 16 = .ok (.ireturn, 1) := by decide +kernel
theorem dL_far_17 : decode cL_far 17 = .ok (.iconst 0, 1) := by decide +kernel
theorem dL_far_18 : decode cL_far 18 = .ok (.ireturn, 1) := by decide +kernel
theorem B_L_far_0 {a0 : Nat} {x1 : Int} {x2 : Int} {a3 : Nat} (h : 2 ≤ rc ∧ 12 ≤ rs ∧ okO σ a0 11 ∧ CC E mX11_far [vr a0, vi x1, vi x2] σ (KI (fun r1 τ2 => inR r1 → okB 23 τ2 a3 0 ∧ ∀ τ4 : Sg, τ4 = sI τ2 a3 0 r1 → Q (.inl (some (vi 0))) τ4) (fun k9 τ9 => (k9 = 0 → Q (.inl (some (vi 1))) τ9) ∧ (k9 = 1 → False) ∧ (k9 = 2 → False)))) : GG E mL_far 0 [some (vr a0), some (vi x1), some (vi x2), some (vr a3), none] [] σ rc rs Q := by
  refine r_aload_n (pc := 0) dL_far_0 rfl rfl ?_
  refine r_iconst (pc := 1) dL_far_1 (inRk rfl) ?_
  refine r_aload_n (pc := 2) dL_far_2 rfl rfl ?_
  refine r_iload_n (pc := 3) dL_far_3 rfl rfl ?_
  refine r_iload_n (pc := 4) dL_far_4 rfl rfl ?_
  refine c_VIAX (M := mL_far) (pc := 5) (As := [vi x1, vi x2]) dL_far_5 K_X11_far w_1232 ⟨by decide, by decide⟩ (Nat.le_of_ble_eq_true rfl) h.1 h.2.1 (ci := 11) rfl rfl (by decide) h.2.2.1 h.2.2.2 (fun r1 τ2 h8 hr9 => ?_) (fun k9 τ9 hk9 h8 => ?_) rfl
  · replace h := h8 hr9
    refine r_i2l (pc := 8) dL_far_8 ?_
    obtain ⟨o3, h⟩ := h
    refine r_lastore (pc := 9) dL_far_9 o3 ?_
    refine nmS (fun τ4 e4 => ?_)
    replace h := h τ4 e4
    refine r_goto (pc := 10) (tgt := 17) dL_far_10 (by decide) ?_
    refine r_iconst (pc := 17) dL_far_17 (inRk rfl) ?_
    exact r_ireturn (pc := 18) (ty := .int) dL_far_18 (by decide +kernel) rfl (nar_i _) h
  · have c8 : k9 = 0 ∨ k9 = 1 ∨ k9 = 2 := by omega
    rcases c8 with rfl | rfl | rfl
    · replace h := h8.1 rfl
      refine TT.catch9 (x := 0) (i := 4) (h9 := 13) (t9 := 24) (pre := []) (suf := []) (a9 := 0) (b9 := 10) rfl (by decide) (by decide) w_941 wt_952 (fun z hz => nomatch hz) (by decide) (.inl ⟨dL_far_13, rfl⟩) ?_
      change GG _ _ _ [some (vr a0), some (vi x1), some (vi x2), some (vr a3), none] _ _ _ _ _
      refine r_iconst (pc := 15) dL_far_15 (inRk rfl) ?_
      exact r_ireturn (pc := 16) (ty := .int) dL_far_16 (by decide +kernel) rfl (nar_i _) h
    · exact (h8.2.1 rfl).elim
    · exact (h8.2.2 rfl).elim
theorem C_L_far {a0 : Nat} {x1 : Int} {x2 : Int} {a3 : Nat} (h : GG E mL_far 0 [some (vr a0), some (vi x1), some (vi x2), some (vr a3), none] [] σ 2 12 Q) : CC E mL_far [vr a0, vi x1, vi x2, vr a3] σ Q := CC.ofH (by decide +kernel) rfl (by decide +kernel) rfl (Nat.le_of_ble_eq_true rfl) h
theorem dL_inRow_0 : decode cL_inRow 0 = .ok (.aload_n 3, 1) := by decide +kernel
theorem dL_inRow_1 : decode cL_inRow 1 = .ok (.iconst 0, 1) := by decide +kernel
theorem dL_inRow_2 : decode cL_inRow 2 = .ok (.aload_n 0, 1) := by decide +kernel
theorem dL_inRow_3 : decode cL_inRow 3 = .ok (.iload_n 1, 1) := by decide +kernel
theorem dL_inRow_4 : decode cL_inRow 4 = .ok (.iload_n 2, 1) := by decide +kernel
theorem dL_inRow_5 : decode cL_inRow 5 = .ok (.invokevirtual 73, 3) := by decide +kernel
theorem dL_inRow_8 : decode cL_inRow 8 = .ok (.i2l, 1) := by decide +kernel
theorem dL_inRow_9 : decode cL_inRow 9 = .ok (.lastore, 1) := by decide +kernel
theorem dL_inRow_10 : decode cL_inRow 10 = .ok (.goto 11, 3) := by decide +kernel
theorem dL_inRow_13 : decode cL_inRow 13 = .ok (.astore 4, 2) := by decide +kernel
theorem dL_inRow_15 : decode cL_inRow 15 = .ok (.iconst 1, 1) := by decide +kernel
theorem dL_inRow_16 : decode cL_inRow 16 = .ok (.ireturn, 1) := by decide +kernel
theorem dL_inRow_17 : decode cL_inRow 17 = .ok (.astore 4, 2) := by decide +kernel
theorem dL_inRow_19 : decode cL_inRow 19 = .ok (.iconst 2, 1) := by decide +kernel
theorem dL_inRow_20 : decode cL_inRow 20 = .ok (.ireturn, 1) := by decide +kernel
theorem dL_inRow_21 : decode cL_inRow 21 = .ok (.iconst 0, 1) := by decide +kernel
theorem dL_inRow_22 : decode cL_inRow 22 = .ok (.ireturn, 1) := by decide +kernel
theorem B_L_inRow_0 {a0 : Nat} {x1 : Int} {x2 : Int} {a3 : Nat} (h : 2 ≤ rc ∧ 12 ≤ rs ∧ okO σ a0 11 ∧ CC E mX11_inRow [vr a0, vi x1, vi x2] σ (KI (fun r1 τ2 => inR r1 → okB 23 τ2 a3 0 ∧ ∀ τ4 : Sg, τ4 = sI τ2 a3 0 r1 → Q (.inl (some (vi 0))) τ4) (fun k9 τ9 => (k9 = 0 → Q (.inl (some (vi 1))) τ9) ∧ (k9 = 1 → Q (.inl (some (vi 2))) τ9) ∧ (k9 = 2 → False)))) : GG E mL_inRow 0 [some (vr a0), some (vi x1), some (vi x2), some (vr a3), none] [] σ rc rs Q := by
  refine r_aload_n (pc := 0) dL_inRow_0 rfl rfl ?_
  refine r_iconst (pc := 1) dL_inRow_1 (inRk rfl) ?_
  refine r_aload_n (pc := 2) dL_inRow_2 rfl rfl ?_
  refine r_iload_n (pc := 3) dL_inRow_3 rfl rfl ?_
  refine r_iload_n (pc := 4) dL_inRow_4 rfl rfl ?_
  refine c_VIAX (M := mL_inRow) (pc := 5) (As := [vi x1, vi x2]) dL_inRow_5 K_X11_inRow w_1262 ⟨by decide, by decide⟩ (Nat.le_of_ble_eq_true rfl) h.1 h.2.1 (ci := 11) rfl rfl (by decide) h.2.2.1 h.2.2.2 (fun r1 τ2 h8 hr9 => ?_) (fun k9 τ9 hk9 h8 => ?_) rfl
  · replace h := h8 hr9
    refine r_i2l (pc := 8) dL_inRow_8 ?_
    obtain ⟨o3, h⟩ := h
    refine r_lastore (pc := 9) dL_inRow_9 o3 ?_
    refine nmS (fun τ4 e4 => ?_)
    replace h := h τ4 e4
    refine r_goto (pc := 10) (tgt := 21) dL_inRow_10 (by decide) ?_
    refine r_iconst (pc := 21) dL_inRow_21 (inRk rfl) ?_
    exact r_ireturn (pc := 22) (ty := .int) dL_inRow_22 (by decide +kernel) rfl (nar_i _) h
  · have c8 : k9 = 0 ∨ k9 = 1 ∨ k9 = 2 := by omega
    rcases c8 with rfl | rfl | rfl
    · replace h := h8.1 rfl
      refine TT.catch9 (x := 0) (i := 4) (h9 := 13) (t9 := 24) (pre := []) (suf := [(0, 10, 17, 13)]) (a9 := 0) (b9 := 10) rfl (by decide) (by decide) w_941 wt_952 (fun z hz => nomatch hz) (by decide) (.inl ⟨dL_inRow_13, rfl⟩) ?_
      change GG _ _ _ [some (vr a0), some (vi x1), some (vi x2), some (vr a3), none] _ _ _ _ _
      refine r_iconst (pc := 15) dL_inRow_15 (inRk rfl) ?_
      exact r_ireturn (pc := 16) (ty := .int) dL_inRow_16 (by decide +kernel) rfl (nar_i _) h
    · replace h := h8.2.1 rfl
      refine TT.catch9 (x := 1) (i := 4) (h9 := 17) (t9 := 13) (pre := [(0, 10, 13, 24)]) (suf := []) (a9 := 0) (b9 := 10) rfl (by decide) (by decide) w_698 wt_713 (fun z hz => by rw [List.mem_singleton.mp hz]; exact ⟨0, by decide, w_941, by decide⟩) (by decide) (.inl ⟨dL_inRow_17, rfl⟩) ?_
      change GG _ _ _ [some (vr a0), some (vi x1), some (vi x2), some (vr a3), none] _ _ _ _ _
      refine r_iconst (pc := 19) dL_inRow_19 (inRk rfl) ?_
      exact r_ireturn (pc := 20) (ty := .int) dL_inRow_20 (by decide +kernel) rfl (nar_i _) h
    · exact (h8.2.2 rfl).elim
theorem C_L_inRow {a0 : Nat} {x1 : Int} {x2 : Int} {a3 : Nat} (h : GG E mL_inRow 0 [some (vr a0), some (vi x1), some (vi x2), some (vr a3), none] [] σ 2 12 Q) : CC E mL_inRow [vr a0, vi x1, vi x2, vr a3] σ Q := CC.ofH (by decide +kernel) rfl (by decide +kernel) rfl (Nat.le_of_ble_eq_true rfl) h
theorem dL_invariants_0 : decode cL_invariants 0 = .ok (.aload_n 2, 1) := by decide +kernel
theorem dL_invariants_1 : decode cL_invariants 1 = .ok (.iconst 0, 1) := by decide +kernel
theorem dL_invariants_2 : decode cL_invariants 2 = .ok (.aload_n 0, 1) := by decide +kernel
theorem dL_invariants_3 : decode cL_invariants 3 = .ok (.iload_n 1, 1) := by decide +kernel
theorem dL_invariants_4 : decode cL_invariants 4 = .ok (.invokevirtual 70, 3) := by decide +kernel
theorem dL_invariants_7 : decode cL_invariants 7 = .ok (.i2l, 1) := by decide +kernel
theorem dL_invariants_8 : decode cL_invariants 8 = .ok (.lastore, 1) := by decide +kernel
theorem dL_invariants_9 : decode cL_invariants 9 = .ok (.goto 6, 3) := by decide +kernel
theorem dL_invariants_12 : decode cL_invariants 12 = .ok (.astore_n 3, 1) := by decide +kernel
theorem dL_invariants_13 : decode cL_invariants 13 = .ok (.iconst 1, 1) := by decide +kernel
theorem dL_invariants_14 : decode cL_invariants 14 = .ok (.ireturn, 1) := by decide +kernel
theorem dL_invariants_15 : decode cL_invariants 15 = .ok (.iconst 0, 1) := by decide +kernel
theorem dL_invariants_16 : decode cL_invariants 16 = .ok (.ireturn, 1) := by decide +kernel
theorem B_L_invariants_0 {a0 : Nat} {x1 : Int} {a2 : Nat} (h : 1 ≤ rc ∧ 6 ≤ rs ∧ okO σ a0 11 ∧ CC E mX11_invariants [vr a0, vi x1] σ (KI (fun r1 τ2 => inR r1 → okB 23 τ2 a2 0 ∧ ∀ τ4 : Sg, τ4 = sI τ2 a2 0 r1 → Q (.inl (some (vi 0))) τ4) (fun k9 τ9 => (k9 = 0 → False) ∧ (k9 = 1 → Q (.inl (some (vi 1))) τ9) ∧ (k9 = 2 → False)))) : GG E mL_invariants 0 [some (vr a0), some (vi x1), some (vr a2), none] [] σ rc rs Q := by
  refine r_aload_n (pc := 0) dL_invariants_0 rfl rfl ?_
  refine r_iconst (pc := 1) dL_invariants_1 (inRk rfl) ?_
  refine r_aload_n (pc := 2) dL_invariants_2 rfl rfl ?_
  refine r_iload_n (pc := 3) dL_invariants_3 rfl rfl ?_
  refine c_VIAX (M := mL_invariants) (pc := 4) (As := [vi x1]) dL_invariants_4 K_X11_invariants w_1247 ⟨by decide, by decide⟩ (Nat.le_of_ble_eq_true rfl) h.1 h.2.1 (ci := 11) rfl rfl (by decide) h.2.2.1 h.2.2.2 (fun r1 τ2 h8 hr9 => ?_) (fun k9 τ9 hk9 h8 => ?_) rfl
  · replace h := h8 hr9
    refine r_i2l (pc := 7) dL_invariants_7 ?_
    obtain ⟨o3, h⟩ := h
    refine r_lastore (pc := 8) dL_invariants_8 o3 ?_
    refine nmS (fun τ4 e4 => ?_)
    replace h := h τ4 e4
    refine r_goto (pc := 9) (tgt := 15) dL_invariants_9 (by decide) ?_
    refine r_iconst (pc := 15) dL_invariants_15 (inRk rfl) ?_
    exact r_ireturn (pc := 16) (ty := .int) dL_invariants_16 (by decide +kernel) rfl (nar_i _) h
  · have c8 : k9 = 0 ∨ k9 = 1 ∨ k9 = 2 := by omega
    rcases c8 with rfl | rfl | rfl
    · exact (h8.1 rfl).elim
    · replace h := h8.2.1 rfl
      refine TT.catch9 (x := 1) (i := 3) (h9 := 12) (t9 := 13) (pre := []) (suf := []) (a9 := 0) (b9 := 9) rfl (by decide) (by decide) w_698 wt_713 (fun z hz => nomatch hz) (by decide) (.inr ⟨3, rfl, dL_invariants_12, rfl⟩) ?_
      change GG _ _ _ [some (vr a0), some (vi x1), some (vr a2), none] _ _ _ _ _
      refine r_iconst (pc := 13) dL_invariants_13 (inRk rfl) ?_
      exact r_ireturn (pc := 14) (ty := .int) dL_invariants_14 (by decide +kernel) rfl (nar_i _) h
    · exact (h8.2.2 rfl).elim
theorem C_L_invariants {a0 : Nat} {x1 : Int} {a2 : Nat} (h : GG E mL_invariants 0 [some (vr a0), some (vi x1), some (vr a2), none] [] σ 1 6 Q) : CC E mL_invariants [vr a0, vi x1, vr a2] σ Q := CC.ofH (by decide +kernel) rfl (by decide +kernel) rfl (Nat.le_of_ble_eq_true rfl) h
theorem dL_isKept_0 : decode cL_isKept 0 = .ok (.aload_n 3, 1) := by decide +kernel
theorem dL_isKept_1 : decode cL_isKept 1 = .ok (.iconst 0, 1) := by decide +kernel
theorem dL_isKept_2 : decode cL_isKept 2 = .ok (.aload_n 0, 1) := by decide +kernel
theorem dL_isKept_3 : decode cL_isKept 3 = .ok (.iload_n 1, 1) := by decide +kernel
theorem dL_isKept_4 : decode cL_isKept 4 = .ok (.iload_n 2, 1) := by decide +kernel
theorem dL_isKept_5 : decode cL_isKept 5 = .ok (.invokevirtual 86, 3) := by decide +kernel
theorem dL_isKept_8 : decode cL_isKept 8 = .ok (.ifCond .eq 7, 3) := by decide +kernel
theorem dL_isKept_11 : decode cL_isKept 11 = .ok (.lconst 1, 1) := by decide +kernel
theorem dL_isKept_12 : decode cL_isKept 12 = .ok (.goto 4, 3) := by decide +kernel
theorem dL_isKept_15 : decode cL_isKept 15 = .ok (.lconst 0, 1) := by decide +kernel
theorem dL_isKept_16 : decode cL_isKept 16 = .ok (.lastore, 1) := by decide +kernel
theorem dL_isKept_17 : decode cL_isKept 17 = .ok (.goto 7, 3) := by decide +kernel
theorem dL_isKept_20 : decode cL_isKept 20 = .ok (.astore 4, 2) := by decide +kernel
theorem dL_isKept_22 : decode cL_isKept 22 = .ok (.iconst 1, 1) := by decide +kernel
theorem dL_isKept_23 : decode cL_isKept 23 = .ok (.ireturn, 1) := by decide +kernel
theorem dL_isKept_24 : decode cL_isKept 24 = .ok (.iconst 0, 1) := by decide +kernel
theorem dL_isKept_25 : decode cL_isKept 25 = .ok (.ireturn, 1) := by decide +kernel
theorem B_L_isKept_0 {a0 : Nat} {x1 : Int} {x2 : Int} {a3 : Nat} (h : 2 ≤ rc ∧ 12 ≤ rs ∧ okO σ a0 11 ∧ CC E mX11_isKept [vr a0, vi x1, vi x2] σ (KI (fun r1 τ2 => inR r1 → ((r1 = 0 → okB 23 τ2 a3 0 ∧ ∀ τ4 : Sg, τ4 = sI τ2 a3 0 0 → Q (.inl (some (vi 0))) τ4) ∧ (¬ (r1 = 0) → okB 23 τ2 a3 0 ∧ ∀ τ6 : Sg, τ6 = sI τ2 a3 0 1 → Q (.inl (some (vi 0))) τ6))) (fun k9 τ9 => (k9 = 0 → Q (.inl (some (vi 1))) τ9) ∧ (k9 = 1 → False) ∧ (k9 = 2 → False)))) : GG E mL_isKept 0 [some (vr a0), some (vi x1), some (vi x2), some (vr a3), none] [] σ rc rs Q := by
  refine r_aload_n (pc := 0) dL_isKept_0 rfl rfl ?_
  refine r_iconst (pc := 1) dL_isKept_1 (inRk rfl) ?_
  refine r_aload_n (pc := 2) dL_isKept_2 rfl rfl ?_
  refine r_iload_n (pc := 3) dL_isKept_3 rfl rfl ?_
  refine r_iload_n (pc := 4) dL_isKept_4 rfl rfl ?_
  refine c_VIAX (M := mL_isKept) (pc := 5) (As := [vi x1, vi x2]) dL_isKept_5 K_X11_isKept w_1326 ⟨by decide, by decide⟩ (Nat.le_of_ble_eq_true rfl) h.1 h.2.1 (ci := 11) rfl rfl (by decide) h.2.2.1 h.2.2.2 (fun r1 τ2 h8 hr9 => ?_) (fun k9 τ9 hk9 h8 => ?_) rfl
  · replace h := h8 hr9
    refine r_if_eq (pc := 8) (tgt := 15) dL_isKept_8 (by decide) (fun c9 => ?_) (fun c9 => ?_)
    · replace h := h.1 c9
      refine r_lconst (pc := 15) (x := 0) dL_isKept_15 rfl ?_
      obtain ⟨o3, h⟩ := h
      refine r_lastore (pc := 16) dL_isKept_16 o3 ?_
      refine nmS (fun τ4 e4 => ?_)
      replace h := h τ4 e4
      refine r_goto (pc := 17) (tgt := 24) dL_isKept_17 (by decide) ?_
      refine r_iconst (pc := 24) dL_isKept_24 (inRk rfl) ?_
      exact r_ireturn (pc := 25) (ty := .int) dL_isKept_25 (by decide +kernel) rfl (nar_i _) h
    · replace h := h.2 c9
      refine r_lconst (pc := 11) (x := 1) dL_isKept_11 rfl ?_
      refine r_goto (pc := 12) (tgt := 16) dL_isKept_12 (by decide) ?_
      obtain ⟨o5, h⟩ := h
      refine r_lastore (pc := 16) dL_isKept_16 o5 ?_
      refine nmS (fun τ6 e6 => ?_)
      replace h := h τ6 e6
      refine r_goto (pc := 17) (tgt := 24) dL_isKept_17 (by decide) ?_
      refine r_iconst (pc := 24) dL_isKept_24 (inRk rfl) ?_
      exact r_ireturn (pc := 25) (ty := .int) dL_isKept_25 (by decide +kernel) rfl (nar_i _) h
  · have c8 : k9 = 0 ∨ k9 = 1 ∨ k9 = 2 := by omega
    rcases c8 with rfl | rfl | rfl
    · replace h := h8.1 rfl
      refine TT.catch9 (x := 0) (i := 4) (h9 := 20) (t9 := 24) (pre := []) (suf := []) (a9 := 0) (b9 := 17) rfl (by decide) (by decide) w_941 wt_952 (fun z hz => nomatch hz) (by decide) (.inl ⟨dL_isKept_20, rfl⟩) ?_
      change GG _ _ _ [some (vr a0), some (vi x1), some (vi x2), some (vr a3), none] _ _ _ _ _
      refine r_iconst (pc := 22) dL_isKept_22 (inRk rfl) ?_
      exact r_ireturn (pc := 23) (ty := .int) dL_isKept_23 (by decide +kernel) rfl (nar_i _) h
    · exact (h8.2.1 rfl).elim
    · exact (h8.2.2 rfl).elim
theorem C_L_isKept {a0 : Nat} {x1 : Int} {x2 : Int} {a3 : Nat} (h : GG E mL_isKept 0 [some (vr a0), some (vi x1), some (vi x2), some (vr a3), none] [] σ 2 12 Q) : CC E mL_isKept [vr a0, vi x1, vi x2, vr a3] σ Q := CC.ofH (by decide +kernel) rfl (by decide +kernel) rfl (Nat.le_of_ble_eq_true rfl) h
theorem dL_isMade_0 : decode cL_isMade 0 = .ok (.aload 4, 2) := by decide +kernel
theorem dL_isMade_2 : decode cL_isMade 2 = .ok (.iconst 0, 1) := by decide +kernel
theorem dL_isMade_3 : decode cL_isMade 3 = .ok (.aload_n 0, 1) := by decide +kernel
theorem dL_isMade_4 : decode cL_isMade 4 = .ok (.iload_n 1, 1) := by decide +kernel
theorem dL_isMade_5 : decode cL_isMade 5 = .ok (.iload_n 2, 1) := by decide +kernel
theorem dL_isMade_6 : decode cL_isMade 6 = .ok (.iload_n 3, 1) := by decide +kernel
theorem dL_isMade_7 : decode cL_isMade 7 = .ok (.invokevirtual 82, 3) := by decide +kernel
theorem dL_isMade_10 : decode cL_isMade 10 = .ok (.ifCond .eq 7, 3) := by decide +kernel
theorem dL_isMade_13 : decode cL_isMade 13 = .ok (.lconst 1, 1) := by decide +kernel
theorem dL_isMade_14 : decode cL_isMade 14 = .ok (.goto 4, 3) := by decide +kernel
theorem dL_isMade_17 : decode cL_isMade 17 = .ok (.lconst 0, 1) := by decide +kernel
theorem dL_isMade_18 : decode cL_isMade 18 = .ok (.lastore, 1) := by decide +kernel
theorem dL_isMade_19 : decode cL_isMade 19 = .ok (.goto 7, 3) := by decide +kernel
theorem dL_isMade_22 : decode cL_isMade 22 = .ok (.astore 5, 2) := by decide +kernel
theorem dL_isMade_24 : decode cL_isMade 24 = .ok (.iconst 1, 1) := by decide +kernel
theorem dL_isMade_25 : decode cL_isMade 25 = .ok (.ireturn, 1) := by decide +kernel
theorem dL_isMade_26 : decode cL_isMade 26 = .ok (.iconst 0, 1) := by decide +kernel
theorem dL_isMade_27 : decode cL_isMade 27 = .ok (.ireturn, 1) := by decide +kernel
theorem B_L_isMade_0 {a0 : Nat} {x1 : Int} {x2 : Int} {x3 : Int} {a4 : Nat} (h : 3 ≤ rc ∧ 18 ≤ rs ∧ okO σ a0 11 ∧ CC E mX11_isMade [vr a0, vi x1, vi x2, vi x3] σ (KI (fun r1 τ2 => inR r1 → ((r1 = 0 → okB 23 τ2 a4 0 ∧ ∀ τ4 : Sg, τ4 = sI τ2 a4 0 0 → Q (.inl (some (vi 0))) τ4) ∧ (¬ (r1 = 0) → okB 23 τ2 a4 0 ∧ ∀ τ6 : Sg, τ6 = sI τ2 a4 0 1 → Q (.inl (some (vi 0))) τ6))) (fun k9 τ9 => (k9 = 0 → Q (.inl (some (vi 1))) τ9) ∧ (k9 = 1 → False) ∧ (k9 = 2 → False)))) : GG E mL_isMade 0 [some (vr a0), some (vi x1), some (vi x2), some (vi x3), some (vr a4), none] [] σ rc rs Q := by
  refine r_aload (pc := 0) dL_isMade_0 rfl ?_
  refine r_iconst (pc := 2) dL_isMade_2 (inRk rfl) ?_
  refine r_aload_n (pc := 3) dL_isMade_3 rfl rfl ?_
  refine r_iload_n (pc := 4) dL_isMade_4 rfl rfl ?_
  refine r_iload_n (pc := 5) dL_isMade_5 rfl rfl ?_
  refine r_iload_n (pc := 6) dL_isMade_6 rfl rfl ?_
  refine c_VIAX (M := mL_isMade) (pc := 7) (As := [vi x1, vi x2, vi x3]) dL_isMade_7 K_X11_isMade w_1318 ⟨by decide, by decide⟩ (Nat.le_of_ble_eq_true rfl) h.1 h.2.1 (ci := 11) rfl rfl (by decide) h.2.2.1 h.2.2.2 (fun r1 τ2 h8 hr9 => ?_) (fun k9 τ9 hk9 h8 => ?_) rfl
  · replace h := h8 hr9
    refine r_if_eq (pc := 10) (tgt := 17) dL_isMade_10 (by decide) (fun c9 => ?_) (fun c9 => ?_)
    · replace h := h.1 c9
      refine r_lconst (pc := 17) (x := 0) dL_isMade_17 rfl ?_
      obtain ⟨o3, h⟩ := h
      refine r_lastore (pc := 18) dL_isMade_18 o3 ?_
      refine nmS (fun τ4 e4 => ?_)
      replace h := h τ4 e4
      refine r_goto (pc := 19) (tgt := 26) dL_isMade_19 (by decide) ?_
      refine r_iconst (pc := 26) dL_isMade_26 (inRk rfl) ?_
      exact r_ireturn (pc := 27) (ty := .int) dL_isMade_27 (by decide +kernel) rfl (nar_i _) h
    · replace h := h.2 c9
      refine r_lconst (pc := 13) (x := 1) dL_isMade_13 rfl ?_
      refine r_goto (pc := 14) (tgt := 18) dL_isMade_14 (by decide) ?_
      obtain ⟨o5, h⟩ := h
      refine r_lastore (pc := 18) dL_isMade_18 o5 ?_
      refine nmS (fun τ6 e6 => ?_)
      replace h := h τ6 e6
      refine r_goto (pc := 19) (tgt := 26) dL_isMade_19 (by decide) ?_
      refine r_iconst (pc := 26) dL_isMade_26 (inRk rfl) ?_
      exact r_ireturn (pc := 27) (ty := .int) dL_isMade_27 (by decide +kernel) rfl (nar_i _) h
  · have c8 : k9 = 0 ∨ k9 = 1 ∨ k9 = 2 := by omega
    rcases c8 with rfl | rfl | rfl
    · replace h := h8.1 rfl
      refine TT.catch9 (x := 0) (i := 5) (h9 := 22) (t9 := 24) (pre := []) (suf := []) (a9 := 0) (b9 := 19) rfl (by decide) (by decide) w_941 wt_952 (fun z hz => nomatch hz) (by decide) (.inl ⟨dL_isMade_22, rfl⟩) ?_
      change GG _ _ _ [some (vr a0), some (vi x1), some (vi x2), some (vi x3), some (vr a4), none] _ _ _ _ _
      refine r_iconst (pc := 24) dL_isMade_24 (inRk rfl) ?_
      exact r_ireturn (pc := 25) (ty := .int) dL_isMade_25 (by decide +kernel) rfl (nar_i _) h
    · exact (h8.2.1 rfl).elim
    · exact (h8.2.2 rfl).elim
theorem C_L_isMade {a0 : Nat} {x1 : Int} {x2 : Int} {x3 : Int} {a4 : Nat} (h : GG E mL_isMade 0 [some (vr a0), some (vi x1), some (vi x2), some (vi x3), some (vr a4), none] [] σ 3 18 Q) : CC E mL_isMade [vr a0, vi x1, vi x2, vi x3, vr a4] σ Q := CC.ofH (by decide +kernel) rfl (by decide +kernel) rfl (Nat.le_of_ble_eq_true rfl) h
theorem dL_made_0 : decode cL_made 0 = .ok (.aload 4, 2) := by decide +kernel
theorem dL_made_2 : decode cL_made 2 = .ok (.iconst 0, 1) := by decide +kernel
theorem dL_made_3 : decode cL_made 3 = .ok (.aload_n 0, 1) := by decide +kernel
theorem dL_made_4 : decode cL_made 4 = .ok (.iload_n 1, 1) := by decide +kernel
theorem dL_made_5 : decode cL_made 5 = .ok (.iload_n 2, 1) := by decide +kernel
theorem dL_made_6 : decode cL_made 6 = .ok (.iload_n 3, 1) := by decide +kernel
theorem dL_made_7 : decode cL_made 7 = .ok (.invokevirtual 79, 3) := by decide +kernel
theorem dL_made_10 : decode cL_made 10 = .ok (.i2l, 1) := by decide +kernel
theorem dL_made_11 : decode cL_made 11 = .ok (.lastore, 1) := by decide +kernel
theorem dL_made_12 : decode cL_made 12 = .ok (.goto 11, 3) := by decide +kernel
theorem dL_made_15 : decode cL_made 15 = .ok (.astore 5, 2) := by decide +kernel
theorem dL_made_17 : decode cL_made 17 = .ok (.iconst 1, 1) := by decide +kernel
theorem dL_made_18 : decode cL_made 18 = .ok (.ireturn, 1) := by decide +kernel
theorem dL_made_19 : decode cL_made 19 = .ok (.astore 5, 2) := by decide +kernel
theorem dL_made_21 : decode cL_made 21 = .ok (.iconst 2, 1) := by decide +kernel
theorem dL_made_22 : decode cL_made 22 = .ok (.ireturn, 1) := by decide +kernel
theorem dL_made_23 : decode cL_made 23 = .ok (.iconst 0, 1) := by decide +kernel
theorem dL_made_24 : decode cL_made 24 = .ok (.ireturn, 1) := by decide +kernel
theorem B_L_made_0 {a0 : Nat} {x1 : Int} {x2 : Int} {x3 : Int} {a4 : Nat} (h : 3 ≤ rc ∧ 18 ≤ rs ∧ okO σ a0 11 ∧ CC E mX11_made [vr a0, vi x1, vi x2, vi x3] σ (KI (fun r1 τ2 => inR r1 → okB 23 τ2 a4 0 ∧ ∀ τ4 : Sg, τ4 = sI τ2 a4 0 r1 → Q (.inl (some (vi 0))) τ4) (fun k9 τ9 => (k9 = 0 → Q (.inl (some (vi 1))) τ9) ∧ (k9 = 1 → Q (.inl (some (vi 2))) τ9) ∧ (k9 = 2 → False)))) : GG E mL_made 0 [some (vr a0), some (vi x1), some (vi x2), some (vi x3), some (vr a4), none] [] σ rc rs Q := by
  refine r_aload (pc := 0) dL_made_0 rfl ?_
  refine r_iconst (pc := 2) dL_made_2 (inRk rfl) ?_
  refine r_aload_n (pc := 3) dL_made_3 rfl rfl ?_
  refine r_iload_n (pc := 4) dL_made_4 rfl rfl ?_
  refine r_iload_n (pc := 5) dL_made_5 rfl rfl ?_
  refine r_iload_n (pc := 6) dL_made_6 rfl rfl ?_
  refine c_VIAX (M := mL_made) (pc := 7) (As := [vi x1, vi x2, vi x3]) dL_made_7 K_X11_made w_1294 ⟨by decide, by decide⟩ (Nat.le_of_ble_eq_true rfl) h.1 h.2.1 (ci := 11) rfl rfl (by decide) h.2.2.1 h.2.2.2 (fun r1 τ2 h8 hr9 => ?_) (fun k9 τ9 hk9 h8 => ?_) rfl
  · replace h := h8 hr9
    refine r_i2l (pc := 10) dL_made_10 ?_
    obtain ⟨o3, h⟩ := h
    refine r_lastore (pc := 11) dL_made_11 o3 ?_
    refine nmS (fun τ4 e4 => ?_)
    replace h := h τ4 e4
    refine r_goto (pc := 12) (tgt := 23) dL_made_12 (by decide) ?_
    refine r_iconst (pc := 23) dL_made_23 (inRk rfl) ?_
    exact r_ireturn (pc := 24) (ty := .int) dL_made_24 (by decide +kernel) rfl (nar_i _) h
  · have c8 : k9 = 0 ∨ k9 = 1 ∨ k9 = 2 := by omega
    rcases c8 with rfl | rfl | rfl
    · replace h := h8.1 rfl
      refine TT.catch9 (x := 0) (i := 5) (h9 := 15) (t9 := 24) (pre := []) (suf := [(0, 12, 19, 13)]) (a9 := 0) (b9 := 12) rfl (by decide) (by decide) w_941 wt_952 (fun z hz => nomatch hz) (by decide) (.inl ⟨dL_made_15, rfl⟩) ?_
      change GG _ _ _ [some (vr a0), some (vi x1), some (vi x2), some (vi x3), some (vr a4), none] _ _ _ _ _
      refine r_iconst (pc := 17) dL_made_17 (inRk rfl) ?_
      exact r_ireturn (pc := 18) (ty := .int) dL_made_18 (by decide +kernel) rfl (nar_i _) h
    · replace h := h8.2.1 rfl
      refine TT.catch9 (x := 1) (i := 5) (h9 := 19) (t9 := 13) (pre := [(0, 12, 15, 24)]) (suf := []) (a9 := 0) (b9 := 12) rfl (by decide) (by decide) w_698 wt_713 (fun z hz => by rw [List.mem_singleton.mp hz]; exact ⟨0, by decide, w_941, by decide⟩) (by decide) (.inl ⟨dL_made_19, rfl⟩) ?_
      change GG _ _ _ [some (vr a0), some (vi x1), some (vi x2), some (vi x3), some (vr a4), none] _ _ _ _ _
      refine r_iconst (pc := 21) dL_made_21 (inRk rfl) ?_
      exact r_ireturn (pc := 22) (ty := .int) dL_made_22 (by decide +kernel) rfl (nar_i _) h
    · exact (h8.2.2 rfl).elim
theorem C_L_made {a0 : Nat} {x1 : Int} {x2 : Int} {x3 : Int} {a4 : Nat} (h : GG E mL_made 0 [some (vr a0), some (vi x1), some (vi x2), some (vi x3), some (vr a4), none] [] σ 3 18 Q) : CC E mL_made [vr a0, vi x1, vi x2, vi x3, vr a4] σ Q := CC.ofH (by decide +kernel) rfl (by decide +kernel) rfl (Nat.le_of_ble_eq_true rfl) h
theorem dL_makers_0 : decode cL_makers 0 = .ok (.aload_n 2, 1) := by decide +kernel
theorem dL_makers_1 : decode cL_makers 1 = .ok (.iconst 0, 1) := by decide +kernel
theorem dL_makers_2 : decode cL_makers 2 = .ok (.aload_n 0, 1) := by decide +kernel
theorem dL_makers_3 : decode cL_makers 3 = .ok (.iload_n 1, 1) := by decide +kernel
theorem dL_makers_4 : decode cL_makers 4 = .ok (.invokevirtual 93, 3) := by decide +kernel
theorem dL_makers_7 : decode cL_makers 7 = .ok (.i2l, 1) := by decide +kernel
theorem dL_makers_8 : decode cL_makers 8 = .ok (.lastore, 1) := by decide +kernel
theorem dL_makers_9 : decode cL_makers 9 = .ok (.goto 6, 3) := by decide +kernel
theorem dL_makers_12 : decode cL_makers 12 = .ok (.astore_n 3, 1) := by decide +kernel
theorem dL_makers_13 : decode cL_makers 13 = .ok (.iconst 1, 1) := by decide +kernel
theorem dL_makers_14 : decode cL_makers 14 = .ok (.ireturn, 1) := by decide +kernel
theorem dL_makers_15 : decode cL_makers 15 = .ok (.iconst 0, 1) := by decide +kernel
theorem dL_makers_16 : decode cL_makers 16 = .ok (.ireturn, 1) := by decide +kernel
theorem B_L_makers_0 {a0 : Nat} {x1 : Int} {a2 : Nat} (h : 1 ≤ rc ∧ 6 ≤ rs ∧ okO σ a0 11 ∧ CC E mX11_makers [vr a0, vi x1] σ (KI (fun r1 τ2 => inR r1 → okB 23 τ2 a2 0 ∧ ∀ τ4 : Sg, τ4 = sI τ2 a2 0 r1 → Q (.inl (some (vi 0))) τ4) (fun k9 τ9 => (k9 = 0 → False) ∧ (k9 = 1 → Q (.inl (some (vi 1))) τ9) ∧ (k9 = 2 → False)))) : GG E mL_makers 0 [some (vr a0), some (vi x1), some (vr a2), none] [] σ rc rs Q := by
  refine r_aload_n (pc := 0) dL_makers_0 rfl rfl ?_
  refine r_iconst (pc := 1) dL_makers_1 (inRk rfl) ?_
  refine r_aload_n (pc := 2) dL_makers_2 rfl rfl ?_
  refine r_iload_n (pc := 3) dL_makers_3 rfl rfl ?_
  refine c_VIAX (M := mL_makers) (pc := 4) (As := [vi x1]) dL_makers_4 K_X11_makers w_1353 ⟨by decide, by decide⟩ (Nat.le_of_ble_eq_true rfl) h.1 h.2.1 (ci := 11) rfl rfl (by decide) h.2.2.1 h.2.2.2 (fun r1 τ2 h8 hr9 => ?_) (fun k9 τ9 hk9 h8 => ?_) rfl
  · replace h := h8 hr9
    refine r_i2l (pc := 7) dL_makers_7 ?_
    obtain ⟨o3, h⟩ := h
    refine r_lastore (pc := 8) dL_makers_8 o3 ?_
    refine nmS (fun τ4 e4 => ?_)
    replace h := h τ4 e4
    refine r_goto (pc := 9) (tgt := 15) dL_makers_9 (by decide) ?_
    refine r_iconst (pc := 15) dL_makers_15 (inRk rfl) ?_
    exact r_ireturn (pc := 16) (ty := .int) dL_makers_16 (by decide +kernel) rfl (nar_i _) h
  · have c8 : k9 = 0 ∨ k9 = 1 ∨ k9 = 2 := by omega
    rcases c8 with rfl | rfl | rfl
    · exact (h8.1 rfl).elim
    · replace h := h8.2.1 rfl
      refine TT.catch9 (x := 1) (i := 3) (h9 := 12) (t9 := 13) (pre := []) (suf := []) (a9 := 0) (b9 := 9) rfl (by decide) (by decide) w_698 wt_713 (fun z hz => nomatch hz) (by decide) (.inr ⟨3, rfl, dL_makers_12, rfl⟩) ?_
      change GG _ _ _ [some (vr a0), some (vi x1), some (vr a2), none] _ _ _ _ _
      refine r_iconst (pc := 13) dL_makers_13 (inRk rfl) ?_
      exact r_ireturn (pc := 14) (ty := .int) dL_makers_14 (by decide +kernel) rfl (nar_i _) h
    · exact (h8.2.2 rfl).elim
theorem C_L_makers {a0 : Nat} {x1 : Int} {a2 : Nat} (h : GG E mL_makers 0 [some (vr a0), some (vi x1), some (vr a2), none] [] σ 1 6 Q) : CC E mL_makers [vr a0, vi x1, vr a2] σ Q := CC.ofH (by decide +kernel) rfl (by decide +kernel) rfl (Nat.le_of_ble_eq_true rfl) h
theorem dL_of_0 : decode cL_of 0 = .ok (.aload_n 3, 1) := by decide +kernel
theorem dL_of_1 : decode cL_of 1 = .ok (.iconst 0, 1) := by decide +kernel
theorem dL_of_2 : decode cL_of 2 = .ok (.aload_n 0, 1) := by decide +kernel
theorem dL_of_3 : decode cL_of 3 = .ok (.iload_n 1, 1) := by decide +kernel
theorem dL_of_4 : decode cL_of 4 = .ok (.iload_n 2, 1) := by decide +kernel
theorem dL_of_5 : decode cL_of 5 = .ok (.invokevirtual 39, 3) := by decide +kernel
theorem dL_of_8 : decode cL_of 8 = .ok (.i2l, 1) := by decide +kernel
theorem dL_of_9 : decode cL_of 9 = .ok (.lastore, 1) := by decide +kernel
theorem dL_of_10 : decode cL_of 10 = .ok (.goto 11, 3) := by decide +kernel
theorem dL_of_13 : decode cL_of 13 = .ok (.astore 4, 2) := by decide +kernel
theorem dL_of_15 : decode cL_of 15 = .ok (.iconst 1, 1) := by decide +kernel
theorem dL_of_16 : decode cL_of 16 = .ok (.ireturn, 1) := by decide +kernel
theorem dL_of_17 : decode cL_of 17 = .ok (.astore 4, 2) := by decide +kernel
theorem dL_of_19 : decode cL_of 19 = .ok (.iconst 2, 1) := by decide +kernel
theorem dL_of_20 : decode cL_of 20 = .ok (.ireturn, 1) := by decide +kernel
theorem dL_of_21 : decode cL_of 21 = .ok (.iconst 0, 1) := by decide +kernel
theorem dL_of_22 : decode cL_of 22 = .ok (.ireturn, 1) := by decide +kernel
theorem B_L_of_0 {a0 : Nat} {x1 : Int} {x2 : Int} {a3 : Nat} (h : 2 ≤ rc ∧ 12 ≤ rs ∧ okO σ a0 11 ∧ CC E mX11_of [vr a0, vi x1, vi x2] σ (KI (fun r1 τ2 => inR r1 → okB 23 τ2 a3 0 ∧ ∀ τ4 : Sg, τ4 = sI τ2 a3 0 r1 → Q (.inl (some (vi 0))) τ4) (fun k9 τ9 => (k9 = 0 → Q (.inl (some (vi 1))) τ9) ∧ (k9 = 1 → Q (.inl (some (vi 2))) τ9) ∧ (k9 = 2 → False)))) : GG E mL_of 0 [some (vr a0), some (vi x1), some (vi x2), some (vr a3), none] [] σ rc rs Q := by
  refine r_aload_n (pc := 0) dL_of_0 rfl rfl ?_
  refine r_iconst (pc := 1) dL_of_1 (inRk rfl) ?_
  refine r_aload_n (pc := 2) dL_of_2 rfl rfl ?_
  refine r_iload_n (pc := 3) dL_of_3 rfl rfl ?_
  refine r_iload_n (pc := 4) dL_of_4 rfl rfl ?_
  refine c_VIAX (M := mL_of) (pc := 5) (As := [vi x1, vi x2]) dL_of_5 K_X11_of w_1161 ⟨by decide, by decide⟩ (Nat.le_of_ble_eq_true rfl) h.1 h.2.1 (ci := 11) rfl rfl (by decide) h.2.2.1 h.2.2.2 (fun r1 τ2 h8 hr9 => ?_) (fun k9 τ9 hk9 h8 => ?_) rfl
  · replace h := h8 hr9
    refine r_i2l (pc := 8) dL_of_8 ?_
    obtain ⟨o3, h⟩ := h
    refine r_lastore (pc := 9) dL_of_9 o3 ?_
    refine nmS (fun τ4 e4 => ?_)
    replace h := h τ4 e4
    refine r_goto (pc := 10) (tgt := 21) dL_of_10 (by decide) ?_
    refine r_iconst (pc := 21) dL_of_21 (inRk rfl) ?_
    exact r_ireturn (pc := 22) (ty := .int) dL_of_22 (by decide +kernel) rfl (nar_i _) h
  · have c8 : k9 = 0 ∨ k9 = 1 ∨ k9 = 2 := by omega
    rcases c8 with rfl | rfl | rfl
    · replace h := h8.1 rfl
      refine TT.catch9 (x := 0) (i := 4) (h9 := 13) (t9 := 24) (pre := []) (suf := [(0, 10, 17, 13)]) (a9 := 0) (b9 := 10) rfl (by decide) (by decide) w_941 wt_952 (fun z hz => nomatch hz) (by decide) (.inl ⟨dL_of_13, rfl⟩) ?_
      change GG _ _ _ [some (vr a0), some (vi x1), some (vi x2), some (vr a3), none] _ _ _ _ _
      refine r_iconst (pc := 15) dL_of_15 (inRk rfl) ?_
      exact r_ireturn (pc := 16) (ty := .int) dL_of_16 (by decide +kernel) rfl (nar_i _) h
    · replace h := h8.2.1 rfl
      refine TT.catch9 (x := 1) (i := 4) (h9 := 17) (t9 := 13) (pre := [(0, 10, 13, 24)]) (suf := []) (a9 := 0) (b9 := 10) rfl (by decide) (by decide) w_698 wt_713 (fun z hz => by rw [List.mem_singleton.mp hz]; exact ⟨0, by decide, w_941, by decide⟩) (by decide) (.inl ⟨dL_of_17, rfl⟩) ?_
      change GG _ _ _ [some (vr a0), some (vi x1), some (vi x2), some (vr a3), none] _ _ _ _ _
      refine r_iconst (pc := 19) dL_of_19 (inRk rfl) ?_
      exact r_ireturn (pc := 20) (ty := .int) dL_of_20 (by decide +kernel) rfl (nar_i _) h
    · exact (h8.2.2 rfl).elim
theorem C_L_of {a0 : Nat} {x1 : Int} {x2 : Int} {a3 : Nat} (h : GG E mL_of 0 [some (vr a0), some (vi x1), some (vi x2), some (vr a3), none] [] σ 2 12 Q) : CC E mL_of [vr a0, vi x1, vi x2, vr a3] σ Q := CC.ofH (by decide +kernel) rfl (by decide +kernel) rfl (Nat.le_of_ble_eq_true rfl) h
theorem dL_ofOrder_0 : decode cL_ofOrder 0 = .ok (.aload_n 3, 1) := by decide +kernel
theorem dL_ofOrder_1 : decode cL_ofOrder 1 = .ok (.iconst 0, 1) := by decide +kernel
theorem dL_ofOrder_2 : decode cL_ofOrder 2 = .ok (.aload_n 0, 1) := by decide +kernel
theorem dL_ofOrder_3 : decode cL_ofOrder 3 = .ok (.iload_n 1, 1) := by decide +kernel
theorem dL_ofOrder_4 : decode cL_ofOrder 4 = .ok (.iload_n 2, 1) := by decide +kernel
theorem dL_ofOrder_5 : decode cL_ofOrder 5 = .ok (.invokevirtual 90, 3) := by decide +kernel
theorem dL_ofOrder_8 : decode cL_ofOrder 8 = .ok (.i2l, 1) := by decide +kernel
theorem dL_ofOrder_9 : decode cL_ofOrder 9 = .ok (.lastore, 1) := by decide +kernel
theorem dL_ofOrder_10 : decode cL_ofOrder 10 = .ok (.goto 7, 3) := by decide +kernel
theorem dL_ofOrder_13 : decode cL_ofOrder 13 = .ok (.astore 4, 2) := by decide +kernel
theorem dL_ofOrder_15 : decode cL_ofOrder 15 = .ok (.iconst 1, 1) := by decide +kernel
theorem dL_ofOrder_16 : decode cL_ofOrder 16 = .ok (.ireturn, 1) := by decide +kernel
theorem dL_ofOrder_17 : decode cL_ofOrder 17 = .ok (.iconst 0, 1) := by decide +kernel
theorem dL_ofOrder_18 : decode cL_ofOrder 18 = .ok (.ireturn, 1) := by decide +kernel
theorem B_L_ofOrder_0 {a0 : Nat} {x1 : Int} {x2 : Int} {a3 : Nat} (h : 2 ≤ rc ∧ 12 ≤ rs ∧ okO σ a0 11 ∧ CC E mX11_ofOrder [vr a0, vi x1, vi x2] σ (KI (fun r1 τ2 => inR r1 → okB 23 τ2 a3 0 ∧ ∀ τ4 : Sg, τ4 = sI τ2 a3 0 r1 → Q (.inl (some (vi 0))) τ4) (fun k9 τ9 => (k9 = 0 → False) ∧ (k9 = 1 → Q (.inl (some (vi 1))) τ9) ∧ (k9 = 2 → False)))) : GG E mL_ofOrder 0 [some (vr a0), some (vi x1), some (vi x2), some (vr a3), none] [] σ rc rs Q := by
  refine r_aload_n (pc := 0) dL_ofOrder_0 rfl rfl ?_
  refine r_iconst (pc := 1) dL_ofOrder_1 (inRk rfl) ?_
  refine r_aload_n (pc := 2) dL_ofOrder_2 rfl rfl ?_
  refine r_iload_n (pc := 3) dL_ofOrder_3 rfl rfl ?_
  refine r_iload_n (pc := 4) dL_ofOrder_4 rfl rfl ?_
  refine c_VIAX (M := mL_ofOrder) (pc := 5) (As := [vi x1, vi x2]) dL_ofOrder_5 K_X11_ofOrder w_1338 ⟨by decide, by decide⟩ (Nat.le_of_ble_eq_true rfl) h.1 h.2.1 (ci := 11) rfl rfl (by decide) h.2.2.1 h.2.2.2 (fun r1 τ2 h8 hr9 => ?_) (fun k9 τ9 hk9 h8 => ?_) rfl
  · replace h := h8 hr9
    refine r_i2l (pc := 8) dL_ofOrder_8 ?_
    obtain ⟨o3, h⟩ := h
    refine r_lastore (pc := 9) dL_ofOrder_9 o3 ?_
    refine nmS (fun τ4 e4 => ?_)
    replace h := h τ4 e4
    refine r_goto (pc := 10) (tgt := 17) dL_ofOrder_10 (by decide) ?_
    refine r_iconst (pc := 17) dL_ofOrder_17 (inRk rfl) ?_
    exact r_ireturn (pc := 18) (ty := .int) dL_ofOrder_18 (by decide +kernel) rfl (nar_i _) h
  · have c8 : k9 = 0 ∨ k9 = 1 ∨ k9 = 2 := by omega
    rcases c8 with rfl | rfl | rfl
    · exact (h8.1 rfl).elim
    · replace h := h8.2.1 rfl
      refine TT.catch9 (x := 1) (i := 4) (h9 := 13) (t9 := 13) (pre := []) (suf := []) (a9 := 0) (b9 := 10) rfl (by decide) (by decide) w_698 wt_713 (fun z hz => nomatch hz) (by decide) (.inl ⟨dL_ofOrder_13, rfl⟩) ?_
      change GG _ _ _ [some (vr a0), some (vi x1), some (vi x2), some (vr a3), none] _ _ _ _ _
      refine r_iconst (pc := 15) dL_ofOrder_15 (inRk rfl) ?_
      exact r_ireturn (pc := 16) (ty := .int) dL_ofOrder_16 (by decide +kernel) rfl (nar_i _) h
    · exact (h8.2.2 rfl).elim
theorem C_L_ofOrder {a0 : Nat} {x1 : Int} {x2 : Int} {a3 : Nat} (h : GG E mL_ofOrder 0 [some (vr a0), some (vi x1), some (vi x2), some (vr a3), none] [] σ 2 12 Q) : CC E mL_ofOrder [vr a0, vi x1, vi x2, vr a3] σ Q := CC.ofH (by decide +kernel) rfl (by decide +kernel) rfl (Nat.le_of_ble_eq_true rfl) h
theorem dL_often_0 : decode cL_often 0 = .ok (.aload 4, 2) := by decide +kernel
theorem dL_often_2 : decode cL_often 2 = .ok (.iconst 0, 1) := by decide +kernel
theorem dL_often_3 : decode cL_often 3 = .ok (.aload_n 0, 1) := by decide +kernel
theorem dL_often_4 : decode cL_often 4 = .ok (.iload_n 1, 1) := by decide +kernel
theorem dL_often_5 : decode cL_often 5 = .ok (.iload_n 2, 1) := by decide +kernel
theorem dL_often_6 : decode cL_often 6 = .ok (.iload_n 3, 1) := by decide +kernel
theorem dL_often_7 : decode cL_often 7 = .ok (.invokevirtual 55, 3) := by decide +kernel
theorem dL_often_10 : decode cL_often 10 = .ok (.i2l, 1) := by decide +kernel
theorem dL_often_11 : decode cL_often 11 = .ok (.lastore, 1) := by decide +kernel
theorem dL_often_12 : decode cL_often 12 = .ok (.goto 7, 3) := by decide +kernel
theorem dL_often_15 : decode cL_often 15 = .ok (.astore 5, 2) := by decide +kernel
theorem dL_often_17 : decode cL_often 17 = .ok (.iconst 1, 1) := by decide +kernel
theorem dL_often_18 : decode cL_often 18 = .ok (.ireturn, 1) := by decide +kernel
theorem dL_often_19 : decode cL_often 19 = .ok (.iconst 0, 1) := by decide +kernel
theorem dL_often_20 : decode cL_often 20 = .ok (.ireturn, 1) := by decide +kernel
theorem B_L_often_0 {a0 : Nat} {x1 : Int} {x2 : Int} {x3 : Int} {a4 : Nat} (h : 3 ≤ rc ∧ 18 ≤ rs ∧ okO σ a0 11 ∧ CC E mX11_often [vr a0, vi x1, vi x2, vi x3] σ (KI (fun r1 τ2 => inR r1 → okB 23 τ2 a4 0 ∧ ∀ τ4 : Sg, τ4 = sI τ2 a4 0 r1 → Q (.inl (some (vi 0))) τ4) (fun k9 τ9 => (k9 = 0 → Q (.inl (some (vi 1))) τ9) ∧ (k9 = 1 → False) ∧ (k9 = 2 → False)))) : GG E mL_often 0 [some (vr a0), some (vi x1), some (vi x2), some (vi x3), some (vr a4), none] [] σ rc rs Q := by
  refine r_aload (pc := 0) dL_often_0 rfl ?_
  refine r_iconst (pc := 2) dL_often_2 (inRk rfl) ?_
  refine r_aload_n (pc := 3) dL_often_3 rfl rfl ?_
  refine r_iload_n (pc := 4) dL_often_4 rfl rfl ?_
  refine r_iload_n (pc := 5) dL_often_5 rfl rfl ?_
  refine r_iload_n (pc := 6) dL_often_6 rfl rfl ?_
  refine c_VIAX (M := mL_often) (pc := 7) (As := [vi x1, vi x2, vi x3]) dL_often_7 K_X11_often w_1206 ⟨by decide, by decide⟩ (Nat.le_of_ble_eq_true rfl) h.1 h.2.1 (ci := 11) rfl rfl (by decide) h.2.2.1 h.2.2.2 (fun r1 τ2 h8 hr9 => ?_) (fun k9 τ9 hk9 h8 => ?_) rfl
  · replace h := h8 hr9
    refine r_i2l (pc := 10) dL_often_10 ?_
    obtain ⟨o3, h⟩ := h
    refine r_lastore (pc := 11) dL_often_11 o3 ?_
    refine nmS (fun τ4 e4 => ?_)
    replace h := h τ4 e4
    refine r_goto (pc := 12) (tgt := 19) dL_often_12 (by decide) ?_
    refine r_iconst (pc := 19) dL_often_19 (inRk rfl) ?_
    exact r_ireturn (pc := 20) (ty := .int) dL_often_20 (by decide +kernel) rfl (nar_i _) h
  · have c8 : k9 = 0 ∨ k9 = 1 ∨ k9 = 2 := by omega
    rcases c8 with rfl | rfl | rfl
    · replace h := h8.1 rfl
      refine TT.catch9 (x := 0) (i := 5) (h9 := 15) (t9 := 24) (pre := []) (suf := []) (a9 := 0) (b9 := 12) rfl (by decide) (by decide) w_941 wt_952 (fun z hz => nomatch hz) (by decide) (.inl ⟨dL_often_15, rfl⟩) ?_
      change GG _ _ _ [some (vr a0), some (vi x1), some (vi x2), some (vi x3), some (vr a4), none] _ _ _ _ _
      refine r_iconst (pc := 17) dL_often_17 (inRk rfl) ?_
      exact r_ireturn (pc := 18) (ty := .int) dL_often_18 (by decide +kernel) rfl (nar_i _) h
    · exact (h8.2.1 rfl).elim
    · exact (h8.2.2 rfl).elim
theorem C_L_often {a0 : Nat} {x1 : Int} {x2 : Int} {x3 : Int} {a4 : Nat} (h : GG E mL_often 0 [some (vr a0), some (vi x1), some (vi x2), some (vi x3), some (vr a4), none] [] σ 3 18 Q) : CC E mL_often [vr a0, vi x1, vi x2, vi x3, vr a4] σ Q := CC.ofH (by decide +kernel) rfl (by decide +kernel) rfl (Nat.le_of_ble_eq_true rfl) h
theorem dL_opposite_0 : decode cL_opposite 0 = .ok (.aload_n 2, 1) := by decide +kernel
theorem dL_opposite_1 : decode cL_opposite 1 = .ok (.iconst 0, 1) := by decide +kernel
theorem dL_opposite_2 : decode cL_opposite 2 = .ok (.aload_n 0, 1) := by decide +kernel
theorem dL_opposite_3 : decode cL_opposite 3 = .ok (.iload_n 1, 1) := by decide +kernel
theorem dL_opposite_4 : decode cL_opposite 4 = .ok (.invokevirtual 58, 3) := by decide +kernel
theorem dL_opposite_7 : decode cL_opposite 7 = .ok (.i2l, 1) := by decide +kernel
theorem dL_opposite_8 : decode cL_opposite 8 = .ok (.lastore, 1) := by decide +kernel
theorem dL_opposite_9 : decode cL_opposite 9 = .ok (.goto 6, 3) := by decide +kernel
theorem dL_opposite_12 : decode cL_opposite 12 = .ok (.astore_n 3, 1) := by decide +kernel
theorem dL_opposite_13 : decode cL_opposite 13 = .ok (.iconst 1, 1) := by decide +kernel
theorem dL_opposite_14 : decode cL_opposite 14 = .ok (.ireturn, 1) := by decide +kernel
theorem dL_opposite_15 : decode cL_opposite 15 = .ok (.iconst 0, 1) := by decide +kernel
theorem dL_opposite_16 : decode cL_opposite 16 = .ok (.ireturn, 1) := by decide +kernel
theorem B_L_opposite_0 {a0 : Nat} {x1 : Int} {a2 : Nat} (h : 1 ≤ rc ∧ 6 ≤ rs ∧ okO σ a0 11 ∧ CC E mX11_opposite [vr a0, vi x1] σ (KI (fun r1 τ2 => inR r1 → okB 23 τ2 a2 0 ∧ ∀ τ4 : Sg, τ4 = sI τ2 a2 0 r1 → Q (.inl (some (vi 0))) τ4) (fun k9 τ9 => (k9 = 0 → Q (.inl (some (vi 1))) τ9) ∧ (k9 = 1 → False) ∧ (k9 = 2 → False)))) : GG E mL_opposite 0 [some (vr a0), some (vi x1), some (vr a2), none] [] σ rc rs Q := by
  refine r_aload_n (pc := 0) dL_opposite_0 rfl rfl ?_
  refine r_iconst (pc := 1) dL_opposite_1 (inRk rfl) ?_
  refine r_aload_n (pc := 2) dL_opposite_2 rfl rfl ?_
  refine r_iload_n (pc := 3) dL_opposite_3 rfl rfl ?_
  refine c_VIAX (M := mL_opposite) (pc := 4) (As := [vi x1]) dL_opposite_4 K_X11_opposite w_1214 ⟨by decide, by decide⟩ (Nat.le_of_ble_eq_true rfl) h.1 h.2.1 (ci := 11) rfl rfl (by decide) h.2.2.1 h.2.2.2 (fun r1 τ2 h8 hr9 => ?_) (fun k9 τ9 hk9 h8 => ?_) rfl
  · replace h := h8 hr9
    refine r_i2l (pc := 7) dL_opposite_7 ?_
    obtain ⟨o3, h⟩ := h
    refine r_lastore (pc := 8) dL_opposite_8 o3 ?_
    refine nmS (fun τ4 e4 => ?_)
    replace h := h τ4 e4
    refine r_goto (pc := 9) (tgt := 15) dL_opposite_9 (by decide) ?_
    refine r_iconst (pc := 15) dL_opposite_15 (inRk rfl) ?_
    exact r_ireturn (pc := 16) (ty := .int) dL_opposite_16 (by decide +kernel) rfl (nar_i _) h
  · have c8 : k9 = 0 ∨ k9 = 1 ∨ k9 = 2 := by omega
    rcases c8 with rfl | rfl | rfl
    · replace h := h8.1 rfl
      refine TT.catch9 (x := 0) (i := 3) (h9 := 12) (t9 := 24) (pre := []) (suf := []) (a9 := 0) (b9 := 9) rfl (by decide) (by decide) w_941 wt_952 (fun z hz => nomatch hz) (by decide) (.inr ⟨3, rfl, dL_opposite_12, rfl⟩) ?_
      change GG _ _ _ [some (vr a0), some (vi x1), some (vr a2), none] _ _ _ _ _
      refine r_iconst (pc := 13) dL_opposite_13 (inRk rfl) ?_
      exact r_ireturn (pc := 14) (ty := .int) dL_opposite_14 (by decide +kernel) rfl (nar_i _) h
    · exact (h8.2.1 rfl).elim
    · exact (h8.2.2 rfl).elim
theorem C_L_opposite {a0 : Nat} {x1 : Int} {a2 : Nat} (h : GG E mL_opposite 0 [some (vr a0), some (vi x1), some (vr a2), none] [] σ 1 6 Q) : CC E mL_opposite [vr a0, vi x1, vr a2] σ Q := CC.ofH (by decide +kernel) rfl (by decide +kernel) rfl (Nat.le_of_ble_eq_true rfl) h
theorem dL_power_0 : decode cL_power 0 = .ok (.aload_n 3, 1) := by decide +kernel
theorem dL_power_1 : decode cL_power 1 = .ok (.iconst 0, 1) := by decide +kernel
theorem dL_power_2 : decode cL_power 2 = .ok (.aload_n 0, 1) := by decide +kernel
theorem dL_power_3 : decode cL_power 3 = .ok (.iload_n 1, 1) := by decide +kernel
theorem dL_power_4 : decode cL_power 4 = .ok (.iload_n 2, 1) := by decide +kernel
theorem dL_power_5 : decode cL_power 5 = .ok (.invokevirtual 36, 3) := by decide +kernel
theorem dL_power_8 : decode cL_power 8 = .ok (.i2l, 1) := by decide +kernel
theorem dL_power_9 : decode cL_power 9 = .ok (.lastore, 1) := by decide +kernel
theorem dL_power_10 : decode cL_power 10 = .ok (.goto 7, 3) := by decide +kernel
theorem dL_power_13 : decode cL_power 13 = .ok (.astore 4, 2) := by decide +kernel
theorem dL_power_15 : decode cL_power 15 = .ok (.iconst 1, 1) := by decide +kernel
theorem dL_power_16 : decode cL_power 16 = .ok (.ireturn, 1) := by decide +kernel
theorem dL_power_17 : decode cL_power 17 = .ok (.iconst 0, 1) := by decide +kernel
theorem dL_power_18 : decode cL_power 18 = .ok (.ireturn, 1) := by decide +kernel
theorem B_L_power_0 {a0 : Nat} {x1 : Int} {x2 : Int} {a3 : Nat} (h : 1 ≤ rc ∧ 6 ≤ rs ∧ okO σ a0 11 ∧ CC E mX11_power [vr a0, vi x1, vi x2] σ (KI (fun r1 τ2 => inR r1 → okB 23 τ2 a3 0 ∧ ∀ τ4 : Sg, τ4 = sI τ2 a3 0 r1 → Q (.inl (some (vi 0))) τ4) (fun k9 τ9 => (k9 = 0 → Q (.inl (some (vi 1))) τ9) ∧ (k9 = 1 → False) ∧ (k9 = 2 → False)))) : GG E mL_power 0 [some (vr a0), some (vi x1), some (vi x2), some (vr a3), none] [] σ rc rs Q := by
  refine r_aload_n (pc := 0) dL_power_0 rfl rfl ?_
  refine r_iconst (pc := 1) dL_power_1 (inRk rfl) ?_
  refine r_aload_n (pc := 2) dL_power_2 rfl rfl ?_
  refine r_iload_n (pc := 3) dL_power_3 rfl rfl ?_
  refine r_iload_n (pc := 4) dL_power_4 rfl rfl ?_
  refine c_VIAX (M := mL_power) (pc := 5) (As := [vi x1, vi x2]) dL_power_5 K_X11_power w_1151 ⟨by decide, by decide⟩ (Nat.le_of_ble_eq_true rfl) h.1 h.2.1 (ci := 11) rfl rfl (by decide) h.2.2.1 h.2.2.2 (fun r1 τ2 h8 hr9 => ?_) (fun k9 τ9 hk9 h8 => ?_) rfl
  · replace h := h8 hr9
    refine r_i2l (pc := 8) dL_power_8 ?_
    obtain ⟨o3, h⟩ := h
    refine r_lastore (pc := 9) dL_power_9 o3 ?_
    refine nmS (fun τ4 e4 => ?_)
    replace h := h τ4 e4
    refine r_goto (pc := 10) (tgt := 17) dL_power_10 (by decide) ?_
    refine r_iconst (pc := 17) dL_power_17 (inRk rfl) ?_
    exact r_ireturn (pc := 18) (ty := .int) dL_power_18 (by decide +kernel) rfl (nar_i _) h
  · have c8 : k9 = 0 ∨ k9 = 1 ∨ k9 = 2 := by omega
    rcases c8 with rfl | rfl | rfl
    · replace h := h8.1 rfl
      refine TT.catch9 (x := 0) (i := 4) (h9 := 13) (t9 := 24) (pre := []) (suf := []) (a9 := 0) (b9 := 10) rfl (by decide) (by decide) w_941 wt_952 (fun z hz => nomatch hz) (by decide) (.inl ⟨dL_power_13, rfl⟩) ?_
      change GG _ _ _ [some (vr a0), some (vi x1), some (vi x2), some (vr a3), none] _ _ _ _ _
      refine r_iconst (pc := 15) dL_power_15 (inRk rfl) ?_
      exact r_ireturn (pc := 16) (ty := .int) dL_power_16 (by decide +kernel) rfl (nar_i _) h
    · exact (h8.2.1 rfl).elim
    · exact (h8.2.2 rfl).elim
theorem C_L_power {a0 : Nat} {x1 : Int} {x2 : Int} {a3 : Nat} (h : GG E mL_power 0 [some (vr a0), some (vi x1), some (vi x2), some (vr a3), none] [] σ 1 6 Q) : CC E mL_power [vr a0, vi x1, vi x2, vr a3] σ Q := CC.ofH (by decide +kernel) rfl (by decide +kernel) rfl (Nat.le_of_ble_eq_true rfl) h
theorem dL_product_0 : decode cL_product 0 = .ok (.aload_n 3, 1) := by decide +kernel
theorem dL_product_1 : decode cL_product 1 = .ok (.iconst 0, 1) := by decide +kernel
theorem dL_product_2 : decode cL_product 2 = .ok (.aload_n 0, 1) := by decide +kernel
theorem dL_product_3 : decode cL_product 3 = .ok (.iload_n 1, 1) := by decide +kernel
theorem dL_product_4 : decode cL_product 4 = .ok (.iload_n 2, 1) := by decide +kernel
theorem dL_product_5 : decode cL_product 5 = .ok (.invokevirtual 33, 3) := by decide +kernel
theorem dL_product_8 : decode cL_product 8 = .ok (.i2l, 1) := by decide +kernel
theorem dL_product_9 : decode cL_product 9 = .ok (.lastore, 1) := by decide +kernel
theorem dL_product_10 : decode cL_product 10 = .ok (.goto 7, 3) := by decide +kernel
theorem dL_product_13 : decode cL_product 13 = .ok (.astore 4, 2) := by decide +kernel
theorem dL_product_15 : decode cL_product 15 = .ok (.iconst 1, 1) := by decide +kernel
theorem dL_product_16 : decode cL_product 16 = .ok (.ireturn, 1) := by decide +kernel
theorem dL_product_17 : decode cL_product 17 = .ok (.iconst 0, 1) := by decide +kernel
theorem dL_product_18 : decode cL_product 18 = .ok (.ireturn, 1) := by decide +kernel
theorem B_L_product_0 {a0 : Nat} {x1 : Int} {x2 : Int} {a3 : Nat} (h : 2 ≤ rc ∧ 12 ≤ rs ∧ okO σ a0 11 ∧ CC E mX11_product [vr a0, vi x1, vi x2] σ (KI (fun r1 τ2 => inR r1 → okB 23 τ2 a3 0 ∧ ∀ τ4 : Sg, τ4 = sI τ2 a3 0 r1 → Q (.inl (some (vi 0))) τ4) (fun k9 τ9 => (k9 = 0 → Q (.inl (some (vi 1))) τ9) ∧ (k9 = 1 → False) ∧ (k9 = 2 → False)))) : GG E mL_product 0 [some (vr a0), some (vi x1), some (vi x2), some (vr a3), none] [] σ rc rs Q := by
  refine r_aload_n (pc := 0) dL_product_0 rfl rfl ?_
  refine r_iconst (pc := 1) dL_product_1 (inRk rfl) ?_
  refine r_aload_n (pc := 2) dL_product_2 rfl rfl ?_
  refine r_iload_n (pc := 3) dL_product_3 rfl rfl ?_
  refine r_iload_n (pc := 4) dL_product_4 rfl rfl ?_
  refine c_VIAX (M := mL_product) (pc := 5) (As := [vi x1, vi x2]) dL_product_5 K_X11_product w_1143 ⟨by decide, by decide⟩ (Nat.le_of_ble_eq_true rfl) h.1 h.2.1 (ci := 11) rfl rfl (by decide) h.2.2.1 h.2.2.2 (fun r1 τ2 h8 hr9 => ?_) (fun k9 τ9 hk9 h8 => ?_) rfl
  · replace h := h8 hr9
    refine r_i2l (pc := 8) dL_product_8 ?_
    obtain ⟨o3, h⟩ := h
    refine r_lastore (pc := 9) dL_product_9 o3 ?_
    refine nmS (fun τ4 e4 => ?_)
    replace h := h τ4 e4
    refine r_goto (pc := 10) (tgt := 17) dL_product_10 (by decide) ?_
    refine r_iconst (pc := 17) dL_product_17 (inRk rfl) ?_
    exact r_ireturn (pc := 18) (ty := .int) dL_product_18 (by decide +kernel) rfl (nar_i _) h
  · have c8 : k9 = 0 ∨ k9 = 1 ∨ k9 = 2 := by omega
    rcases c8 with rfl | rfl | rfl
    · replace h := h8.1 rfl
      refine TT.catch9 (x := 0) (i := 4) (h9 := 13) (t9 := 24) (pre := []) (suf := []) (a9 := 0) (b9 := 10) rfl (by decide) (by decide) w_941 wt_952 (fun z hz => nomatch hz) (by decide) (.inl ⟨dL_product_13, rfl⟩) ?_
      change GG _ _ _ [some (vr a0), some (vi x1), some (vi x2), some (vr a3), none] _ _ _ _ _
      refine r_iconst (pc := 15) dL_product_15 (inRk rfl) ?_
      exact r_ireturn (pc := 16) (ty := .int) dL_product_16 (by decide +kernel) rfl (nar_i _) h
    · exact (h8.2.1 rfl).elim
    · exact (h8.2.2 rfl).elim
theorem C_L_product {a0 : Nat} {x1 : Int} {x2 : Int} {a3 : Nat} (h : GG E mL_product 0 [some (vr a0), some (vi x1), some (vi x2), some (vr a3), none] [] σ 2 12 Q) : CC E mL_product [vr a0, vi x1, vi x2, vr a3] σ Q := CC.ofH (by decide +kernel) rfl (by decide +kernel) rfl (Nat.le_of_ble_eq_true rfl) h
theorem dL_row_0 : decode cL_row 0 = .ok (.aload_n 3, 1) := by decide +kernel
theorem dL_row_1 : decode cL_row 1 = .ok (.iconst 0, 1) := by decide +kernel
theorem dL_row_2 : decode cL_row 2 = .ok (.aload_n 0, 1) := by decide +kernel
theorem dL_row_3 : decode cL_row 3 = .ok (.iload_n 1, 1) := by decide +kernel
theorem dL_row_4 : decode cL_row 4 = .ok (.iload_n 2, 1) := by decide +kernel
theorem dL_row_5 : decode cL_row 5 = .ok (.invokevirtual 76, 3) := by decide +kernel
theorem dL_row_8 : decode cL_row 8 = .ok (.i2l, 1) := by decide +kernel
theorem dL_row_9 : decode cL_row 9 = .ok (.lastore, 1) := by decide +kernel
theorem dL_row_10 : decode cL_row 10 = .ok (.goto 7, 3) := by decide +kernel
theorem dL_row_13 : decode cL_row 13 = .ok (.astore 4, 2) := by decide +kernel
theorem dL_row_15 : decode cL_row 15 = .ok (.iconst 1, 1) := by decide +kernel
theorem dL_row_16 : decode cL_row 16 = .ok (.ireturn, 1) := by decide +kernel
theorem dL_row_17 : decode cL_row 17 = .ok (.iconst 0, 1) := by decide +kernel
theorem dL_row_18 : decode cL_row 18 = .ok (.ireturn, 1) := by decide +kernel
theorem B_L_row_0 {a0 : Nat} {x1 : Int} {x2 : Int} {a3 : Nat} (h : 1 ≤ rc ∧ 6 ≤ rs ∧ okO σ a0 11 ∧ CC E mX11_row [vr a0, vi x1, vi x2] σ (KI (fun r1 τ2 => inR r1 → okB 23 τ2 a3 0 ∧ ∀ τ4 : Sg, τ4 = sI τ2 a3 0 r1 → Q (.inl (some (vi 0))) τ4) (fun k9 τ9 => (k9 = 0 → Q (.inl (some (vi 1))) τ9) ∧ (k9 = 1 → False) ∧ (k9 = 2 → False)))) : GG E mL_row 0 [some (vr a0), some (vi x1), some (vi x2), some (vr a3), none] [] σ rc rs Q := by
  refine r_aload_n (pc := 0) dL_row_0 rfl rfl ?_
  refine r_iconst (pc := 1) dL_row_1 (inRk rfl) ?_
  refine r_aload_n (pc := 2) dL_row_2 rfl rfl ?_
  refine r_iload_n (pc := 3) dL_row_3 rfl rfl ?_
  refine r_iload_n (pc := 4) dL_row_4 rfl rfl ?_
  refine c_VIAX (M := mL_row) (pc := 5) (As := [vi x1, vi x2]) dL_row_5 K_X11_row w_1283 ⟨by decide, by decide⟩ (Nat.le_of_ble_eq_true rfl) h.1 h.2.1 (ci := 11) rfl rfl (by decide) h.2.2.1 h.2.2.2 (fun r1 τ2 h8 hr9 => ?_) (fun k9 τ9 hk9 h8 => ?_) rfl
  · replace h := h8 hr9
    refine r_i2l (pc := 8) dL_row_8 ?_
    obtain ⟨o3, h⟩ := h
    refine r_lastore (pc := 9) dL_row_9 o3 ?_
    refine nmS (fun τ4 e4 => ?_)
    replace h := h τ4 e4
    refine r_goto (pc := 10) (tgt := 17) dL_row_10 (by decide) ?_
    refine r_iconst (pc := 17) dL_row_17 (inRk rfl) ?_
    exact r_ireturn (pc := 18) (ty := .int) dL_row_18 (by decide +kernel) rfl (nar_i _) h
  · have c8 : k9 = 0 ∨ k9 = 1 ∨ k9 = 2 := by omega
    rcases c8 with rfl | rfl | rfl
    · replace h := h8.1 rfl
      refine TT.catch9 (x := 0) (i := 4) (h9 := 13) (t9 := 24) (pre := []) (suf := []) (a9 := 0) (b9 := 10) rfl (by decide) (by decide) w_941 wt_952 (fun z hz => nomatch hz) (by decide) (.inl ⟨dL_row_13, rfl⟩) ?_
      change GG _ _ _ [some (vr a0), some (vi x1), some (vi x2), some (vr a3), none] _ _ _ _ _
      refine r_iconst (pc := 15) dL_row_15 (inRk rfl) ?_
      exact r_ireturn (pc := 16) (ty := .int) dL_row_16 (by decide +kernel) rfl (nar_i _) h
    · exact (h8.2.1 rfl).elim
    · exact (h8.2.2 rfl).elim
theorem C_L_row {a0 : Nat} {x1 : Int} {x2 : Int} {a3 : Nat} (h : GG E mL_row 0 [some (vr a0), some (vi x1), some (vi x2), some (vr a3), none] [] σ 1 6 Q) : CC E mL_row [vr a0, vi x1, vi x2, vr a3] σ Q := CC.ofH (by decide +kernel) rfl (by decide +kernel) rfl (Nat.le_of_ble_eq_true rfl) h
theorem dL_text_0 : decode cL_text 0 = .ok (.aload_n 2, 1) := by decide +kernel
theorem dL_text_1 : decode cL_text 1 = .ok (.iconst 0, 1) := by decide +kernel
theorem dL_text_2 : decode cL_text 2 = .ok (.aload_n 0, 1) := by decide +kernel
theorem dL_text_3 : decode cL_text 3 = .ok (.iload_n 1, 1) := by decide +kernel
theorem dL_text_4 : decode cL_text 4 = .ok (.invokevirtual 7, 3) := by decide +kernel
theorem dL_text_7 : decode cL_text 7 = .ok (.i2l, 1) := by decide +kernel
theorem dL_text_8 : decode cL_text 8 = .ok (.lastore, 1) := by decide +kernel
theorem dL_text_9 : decode cL_text 9 = .ok (.goto 6, 3) := by decide +kernel
theorem dL_text_12 : decode cL_text 12 = .ok (.astore_n 3, 1) := by decide +kernel
theorem dL_text_13 : decode cL_text 13 = .ok (.iconst 1, 1) := by decide +kernel
theorem dL_text_14 : decode cL_text 14 = .ok (.ireturn, 1) := by decide +kernel
theorem dL_text_15 : decode cL_text 15 = .ok (.iconst 0, 1) := by decide +kernel
theorem dL_text_16 : decode cL_text 16 = .ok (.ireturn, 1) := by decide +kernel
theorem B_L_text_0 {a0 : Nat} {x1 : Int} {a2 : Nat} (h : 1 ≤ rc ∧ 6 ≤ rs ∧ okO σ a0 11 ∧ CC E mX11_text [vr a0, vi x1] σ (KI (fun r1 τ2 => inR r1 → okB 23 τ2 a2 0 ∧ ∀ τ4 : Sg, τ4 = sI τ2 a2 0 r1 → Q (.inl (some (vi 0))) τ4) (fun k9 τ9 => (k9 = 0 → False) ∧ (k9 = 1 → Q (.inl (some (vi 1))) τ9) ∧ (k9 = 2 → False)))) : GG E mL_text 0 [some (vr a0), some (vi x1), some (vr a2), none] [] σ rc rs Q := by
  refine r_aload_n (pc := 0) dL_text_0 rfl rfl ?_
  refine r_iconst (pc := 1) dL_text_1 (inRk rfl) ?_
  refine r_aload_n (pc := 2) dL_text_2 rfl rfl ?_
  refine r_iload_n (pc := 3) dL_text_3 rfl rfl ?_
  refine c_VIAX (M := mL_text) (pc := 4) (As := [vi x1]) dL_text_4 K_X11_text w_699 ⟨by decide, by decide⟩ (Nat.le_of_ble_eq_true rfl) h.1 h.2.1 (ci := 11) rfl rfl (by decide) h.2.2.1 h.2.2.2 (fun r1 τ2 h8 hr9 => ?_) (fun k9 τ9 hk9 h8 => ?_) rfl
  · replace h := h8 hr9
    refine r_i2l (pc := 7) dL_text_7 ?_
    obtain ⟨o3, h⟩ := h
    refine r_lastore (pc := 8) dL_text_8 o3 ?_
    refine nmS (fun τ4 e4 => ?_)
    replace h := h τ4 e4
    refine r_goto (pc := 9) (tgt := 15) dL_text_9 (by decide) ?_
    refine r_iconst (pc := 15) dL_text_15 (inRk rfl) ?_
    exact r_ireturn (pc := 16) (ty := .int) dL_text_16 (by decide +kernel) rfl (nar_i _) h
  · have c8 : k9 = 0 ∨ k9 = 1 ∨ k9 = 2 := by omega
    rcases c8 with rfl | rfl | rfl
    · exact (h8.1 rfl).elim
    · replace h := h8.2.1 rfl
      refine TT.catch9 (x := 1) (i := 3) (h9 := 12) (t9 := 13) (pre := []) (suf := []) (a9 := 0) (b9 := 9) rfl (by decide) (by decide) w_698 wt_713 (fun z hz => nomatch hz) (by decide) (.inr ⟨3, rfl, dL_text_12, rfl⟩) ?_
      change GG _ _ _ [some (vr a0), some (vi x1), some (vr a2), none] _ _ _ _ _
      refine r_iconst (pc := 13) dL_text_13 (inRk rfl) ?_
      exact r_ireturn (pc := 14) (ty := .int) dL_text_14 (by decide +kernel) rfl (nar_i _) h
    · exact (h8.2.2 rfl).elim
theorem C_L_text {a0 : Nat} {x1 : Int} {a2 : Nat} (h : GG E mL_text 0 [some (vr a0), some (vi x1), some (vr a2), none] [] σ 1 6 Q) : CC E mL_text [vr a0, vi x1, vr a2] σ Q := CC.ofH (by decide +kernel) rfl (by decide +kernel) rfl (Nat.le_of_ble_eq_true rfl) h
theorem dL_told_0 : decode cL_told 0 = .ok (.aload_n 2, 1) := by decide +kernel
theorem dL_told_1 : decode cL_told 1 = .ok (.iconst 0, 1) := by decide +kernel
theorem dL_told_2 : decode cL_told 2 = .ok (.aload_n 0, 1) := by decide +kernel
theorem dL_told_3 : decode cL_told 3 = .ok (.iload_n 1, 1) := by decide +kernel
theorem dL_told_4 : decode cL_told 4 = .ok (.invokevirtual 26, 3) := by decide +kernel
theorem dL_told_7 : decode cL_told 7 = .ok (.i2l, 1) := by decide +kernel
theorem dL_told_8 : decode cL_told 8 = .ok (.lastore, 1) := by decide +kernel
theorem dL_told_9 : decode cL_told 9 = .ok (.goto 6, 3) := by decide +kernel
theorem dL_told_12 : decode cL_told 12 = .ok (.astore_n 3, 1) := by decide +kernel
theorem dL_told_13 : decode cL_told 13 = .ok (.iconst 1, 1) := by decide +kernel
theorem dL_told_14 : decode cL_told 14 = .ok (.ireturn, 1) := by decide +kernel
theorem dL_told_15 : decode cL_told 15 = .ok (.iconst 0, 1) := by decide +kernel
theorem dL_told_16 : decode cL_told 16 = .ok (.ireturn, 1) := by decide +kernel
theorem B_L_told_0 {a0 : Nat} {x1 : Int} {a2 : Nat} (h : 1 ≤ rc ∧ 6 ≤ rs ∧ okO σ a0 11 ∧ CC E mX11_told [vr a0, vi x1] σ (KI (fun r1 τ2 => inR r1 → okB 23 τ2 a2 0 ∧ ∀ τ4 : Sg, τ4 = sI τ2 a2 0 r1 → Q (.inl (some (vi 0))) τ4) (fun k9 τ9 => (k9 = 0 → False) ∧ (k9 = 1 → Q (.inl (some (vi 1))) τ9) ∧ (k9 = 2 → False)))) : GG E mL_told 0 [some (vr a0), some (vi x1), some (vr a2), none] [] σ rc rs Q := by
  refine r_aload_n (pc := 0) dL_told_0 rfl rfl ?_
  refine r_iconst (pc := 1) dL_told_1 (inRk rfl) ?_
  refine r_aload_n (pc := 2) dL_told_2 rfl rfl ?_
  refine r_iload_n (pc := 3) dL_told_3 rfl rfl ?_
  refine c_VIAX (M := mL_told) (pc := 4) (As := [vi x1]) dL_told_4 K_X11_told w_969 ⟨by decide, by decide⟩ (Nat.le_of_ble_eq_true rfl) h.1 h.2.1 (ci := 11) rfl rfl (by decide) h.2.2.1 h.2.2.2 (fun r1 τ2 h8 hr9 => ?_) (fun k9 τ9 hk9 h8 => ?_) rfl
  · replace h := h8 hr9
    refine r_i2l (pc := 7) dL_told_7 ?_
    obtain ⟨o3, h⟩ := h
    refine r_lastore (pc := 8) dL_told_8 o3 ?_
    refine nmS (fun τ4 e4 => ?_)
    replace h := h τ4 e4
    refine r_goto (pc := 9) (tgt := 15) dL_told_9 (by decide) ?_
    refine r_iconst (pc := 15) dL_told_15 (inRk rfl) ?_
    exact r_ireturn (pc := 16) (ty := .int) dL_told_16 (by decide +kernel) rfl (nar_i _) h
  · have c8 : k9 = 0 ∨ k9 = 1 ∨ k9 = 2 := by omega
    rcases c8 with rfl | rfl | rfl
    · exact (h8.1 rfl).elim
    · replace h := h8.2.1 rfl
      refine TT.catch9 (x := 1) (i := 3) (h9 := 12) (t9 := 13) (pre := []) (suf := []) (a9 := 0) (b9 := 9) rfl (by decide) (by decide) w_698 wt_713 (fun z hz => nomatch hz) (by decide) (.inr ⟨3, rfl, dL_told_12, rfl⟩) ?_
      change GG _ _ _ [some (vr a0), some (vi x1), some (vr a2), none] _ _ _ _ _
      refine r_iconst (pc := 13) dL_told_13 (inRk rfl) ?_
      exact r_ireturn (pc := 14) (ty := .int) dL_told_14 (by decide +kernel) rfl (nar_i _) h
    · exact (h8.2.2 rfl).elim
theorem C_L_told {a0 : Nat} {x1 : Int} {a2 : Nat} (h : GG E mL_told 0 [some (vr a0), some (vi x1), some (vr a2), none] [] σ 1 6 Q) : CC E mL_told [vr a0, vi x1, vr a2] σ Q := CC.ofH (by decide +kernel) rfl (by decide +kernel) rfl (Nat.le_of_ble_eq_true rfl) h
theorem dL_value_0 : decode cL_value 0 = .ok (.aload_n 3, 1) := by decide +kernel
theorem dL_value_1 : decode cL_value 1 = .ok (.iconst 0, 1) := by decide +kernel
theorem dL_value_2 : decode cL_value 2 = .ok (.aload_n 0, 1) := by decide +kernel
theorem dL_value_3 : decode cL_value 3 = .ok (.iload_n 1, 1) := by decide +kernel
theorem dL_value_4 : decode cL_value 4 = .ok (.iload_n 2, 1) := by decide +kernel
theorem dL_value_5 : decode cL_value 5 = .ok (.invokevirtual 52, 3) := by decide +kernel
theorem dL_value_8 : decode cL_value 8 = .ok (.i2l, 1) := by decide +kernel
theorem dL_value_9 : decode cL_value 9 = .ok (.lastore, 1) := by decide +kernel
theorem dL_value_10 : decode cL_value 10 = .ok (.goto 7, 3) := by decide +kernel
theorem dL_value_13 : decode cL_value 13 = .ok (.astore 4, 2) := by decide +kernel
theorem dL_value_15 : decode cL_value 15 = .ok (.iconst 1, 1) := by decide +kernel
theorem dL_value_16 : decode cL_value 16 = .ok (.ireturn, 1) := by decide +kernel
theorem dL_value_17 : decode cL_value 17 = .ok (.iconst 0, 1) := by decide +kernel
theorem dL_value_18 : decode cL_value 18 = .ok (.ireturn, 1) := by decide +kernel
theorem B_L_value_0 {a0 : Nat} {x1 : Int} {x2 : Int} {a3 : Nat} (h : 2 ≤ rc ∧ 12 ≤ rs ∧ okO σ a0 11 ∧ CC E mX11_value [vr a0, vi x1, vi x2] σ (KI (fun r1 τ2 => inR r1 → okB 23 τ2 a3 0 ∧ ∀ τ4 : Sg, τ4 = sI τ2 a3 0 r1 → Q (.inl (some (vi 0))) τ4) (fun k9 τ9 => (k9 = 0 → Q (.inl (some (vi 1))) τ9) ∧ (k9 = 1 → False) ∧ (k9 = 2 → False)))) : GG E mL_value 0 [some (vr a0), some (vi x1), some (vi x2), some (vr a3), none] [] σ rc rs Q := by
  refine r_aload_n (pc := 0) dL_value_0 rfl rfl ?_
  refine r_iconst (pc := 1) dL_value_1 (inRk rfl) ?_
  refine r_aload_n (pc := 2) dL_value_2 rfl rfl ?_
  refine r_iload_n (pc := 3) dL_value_3 rfl rfl ?_
  refine r_iload_n (pc := 4) dL_value_4 rfl rfl ?_
  refine c_VIAX (M := mL_value) (pc := 5) (As := [vi x1, vi x2]) dL_value_5 K_X11_value w_1199 ⟨by decide, by decide⟩ (Nat.le_of_ble_eq_true rfl) h.1 h.2.1 (ci := 11) rfl rfl (by decide) h.2.2.1 h.2.2.2 (fun r1 τ2 h8 hr9 => ?_) (fun k9 τ9 hk9 h8 => ?_) rfl
  · replace h := h8 hr9
    refine r_i2l (pc := 8) dL_value_8 ?_
    obtain ⟨o3, h⟩ := h
    refine r_lastore (pc := 9) dL_value_9 o3 ?_
    refine nmS (fun τ4 e4 => ?_)
    replace h := h τ4 e4
    refine r_goto (pc := 10) (tgt := 17) dL_value_10 (by decide) ?_
    refine r_iconst (pc := 17) dL_value_17 (inRk rfl) ?_
    exact r_ireturn (pc := 18) (ty := .int) dL_value_18 (by decide +kernel) rfl (nar_i _) h
  · have c8 : k9 = 0 ∨ k9 = 1 ∨ k9 = 2 := by omega
    rcases c8 with rfl | rfl | rfl
    · replace h := h8.1 rfl
      refine TT.catch9 (x := 0) (i := 4) (h9 := 13) (t9 := 24) (pre := []) (suf := []) (a9 := 0) (b9 := 10) rfl (by decide) (by decide) w_941 wt_952 (fun z hz => nomatch hz) (by decide) (.inl ⟨dL_value_13, rfl⟩) ?_
      change GG _ _ _ [some (vr a0), some (vi x1), some (vi x2), some (vr a3), none] _ _ _ _ _
      refine r_iconst (pc := 15) dL_value_15 (inRk rfl) ?_
      exact r_ireturn (pc := 16) (ty := .int) dL_value_16 (by decide +kernel) rfl (nar_i _) h
    · exact (h8.2.1 rfl).elim
    · exact (h8.2.2 rfl).elim
theorem C_L_value {a0 : Nat} {x1 : Int} {x2 : Int} {a3 : Nat} (h : GG E mL_value 0 [some (vr a0), some (vi x1), some (vi x2), some (vr a3), none] [] σ 2 12 Q) : CC E mL_value [vr a0, vi x1, vi x2, vr a3] σ Q := CC.ofH (by decide +kernel) rfl (by decide +kernel) rfl (Nat.le_of_ble_eq_true rfl) h
theorem dL_ways_0 : decode cL_ways 0 = .ok (.aload_n 3, 1) := by decide +kernel
theorem dL_ways_1 : decode cL_ways 1 = .ok (.iconst 0, 1) := by decide +kernel
theorem dL_ways_2 : decode cL_ways 2 = .ok (.aload_n 0, 1) := by decide +kernel
theorem dL_ways_3 : decode cL_ways 3 = .ok (.iload_n 1, 1) := by decide +kernel
theorem dL_ways_4 : decode cL_ways 4 = .ok (.iload_n 2, 1) := by decide +kernel
theorem dL_ways_5 : decode cL_ways 5 = .ok (.invokevirtual 61, 3) := by decide +kernel
theorem dL_ways_8 : decode cL_ways 8 = .ok (.i2l, 1) := by decide +kernel
theorem dL_ways_9 : decode cL_ways 9 = .ok (.lastore, 1) := by decide +kernel
theorem dL_ways_10 : decode cL_ways 10 = .ok (.goto 7, 3) := by decide +kernel
theorem dL_ways_13 : decode cL_ways 13 = .ok (.astore 4, 2) := by decide +kernel
theorem dL_ways_15 : decode cL_ways 15 = .ok (.iconst 1, 1) := by decide +kernel
theorem dL_ways_16 : decode cL_ways 16 = .ok (.ireturn, 1) := by decide +kernel
theorem dL_ways_17 : decode cL_ways 17 = .ok (.iconst 0, 1) := by decide +kernel
theorem dL_ways_18 : decode cL_ways 18 = .ok (.ireturn, 1) := by decide +kernel
theorem B_L_ways_0 {a0 : Nat} {x1 : Int} {x2 : Int} {a3 : Nat} (h : 2 ≤ rc ∧ 12 ≤ rs ∧ okO σ a0 11 ∧ CC E mX11_ways [vr a0, vi x1, vi x2] σ (KI (fun r1 τ2 => inR r1 → okB 23 τ2 a3 0 ∧ ∀ τ4 : Sg, τ4 = sI τ2 a3 0 r1 → Q (.inl (some (vi 0))) τ4) (fun k9 τ9 => (k9 = 0 → Q (.inl (some (vi 1))) τ9) ∧ (k9 = 1 → False) ∧ (k9 = 2 → False)))) : GG E mL_ways 0 [some (vr a0), some (vi x1), some (vi x2), some (vr a3), none] [] σ rc rs Q := by
  refine r_aload_n (pc := 0) dL_ways_0 rfl rfl ?_
  refine r_iconst (pc := 1) dL_ways_1 (inRk rfl) ?_
  refine r_aload_n (pc := 2) dL_ways_2 rfl rfl ?_
  refine r_iload_n (pc := 3) dL_ways_3 rfl rfl ?_
  refine r_iload_n (pc := 4) dL_ways_4 rfl rfl ?_
  refine c_VIAX (M := mL_ways) (pc := 5) (As := [vi x1, vi x2]) dL_ways_5 K_X11_ways w_1225 ⟨by decide, by decide⟩ (Nat.le_of_ble_eq_true rfl) h.1 h.2.1 (ci := 11) rfl rfl (by decide) h.2.2.1 h.2.2.2 (fun r1 τ2 h8 hr9 => ?_) (fun k9 τ9 hk9 h8 => ?_) rfl
  · replace h := h8 hr9
    refine r_i2l (pc := 8) dL_ways_8 ?_
    obtain ⟨o3, h⟩ := h
    refine r_lastore (pc := 9) dL_ways_9 o3 ?_
    refine nmS (fun τ4 e4 => ?_)
    replace h := h τ4 e4
    refine r_goto (pc := 10) (tgt := 17) dL_ways_10 (by decide) ?_
    refine r_iconst (pc := 17) dL_ways_17 (inRk rfl) ?_
    exact r_ireturn (pc := 18) (ty := .int) dL_ways_18 (by decide +kernel) rfl (nar_i _) h
  · have c8 : k9 = 0 ∨ k9 = 1 ∨ k9 = 2 := by omega
    rcases c8 with rfl | rfl | rfl
    · replace h := h8.1 rfl
      refine TT.catch9 (x := 0) (i := 4) (h9 := 13) (t9 := 24) (pre := []) (suf := []) (a9 := 0) (b9 := 10) rfl (by decide) (by decide) w_941 wt_952 (fun z hz => nomatch hz) (by decide) (.inl ⟨dL_ways_13, rfl⟩) ?_
      change GG _ _ _ [some (vr a0), some (vi x1), some (vi x2), some (vr a3), none] _ _ _ _ _
      refine r_iconst (pc := 15) dL_ways_15 (inRk rfl) ?_
      exact r_ireturn (pc := 16) (ty := .int) dL_ways_16 (by decide +kernel) rfl (nar_i _) h
    · exact (h8.2.1 rfl).elim
    · exact (h8.2.2 rfl).elim
theorem C_L_ways {a0 : Nat} {x1 : Int} {x2 : Int} {a3 : Nat} (h : GG E mL_ways 0 [some (vr a0), some (vi x1), some (vi x2), some (vr a3), none] [] σ 2 12 Q) : CC E mL_ways [vr a0, vi x1, vi x2, vr a3] σ Q := CC.ofH (by decide +kernel) rfl (by decide +kernel) rfl (Nat.le_of_ble_eq_true rfl) h
theorem dL_withWays_0 : decode cL_withWays 0 = .ok (.aload_n 2, 1) := by decide +kernel
theorem dL_withWays_1 : decode cL_withWays 1 = .ok (.iconst 0, 1) := by decide +kernel
theorem dL_withWays_2 : decode cL_withWays 2 = .ok (.aload_n 0, 1) := by decide +kernel
theorem dL_withWays_3 : decode cL_withWays 3 = .ok (.iload_n 1, 1) := by decide +kernel
theorem dL_withWays_4 : decode cL_withWays 4 = .ok (.invokevirtual 67, 3) := by decide +kernel
theorem dL_withWays_7 : decode cL_withWays 7 = .ok (.i2l, 1) := by decide +kernel
theorem dL_withWays_8 : decode cL_withWays 8 = .ok (.lastore, 1) := by decide +kernel
theorem dL_withWays_9 : decode cL_withWays 9 = .ok (.goto 6, 3) := by decide +kernel
theorem dL_withWays_12 : decode cL_withWays 12 = .ok (.astore_n 3, 1) := by decide +kernel
theorem dL_withWays_13 : decode cL_withWays 13 = .ok (.iconst 1, 1) := by decide +kernel
theorem dL_withWays_14 : decode cL_withWays 14 = .ok (.ireturn, 1) := by decide +kernel
theorem dL_withWays_15 : decode cL_withWays 15 = .ok (.iconst 0, 1) := by decide +kernel
theorem dL_withWays_16 : decode cL_withWays 16 = .ok (.ireturn, 1) := by decide +kernel
theorem B_L_withWays_0 {a0 : Nat} {x1 : Int} {a2 : Nat} (h : 1 ≤ rc ∧ 6 ≤ rs ∧ okO σ a0 11 ∧ CC E mX11_withWays [vr a0, vi x1] σ (KI (fun r1 τ2 => inR r1 → okB 23 τ2 a2 0 ∧ ∀ τ4 : Sg, τ4 = sI τ2 a2 0 r1 → Q (.inl (some (vi 0))) τ4) (fun k9 τ9 => (k9 = 0 → False) ∧ (k9 = 1 → Q (.inl (some (vi 1))) τ9) ∧ (k9 = 2 → False)))) : GG E mL_withWays 0 [some (vr a0), some (vi x1), some (vr a2), none] [] σ rc rs Q := by
  refine r_aload_n (pc := 0) dL_withWays_0 rfl rfl ?_
  refine r_iconst (pc := 1) dL_withWays_1 (inRk rfl) ?_
  refine r_aload_n (pc := 2) dL_withWays_2 rfl rfl ?_
  refine r_iload_n (pc := 3) dL_withWays_3 rfl rfl ?_
  refine c_VIAX (M := mL_withWays) (pc := 4) (As := [vi x1]) dL_withWays_4 K_X11_withWays w_1239 ⟨by decide, by decide⟩ (Nat.le_of_ble_eq_true rfl) h.1 h.2.1 (ci := 11) rfl rfl (by decide) h.2.2.1 h.2.2.2 (fun r1 τ2 h8 hr9 => ?_) (fun k9 τ9 hk9 h8 => ?_) rfl
  · replace h := h8 hr9
    refine r_i2l (pc := 7) dL_withWays_7 ?_
    obtain ⟨o3, h⟩ := h
    refine r_lastore (pc := 8) dL_withWays_8 o3 ?_
    refine nmS (fun τ4 e4 => ?_)
    replace h := h τ4 e4
    refine r_goto (pc := 9) (tgt := 15) dL_withWays_9 (by decide) ?_
    refine r_iconst (pc := 15) dL_withWays_15 (inRk rfl) ?_
    exact r_ireturn (pc := 16) (ty := .int) dL_withWays_16 (by decide +kernel) rfl (nar_i _) h
  · have c8 : k9 = 0 ∨ k9 = 1 ∨ k9 = 2 := by omega
    rcases c8 with rfl | rfl | rfl
    · exact (h8.1 rfl).elim
    · replace h := h8.2.1 rfl
      refine TT.catch9 (x := 1) (i := 3) (h9 := 12) (t9 := 13) (pre := []) (suf := []) (a9 := 0) (b9 := 9) rfl (by decide) (by decide) w_698 wt_713 (fun z hz => nomatch hz) (by decide) (.inr ⟨3, rfl, dL_withWays_12, rfl⟩) ?_
      change GG _ _ _ [some (vr a0), some (vi x1), some (vr a2), none] _ _ _ _ _
      refine r_iconst (pc := 13) dL_withWays_13 (inRk rfl) ?_
      exact r_ireturn (pc := 14) (ty := .int) dL_withWays_14 (by decide +kernel) rfl (nar_i _) h
    · exact (h8.2.2 rfl).elim
theorem C_L_withWays {a0 : Nat} {x1 : Int} {a2 : Nat} (h : GG E mL_withWays 0 [some (vr a0), some (vi x1), some (vr a2), none] [] σ 1 6 Q) : CC E mL_withWays [vr a0, vi x1, vr a2] σ Q := CC.ofH (by decide +kernel) rfl (by decide +kernel) rfl (Nat.le_of_ble_eq_true rfl) h
end G30
