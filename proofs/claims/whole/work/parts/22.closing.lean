/-! ===== decode rows and trees: 22.closing ===== -/
section G22
variable {E : Ev} {σ : Sg} {rc rs : Nat} {Q : NO → Sg → Prop}
theorem dX10_clear_0 : decode cX10_clear 0 = .ok (.aload_n 0, 1) := by decide +kernel
theorem dX10_clear_1 : decode cX10_clear 1 = .ok (.iconst 0, 1) := by decide +kernel
theorem dX10_clear_2 : decode cX10_clear 2 = .ok (.putfield 15, 3) := by decide +kernel
theorem dX10_clear_5 : decode cX10_clear 5 = .ok (.return_, 1) := by decide +kernel
theorem B_X10_clear_0 {g : Sg} {c t : Nat} (hL : Lay LC g c t σ)  (h : ∀ τ1 : Sg, τ1 = sI σ 17 1 0 → (Lay LC g c t τ1 → Q (.inl none) τ1)) : GG E mX10_clear 0 [some (vr 17)] [] σ rc rs Q := by
  refine r_aload_n (pc := 0) dX10_clear_0 rfl rfl ?_
  refine r_iconst (pc := 1) dX10_clear_1 (inRk rfl) ?_
  refine r_putI (pc := 2) dX10_clear_2 (k9 := 1) CL_10 (by decide) (by decide) w_139 rfl rfl (fun h9 => absurd h9 (by decide +kernel)) (okO_of (N := 2) (hL.sh (i := 1) rfl (by decide) (by decide)) (by decide)) ?_
  refine nmS (fun τ1 e1 => ?_)
  replace h := h τ1 e1
  have hL := hL.wI e1 (by decide) (.inl (by decide))
  exact r_return (pc := 5) dX10_clear_5 (by decide +kernel) rfl (h hL)
theorem C_X10_clear {a0 : Nat} (h : GG E mX10_clear 0 [some (vr a0)] [] σ 0 0 Q) : CC E mX10_clear [vr a0] σ Q := CC.of (by decide +kernel) rfl (by decide +kernel) (fun h9 => nomatch h9) (Nat.le_of_ble_eq_true rfl) h
theorem dX10_hasRoom_0 : decode cX10_hasRoom 0 = .ok (.aload_n 0, 1) := by decide +kernel
theorem dX10_hasRoom_1 : decode cX10_hasRoom 1 = .ok (.getfield 15, 3) := by decide +kernel
theorem dX10_hasRoom_4 : decode cX10_hasRoom 4 = .ok (.bipush 20, 2) := by decide +kernel
theorem dX10_hasRoom_6 : decode cX10_hasRoom 6 = .ok (.iadd, 1) := by decide +kernel
theorem dX10_hasRoom_7 : decode cX10_hasRoom 7 = .ok (.sipush 400, 3) := by decide +kernel
theorem dX10_hasRoom_10 : decode cX10_hasRoom 10 = .ok (.if_icmp .gt 7, 3) := by decide +kernel
theorem dX10_hasRoom_13 : decode cX10_hasRoom 13 = .ok (.iconst 1, 1) := by decide +kernel
theorem dX10_hasRoom_14 : decode cX10_hasRoom 14 = .ok (.goto 4, 3) := by decide +kernel
theorem dX10_hasRoom_17 : decode cX10_hasRoom 17 = .ok (.iconst 0, 1) := by decide +kernel
theorem dX10_hasRoom_18 : decode cX10_hasRoom 18 = .ok (.ireturn, 1) := by decide +kernel
theorem B_X10_hasRoom_0 {g : Sg} {c t : Nat} (hL : Lay LC g c t σ)  (h : inR ((gI σ 17 1) + 20) ∧ ((400 < ((gI σ 17 1) + 20) → (Lay LC g c t σ → Q (.inl (some (vi 0))) σ)) ∧ (¬ (400 < ((gI σ 17 1) + 20)) → (Lay LC g c t σ → Q (.inl (some (vi 1))) σ)))) : GG E mX10_hasRoom 0 [some (vr 17)] [] σ rc rs Q := by
  refine r_aload_n (pc := 0) dX10_hasRoom_0 rfl rfl ?_
  refine r_getI (pc := 1) dX10_hasRoom_1 (k9 := 1) CL_10 (by decide) (by decide) w_139 rfl (okO_of (N := 2) (hL.sh (i := 1) rfl (by decide) (by decide)) (by decide)) (fun _ => ?_)
  refine r_bipush (pc := 4) dX10_hasRoom_4 (by decide) ?_
  obtain ⟨o1, h⟩ := h
  refine r_iadd (pc := 6) dX10_hasRoom_6 o1 ?_
  refine r_sipush (pc := 7) dX10_hasRoom_7 (by decide) ?_
  refine r_icmp_gt (pc := 10) (tgt := 17) dX10_hasRoom_10 (by decide) (fun c9 => ?_) (fun c9 => ?_)
  · replace h := h.1 c9
    refine r_iconst (pc := 17) dX10_hasRoom_17 (inRk rfl) ?_
    exact r_ireturn (pc := 18) (ty := .boolean) dX10_hasRoom_18 (by decide +kernel) rfl (nar_bool (by decide)) (h hL)
  · replace h := h.2 c9
    refine r_iconst (pc := 13) dX10_hasRoom_13 (inRk rfl) ?_
    refine r_goto (pc := 14) (tgt := 18) dX10_hasRoom_14 (by decide) ?_
    exact r_ireturn (pc := 18) (ty := .boolean) dX10_hasRoom_18 (by decide +kernel) rfl (nar_bool (by decide)) (h hL)
theorem C_X10_hasRoom {a0 : Nat} (h : GG E mX10_hasRoom 0 [some (vr a0)] [] σ 0 0 Q) : CC E mX10_hasRoom [vr a0] σ Q := CC.of (by decide +kernel) rfl (by decide +kernel) (fun h9 => nomatch h9) (Nat.le_of_ble_eq_true rfl) h
theorem dX10_init_0 : decode cX10_init 0 = .ok (.aload_n 0, 1) := by decide +kernel
theorem dX10_init_1 : decode cX10_init 1 = .ok (.invokespecial 3, 3) := by decide +kernel
theorem dX10_init_4 : decode cX10_init 4 = .ok (.aload_n 0, 1) := by decide +kernel
theorem dX10_init_5 : decode cX10_init 5 = .ok (.sipush 400, 3) := by decide +kernel
theorem dX10_init_8 : decode cX10_init 8 = .ok (.newarray .byte, 2) := by decide +kernel
theorem dX10_init_10 : decode cX10_init 10 = .ok (.putfield 9, 3) := by decide +kernel
theorem dX10_init_13 : decode cX10_init 13 = .ok (.return_, 1) := by decide +kernel
theorem B_X10_init_0 {a0 : Nat} (h : 16 ≤ a0 ∧ 1 ≤ rc ∧ 400 ≤ rs ∧ ∀ b1 : Nat, b1 = gz σ → okO (nw σ (21, 400)) a0 10 ∧ ∀ τ3 : Sg, τ3 = sR (nw σ (21, 400)) a0 0 b1 → Q (.inl none) τ3) : GG E mX10_init 0 [some (vr a0)] [] σ rc rs Q := by
  refine r_aload_n (pc := 0) dX10_init_0 rfl rfl ?_
  refine r_objInit (pc := 1) dX10_init_1 w_136 w_129 w_130 (by decide) (Nat.le_of_ble_eq_true rfl) h.1 ?_
  replace h := h.2
  refine r_aload_n (pc := 4) dX10_init_4 rfl rfl ?_
  refine r_sipush (pc := 5) dX10_init_5 (by decide) ?_
  refine r_newarray (pc := 8) dX10_init_8 (cc := 21) rfl (by decide) (by decide) w_147 (by decide) (by decide) h.1 h.2.1 ?_
  replace h := h.2.2
  change GG _ _ _ _ (vr _ :: _) (nw _ (21, 400)) (_ - 1) (_ - 400) _
  refine nmR (fun b1 e9 => ?_)
  replace h := h b1 e9
  obtain ⟨o2, h⟩ := h
  refine r_putRF (pc := 10) dX10_init_10 (k9 := 0) CL_10 (by decide) (by decide) w_137 rfl rfl rfl rfl o2 ?_
  refine nmS (fun τ3 e3 => ?_)
  replace h := h τ3 e3
  exact r_return (pc := 13) dX10_init_13 (by decide +kernel) rfl h
theorem C_X10_init {a0 : Nat} (h : GG E mX10_init 0 [some (vr a0)] [] σ 1 400 Q) : CC E mX10_init [vr a0] σ Q := CC.of (by decide +kernel) rfl (by decide +kernel) (fun h9 => rfl) (Nat.le_of_ble_eq_true rfl) h
theorem dX10_take_0 : decode cX10_take 0 = .ok (.bipush 24, 2) := by decide +kernel
theorem dX10_take_2 : decode cX10_take 2 = .ok (.istore_n 2, 1) := by decide +kernel
theorem dX10_take_3 : decode cX10_take 3 = .ok (.iload_n 2, 1) := by decide +kernel
theorem dX10_take_4 : decode cX10_take 4 = .ok (.ifCond .lt 44, 3) := by decide +kernel
theorem dX10_take_7 : decode cX10_take 7 = .ok (.aload_n 0, 1) := by decide +kernel
theorem dX10_take_8 : decode cX10_take 8 = .ok (.getfield 15, 3) := by decide +kernel
theorem dX10_take_11 : decode cX10_take 11 = .ok (.aload_n 0, 1) := by decide +kernel
theorem dX10_take_12 : decode cX10_take 12 = .ok (.getfield 9, 3) := by decide +kernel
theorem dX10_take_15 : decode cX10_take 15 = .ok (.arraylength, 1) := by decide +kernel
theorem dX10_take_16 : decode cX10_take 16 = .ok (.if_icmp .ge 26, 3) := by decide +kernel
theorem dX10_take_19 : decode cX10_take 19 = .ok (.aload_n 0, 1) := by decide +kernel
theorem dX10_take_20 : decode cX10_take 20 = .ok (.getfield 9, 3) := by decide +kernel
theorem dX10_take_23 : decode cX10_take 23 = .ok (.aload_n 0, 1) := by decide +kernel
theorem dX10_take_24 : decode cX10_take 24 = .ok (.getfield 15, 3) := by decide +kernel
theorem dX10_take_27 : decode cX10_take 27 = .ok (.iload_n 1, 1) := by decide +kernel
theorem dX10_take_28 : decode cX10_take 28 = .ok (.iload_n 2, 1) := by decide +kernel
theorem dX10_take_29 : decode cX10_take 29 = .ok (.ishr, 1) := by decide +kernel
theorem dX10_take_30 : decode cX10_take 30 = .ok (.i2b, 1) := by decide +kernel
theorem dX10_take_31 : decode cX10_take 31 = .ok (.bastore, 1) := by decide +kernel
theorem dX10_take_32 : decode cX10_take 32 = .ok (.aload_n 0, 1) := by decide +kernel
theorem dX10_take_33 : decode cX10_take 33 = .ok (.dup, 1) := by decide +kernel
theorem dX10_take_34 : decode cX10_take 34 = .ok (.getfield 15, 3) := by decide +kernel
theorem dX10_take_37 : decode cX10_take 37 = .ok (.iconst 1, 1) := by decide +kernel
theorem dX10_take_38 : decode cX10_take 38 = .ok (.iadd, 1) := by decide +kernel
theorem dX10_take_39 : decode cX10_take 39 = .ok (.putfield 15, 3) := by decide +kernel
theorem dX10_take_42 : decode cX10_take 42 = .ok (.iinc 2 (-8), 3) := by decide +kernel
theorem dX10_take_45 : decode cX10_take 45 = .ok (.goto (-42), 3) := by decide +kernel
theorem dX10_take_48 : decode cX10_take 48 = .ok (.return_, 1) := by decide +kernel
theorem B_X10_take_0 {g : Sg} {c t : Nat} (hL : Lay LC g c t σ) {x1 : Int} (h : (Lay LC g c t σ → GG E mX10_take 3 [some (vr 17), some (vi x1), some (vi 24)] [] σ rc rs Q)) : GG E mX10_take 0 [some (vr 17), some (vi x1), none] [] σ rc rs Q := by
  refine r_bipush (pc := 0) dX10_take_0 (by decide) ?_
  refine r_istore_n (pc := 2) dX10_take_2 rfl (by decide) (l2 := [some (vr 17), some (vi x1), some (vi 24)]) rfl ?_
  exact (h hL)
theorem B_X10_take_3 {g : Sg} {c t : Nat} (hL : Lay LC g c t σ) {x1 : Int} {x2 : Int} (h : ((x2 < 0 → (Lay LC g c t σ → Q (.inl none) σ)) ∧ (¬ (x2 < 0) → ((400 ≤ (gI σ 17 1) → inR (x2 + (-8)) ∧ (Lay LC g c t σ → GG E mX10_take 3 [some (vr 17), some (vi x1), some (vi (x2 + (-8)))] [] σ rc rs Q)) ∧ (¬ (400 ≤ (gI σ 17 1)) → (0 ≤ (gI σ 17 1) ∧ (gI σ 17 1) < 400) ∧ (-128 ≤ (b_i2bq (b_ishrq x1 x2)) ∧ (b_i2bq (b_ishrq x1 x2)) ≤ 127) ∧ ∀ τ4 : Sg, τ4 = sI σ 18 (gI σ 17 1).toNat (b_i2bq (b_ishrq x1 x2)) → inR ((gI τ4 17 1) + 1) ∧ ∀ τ6 : Sg, τ6 = sI τ4 17 1 ((gI τ4 17 1) + 1) → inR (x2 + (-8)) ∧ (Lay LC g c t τ6 → GG E mX10_take 3 [some (vr 17), some (vi x1), some (vi (x2 + (-8)))] [] τ6 rc rs Q)))))) : GG E mX10_take 3 [some (vr 17), some (vi x1), some (vi x2)] [] σ rc rs Q := by
  refine r_iload_n (pc := 3) dX10_take_3 rfl rfl ?_
  refine r_if_lt (pc := 4) (tgt := 48) dX10_take_4 (by decide) (fun c9 => ?_) (fun c9 => ?_)
  · replace h := h.1 c9
    exact r_return (pc := 48) dX10_take_48 (by decide +kernel) rfl (h hL)
  · replace h := h.2 c9
    refine r_aload_n (pc := 7) dX10_take_7 rfl rfl ?_
    refine r_getI (pc := 8) dX10_take_8 (k9 := 1) CL_10 (by decide) (by decide) w_139 rfl (okO_of (N := 2) (hL.sh (i := 1) rfl (by decide) (by decide)) (by decide)) (fun _ => ?_)
    refine r_aload_n (pc := 11) dX10_take_11 rfl rfl ?_
    refine r_getR (pc := 12) dX10_take_12 (k9 := 0) CL_10 (by decide) (by decide) w_137 rfl (okO_of (N := 2) (hL.sh (i := 1) rfl (by decide) (by decide)) (by decide)) ?_
    refine eqR (y := 18) (hL.rf (i := 0) rfl) ?_
    have o8 : okN σ 18 := okN_of (hL.sh (i := 2) rfl (by decide) (by decide)) (by decide) (by decide) (by decide)
    refine r_alen (pc := 15) dX10_take_15 o8.1 o8.2 ?_
    refine eqI (y := 400) (by rw [(hL.sh (i := 2) rfl (by decide) (by decide))] <;> rfl) ?_
    refine r_icmp_ge (pc := 16) (tgt := 42) dX10_take_16 (by decide) (fun c9 => ?_) (fun c9 => ?_)
    · replace h := h.1 c9
      obtain ⟨o1, h⟩ := h
      refine r_iinc (pc := 42) dX10_take_42 rfl (by decide) o1 (l2 := [some (vr 17), some (vi x1), some (vi (x2 + (-8)))]) rfl ?_
      refine r_goto (pc := 45) (tgt := 3) dX10_take_45 (by decide) ?_
      exact (h hL)
    · replace h := h.2 c9
      refine r_aload_n (pc := 19) dX10_take_19 rfl rfl ?_
      refine r_getR (pc := 20) dX10_take_20 (k9 := 0) CL_10 (by decide) (by decide) w_137 rfl (okO_of (N := 2) (hL.sh (i := 1) rfl (by decide) (by decide)) (by decide)) ?_
      refine eqR (y := 18) (hL.rf (i := 0) rfl) ?_
      refine r_aload_n (pc := 23) dX10_take_23 rfl rfl ?_
      refine r_getI (pc := 24) dX10_take_24 (k9 := 1) CL_10 (by decide) (by decide) w_139 rfl (okO_of (N := 2) (hL.sh (i := 1) rfl (by decide) (by decide)) (by decide)) (fun _ => ?_)
      refine r_iload_n (pc := 27) dX10_take_27 rfl rfl ?_
      refine r_iload_n (pc := 28) dX10_take_28 rfl rfl ?_
      refine r_ishr (pc := 29) dX10_take_29 ?_
      refine r_i2b (pc := 30) dX10_take_30 ?_
      obtain ⟨o2, h⟩ := h
      obtain ⟨o3, h⟩ := h
      refine r_bastore (pc := 31) dX10_take_31 (okB_of (c := 21) (n := 400) (hL.sh (i := 2) rfl (by decide) (by decide)) (by decide) o2) o3 ?_
      refine nmS (fun τ4 e4 => ?_)
      replace h := h τ4 e4
      have hL := hL.wI e4 (by decide) (.inl (by decide))
      refine r_aload_n (pc := 32) dX10_take_32 rfl rfl ?_
      refine r_dup (pc := 33) dX10_take_33 (fun _ h9 => nomatch h9) ?_
      refine r_getI (pc := 34) dX10_take_34 (k9 := 1) CL_10 (by decide) (by decide) w_139 rfl (okO_of (N := 2) (hL.sh (i := 1) rfl (by decide) (by decide)) (by decide)) (fun _ => ?_)
      refine r_iconst (pc := 37) dX10_take_37 (inRk rfl) ?_
      obtain ⟨o5, h⟩ := h
      refine r_iadd (pc := 38) dX10_take_38 o5 ?_
      refine r_putI (pc := 39) dX10_take_39 (k9 := 1) CL_10 (by decide) (by decide) w_139 rfl rfl (fun h9 => absurd h9 (by decide +kernel)) (okO_of (N := 2) (hL.sh (i := 1) rfl (by decide) (by decide)) (by decide)) ?_
      refine nmS (fun τ6 e6 => ?_)
      replace h := h τ6 e6
      have hL := hL.wI e6 (by decide) (.inl (by decide))
      obtain ⟨o7, h⟩ := h
      refine r_iinc (pc := 42) dX10_take_42 rfl (by decide) o7 (l2 := [some (vr 17), some (vi x1), some (vi (x2 + (-8)))]) rfl ?_
      refine r_goto (pc := 45) (tgt := 3) dX10_take_45 (by decide) ?_
      exact (h hL)
theorem C_X10_take {a0 : Nat} {x1 : Int} (h : GG E mX10_take 0 [some (vr a0), some (vi x1), none] [] σ 0 0 Q) : CC E mX10_take [vr a0, vi x1] σ Q := CC.of (by decide +kernel) rfl (by decide +kernel) (fun h9 => nomatch h9) (Nat.le_of_ble_eq_true rfl) h
theorem dX1_begin_0 : decode cX1_begin 0 = .ok (.aload_n 0, 1) := by decide +kernel
theorem dX1_begin_1 : decode cX1_begin 1 = .ok (.iload_n 1, 1) := by decide +kernel
theorem dX1_begin_2 : decode cX1_begin 2 = .ok (.putfield 30, 3) := by decide +kernel
theorem dX1_begin_5 : decode cX1_begin 5 = .ok (.aload_n 0, 1) := by decide +kernel
theorem dX1_begin_6 : decode cX1_begin 6 = .ok (.iconst 0, 1) := by decide +kernel
theorem dX1_begin_7 : decode cX1_begin 7 = .ok (.putfield 34, 3) := by decide +kernel
theorem dX1_begin_10 : decode cX1_begin 10 = .ok (.return_, 1) := by decide +kernel
theorem B_X1_begin_0 {g : Sg} {c t : Nat} (hL : Lay LC g c t σ) {a0 : Nat} (qa0 : isCl a0) {x1 : Int} (h : ∀ τ1 : Sg, τ1 = sI σ a0 6 x1 → ∀ τ2 : Sg, τ2 = sI τ1 a0 7 0 → (Lay LC g c t τ2 → Q (.inl none) τ2)) : GG E mX1_begin 0 [some (vr a0), some (vi x1)] [] σ rc rs Q := by
  refine r_aload_n (pc := 0) dX1_begin_0 rfl rfl ?_
  refine r_iload_n (pc := 1) dX1_begin_1 rfl rfl ?_
  refine r_putI (pc := 2) dX1_begin_2 (k9 := 6) CL_1 (by decide) (by decide) w_461 rfl rfl (fun h9 => absurd h9 (by decide +kernel)) (okO_of (ci := 1) (N := 12) (qa0.r hL).1 (qa0.r hL).2.1) ?_
  refine nmS (fun τ1 e1 => ?_)
  replace h := h τ1 e1
  have hL := hL.wI e1 (qa0.b (k := 0) (by decide)).1 (.inl (qa0.b (k := 0) (by decide)).2)
  refine r_aload_n (pc := 5) dX1_begin_5 rfl rfl ?_
  refine r_iconst (pc := 6) dX1_begin_6 (inRk rfl) ?_
  refine r_putI (pc := 7) dX1_begin_7 (k9 := 7) CL_1 (by decide) (by decide) w_466 rfl rfl (fun h9 => absurd h9 (by decide +kernel)) (okO_of (ci := 1) (N := 12) (qa0.r hL).1 (qa0.r hL).2.1) ?_
  refine nmS (fun τ2 e2 => ?_)
  replace h := h τ2 e2
  have hL := hL.wI e2 (qa0.b (k := 0) (by decide)).1 (.inl (qa0.b (k := 0) (by decide)).2)
  exact r_return (pc := 10) dX1_begin_10 (by decide +kernel) rfl (h hL)
theorem C_X1_begin {a0 : Nat} {x1 : Int} (h : GG E mX1_begin 0 [some (vr a0), some (vi x1)] [] σ 0 0 Q) : CC E mX1_begin [vr a0, vi x1] σ Q := CC.of (by decide +kernel) rfl (by decide +kernel) (fun h9 => nomatch h9) (Nat.le_of_ble_eq_true rfl) h
theorem dX1_close_0 : decode cX1_close 0 = .ok (.iconst 0, 1) := by decide +kernel
theorem dX1_close_1 : decode cX1_close 1 = .ok (.istore_n 1, 1) := by decide +kernel
theorem dX1_close_2 : decode cX1_close 2 = .ok (.iload_n 1, 1) := by decide +kernel
theorem dX1_close_3 : decode cX1_close 3 = .ok (.bipush 8, 2) := by decide +kernel
theorem dX1_close_5 : decode cX1_close 5 = .ok (.if_icmp .ge 24, 3) := by decide +kernel
theorem dX1_close_8 : decode cX1_close 8 = .ok (.aload_n 0, 1) := by decide +kernel
theorem dX1_close_9 : decode cX1_close 9 = .ok (.getfield 15, 3) := by decide +kernel
theorem dX1_close_12 : decode cX1_close 12 = .ok (.iload_n 1, 1) := by decide +kernel
theorem dX1_close_13 : decode cX1_close 13 = .ok (.iload_n 1, 1) := by decide +kernel
theorem dX1_close_14 : decode cX1_close 14 = .ok (.ifCond .ne 7, 3) := by decide +kernel
theorem dX1_close_17 : decode cX1_close 17 = .ok (.iconst 4, 1) := by decide +kernel
theorem dX1_close_18 : decode cX1_close 18 = .ok (.goto 4, 3) := by decide +kernel
theorem dX1_close_21 : decode cX1_close 21 = .ok (.iconst 0, 1) := by decide +kernel
theorem dX1_close_22 : decode cX1_close 22 = .ok (.iastore, 1) := by decide +kernel
theorem dX1_close_23 : decode cX1_close 23 = .ok (.iinc 1 1, 3) := by decide +kernel
theorem dX1_close_26 : decode cX1_close 26 = .ok (.goto (-24), 3) := by decide +kernel
theorem dX1_close_29 : decode cX1_close 29 = .ok (.aload_n 0, 1) := by decide +kernel
theorem dX1_close_30 : decode cX1_close 30 = .ok (.iconst 1, 1) := by decide +kernel
theorem dX1_close_31 : decode cX1_close 31 = .ok (.putfield 55, 3) := by decide +kernel
theorem dX1_close_34 : decode cX1_close 34 = .ok (.aload_n 0, 1) := by decide +kernel
theorem dX1_close_35 : decode cX1_close 35 = .ok (.iconst 0, 1) := by decide +kernel
theorem dX1_close_36 : decode cX1_close 36 = .ok (.putfield 58, 3) := by decide +kernel
theorem dX1_close_39 : decode cX1_close 39 = .ok (.iconst 0, 1) := by decide +kernel
theorem dX1_close_40 : decode cX1_close 40 = .ok (.istore_n 1, 1) := by decide +kernel
theorem dX1_close_41 : decode cX1_close 41 = .ok (.iload_n 1, 1) := by decide +kernel
theorem dX1_close_42 : decode cX1_close 42 = .ok (.aload_n 0, 1) := by decide +kernel
theorem dX1_close_43 : decode cX1_close 43 = .ok (.getfield 55, 3) := by decide +kernel
theorem dX1_close_46 : decode cX1_close 46 = .ok (.if_icmp .ge 47, 3) := by decide +kernel
theorem dX1_close_49 : decode cX1_close 49 = .ok (.iload_n 1, 1) := by decide +kernel
theorem dX1_close_50 : decode cX1_close 50 = .ok (.bipush 120, 2) := by decide +kernel
theorem dX1_close_52 : decode cX1_close 52 = .ok (.if_icmp .ge 41, 3) := by decide +kernel
theorem dX1_close_55 : decode cX1_close 55 = .ok (.iconst 0, 1) := by decide +kernel
theorem dX1_close_56 : decode cX1_close 56 = .ok (.istore_n 2, 1) := by decide +kernel
theorem dX1_close_57 : decode cX1_close 57 = .ok (.iload_n 2, 1) := by decide +kernel
theorem dX1_close_58 : decode cX1_close 58 = .ok (.aload_n 0, 1) := by decide +kernel
theorem dX1_close_59 : decode cX1_close 59 = .ok (.getfield 34, 3) := by decide +kernel
theorem dX1_close_62 : decode cX1_close 62 = .ok (.if_icmp .ge 25, 3) := by decide +kernel
theorem dX1_close_65 : decode cX1_close 65 = .ok (.iload_n 2, 1) := by decide +kernel
theorem dX1_close_66 : decode cX1_close 66 = .ok (.iconst 4, 1) := by decide +kernel
theorem dX1_close_67 : decode cX1_close 67 = .ok (.if_icmp .ge 20, 3) := by decide +kernel
theorem dX1_close_70 : decode cX1_close 70 = .ok (.aload_n 0, 1) := by decide +kernel
theorem dX1_close_71 : decode cX1_close 71 = .ok (.iload_n 1, 1) := by decide +kernel
theorem dX1_close_72 : decode cX1_close 72 = .ok (.iload_n 2, 1) := by decide +kernel
theorem dX1_close_73 : decode cX1_close 73 = .ok (.invokevirtual 61, 3) := by decide +kernel
theorem dX1_close_76 : decode cX1_close 76 = .ok (.ifCond .ne 5, 3) := by decide +kernel
theorem dX1_close_79 : decode cX1_close 79 = .ok (.iconst 0, 1) := by decide +kernel
theorem dX1_close_80 : decode cX1_close 80 = .ok (.ireturn, 1) := by decide +kernel
theorem dX1_close_81 : decode cX1_close 81 = .ok (.iinc 2 1, 3) := by decide +kernel
theorem dX1_close_84 : decode cX1_close 84 = .ok (.goto (-27), 3) := by decide +kernel
theorem dX1_close_87 : decode cX1_close 87 = .ok (.iinc 1 1, 3) := by decide +kernel
theorem dX1_close_90 : decode cX1_close 90 = .ok (.goto (-49), 3) := by decide +kernel
theorem dX1_close_93 : decode cX1_close 93 = .ok (.iconst 1, 1) := by decide +kernel
theorem dX1_close_94 : decode cX1_close 94 = .ok (.ireturn, 1) := by decide +kernel
theorem B_X1_close_0 {g : Sg} {c t : Nat} (hL : Lay LC g c t σ) {a0 : Nat} (qa0 : isCl a0) (h : (Lay LC g c t σ → GG E mX1_close 2 [some (vr a0), some (vi 0), none] [] σ rc rs Q)) : GG E mX1_close 0 [some (vr a0), none, none] [] σ rc rs Q := by
  refine r_iconst (pc := 0) dX1_close_0 (inRk rfl) ?_
  refine r_istore_n (pc := 1) dX1_close_1 rfl (by decide) (l2 := [some (vr a0), some (vi 0), none]) rfl ?_
  exact (h hL)
theorem B_X1_close_2 {g : Sg} {c t : Nat} (hL : Lay LC g c t σ) {a0 : Nat} (qa0 : isCl a0) {x1 : Int} (h : ((8 ≤ x1 → ∀ τ1 : Sg, τ1 = sI σ a0 8 1 → ∀ τ2 : Sg, τ2 = sI τ1 a0 9 0 → (Lay LC g c t τ2 → GG E mX1_close 41 [some (vr a0), some (vi 0), none] [] τ2 rc rs Q)) ∧ (¬ (8 ≤ x1) → ((x1 ≠ 0 → (0 ≤ x1 ∧ x1 < 960) ∧ ∀ τ4 : Sg, τ4 = sI σ (a0 + 2) x1.toNat 0 → inR (x1 + 1) ∧ (Lay LC g c t τ4 → GG E mX1_close 2 [some (vr a0), some (vi (x1 + 1)), none] [] τ4 rc rs Q)) ∧ (x1 = 0 → (0 ≤ x1 ∧ x1 < 960) ∧ ∀ τ7 : Sg, τ7 = sI σ (a0 + 2) x1.toNat 4 → inR (x1 + 1) ∧ (Lay LC g c t τ7 → GG E mX1_close 2 [some (vr a0), some (vi (x1 + 1)), none] [] τ7 rc rs Q)))))) : GG E mX1_close 2 [some (vr a0), some (vi x1), none] [] σ rc rs Q := by
  refine r_iload_n (pc := 2) dX1_close_2 rfl rfl ?_
  refine r_bipush (pc := 3) dX1_close_3 (by decide) ?_
  refine r_icmp_ge (pc := 5) (tgt := 29) dX1_close_5 (by decide) (fun c9 => ?_) (fun c9 => ?_)
  · replace h := h.1 c9
    refine r_aload_n (pc := 29) dX1_close_29 rfl rfl ?_
    refine r_iconst (pc := 30) dX1_close_30 (inRk rfl) ?_
    refine r_putI (pc := 31) dX1_close_31 (k9 := 8) CL_1 (by decide) (by decide) w_472 rfl rfl (fun h9 => absurd h9 (by decide +kernel)) (okO_of (ci := 1) (N := 12) (qa0.r hL).1 (qa0.r hL).2.1) ?_
    refine nmS (fun τ1 e1 => ?_)
    replace h := h τ1 e1
    have hL := hL.wI e1 (qa0.b (k := 0) (by decide)).1 (.inl (qa0.b (k := 0) (by decide)).2)
    refine r_aload_n (pc := 34) dX1_close_34 rfl rfl ?_
    refine r_iconst (pc := 35) dX1_close_35 (inRk rfl) ?_
    refine r_putI (pc := 36) dX1_close_36 (k9 := 9) CL_1 (by decide) (by decide) w_473 rfl rfl (fun h9 => absurd h9 (by decide +kernel)) (okO_of (ci := 1) (N := 12) (qa0.r hL).1 (qa0.r hL).2.1) ?_
    refine nmS (fun τ2 e2 => ?_)
    replace h := h τ2 e2
    have hL := hL.wI e2 (qa0.b (k := 0) (by decide)).1 (.inl (qa0.b (k := 0) (by decide)).2)
    refine r_iconst (pc := 39) dX1_close_39 (inRk rfl) ?_
    refine r_istore_n (pc := 40) dX1_close_40 rfl (by decide) (l2 := [some (vr a0), some (vi 0), none]) rfl ?_
    exact (h hL)
  · replace h := h.2 c9
    refine r_aload_n (pc := 8) dX1_close_8 rfl rfl ?_
    refine r_getR (pc := 9) dX1_close_9 (k9 := 1) CL_1 (by decide) (by decide) w_450 rfl (okO_of (ci := 1) (N := 12) (qa0.r hL).1 (qa0.r hL).2.1) ?_
    refine eqR (y := a0 + 2) (qa0.f hL (k := 1) (by decide)) ?_
    refine r_iload_n (pc := 12) dX1_close_12 rfl rfl ?_
    refine r_iload_n (pc := 13) dX1_close_13 rfl rfl ?_
    refine r_if_ne (pc := 14) (tgt := 21) dX1_close_14 (by decide) (fun c9 => ?_) (fun c9 => ?_)
    · replace h := h.1 c9
      refine r_iconst (pc := 21) dX1_close_21 (inRk rfl) ?_
      obtain ⟨o3, h⟩ := h
      refine r_iastore (pc := 22) dX1_close_22 (okB_of (c := 20) (n := 960) (qa0.s hL (k := 1) (by decide)) (qa0.b (k := 2) (by decide)).1 o3) ?_
      refine nmS (fun τ4 e4 => ?_)
      replace h := h τ4 e4
      have hL := hL.wI e4 (qa0.b (k := 2) (by decide)).1 (.inl (qa0.b (k := 2) (by decide)).2)
      obtain ⟨o5, h⟩ := h
      refine r_iinc (pc := 23) dX1_close_23 rfl (by decide) o5 (l2 := [some (vr a0), some (vi (x1 + 1)), none]) rfl ?_
      refine r_goto (pc := 26) (tgt := 2) dX1_close_26 (by decide) ?_
      exact (h hL)
    · replace h := h.2 c9
      refine r_iconst (pc := 17) dX1_close_17 (inRk rfl) ?_
      refine r_goto (pc := 18) (tgt := 22) dX1_close_18 (by decide) ?_
      obtain ⟨o6, h⟩ := h
      refine r_iastore (pc := 22) dX1_close_22 (okB_of (c := 20) (n := 960) (qa0.s hL (k := 1) (by decide)) (qa0.b (k := 2) (by decide)).1 o6) ?_
      refine nmS (fun τ7 e7 => ?_)
      replace h := h τ7 e7
      have hL := hL.wI e7 (qa0.b (k := 2) (by decide)).1 (.inl (qa0.b (k := 2) (by decide)).2)
      obtain ⟨o8, h⟩ := h
      refine r_iinc (pc := 23) dX1_close_23 rfl (by decide) o8 (l2 := [some (vr a0), some (vi (x1 + 1)), none]) rfl ?_
      refine r_goto (pc := 26) (tgt := 2) dX1_close_26 (by decide) ?_
      exact (h hL)
theorem B_X1_close_41 {g : Sg} {c t : Nat} (hL : Lay LC g c t σ) {a0 : Nat} (qa0 : isCl a0) {x1 : Int} (h : (((gI σ a0 8) ≤ x1 → (Lay LC g c t σ → Q (.inl (some (vi 1))) σ)) ∧ (¬ ((gI σ a0 8) ≤ x1) → ((120 ≤ x1 → (Lay LC g c t σ → Q (.inl (some (vi 1))) σ)) ∧ (¬ (120 ≤ x1) → (Lay LC g c t σ → GG E mX1_close 57 [some (vr a0), some (vi x1), some (vi 0)] [] σ rc rs Q)))))) : GG E mX1_close 41 [some (vr a0), some (vi x1), none] [] σ rc rs Q := by
  refine r_iload_n (pc := 41) dX1_close_41 rfl rfl ?_
  refine r_aload_n (pc := 42) dX1_close_42 rfl rfl ?_
  refine r_getI (pc := 43) dX1_close_43 (k9 := 8) CL_1 (by decide) (by decide) w_472 rfl (okO_of (ci := 1) (N := 12) (qa0.r hL).1 (qa0.r hL).2.1) (fun _ => ?_)
  refine r_icmp_ge (pc := 46) (tgt := 93) dX1_close_46 (by decide) (fun c9 => ?_) (fun c9 => ?_)
  · replace h := h.1 c9
    refine r_iconst (pc := 93) dX1_close_93 (inRk rfl) ?_
    exact r_ireturn (pc := 94) (ty := .boolean) dX1_close_94 (by decide +kernel) rfl (nar_bool (by decide)) (h hL)
  · replace h := h.2 c9
    refine r_iload_n (pc := 49) dX1_close_49 rfl rfl ?_
    refine r_bipush (pc := 50) dX1_close_50 (by decide) ?_
    refine r_icmp_ge (pc := 52) (tgt := 93) dX1_close_52 (by decide) (fun c9 => ?_) (fun c9 => ?_)
    · replace h := h.1 c9
      refine r_iconst (pc := 93) dX1_close_93 (inRk rfl) ?_
      exact r_ireturn (pc := 94) (ty := .boolean) dX1_close_94 (by decide +kernel) rfl (nar_bool (by decide)) (h hL)
    · replace h := h.2 c9
      refine r_iconst (pc := 55) dX1_close_55 (inRk rfl) ?_
      refine r_istore_n (pc := 56) dX1_close_56 rfl (by decide) (l2 := [some (vr a0), some (vi x1), some (vi 0)]) rfl ?_
      exact (h hL)
theorem B_X1_close_57 {g : Sg} {c t : Nat} (hL : Lay LC g c t σ) {a0 : Nat} (qa0 : isCl a0) {x1 : Int} {x2 : Int} (h : (((gI σ a0 7) ≤ x2 → inR (x1 + 1) ∧ (Lay LC g c t σ → GG E mX1_close 41 [some (vr a0), some (vi (x1 + 1)), none] [] σ rc rs Q)) ∧ (¬ ((gI σ a0 7) ≤ x2) → ((4 ≤ x2 → inR (x1 + 1) ∧ (Lay LC g c t σ → GG E mX1_close 41 [some (vr a0), some (vi (x1 + 1)), none] [] σ rc rs Q)) ∧ (¬ (4 ≤ x2) → (Lay LC g c t σ → CC E mX1_step [vr a0, vi x1, vi x2] σ (KI (fun r3 τ4 => Lay LC g c t τ4 ∧ (inR r3 → ((r3 ≠ 0 → inR (x2 + 1) ∧ (Lay LC g c t τ4 → GG E mX1_close 57 [some (vr a0), some (vi x1), some (vi (x2 + 1))] [] τ4 rc rs Q)) ∧ (r3 = 0 → (Lay LC g c t τ4 → Q (.inl (some (vi 0))) τ4))))) (fun _ _ => False)))))))) : GG E mX1_close 57 [some (vr a0), some (vi x1), some (vi x2)] [] σ rc rs Q := by
  refine r_iload_n (pc := 57) dX1_close_57 rfl rfl ?_
  refine r_aload_n (pc := 58) dX1_close_58 rfl rfl ?_
  refine r_getI (pc := 59) dX1_close_59 (k9 := 7) CL_1 (by decide) (by decide) w_466 rfl (okO_of (ci := 1) (N := 12) (qa0.r hL).1 (qa0.r hL).2.1) (fun _ => ?_)
  refine r_icmp_ge (pc := 62) (tgt := 87) dX1_close_62 (by decide) (fun c9 => ?_) (fun c9 => ?_)
  · replace h := h.1 c9
    obtain ⟨o1, h⟩ := h
    refine r_iinc (pc := 87) dX1_close_87 rfl (by decide) o1 (l2 := [some (vr a0), some (vi (x1 + 1)), some (vi x2)]) rfl ?_
    refine r_goto (pc := 90) (tgt := 41) dX1_close_90 (by decide) ?_
    exact GG.msk [true, true, false] (h hL)
  · replace h := h.2 c9
    refine r_iload_n (pc := 65) dX1_close_65 rfl rfl ?_
    refine r_iconst (pc := 66) dX1_close_66 (inRk rfl) ?_
    refine r_icmp_ge (pc := 67) (tgt := 87) dX1_close_67 (by decide) (fun c9 => ?_) (fun c9 => ?_)
    · replace h := h.1 c9
      obtain ⟨o2, h⟩ := h
      refine r_iinc (pc := 87) dX1_close_87 rfl (by decide) o2 (l2 := [some (vr a0), some (vi (x1 + 1)), some (vi x2)]) rfl ?_
      refine r_goto (pc := 90) (tgt := 41) dX1_close_90 (by decide) ?_
      exact GG.msk [true, true, false] (h hL)
    · replace h := h.2 c9
      refine r_aload_n (pc := 70) dX1_close_70 rfl rfl ?_
      refine r_iload_n (pc := 71) dX1_close_71 rfl rfl ?_
      refine r_iload_n (pc := 72) dX1_close_72 rfl rfl ?_
      refine c_VI0N (M := mX1_close) (pc := 73) (As := [vi x1, vi x2]) dX1_close_73 K_X1_step w_512 ⟨by decide, by decide⟩ (Nat.le_of_ble_eq_true rfl) rfl rfl (ci := 1) rfl rfl (by decide) (okO_of (ci := 1) (N := 12) (qa0.r hL).1 (qa0.r hL).2.1) (h hL) (fun r3 τ4 h8 hr9 => ?_) rfl
      replace hL := h8.1
      replace h := h8.2 hr9
      refine r_if_ne (pc := 76) (tgt := 81) dX1_close_76 (by decide) (fun c9 => ?_) (fun c9 => ?_)
      · replace h := h.1 c9
        obtain ⟨o5, h⟩ := h
        refine r_iinc (pc := 81) dX1_close_81 rfl (by decide) o5 (l2 := [some (vr a0), some (vi x1), some (vi (x2 + 1))]) rfl ?_
        refine r_goto (pc := 84) (tgt := 57) dX1_close_84 (by decide) ?_
        exact (h hL)
      · replace h := h.2 c9
        refine r_iconst (pc := 79) dX1_close_79 (inRk rfl) ?_
        exact r_ireturn (pc := 80) (ty := .boolean) dX1_close_80 (by decide +kernel) rfl (nar_bool (by decide)) (h hL)
theorem C_X1_close {a0 : Nat} (h : GG E mX1_close 0 [some (vr a0), none, none] [] σ 0 0 Q) : CC E mX1_close [vr a0] σ Q := CC.of (by decide +kernel) rfl (by decide +kernel) (fun h9 => nomatch h9) (Nat.le_of_ble_eq_true rfl) h
theorem dX1_copyTold_0 : decode cX1_copyTold 0 = .ok (.aload_n 0, 1) := by decide +kernel
theorem dX1_copyTold_1 : decode cX1_copyTold 1 = .ok (.aload_n 1, 1) := by decide +kernel
theorem dX1_copyTold_2 : decode cX1_copyTold 2 = .ok (.getfield 30, 3) := by decide +kernel
theorem dX1_copyTold_5 : decode cX1_copyTold 5 = .ok (.invokevirtual 37, 3) := by decide +kernel
theorem dX1_copyTold_8 : decode cX1_copyTold 8 = .ok (.iconst 0, 1) := by decide +kernel
theorem dX1_copyTold_9 : decode cX1_copyTold 9 = .ok (.istore_n 2, 1) := by decide +kernel
theorem dX1_copyTold_10 : decode cX1_copyTold 10 = .ok (.iload_n 2, 1) := by decide +kernel
theorem dX1_copyTold_11 : decode cX1_copyTold 11 = .ok (.aload_n 1, 1) := by decide +kernel
theorem dX1_copyTold_12 : decode cX1_copyTold 12 = .ok (.getfield 34, 3) := by decide +kernel
theorem dX1_copyTold_15 : decode cX1_copyTold 15 = .ok (.if_icmp .ge 26, 3) := by decide +kernel
theorem dX1_copyTold_18 : decode cX1_copyTold 18 = .ok (.iload_n 2, 1) := by decide +kernel
theorem dX1_copyTold_19 : decode cX1_copyTold 19 = .ok (.iconst 4, 1) := by decide +kernel
theorem dX1_copyTold_20 : decode cX1_copyTold 20 = .ok (.if_icmp .ge 21, 3) := by decide +kernel
theorem dX1_copyTold_23 : decode cX1_copyTold 23 = .ok (.aload_n 0, 1) := by decide +kernel
theorem dX1_copyTold_24 : decode cX1_copyTold 24 = .ok (.aload_n 1, 1) := by decide +kernel
theorem dX1_copyTold_25 : decode cX1_copyTold 25 = .ok (.getfield 9, 3) := by decide +kernel
theorem dX1_copyTold_28 : decode cX1_copyTold 28 = .ok (.iload_n 2, 1) := by decide +kernel
theorem dX1_copyTold_29 : decode cX1_copyTold 29 = .ok (.bipush 8, 2) := by decide +kernel
theorem dX1_copyTold_31 : decode cX1_copyTold 31 = .ok (.imul, 1) := by decide +kernel
theorem dX1_copyTold_32 : decode cX1_copyTold 32 = .ok (.invokevirtual 41, 3) := by decide +kernel
theorem dX1_copyTold_35 : decode cX1_copyTold 35 = .ok (.iinc 2 1, 3) := by decide +kernel
theorem dX1_copyTold_38 : decode cX1_copyTold 38 = .ok (.goto (-28), 3) := by decide +kernel
theorem dX1_copyTold_41 : decode cX1_copyTold 41 = .ok (.return_, 1) := by decide +kernel
theorem B_X1_copyTold_0 {g : Sg} {c t : Nat} (hL : Lay LC g c t σ) {a0 : Nat} (qa0 : isCl a0) {a1 : Nat} (qa1 : isCl a1) (h : (Lay LC g c t σ → CC E mX1_begin [vr a0, vi (gI σ a1 6)] σ (KV (fun τ2 => Lay LC g c t τ2 ∧ (Lay LC g c t τ2 → GG E mX1_copyTold 10 [some (vr a0), some (vr a1), some (vi 0)] [] τ2 rc rs Q)) (fun _ _ => False)))) : GG E mX1_copyTold 0 [some (vr a0), some (vr a1), none] [] σ rc rs Q := by
  refine r_aload_n (pc := 0) dX1_copyTold_0 rfl rfl ?_
  refine r_aload_n (pc := 1) dX1_copyTold_1 rfl rfl ?_
  refine r_getI (pc := 2) dX1_copyTold_2 (k9 := 6) CL_1 (by decide) (by decide) w_461 rfl (okO_of (ci := 1) (N := 12) (qa1.r hL).1 (qa1.r hL).2.1) (fun _ => ?_)
  refine c_VV0N (M := mX1_copyTold) (pc := 5) (As := [vi (gI σ a1 6)]) dX1_copyTold_5 K_X1_begin w_925 ⟨by decide, by decide⟩ (Nat.le_of_ble_eq_true rfl) rfl rfl (ci := 1) rfl rfl (by decide) (okO_of (ci := 1) (N := 12) (qa0.r hL).1 (qa0.r hL).2.1) (h hL) (fun τ2 h8 => ?_) rfl
  replace hL := h8.1
  replace h := h8.2
  refine r_iconst (pc := 8) dX1_copyTold_8 (inRk rfl) ?_
  refine r_istore_n (pc := 9) dX1_copyTold_9 rfl (by decide) (l2 := [some (vr a0), some (vr a1), some (vi 0)]) rfl ?_
  exact (h hL)
theorem B_X1_copyTold_10 {g : Sg} {c t : Nat} (hL : Lay LC g c t σ) {a0 : Nat} (qa0 : isCl a0) {a1 : Nat} (qa1 : isCl a1) {x2 : Int} (h : (((gI σ a1 7) ≤ x2 → (Lay LC g c t σ → Q (.inl none) σ)) ∧ (¬ ((gI σ a1 7) ≤ x2) → ((4 ≤ x2 → (Lay LC g c t σ → Q (.inl none) σ)) ∧ (¬ (4 ≤ x2) → inR (x2 * 8) ∧ (Lay LC g c t σ → CC E mX1_tell [vr a0, vr (a1 + 1), vi (x2 * 8)] σ (KV (fun τ3 => Lay LC g c t τ3 ∧ inR (x2 + 1) ∧ (Lay LC g c t τ3 → GG E mX1_copyTold 10 [some (vr a0), some (vr a1), some (vi (x2 + 1))] [] τ3 rc rs Q)) (fun _ _ => False)))))))) : GG E mX1_copyTold 10 [some (vr a0), some (vr a1), some (vi x2)] [] σ rc rs Q := by
  refine r_iload_n (pc := 10) dX1_copyTold_10 rfl rfl ?_
  refine r_aload_n (pc := 11) dX1_copyTold_11 rfl rfl ?_
  refine r_getI (pc := 12) dX1_copyTold_12 (k9 := 7) CL_1 (by decide) (by decide) w_466 rfl (okO_of (ci := 1) (N := 12) (qa1.r hL).1 (qa1.r hL).2.1) (fun _ => ?_)
  refine r_icmp_ge (pc := 15) (tgt := 41) dX1_copyTold_15 (by decide) (fun c9 => ?_) (fun c9 => ?_)
  · replace h := h.1 c9
    exact r_return (pc := 41) dX1_copyTold_41 (by decide +kernel) rfl (h hL)
  · replace h := h.2 c9
    refine r_iload_n (pc := 18) dX1_copyTold_18 rfl rfl ?_
    refine r_iconst (pc := 19) dX1_copyTold_19 (inRk rfl) ?_
    refine r_icmp_ge (pc := 20) (tgt := 41) dX1_copyTold_20 (by decide) (fun c9 => ?_) (fun c9 => ?_)
    · replace h := h.1 c9
      exact r_return (pc := 41) dX1_copyTold_41 (by decide +kernel) rfl (h hL)
    · replace h := h.2 c9
      refine r_aload_n (pc := 23) dX1_copyTold_23 rfl rfl ?_
      refine r_aload_n (pc := 24) dX1_copyTold_24 rfl rfl ?_
      refine r_getR (pc := 25) dX1_copyTold_25 (k9 := 0) CL_1 (by decide) (by decide) w_447 rfl (okO_of (ci := 1) (N := 12) (qa1.r hL).1 (qa1.r hL).2.1) ?_
      refine eqR (y := a1 + 1) (qa1.f hL (k := 0) (by decide)) ?_
      refine r_iload_n (pc := 28) dX1_copyTold_28 rfl rfl ?_
      refine r_bipush (pc := 29) dX1_copyTold_29 (by decide) ?_
      obtain ⟨o1, h⟩ := h
      refine r_imul (pc := 31) dX1_copyTold_31 o1 ?_
      refine c_VV0N (M := mX1_copyTold) (pc := 32) (As := [vr (a1 + 1), vi (x2 * 8)]) dX1_copyTold_32 K_X1_tell w_926 ⟨by decide, by decide⟩ (Nat.le_of_ble_eq_true rfl) rfl rfl (ci := 1) rfl rfl (by decide) (okO_of (ci := 1) (N := 12) (qa0.r hL).1 (qa0.r hL).2.1) (h hL) (fun τ3 h8 => ?_) rfl
      replace hL := h8.1
      replace h := h8.2
      obtain ⟨o4, h⟩ := h
      refine r_iinc (pc := 35) dX1_copyTold_35 rfl (by decide) o4 (l2 := [some (vr a0), some (vr a1), some (vi (x2 + 1))]) rfl ?_
      refine r_goto (pc := 38) (tgt := 10) dX1_copyTold_38 (by decide) ?_
      exact (h hL)
theorem C_X1_copyTold {a0 : Nat} {a1 : Nat} (h : GG E mX1_copyTold 0 [some (vr a0), some (vr a1), none] [] σ 0 0 Q) : CC E mX1_copyTold [vr a0, vr a1] σ Q := CC.of (by decide +kernel) rfl (by decide +kernel) (fun h9 => nomatch h9) (Nat.le_of_ble_eq_true rfl) h
theorem dX1_fail_0 : decode cX1_fail 0 = .ok (.aload_n 0, 1) := by decide +kernel
theorem dX1_fail_1 : decode cX1_fail 1 = .ok (.iload_n 1, 1) := by decide +kernel
theorem dX1_fail_2 : decode cX1_fail 2 = .ok (.putfield 58, 3) := by decide +kernel
theorem dX1_fail_5 : decode cX1_fail 5 = .ok (.aload_n 0, 1) := by decide +kernel
theorem dX1_fail_6 : decode cX1_fail 6 = .ok (.iload_n 2, 1) := by decide +kernel
theorem dX1_fail_7 : decode cX1_fail 7 = .ok (.putfield 84, 3) := by decide +kernel
theorem dX1_fail_10 : decode cX1_fail 10 = .ok (.aload_n 0, 1) := by decide +kernel
theorem dX1_fail_11 : decode cX1_fail 11 = .ok (.iload_n 3, 1) := by decide +kernel
theorem dX1_fail_12 : decode cX1_fail 12 = .ok (.putfield 87, 3) := by decide +kernel
theorem dX1_fail_15 : decode cX1_fail 15 = .ok (.iconst 0, 1) := by decide +kernel
theorem dX1_fail_16 : decode cX1_fail 16 = .ok (.ireturn, 1) := by decide +kernel
theorem B_X1_fail_0 {g : Sg} {c t : Nat} (hL : Lay LC g c t σ) {a0 : Nat} (qa0 : isCl a0) {x1 : Int} {x2 : Int} {x3 : Int} (h : ∀ τ1 : Sg, τ1 = sI σ a0 9 x1 → ∀ τ2 : Sg, τ2 = sI τ1 a0 10 x2 → ∀ τ3 : Sg, τ3 = sI τ2 a0 11 x3 → (Lay LC g c t τ3 → Q (.inl (some (vi 0))) τ3)) : GG E mX1_fail 0 [some (vr a0), some (vi x1), some (vi x2), some (vi x3)] [] σ rc rs Q := by
  refine r_aload_n (pc := 0) dX1_fail_0 rfl rfl ?_
  refine r_iload_n (pc := 1) dX1_fail_1 rfl rfl ?_
  refine r_putI (pc := 2) dX1_fail_2 (k9 := 9) CL_1 (by decide) (by decide) w_473 rfl rfl (fun h9 => absurd h9 (by decide +kernel)) (okO_of (ci := 1) (N := 12) (qa0.r hL).1 (qa0.r hL).2.1) ?_
  refine nmS (fun τ1 e1 => ?_)
  replace h := h τ1 e1
  have hL := hL.wI e1 (qa0.b (k := 0) (by decide)).1 (.inl (qa0.b (k := 0) (by decide)).2)
  refine r_aload_n (pc := 5) dX1_fail_5 rfl rfl ?_
  refine r_iload_n (pc := 6) dX1_fail_6 rfl rfl ?_
  refine r_putI (pc := 7) dX1_fail_7 (k9 := 10) CL_1 (by decide) (by decide) w_475 rfl rfl (fun h9 => absurd h9 (by decide +kernel)) (okO_of (ci := 1) (N := 12) (qa0.r hL).1 (qa0.r hL).2.1) ?_
  refine nmS (fun τ2 e2 => ?_)
  replace h := h τ2 e2
  have hL := hL.wI e2 (qa0.b (k := 0) (by decide)).1 (.inl (qa0.b (k := 0) (by decide)).2)
  refine r_aload_n (pc := 10) dX1_fail_10 rfl rfl ?_
  refine r_iload_n (pc := 11) dX1_fail_11 rfl rfl ?_
  refine r_putI (pc := 12) dX1_fail_12 (k9 := 11) CL_1 (by decide) (by decide) w_477 rfl rfl (fun h9 => absurd h9 (by decide +kernel)) (okO_of (ci := 1) (N := 12) (qa0.r hL).1 (qa0.r hL).2.1) ?_
  refine nmS (fun τ3 e3 => ?_)
  replace h := h τ3 e3
  have hL := hL.wI e3 (qa0.b (k := 0) (by decide)).1 (.inl (qa0.b (k := 0) (by decide)).2)
  refine r_iconst (pc := 15) dX1_fail_15 (inRk rfl) ?_
  exact r_ireturn (pc := 16) (ty := .boolean) dX1_fail_16 (by decide +kernel) rfl (nar_bool (by decide)) (h hL)
theorem C_X1_fail {a0 : Nat} {x1 : Int} {x2 : Int} {x3 : Int} (h : GG E mX1_fail 0 [some (vr a0), some (vi x1), some (vi x2), some (vi x3)] [] σ 0 0 Q) : CC E mX1_fail [vr a0, vi x1, vi x2, vi x3] σ Q := CC.of (by decide +kernel) rfl (by decide +kernel) (fun h9 => nomatch h9) (Nat.le_of_ble_eq_true rfl) h
theorem dX1_holdsTurn_0 : decode cX1_holdsTurn 0 = .ok (.iload_n 1, 1) := by decide +kernel
theorem dX1_holdsTurn_1 : decode cX1_holdsTurn 1 = .ok (.ifCond .lt 16, 3) := by decide +kernel
theorem dX1_holdsTurn_4 : decode cX1_holdsTurn 4 = .ok (.iload_n 1, 1) := by decide +kernel
theorem dX1_holdsTurn_5 : decode cX1_holdsTurn 5 = .ok (.bipush 8, 2) := by decide +kernel
theorem dX1_holdsTurn_7 : decode cX1_holdsTurn 7 = .ok (.iadd, 1) := by decide +kernel
theorem dX1_holdsTurn_8 : decode cX1_holdsTurn 8 = .ok (.aload_n 0, 1) := by decide +kernel
theorem dX1_holdsTurn_9 : decode cX1_holdsTurn 9 = .ok (.arraylength, 1) := by decide +kernel
theorem dX1_holdsTurn_10 : decode cX1_holdsTurn 10 = .ok (.if_icmp .gt 7, 3) := by decide +kernel
theorem dX1_holdsTurn_13 : decode cX1_holdsTurn 13 = .ok (.iconst 1, 1) := by decide +kernel
theorem dX1_holdsTurn_14 : decode cX1_holdsTurn 14 = .ok (.goto 4, 3) := by decide +kernel
theorem dX1_holdsTurn_17 : decode cX1_holdsTurn 17 = .ok (.iconst 0, 1) := by decide +kernel
theorem dX1_holdsTurn_18 : decode cX1_holdsTurn 18 = .ok (.ireturn, 1) := by decide +kernel
theorem B_X1_holdsTurn_0 {a0 : Nat} {x1 : Int} (h : ((x1 < 0 → Q (.inl (some (vi 0))) σ) ∧ (¬ (x1 < 0) → inR (x1 + 8) ∧ okN σ a0 ∧ ((((gS σ a0).2 : Int) < (x1 + 8) → Q (.inl (some (vi 0))) σ) ∧ (¬ (((gS σ a0).2 : Int) < (x1 + 8)) → Q (.inl (some (vi 1))) σ))))) : GG E mX1_holdsTurn 0 [some (vr a0), some (vi x1)] [] σ rc rs Q := by
  refine r_iload_n (pc := 0) dX1_holdsTurn_0 rfl rfl ?_
  refine r_if_lt (pc := 1) (tgt := 17) dX1_holdsTurn_1 (by decide) (fun c9 => ?_) (fun c9 => ?_)
  · replace h := h.1 c9
    refine r_iconst (pc := 17) dX1_holdsTurn_17 (inRk rfl) ?_
    exact r_ireturn (pc := 18) (ty := .boolean) dX1_holdsTurn_18 (by decide +kernel) rfl (nar_bool (by decide)) h
  · replace h := h.2 c9
    refine r_iload_n (pc := 4) dX1_holdsTurn_4 rfl rfl ?_
    refine r_bipush (pc := 5) dX1_holdsTurn_5 (by decide) ?_
    obtain ⟨o1, h⟩ := h
    refine r_iadd (pc := 7) dX1_holdsTurn_7 o1 ?_
    refine r_aload_n (pc := 8) dX1_holdsTurn_8 rfl rfl ?_
    obtain ⟨o2, h⟩ := h
    refine r_alen (pc := 9) dX1_holdsTurn_9 o2.1 o2.2 ?_
    refine r_icmp_gt (pc := 10) (tgt := 17) dX1_holdsTurn_10 (by decide) (fun c9 => ?_) (fun c9 => ?_)
    · replace h := h.1 c9
      refine r_iconst (pc := 17) dX1_holdsTurn_17 (inRk rfl) ?_
      exact r_ireturn (pc := 18) (ty := .boolean) dX1_holdsTurn_18 (by decide +kernel) rfl (nar_bool (by decide)) h
    · replace h := h.2 c9
      refine r_iconst (pc := 13) dX1_holdsTurn_13 (inRk rfl) ?_
      refine r_goto (pc := 14) (tgt := 18) dX1_holdsTurn_14 (by decide) ?_
      exact r_ireturn (pc := 18) (ty := .boolean) dX1_holdsTurn_18 (by decide +kernel) rfl (nar_bool (by decide)) h
theorem C_X1_holdsTurn {a0 : Nat} {x1 : Int} (h : GG E mX1_holdsTurn 0 [some (vr a0), some (vi x1)] [] σ 0 0 Q) : CC E mX1_holdsTurn [vr a0, vi x1] σ Q := CC.of (by decide +kernel) rfl (by decide +kernel) (fun h9 => nomatch h9) (Nat.le_of_ble_eq_true rfl) h
theorem dX1_init_0 : decode cX1_init 0 = .ok (.aload_n 0, 1) := by decide +kernel
theorem dX1_init_1 : decode cX1_init 1 = .ok (.invokespecial 3, 3) := by decide +kernel
theorem dX1_init_4 : decode cX1_init 4 = .ok (.aload_n 0, 1) := by decide +kernel
theorem dX1_init_5 : decode cX1_init 5 = .ok (.bipush 32, 2) := by decide +kernel
theorem dX1_init_7 : decode cX1_init 7 = .ok (.newarray .int, 2) := by decide +kernel
theorem dX1_init_9 : decode cX1_init 9 = .ok (.putfield 9, 3) := by decide +kernel
theorem dX1_init_12 : decode cX1_init 12 = .ok (.aload_n 0, 1) := by decide +kernel
theorem dX1_init_13 : decode cX1_init 13 = .ok (.sipush 960, 3) := by decide +kernel
theorem dX1_init_16 : decode cX1_init 16 = .ok (.newarray .int, 2) := by decide +kernel
theorem dX1_init_18 : decode cX1_init 18 = .ok (.putfield 15, 3) := by decide +kernel
theorem dX1_init_21 : decode cX1_init 21 = .ok (.aload_n 0, 1) := by decide +kernel
theorem dX1_init_22 : decode cX1_init 22 = .ok (.sipush 480, 3) := by decide +kernel
theorem dX1_init_25 : decode cX1_init 25 = .ok (.newarray .int, 2) := by decide +kernel
theorem dX1_init_27 : decode cX1_init 27 = .ok (.putfield 18, 3) := by decide +kernel
theorem dX1_init_30 : decode cX1_init 30 = .ok (.aload_n 0, 1) := by decide +kernel
theorem dX1_init_31 : decode cX1_init 31 = .ok (.bipush 120, 2) := by decide +kernel
theorem dX1_init_33 : decode cX1_init 33 = .ok (.newarray .int, 2) := by decide +kernel
theorem dX1_init_35 : decode cX1_init 35 = .ok (.putfield 21, 3) := by decide +kernel
theorem dX1_init_38 : decode cX1_init 38 = .ok (.aload_n 0, 1) := by decide +kernel
theorem dX1_init_39 : decode cX1_init 39 = .ok (.bipush 120, 2) := by decide +kernel
theorem dX1_init_41 : decode cX1_init 41 = .ok (.newarray .int, 2) := by decide +kernel
theorem dX1_init_43 : decode cX1_init 43 = .ok (.putfield 24, 3) := by decide +kernel
theorem dX1_init_46 : decode cX1_init 46 = .ok (.aload_n 0, 1) := by decide +kernel
theorem dX1_init_47 : decode cX1_init 47 = .ok (.bipush 8, 2) := by decide +kernel
theorem dX1_init_49 : decode cX1_init 49 = .ok (.newarray .int, 2) := by decide +kernel
theorem dX1_init_51 : decode cX1_init 51 = .ok (.putfield 27, 3) := by decide +kernel
theorem dX1_init_54 : decode cX1_init 54 = .ok (.aload_n 0, 1) := by decide +kernel
theorem dX1_init_55 : decode cX1_init 55 = .ok (.iconst 2, 1) := by decide +kernel
theorem dX1_init_56 : decode cX1_init 56 = .ok (.putfield 30, 3) := by decide +kernel
theorem dX1_init_59 : decode cX1_init 59 = .ok (.return_, 1) := by decide +kernel
theorem B_X1_init_0 {a0 : Nat} (h : 16 ≤ a0 ∧ 1 ≤ rc ∧ 32 ≤ rs ∧ ∀ b1 : Nat, b1 = gz σ → okO (nw σ (20, 32)) a0 1 ∧ ∀ τ3 : Sg, τ3 = sR (nw σ (20, 32)) a0 0 b1 → 1 ≤ rc - 1 ∧ 960 ≤ rs - 32 ∧ ∀ b4 : Nat, b4 = gz τ3 → okO (nw τ3 (20, 960)) a0 1 ∧ ∀ τ6 : Sg, τ6 = sR (nw τ3 (20, 960)) a0 1 b4 → 1 ≤ rc - 1 - 1 ∧ 480 ≤ rs - 32 - 960 ∧ ∀ b7 : Nat, b7 = gz τ6 → okO (nw τ6 (20, 480)) a0 1 ∧ ∀ τ9 : Sg, τ9 = sR (nw τ6 (20, 480)) a0 2 b7 → 1 ≤ rc - 1 - 1 - 1 ∧ 120 ≤ rs - 32 - 960 - 480 ∧ ∀ b10 : Nat, b10 = gz τ9 → okO (nw τ9 (20, 120)) a0 1 ∧ ∀ τ12 : Sg, τ12 = sR (nw τ9 (20, 120)) a0 3 b10 → 1 ≤ rc - 1 - 1 - 1 - 1 ∧ 120 ≤ rs - 32 - 960 - 480 - 120 ∧ ∀ b13 : Nat, b13 = gz τ12 → okO (nw τ12 (20, 120)) a0 1 ∧ ∀ τ15 : Sg, τ15 = sR (nw τ12 (20, 120)) a0 4 b13 → 1 ≤ rc - 1 - 1 - 1 - 1 - 1 ∧ 8 ≤ rs - 32 - 960 - 480 - 120 - 120 ∧ ∀ b16 : Nat, b16 = gz τ15 → okO (nw τ15 (20, 8)) a0 1 ∧ ∀ τ18 : Sg, τ18 = sR (nw τ15 (20, 8)) a0 5 b16 → okO τ18 a0 1 ∧ ∀ τ20 : Sg, τ20 = sI τ18 a0 6 2 → Q (.inl none) τ20) : GG E mX1_init 0 [some (vr a0)] [] σ rc rs Q := by
  refine r_aload_n (pc := 0) dX1_init_0 rfl rfl ?_
  refine r_objInit (pc := 1) dX1_init_1 w_446 w_129 w_130 (by decide) (Nat.le_of_ble_eq_true rfl) h.1 ?_
  replace h := h.2
  refine r_aload_n (pc := 4) dX1_init_4 rfl rfl ?_
  refine r_bipush (pc := 5) dX1_init_5 (by decide) ?_
  refine r_newarray (pc := 7) dX1_init_7 (cc := 20) rfl (by decide) (by decide) w_175 (by decide) (by decide) h.1 h.2.1 ?_
  replace h := h.2.2
  change GG _ _ _ _ (vr _ :: _) (nw _ (20, 32)) (_ - 1) (_ - 32) _
  refine nmR (fun b1 e9 => ?_)
  replace h := h b1 e9
  obtain ⟨o2, h⟩ := h
  refine r_putRF (pc := 9) dX1_init_9 (k9 := 0) CL_1 (by decide) (by decide) w_447 rfl rfl rfl rfl o2 ?_
  refine nmS (fun τ3 e3 => ?_)
  replace h := h τ3 e3
  refine r_aload_n (pc := 12) dX1_init_12 rfl rfl ?_
  refine r_sipush (pc := 13) dX1_init_13 (by decide) ?_
  refine r_newarray (pc := 16) dX1_init_16 (cc := 20) rfl (by decide) (by decide) w_175 (by decide) (by decide) h.1 h.2.1 ?_
  replace h := h.2.2
  change GG _ _ _ _ (vr _ :: _) (nw _ (20, 960)) (_ - 1) (_ - 960) _
  refine nmR (fun b4 e9 => ?_)
  replace h := h b4 e9
  obtain ⟨o5, h⟩ := h
  refine r_putRF (pc := 18) dX1_init_18 (k9 := 1) CL_1 (by decide) (by decide) w_450 rfl rfl rfl rfl o5 ?_
  refine nmS (fun τ6 e6 => ?_)
  replace h := h τ6 e6
  refine r_aload_n (pc := 21) dX1_init_21 rfl rfl ?_
  refine r_sipush (pc := 22) dX1_init_22 (by decide) ?_
  refine r_newarray (pc := 25) dX1_init_25 (cc := 20) rfl (by decide) (by decide) w_175 (by decide) (by decide) h.1 h.2.1 ?_
  replace h := h.2.2
  change GG _ _ _ _ (vr _ :: _) (nw _ (20, 480)) (_ - 1) (_ - 480) _
  refine nmR (fun b7 e9 => ?_)
  replace h := h b7 e9
  obtain ⟨o8, h⟩ := h
  refine r_putRF (pc := 27) dX1_init_27 (k9 := 2) CL_1 (by decide) (by decide) w_454 rfl rfl rfl rfl o8 ?_
  refine nmS (fun τ9 e9 => ?_)
  replace h := h τ9 e9
  refine r_aload_n (pc := 30) dX1_init_30 rfl rfl ?_
  refine r_bipush (pc := 31) dX1_init_31 (by decide) ?_
  refine r_newarray (pc := 33) dX1_init_33 (cc := 20) rfl (by decide) (by decide) w_175 (by decide) (by decide) h.1 h.2.1 ?_
  replace h := h.2.2
  change GG _ _ _ _ (vr _ :: _) (nw _ (20, 120)) (_ - 1) (_ - 120) _
  refine nmR (fun b10 e9 => ?_)
  replace h := h b10 e9
  obtain ⟨o11, h⟩ := h
  refine r_putRF (pc := 35) dX1_init_35 (k9 := 3) CL_1 (by decide) (by decide) w_456 rfl rfl rfl rfl o11 ?_
  refine nmS (fun τ12 e12 => ?_)
  replace h := h τ12 e12
  refine r_aload_n (pc := 38) dX1_init_38 rfl rfl ?_
  refine r_bipush (pc := 39) dX1_init_39 (by decide) ?_
  refine r_newarray (pc := 41) dX1_init_41 (cc := 20) rfl (by decide) (by decide) w_175 (by decide) (by decide) h.1 h.2.1 ?_
  replace h := h.2.2
  change GG _ _ _ _ (vr _ :: _) (nw _ (20, 120)) (_ - 1) (_ - 120) _
  refine nmR (fun b13 e9 => ?_)
  replace h := h b13 e9
  obtain ⟨o14, h⟩ := h
  refine r_putRF (pc := 43) dX1_init_43 (k9 := 4) CL_1 (by decide) (by decide) w_458 rfl rfl rfl rfl o14 ?_
  refine nmS (fun τ15 e15 => ?_)
  replace h := h τ15 e15
  refine r_aload_n (pc := 46) dX1_init_46 rfl rfl ?_
  refine r_bipush (pc := 47) dX1_init_47 (by decide) ?_
  refine r_newarray (pc := 49) dX1_init_49 (cc := 20) rfl (by decide) (by decide) w_175 (by decide) (by decide) h.1 h.2.1 ?_
  replace h := h.2.2
  change GG _ _ _ _ (vr _ :: _) (nw _ (20, 8)) (_ - 1) (_ - 8) _
  refine nmR (fun b16 e9 => ?_)
  replace h := h b16 e9
  obtain ⟨o17, h⟩ := h
  refine r_putRF (pc := 51) dX1_init_51 (k9 := 5) CL_1 (by decide) (by decide) w_460 rfl rfl rfl rfl o17 ?_
  refine nmS (fun τ18 e18 => ?_)
  replace h := h τ18 e18
  refine r_aload_n (pc := 54) dX1_init_54 rfl rfl ?_
  refine r_iconst (pc := 55) dX1_init_55 (inRk rfl) ?_
  obtain ⟨o19, h⟩ := h
  refine r_putI (pc := 56) dX1_init_56 (k9 := 6) CL_1 (by decide) (by decide) w_461 rfl rfl (fun h9 => absurd h9 (by decide +kernel)) o19 ?_
  refine nmS (fun τ20 e20 => ?_)
  replace h := h τ20 e20
  exact r_return (pc := 59) dX1_init_59 (by decide +kernel) rfl h
theorem C_X1_init {a0 : Nat} (h : GG E mX1_init 0 [some (vr a0)] [] σ 6 1720 Q) : CC E mX1_init [vr a0] σ Q := CC.of (by decide +kernel) rfl (by decide +kernel) (fun h9 => rfl) (Nat.le_of_ble_eq_true rfl) h
theorem dX1_isSame_0 : decode cX1_isSame 0 = .ok (.iload_n 1, 1) := by decide +kernel
theorem dX1_isSame_1 : decode cX1_isSame 1 = .ok (.ifCond .lt 22, 3) := by decide +kernel
theorem dX1_isSame_4 : decode cX1_isSame 4 = .ok (.iload_n 1, 1) := by decide +kernel
theorem dX1_isSame_5 : decode cX1_isSame 5 = .ok (.bipush 8, 2) := by decide +kernel
theorem dX1_isSame_7 : decode cX1_isSame 7 = .ok (.iadd, 1) := by decide +kernel
theorem dX1_isSame_8 : decode cX1_isSame 8 = .ok (.aload_n 0, 1) := by decide +kernel
theorem dX1_isSame_9 : decode cX1_isSame 9 = .ok (.getfield 15, 3) := by decide +kernel
theorem dX1_isSame_12 : decode cX1_isSame 12 = .ok (.arraylength, 1) := by decide +kernel
theorem dX1_isSame_13 : decode cX1_isSame 13 = .ok (.if_icmp .gt 10, 3) := by decide +kernel
theorem dX1_isSame_16 : decode cX1_isSame 16 = .ok (.aload_n 2, 1) := by decide +kernel
theorem dX1_isSame_17 : decode cX1_isSame 17 = .ok (.arraylength, 1) := by decide +kernel
theorem dX1_isSame_18 : decode cX1_isSame 18 = .ok (.bipush 8, 2) := by decide +kernel
theorem dX1_isSame_20 : decode cX1_isSame 20 = .ok (.if_icmp .ge 5, 3) := by decide +kernel
theorem dX1_isSame_23 : decode cX1_isSame 23 = .ok (.iconst 0, 1) := by decide +kernel
theorem dX1_isSame_24 : decode cX1_isSame 24 = .ok (.ireturn, 1) := by decide +kernel
theorem dX1_isSame_25 : decode cX1_isSame 25 = .ok (.iconst 0, 1) := by decide +kernel
theorem dX1_isSame_26 : decode cX1_isSame 26 = .ok (.istore_n 3, 1) := by decide +kernel
theorem dX1_isSame_27 : decode cX1_isSame 27 = .ok (.iload_n 3, 1) := by decide +kernel
theorem dX1_isSame_28 : decode cX1_isSame 28 = .ok (.bipush 8, 2) := by decide +kernel
theorem dX1_isSame_30 : decode cX1_isSame 30 = .ok (.if_icmp .ge 25, 3) := by decide +kernel
theorem dX1_isSame_33 : decode cX1_isSame 33 = .ok (.aload_n 0, 1) := by decide +kernel
theorem dX1_isSame_34 : decode cX1_isSame 34 = .ok (.getfield 15, 3) := by decide +kernel
theorem dX1_isSame_37 : decode cX1_isSame 37 = .ok (.iload_n 1, 1) := by decide +kernel
theorem dX1_isSame_38 : decode cX1_isSame 38 = .ok (.iload_n 3, 1) := by decide +kernel
theorem dX1_isSame_39 : decode cX1_isSame 39 = .ok (.iadd, 1) := by decide +kernel
theorem dX1_isSame_40 : decode cX1_isSame 40 = .ok (.iaload, 1) := by decide +kernel
theorem dX1_isSame_41 : decode cX1_isSame 41 = .ok (.aload_n 2, 1) := by decide +kernel
theorem dX1_isSame_42 : decode cX1_isSame 42 = .ok (.iload_n 3, 1) := by decide +kernel
theorem dX1_isSame_43 : decode cX1_isSame 43 = .ok (.iaload, 1) := by decide +kernel
theorem dX1_isSame_44 : decode cX1_isSame 44 = .ok (.if_icmp .eq 5, 3) := by decide +kernel
theorem dX1_isSame_47 : decode cX1_isSame 47 = .ok (.iconst 0, 1) := by decide +kernel
theorem dX1_isSame_48 : decode cX1_isSame 48 = .ok (.ireturn, 1) := by decide +kernel
theorem dX1_isSame_49 : decode cX1_isSame 49 = .ok (.iinc 3 1, 3) := by decide +kernel
theorem dX1_isSame_52 : decode cX1_isSame 52 = .ok (.goto (-25), 3) := by decide +kernel
theorem dX1_isSame_55 : decode cX1_isSame 55 = .ok (.iconst 1, 1) := by decide +kernel
theorem dX1_isSame_56 : decode cX1_isSame 56 = .ok (.ireturn, 1) := by decide +kernel
theorem B_X1_isSame_0 {g : Sg} {c t : Nat} (hL : Lay LC g c t σ) {a0 : Nat} (qa0 : isCl a0) {x1 : Int} {a2 : Nat} {n2 : Nat} (p2 : PA LC a2 n2) (h : ((x1 < 0 → (Lay LC g c t σ → Q (.inl (some (vi 0))) σ)) ∧ (¬ (x1 < 0) → inR (x1 + 8) ∧ ((960 < (x1 + 8) → (Lay LC g c t σ → Q (.inl (some (vi 0))) σ)) ∧ (¬ (960 < (x1 + 8)) → n2 ≤ 2147483647 ∧ ((8 ≤ (n2 : Int) → (Lay LC g c t σ → GG E mX1_isSame 27 [some (vr a0), some (vi x1), some (vr a2), some (vi 0)] [] σ rc rs Q)) ∧ (¬ (8 ≤ (n2 : Int)) → (Lay LC g c t σ → Q (.inl (some (vi 0))) σ)))))))) : GG E mX1_isSame 0 [some (vr a0), some (vi x1), some (vr a2), none] [] σ rc rs Q := by
  refine r_iload_n (pc := 0) dX1_isSame_0 rfl rfl ?_
  refine r_if_lt (pc := 1) (tgt := 23) dX1_isSame_1 (by decide) (fun c9 => ?_) (fun c9 => ?_)
  · replace h := h.1 c9
    refine r_iconst (pc := 23) dX1_isSame_23 (inRk rfl) ?_
    exact r_ireturn (pc := 24) (ty := .boolean) dX1_isSame_24 (by decide +kernel) rfl (nar_bool (by decide)) (h hL)
  · replace h := h.2 c9
    refine r_iload_n (pc := 4) dX1_isSame_4 rfl rfl ?_
    refine r_bipush (pc := 5) dX1_isSame_5 (by decide) ?_
    obtain ⟨o1, h⟩ := h
    refine r_iadd (pc := 7) dX1_isSame_7 o1 ?_
    refine r_aload_n (pc := 8) dX1_isSame_8 rfl rfl ?_
    refine r_getR (pc := 9) dX1_isSame_9 (k9 := 1) CL_1 (by decide) (by decide) w_450 rfl (okO_of (ci := 1) (N := 12) (qa0.r hL).1 (qa0.r hL).2.1) ?_
    refine eqR (y := a0 + 2) (qa0.f hL (k := 1) (by decide)) ?_
    have o4 : okN σ (a0 + 2) := okN_of (qa0.s hL (k := 1) (by decide)) (qa0.b (k := 2) (by decide)).1 (by decide) (by decide)
    refine r_alen (pc := 12) dX1_isSame_12 o4.1 o4.2 ?_
    refine eqI (y := 960) (by rw [(qa0.s hL (k := 1) (by decide))] <;> rfl) ?_
    refine r_icmp_gt (pc := 13) (tgt := 23) dX1_isSame_13 (by decide) (fun c9 => ?_) (fun c9 => ?_)
    · replace h := h.1 c9
      refine r_iconst (pc := 23) dX1_isSame_23 (inRk rfl) ?_
      exact r_ireturn (pc := 24) (ty := .boolean) dX1_isSame_24 (by decide +kernel) rfl (nar_bool (by decide)) (h hL)
    · replace h := h.2 c9
      refine r_aload_n (pc := 16) dX1_isSame_16 rfl rfl ?_
      obtain ⟨o2, h⟩ := h
      have o3 : okN σ a2 := okN_of (p2.sh hL) p2.2.2.1 (by decide) o2
      refine r_alen (pc := 17) dX1_isSame_17 o3.1 o3.2 ?_
      refine eqI (y := (n2 : Int)) (by rw [(p2.sh hL)] <;> rfl) ?_
      refine r_bipush (pc := 18) dX1_isSame_18 (by decide) ?_
      refine r_icmp_ge (pc := 20) (tgt := 25) dX1_isSame_20 (by decide) (fun c9 => ?_) (fun c9 => ?_)
      · replace h := h.1 c9
        refine r_iconst (pc := 25) dX1_isSame_25 (inRk rfl) ?_
        refine r_istore_n (pc := 26) dX1_isSame_26 rfl (by decide) (l2 := [some (vr a0), some (vi x1), some (vr a2), some (vi 0)]) rfl ?_
        exact (h hL)
      · replace h := h.2 c9
        refine r_iconst (pc := 23) dX1_isSame_23 (inRk rfl) ?_
        exact r_ireturn (pc := 24) (ty := .boolean) dX1_isSame_24 (by decide +kernel) rfl (nar_bool (by decide)) (h hL)
theorem B_X1_isSame_27 {g : Sg} {c t : Nat} (hL : Lay LC g c t σ) {a0 : Nat} (qa0 : isCl a0) {x1 : Int} {a2 : Nat} {n2 : Nat} (p2 : PA LC a2 n2) {x3 : Int} (h : ((8 ≤ x3 → (Lay LC g c t σ → Q (.inl (some (vi 1))) σ)) ∧ (¬ (8 ≤ x3) → inR (x1 + x3) ∧ (0 ≤ (x1 + x3) ∧ (x1 + x3) < 960) ∧ (0 ≤ x3 ∧ x3 < (n2 : Int)) ∧ (((gI σ (a0 + 2) (x1 + x3).toNat) = (gI σ a2 x3.toNat) → inR (x3 + 1) ∧ (Lay LC g c t σ → GG E mX1_isSame 27 [some (vr a0), some (vi x1), some (vr a2), some (vi (x3 + 1))] [] σ rc rs Q)) ∧ (¬ ((gI σ (a0 + 2) (x1 + x3).toNat) = (gI σ a2 x3.toNat)) → (Lay LC g c t σ → Q (.inl (some (vi 0))) σ)))))) : GG E mX1_isSame 27 [some (vr a0), some (vi x1), some (vr a2), some (vi x3)] [] σ rc rs Q := by
  refine r_iload_n (pc := 27) dX1_isSame_27 rfl rfl ?_
  refine r_bipush (pc := 28) dX1_isSame_28 (by decide) ?_
  refine r_icmp_ge (pc := 30) (tgt := 55) dX1_isSame_30 (by decide) (fun c9 => ?_) (fun c9 => ?_)
  · replace h := h.1 c9
    refine r_iconst (pc := 55) dX1_isSame_55 (inRk rfl) ?_
    exact r_ireturn (pc := 56) (ty := .boolean) dX1_isSame_56 (by decide +kernel) rfl (nar_bool (by decide)) (h hL)
  · replace h := h.2 c9
    refine r_aload_n (pc := 33) dX1_isSame_33 rfl rfl ?_
    refine r_getR (pc := 34) dX1_isSame_34 (k9 := 1) CL_1 (by decide) (by decide) w_450 rfl (okO_of (ci := 1) (N := 12) (qa0.r hL).1 (qa0.r hL).2.1) ?_
    refine eqR (y := a0 + 2) (qa0.f hL (k := 1) (by decide)) ?_
    refine r_iload_n (pc := 37) dX1_isSame_37 rfl rfl ?_
    refine r_iload_n (pc := 38) dX1_isSame_38 rfl rfl ?_
    obtain ⟨o1, h⟩ := h
    refine r_iadd (pc := 39) dX1_isSame_39 o1 ?_
    obtain ⟨o2, h⟩ := h
    refine r_iaload (pc := 40) dX1_isSame_40 (okA_of (c := 20) (n := 960) (qa0.s hL (k := 1) (by decide)) (qa0.b (k := 2) (by decide)).1 o2) ?_
    refine r_aload_n (pc := 41) dX1_isSame_41 rfl rfl ?_
    refine r_iload_n (pc := 42) dX1_isSame_42 rfl rfl ?_
    obtain ⟨o3, h⟩ := h
    refine r_iaload (pc := 43) dX1_isSame_43 (okA_of (c := 20) (n := n2) (p2.sh hL) p2.2.2.1 o3) ?_
    refine r_icmp_eq (pc := 44) (tgt := 49) dX1_isSame_44 (by decide) (fun c9 => ?_) (fun c9 => ?_)
    · replace h := h.1 c9
      obtain ⟨o4, h⟩ := h
      refine r_iinc (pc := 49) dX1_isSame_49 rfl (by decide) o4 (l2 := [some (vr a0), some (vi x1), some (vr a2), some (vi (x3 + 1))]) rfl ?_
      refine r_goto (pc := 52) (tgt := 27) dX1_isSame_52 (by decide) ?_
      exact (h hL)
    · replace h := h.2 c9
      refine r_iconst (pc := 47) dX1_isSame_47 (inRk rfl) ?_
      exact r_ireturn (pc := 48) (ty := .boolean) dX1_isSame_48 (by decide +kernel) rfl (nar_bool (by decide)) (h hL)
theorem C_X1_isSame {a0 : Nat} {x1 : Int} {a2 : Nat} (h : GG E mX1_isSame 0 [some (vr a0), some (vi x1), some (vr a2), none] [] σ 0 0 Q) : CC E mX1_isSame [vr a0, vi x1, vr a2] σ Q := CC.of (by decide +kernel) rfl (by decide +kernel) (fun h9 => nomatch h9) (Nat.le_of_ble_eq_true rfl) h
theorem dX1_multiply_0 : decode cX1_multiply 0 = .ok (.aload_n 0, 1) := by decide +kernel
theorem dX1_multiply_1 : decode cX1_multiply 1 = .ok (.getfield 15, 3) := by decide +kernel
theorem dX1_multiply_4 : decode cX1_multiply 4 = .ok (.iload_n 1, 1) := by decide +kernel
theorem dX1_multiply_5 : decode cX1_multiply 5 = .ok (.invokestatic 45, 3) := by decide +kernel
theorem dX1_multiply_8 : decode cX1_multiply 8 = .ok (.ifCond .eq 14, 3) := by decide +kernel
theorem dX1_multiply_11 : decode cX1_multiply 11 = .ok (.aload_n 0, 1) := by decide +kernel
theorem dX1_multiply_12 : decode cX1_multiply 12 = .ok (.getfield 9, 3) := by decide +kernel
theorem dX1_multiply_15 : decode cX1_multiply 15 = .ok (.iload_n 2, 1) := by decide +kernel
theorem dX1_multiply_16 : decode cX1_multiply 16 = .ok (.invokestatic 45, 3) := by decide +kernel
theorem dX1_multiply_19 : decode cX1_multiply 19 = .ok (.ifCond .ne 5, 3) := by decide +kernel
theorem dX1_multiply_22 : decode cX1_multiply 22 = .ok (.iconst 0, 1) := by decide +kernel
theorem dX1_multiply_23 : decode cX1_multiply 23 = .ok (.ireturn, 1) := by decide +kernel
theorem dX1_multiply_24 : decode cX1_multiply 24 = .ok (.iconst 0, 1) := by decide +kernel
theorem dX1_multiply_25 : decode cX1_multiply 25 = .ok (.istore_n 3, 1) := by decide +kernel
theorem dX1_multiply_26 : decode cX1_multiply 26 = .ok (.iload_n 3, 1) := by decide +kernel
theorem dX1_multiply_27 : decode cX1_multiply 27 = .ok (.iconst 4, 1) := by decide +kernel
theorem dX1_multiply_28 : decode cX1_multiply 28 = .ok (.if_icmp .ge 187, 3) := by decide +kernel
theorem dX1_multiply_31 : decode cX1_multiply 31 = .ok (.iconst 0, 1) := by decide +kernel
theorem dX1_multiply_32 : decode cX1_multiply 32 = .ok (.istore 4, 2) := by decide +kernel
theorem dX1_multiply_34 : decode cX1_multiply 34 = .ok (.iconst 0, 1) := by decide +kernel
theorem dX1_multiply_35 : decode cX1_multiply 35 = .ok (.istore 5, 2) := by decide +kernel
theorem dX1_multiply_37 : decode cX1_multiply 37 = .ok (.iconst 0, 1) := by decide +kernel
theorem dX1_multiply_38 : decode cX1_multiply 38 = .ok (.istore 6, 2) := by decide +kernel
theorem dX1_multiply_40 : decode cX1_multiply 40 = .ok (.iload 6, 2) := by decide +kernel
theorem dX1_multiply_42 : decode cX1_multiply 42 = .ok (.iconst 4, 1) := by decide +kernel
theorem dX1_multiply_43 : decode cX1_multiply 43 = .ok (.if_icmp .ge 124, 3) := by decide +kernel
theorem dX1_multiply_46 : decode cX1_multiply 46 = .ok (.aload_n 0, 1) := by decide +kernel
theorem dX1_multiply_47 : decode cX1_multiply 47 = .ok (.getfield 15, 3) := by decide +kernel
theorem dX1_multiply_50 : decode cX1_multiply 50 = .ok (.iload_n 1, 1) := by decide +kernel
theorem dX1_multiply_51 : decode cX1_multiply 51 = .ok (.iconst 2, 1) := by decide +kernel
theorem dX1_multiply_52 : decode cX1_multiply 52 = .ok (.iload 6, 2) := by decide +kernel
theorem dX1_multiply_54 : decode cX1_multiply 54 = .ok (.imul, 1) := by decide +kernel
theorem dX1_multiply_55 : decode cX1_multiply 55 = .ok (.iadd, 1) := by decide +kernel
theorem dX1_multiply_56 : decode cX1_multiply 56 = .ok (.iaload, 1) := by decide +kernel
theorem dX1_multiply_57 : decode cX1_multiply 57 = .ok (.istore 7, 2) := by decide +kernel
theorem dX1_multiply_59 : decode cX1_multiply 59 = .ok (.aload_n 0, 1) := by decide +kernel
theorem dX1_multiply_60 : decode cX1_multiply 60 = .ok (.getfield 15, 3) := by decide +kernel
theorem dX1_multiply_63 : decode cX1_multiply 63 = .ok (.iload_n 1, 1) := by decide +kernel
theorem dX1_multiply_64 : decode cX1_multiply 64 = .ok (.iconst 2, 1) := by decide +kernel
theorem dX1_multiply_65 : decode cX1_multiply 65 = .ok (.iload 6, 2) := by decide +kernel
theorem dX1_multiply_67 : decode cX1_multiply 67 = .ok (.imul, 1) := by decide +kernel
theorem dX1_multiply_68 : decode cX1_multiply 68 = .ok (.iadd, 1) := by decide +kernel
theorem dX1_multiply_69 : decode cX1_multiply 69 = .ok (.iconst 1, 1) := by decide +kernel
theorem dX1_multiply_70 : decode cX1_multiply 70 = .ok (.iadd, 1) := by decide +kernel
theorem dX1_multiply_71 : decode cX1_multiply 71 = .ok (.iaload, 1) := by decide +kernel
theorem dX1_multiply_72 : decode cX1_multiply 72 = .ok (.istore 8, 2) := by decide +kernel
theorem dX1_multiply_74 : decode cX1_multiply 74 = .ok (.aload_n 0, 1) := by decide +kernel
theorem dX1_multiply_75 : decode cX1_multiply 75 = .ok (.getfield 9, 3) := by decide +kernel
theorem dX1_multiply_78 : decode cX1_multiply 78 = .ok (.iload_n 2, 1) := by decide +kernel
theorem dX1_multiply_79 : decode cX1_multiply 79 = .ok (.iconst 2, 1) := by decide +kernel
theorem dX1_multiply_80 : decode cX1_multiply 80 = .ok (.iload 6, 2) := by decide +kernel
theorem dX1_multiply_82 : decode cX1_multiply 82 = .ok (.iload_n 3, 1) := by decide +kernel
theorem dX1_multiply_83 : decode cX1_multiply 83 = .ok (.ixor, 1) := by decide +kernel
theorem dX1_multiply_84 : decode cX1_multiply 84 = .ok (.imul, 1) := by decide +kernel
theorem dX1_multiply_85 : decode cX1_multiply 85 = .ok (.iadd, 1) := by decide +kernel
theorem dX1_multiply_86 : decode cX1_multiply 86 = .ok (.iaload, 1) := by decide +kernel
theorem dX1_multiply_87 : decode cX1_multiply 87 = .ok (.istore 9, 2) := by decide +kernel
theorem dX1_multiply_89 : decode cX1_multiply 89 = .ok (.aload_n 0, 1) := by decide +kernel
theorem dX1_multiply_90 : decode cX1_multiply 90 = .ok (.getfield 9, 3) := by decide +kernel
theorem dX1_multiply_93 : decode cX1_multiply 93 = .ok (.iload_n 2, 1) := by decide +kernel
theorem dX1_multiply_94 : decode cX1_multiply 94 = .ok (.iconst 2, 1) := by decide +kernel
theorem dX1_multiply_95 : decode cX1_multiply 95 = .ok (.iload 6, 2) := by decide +kernel
theorem dX1_multiply_97 : decode cX1_multiply 97 = .ok (.iload_n 3, 1) := by decide +kernel
theorem dX1_multiply_98 : decode cX1_multiply 98 = .ok (.ixor, 1) := by decide +kernel
theorem dX1_multiply_99 : decode cX1_multiply 99 = .ok (.imul, 1) := by decide +kernel
theorem dX1_multiply_100 : decode cX1_multiply 100 = .ok (.iadd, 1) := by decide +kernel
theorem dX1_multiply_101 : decode cX1_multiply 101 = .ok (.iconst 1, 1) := by decide +kernel
theorem dX1_multiply_102 : decode cX1_multiply 102 = .ok (.iadd, 1) := by decide +kernel
theorem dX1_multiply_103 : decode cX1_multiply 103 = .ok (.iaload, 1) := by decide +kernel
theorem dX1_multiply_104 : decode cX1_multiply 104 = .ok (.istore 10, 2) := by decide +kernel
theorem dX1_multiply_106 : decode cX1_multiply 106 = .ok (.getstatic 90, 3) := by decide +kernel
theorem dX1_multiply_109 : decode cX1_multiply 109 = .ok (.iconst 4, 1) := by decide +kernel
theorem dX1_multiply_110 : decode cX1_multiply 110 = .ok (.iload_n 3, 1) := by decide +kernel
theorem dX1_multiply_111 : decode cX1_multiply 111 = .ok (.imul, 1) := by decide +kernel
theorem dX1_multiply_112 : decode cX1_multiply 112 = .ok (.iload 6, 2) := by decide +kernel
theorem dX1_multiply_114 : decode cX1_multiply 114 = .ok (.iadd, 1) := by decide +kernel
theorem dX1_multiply_115 : decode cX1_multiply 115 = .ok (.iaload, 1) := by decide +kernel
theorem dX1_multiply_116 : decode cX1_multiply 116 = .ok (.istore 11, 2) := by decide +kernel
theorem dX1_multiply_118 : decode cX1_multiply 118 = .ok (.iload 4, 2) := by decide +kernel
theorem dX1_multiply_120 : decode cX1_multiply 120 = .ok (.iload 11, 2) := by decide +kernel
theorem dX1_multiply_122 : decode cX1_multiply 122 = .ok (.iload 7, 2) := by decide +kernel
theorem dX1_multiply_124 : decode cX1_multiply 124 = .ok (.iload 9, 2) := by decide +kernel
theorem dX1_multiply_126 : decode cX1_multiply 126 = .ok (.imul, 1) := by decide +kernel
theorem dX1_multiply_127 : decode cX1_multiply 127 = .ok (.aload_n 0, 1) := by decide +kernel
theorem dX1_multiply_128 : decode cX1_multiply 128 = .ok (.getfield 30, 3) := by decide +kernel
theorem dX1_multiply_131 : decode cX1_multiply 131 = .ok (.iload 8, 2) := by decide +kernel
theorem dX1_multiply_133 : decode cX1_multiply 133 = .ok (.imul, 1) := by decide +kernel
theorem dX1_multiply_134 : decode cX1_multiply 134 = .ok (.iload 10, 2) := by decide +kernel
theorem dX1_multiply_136 : decode cX1_multiply 136 = .ok (.imul, 1) := by decide +kernel
theorem dX1_multiply_137 : decode cX1_multiply 137 = .ok (.iadd, 1) := by decide +kernel
theorem dX1_multiply_138 : decode cX1_multiply 138 = .ok (.imul, 1) := by decide +kernel
theorem dX1_multiply_139 : decode cX1_multiply 139 = .ok (.iadd, 1) := by decide +kernel
theorem dX1_multiply_140 : decode cX1_multiply 140 = .ok (.istore 4, 2) := by decide +kernel
theorem dX1_multiply_142 : decode cX1_multiply 142 = .ok (.iload 5, 2) := by decide +kernel
theorem dX1_multiply_144 : decode cX1_multiply 144 = .ok (.iload 11, 2) := by decide +kernel
theorem dX1_multiply_146 : decode cX1_multiply 146 = .ok (.iload 7, 2) := by decide +kernel
theorem dX1_multiply_148 : decode cX1_multiply 148 = .ok (.iload 10, 2) := by decide +kernel
theorem dX1_multiply_150 : decode cX1_multiply 150 = .ok (.imul, 1) := by decide +kernel
theorem dX1_multiply_151 : decode cX1_multiply 151 = .ok (.iload 8, 2) := by decide +kernel
theorem dX1_multiply_153 : decode cX1_multiply 153 = .ok (.iload 9, 2) := by decide +kernel
theorem dX1_multiply_155 : decode cX1_multiply 155 = .ok (.imul, 1) := by decide +kernel
theorem dX1_multiply_156 : decode cX1_multiply 156 = .ok (.iadd, 1) := by decide +kernel
theorem dX1_multiply_157 : decode cX1_multiply 157 = .ok (.imul, 1) := by decide +kernel
theorem dX1_multiply_158 : decode cX1_multiply 158 = .ok (.iadd, 1) := by decide +kernel
theorem dX1_multiply_159 : decode cX1_multiply 159 = .ok (.istore 5, 2) := by decide +kernel
theorem dX1_multiply_161 : decode cX1_multiply 161 = .ok (.iinc 6 1, 3) := by decide +kernel
theorem dX1_multiply_164 : decode cX1_multiply 164 = .ok (.goto (-124), 3) := by decide +kernel
theorem dX1_multiply_167 : decode cX1_multiply 167 = .ok (.iload 4, 2) := by decide +kernel
theorem dX1_multiply_169 : decode cX1_multiply 169 = .ok (.iconst 4, 1) := by decide +kernel
theorem dX1_multiply_170 : decode cX1_multiply 170 = .ok (.irem, 1) := by decide +kernel
theorem dX1_multiply_171 : decode cX1_multiply 171 = .ok (.ifCond .ne 10, 3) := by decide +kernel
theorem dX1_multiply_174 : decode cX1_multiply 174 = .ok (.iload 5, 2) := by decide +kernel
theorem dX1_multiply_176 : decode cX1_multiply 176 = .ok (.iconst 4, 1) := by decide +kernel
theorem dX1_multiply_177 : decode cX1_multiply 177 = .ok (.irem, 1) := by decide +kernel
theorem dX1_multiply_178 : decode cX1_multiply 178 = .ok (.ifCond .eq 5, 3) := by decide +kernel
theorem dX1_multiply_181 : decode cX1_multiply 181 = .ok (.iconst 0, 1) := by decide +kernel
theorem dX1_multiply_182 : decode cX1_multiply 182 = .ok (.ireturn, 1) := by decide +kernel
theorem dX1_multiply_183 : decode cX1_multiply 183 = .ok (.aload_n 0, 1) := by decide +kernel
theorem dX1_multiply_184 : decode cX1_multiply 184 = .ok (.getfield 27, 3) := by decide +kernel
theorem dX1_multiply_187 : decode cX1_multiply 187 = .ok (.iconst 2, 1) := by decide +kernel
theorem dX1_multiply_188 : decode cX1_multiply 188 = .ok (.iload_n 3, 1) := by decide +kernel
theorem dX1_multiply_189 : decode cX1_multiply 189 = .ok (.imul, 1) := by decide +kernel
theorem dX1_multiply_190 : decode cX1_multiply 190 = .ok (.iload 4, 2) := by decide +kernel
theorem dX1_multiply_192 : decode cX1_multiply 192 = .ok (.iconst 4, 1) := by decide +kernel
theorem dX1_multiply_193 : decode cX1_multiply 193 = .ok (.idiv, 1) := by decide +kernel
theorem dX1_multiply_194 : decode cX1_multiply 194 = .ok (.iastore, 1) := by decide +kernel
theorem dX1_multiply_195 : decode cX1_multiply 195 = .ok (.aload_n 0, 1) := by decide +kernel
theorem dX1_multiply_196 : decode cX1_multiply 196 = .ok (.getfield 27, 3) := by decide +kernel
theorem dX1_multiply_199 : decode cX1_multiply 199 = .ok (.iconst 2, 1) := by decide +kernel
theorem dX1_multiply_200 : decode cX1_multiply 200 = .ok (.iload_n 3, 1) := by decide +kernel
theorem dX1_multiply_201 : decode cX1_multiply 201 = .ok (.imul, 1) := by decide +kernel
theorem dX1_multiply_202 : decode cX1_multiply 202 = .ok (.iconst 1, 1) := by decide +kernel
theorem dX1_multiply_203 : decode cX1_multiply 203 = .ok (.iadd, 1) := by decide +kernel
theorem dX1_multiply_204 : decode cX1_multiply 204 = .ok (.iload 5, 2) := by decide +kernel
theorem dX1_multiply_206 : decode cX1_multiply 206 = .ok (.iconst 4, 1) := by decide +kernel
theorem dX1_multiply_207 : decode cX1_multiply 207 = .ok (.idiv, 1) := by decide +kernel
theorem dX1_multiply_208 : decode cX1_multiply 208 = .ok (.iastore, 1) := by decide +kernel
theorem dX1_multiply_209 : decode cX1_multiply 209 = .ok (.iinc 3 1, 3) := by decide +kernel
theorem dX1_multiply_212 : decode cX1_multiply 212 = .ok (.goto (-186), 3) := by decide +kernel
theorem dX1_multiply_215 : decode cX1_multiply 215 = .ok (.iconst 1, 1) := by decide +kernel
theorem dX1_multiply_216 : decode cX1_multiply 216 = .ok (.ireturn, 1) := by decide +kernel
theorem B_X1_multiply_0 {g : Sg} {c t : Nat} (hL : Lay LC g c t σ) {a0 : Nat} (qa0 : isCl a0) {x1 : Int} {x2 : Int} (h : (Lay LC g c t σ → CC E mX1_holdsTurn [vr (a0 + 2), vi x1] σ (KI (fun r1 τ2 => Lay LC g c t τ2 ∧ (inR r1 → ((r1 = 0 → (Lay LC g c t τ2 → Q (.inl (some (vi 0))) τ2)) ∧ (¬ (r1 = 0) → (Lay LC g c t τ2 → CC E mX1_holdsTurn [vr (a0 + 1), vi x2] τ2 (KI (fun r3 τ4 => Lay LC g c t τ4 ∧ (inR r3 → ((r3 ≠ 0 → (Lay LC g c t τ4 → GG E mX1_multiply 26 [some (vr a0), some (vi x1), some (vi x2), some (vi 0), none, none, none, none, none, none, none, none] [] τ4 rc rs Q)) ∧ (r3 = 0 → (Lay LC g c t τ4 → Q (.inl (some (vi 0))) τ4))))) (fun _ _ => False))))))) (fun _ _ => False)))) : GG E mX1_multiply 0 [some (vr a0), some (vi x1), some (vi x2), none, none, none, none, none, none, none, none, none] [] σ rc rs Q := by
  refine r_aload_n (pc := 0) dX1_multiply_0 rfl rfl ?_
  refine r_getR (pc := 1) dX1_multiply_1 (k9 := 1) CL_1 (by decide) (by decide) w_450 rfl (okO_of (ci := 1) (N := 12) (qa0.r hL).1 (qa0.r hL).2.1) ?_
  refine eqR (y := a0 + 2) (qa0.f hL (k := 1) (by decide)) ?_
  refine r_iload_n (pc := 4) dX1_multiply_4 rfl rfl ?_
  refine c_SI0N (M := mX1_multiply) (pc := 5) (As := [vr (a0 + 2), vi x1]) dX1_multiply_5 K_X1_holdsTurn w_520 ⟨by decide, by decide⟩ (Nat.le_of_ble_eq_true rfl) rfl rfl (h hL) (fun r1 τ2 h8 hr9 => ?_) rfl
  replace hL := h8.1
  replace h := h8.2 hr9
  refine r_if_eq (pc := 8) (tgt := 22) dX1_multiply_8 (by decide) (fun c9 => ?_) (fun c9 => ?_)
  · replace h := h.1 c9
    refine r_iconst (pc := 22) dX1_multiply_22 (inRk rfl) ?_
    exact r_ireturn (pc := 23) (ty := .boolean) dX1_multiply_23 (by decide +kernel) rfl (nar_bool (by decide)) (h hL)
  · replace h := h.2 c9
    refine r_aload_n (pc := 11) dX1_multiply_11 rfl rfl ?_
    refine r_getR (pc := 12) dX1_multiply_12 (k9 := 0) CL_1 (by decide) (by decide) w_447 rfl (okO_of (ci := 1) (N := 12) (qa0.r hL).1 (qa0.r hL).2.1) ?_
    refine eqR (y := a0 + 1) (qa0.f hL (k := 0) (by decide)) ?_
    refine r_iload_n (pc := 15) dX1_multiply_15 rfl rfl ?_
    refine c_SI0N (M := mX1_multiply) (pc := 16) (As := [vr (a0 + 1), vi x2]) dX1_multiply_16 K_X1_holdsTurn w_520 ⟨by decide, by decide⟩ (Nat.le_of_ble_eq_true rfl) rfl rfl (h hL) (fun r3 τ4 h8 hr9 => ?_) rfl
    replace hL := h8.1
    replace h := h8.2 hr9
    refine r_if_ne (pc := 19) (tgt := 24) dX1_multiply_19 (by decide) (fun c9 => ?_) (fun c9 => ?_)
    · replace h := h.1 c9
      refine r_iconst (pc := 24) dX1_multiply_24 (inRk rfl) ?_
      refine r_istore_n (pc := 25) dX1_multiply_25 rfl (by decide) (l2 := [some (vr a0), some (vi x1), some (vi x2), some (vi 0), none, none, none, none, none, none, none, none]) rfl ?_
      exact (h hL)
    · replace h := h.2 c9
      refine r_iconst (pc := 22) dX1_multiply_22 (inRk rfl) ?_
      exact r_ireturn (pc := 23) (ty := .boolean) dX1_multiply_23 (by decide +kernel) rfl (nar_bool (by decide)) (h hL)
theorem B_X1_multiply_26 {g : Sg} {c t : Nat} (hL : Lay LC g c t σ) {a0 : Nat} (qa0 : isCl a0) {x1 : Int} {x2 : Int} {x3 : Int} (h : ((4 ≤ x3 → (Lay LC g c t σ → Q (.inl (some (vi 1))) σ)) ∧ (¬ (4 ≤ x3) → (Lay LC g c t σ → GG E mX1_multiply 40 [some (vr a0), some (vi x1), some (vi x2), some (vi x3), some (vi 0), some (vi 0), some (vi 0), none, none, none, none, none] [] σ rc rs Q)))) : GG E mX1_multiply 26 [some (vr a0), some (vi x1), some (vi x2), some (vi x3), none, none, none, none, none, none, none, none] [] σ rc rs Q := by
  refine r_iload_n (pc := 26) dX1_multiply_26 rfl rfl ?_
  refine r_iconst (pc := 27) dX1_multiply_27 (inRk rfl) ?_
  refine r_icmp_ge (pc := 28) (tgt := 215) dX1_multiply_28 (by decide) (fun c9 => ?_) (fun c9 => ?_)
  · replace h := h.1 c9
    refine r_iconst (pc := 215) dX1_multiply_215 (inRk rfl) ?_
    exact r_ireturn (pc := 216) (ty := .boolean) dX1_multiply_216 (by decide +kernel) rfl (nar_bool (by decide)) (h hL)
  · replace h := h.2 c9
    refine r_iconst (pc := 31) dX1_multiply_31 (inRk rfl) ?_
    refine r_istore (pc := 32) dX1_multiply_32 (by decide) (l2 := [some (vr a0), some (vi x1), some (vi x2), some (vi x3), some (vi 0), none, none, none, none, none, none, none]) rfl ?_
    refine r_iconst (pc := 34) dX1_multiply_34 (inRk rfl) ?_
    refine r_istore (pc := 35) dX1_multiply_35 (by decide) (l2 := [some (vr a0), some (vi x1), some (vi x2), some (vi x3), some (vi 0), some (vi 0), none, none, none, none, none, none]) rfl ?_
    refine r_iconst (pc := 37) dX1_multiply_37 (inRk rfl) ?_
    refine r_istore (pc := 38) dX1_multiply_38 (by decide) (l2 := [some (vr a0), some (vi x1), some (vi x2), some (vi x3), some (vi 0), some (vi 0), some (vi 0), none, none, none, none, none]) rfl ?_
    exact (h hL)
theorem B_X1_multiply_40 {g : Sg} {c t : Nat} (hL : Lay LC g c t σ) {a0 : Nat} (qa0 : isCl a0) {x1 : Int} {x2 : Int} {x3 : Int} {x4 : Int} {x5 : Int} {x6 : Int} (h : ((4 ≤ x6 → (((x4.tmod 4) ≠ 0 → (Lay LC g c t σ → Q (.inl (some (vi 0))) σ)) ∧ ((x4.tmod 4) = 0 → (((x5.tmod 4) = 0 → inR (2 * x3) ∧ inR (x4.tdiv 4) ∧ (0 ≤ (2 * x3) ∧ (2 * x3) < 8) ∧ ∀ τ4 : Sg, τ4 = sI σ (a0 + 6) (2 * x3).toNat (x4.tdiv 4) → inR ((2 * x3) + 1) ∧ inR (x5.tdiv 4) ∧ (0 ≤ ((2 * x3) + 1) ∧ ((2 * x3) + 1) < 8) ∧ ∀ τ8 : Sg, τ8 = sI τ4 (a0 + 6) ((2 * x3) + 1).toNat (x5.tdiv 4) → inR (x3 + 1) ∧ (Lay LC g c t τ8 → GG E mX1_multiply 26 [some (vr a0), some (vi x1), some (vi x2), some (vi (x3 + 1)), none, none, none, none, none, none, none, none] [] τ8 rc rs Q)) ∧ (¬ ((x5.tmod 4) = 0) → (Lay LC g c t σ → Q (.inl (some (vi 0))) σ)))))) ∧ (¬ (4 ≤ x6) → inR (2 * x6) ∧ inR (x1 + (2 * x6)) ∧ (0 ≤ (x1 + (2 * x6)) ∧ (x1 + (2 * x6)) < 960) ∧ inR ((x1 + (2 * x6)) + 1) ∧ (0 ≤ ((x1 + (2 * x6)) + 1) ∧ ((x1 + (2 * x6)) + 1) < 960) ∧ inR (2 * (b_ixorq x6 x3)) ∧ inR (x2 + (2 * (b_ixorq x6 x3))) ∧ (0 ≤ (x2 + (2 * (b_ixorq x6 x3))) ∧ (x2 + (2 * (b_ixorq x6 x3))) < 32) ∧ inR ((x2 + (2 * (b_ixorq x6 x3))) + 1) ∧ (0 ≤ ((x2 + (2 * (b_ixorq x6 x3))) + 1) ∧ ((x2 + (2 * (b_ixorq x6 x3))) + 1) < 32) ∧ inR (4 * x3) ∧ inR ((4 * x3) + x6) ∧ (0 ≤ ((4 * x3) + x6) ∧ ((4 * x3) + x6) < 16) ∧ inR ((gI σ (a0 + 2) (x1 + (2 * x6)).toNat) * (gI σ (a0 + 1) (x2 + (2 * (b_ixorq x6 x3))).toNat)) ∧ ∀ v24 : Int, v24 = (gI σ (a0 + 2) (x1 + (2 * x6)).toNat) * (gI σ (a0 + 1) (x2 + (2 * (b_ixorq x6 x3))).toNat) → inR ((gI σ a0 6) * (gI σ (a0 + 2) ((x1 + (2 * x6)) + 1).toNat)) ∧ ∀ v26 : Int, v26 = (gI σ a0 6) * (gI σ (a0 + 2) ((x1 + (2 * x6)) + 1).toNat) → inR (v26 * (gI σ (a0 + 1) ((x2 + (2 * (b_ixorq x6 x3))) + 1).toNat)) ∧ ∀ v28 : Int, v28 = v26 * (gI σ (a0 + 1) ((x2 + (2 * (b_ixorq x6 x3))) + 1).toNat) → inR (v24 + v28) ∧ inR ((gI σ 1 ((4 * x3) + x6).toNat) * (v24 + v28)) ∧ inR (x4 + ((gI σ 1 ((4 * x3) + x6).toNat) * (v24 + v28))) ∧ ∀ v32 : Int, v32 = x4 + ((gI σ 1 ((4 * x3) + x6).toNat) * (v24 + v28)) → inR ((gI σ (a0 + 2) (x1 + (2 * x6)).toNat) * (gI σ (a0 + 1) ((x2 + (2 * (b_ixorq x6 x3))) + 1).toNat)) ∧ ∀ v34 : Int, v34 = (gI σ (a0 + 2) (x1 + (2 * x6)).toNat) * (gI σ (a0 + 1) ((x2 + (2 * (b_ixorq x6 x3))) + 1).toNat) → inR ((gI σ (a0 + 2) ((x1 + (2 * x6)) + 1).toNat) * (gI σ (a0 + 1) (x2 + (2 * (b_ixorq x6 x3))).toNat)) ∧ ∀ v36 : Int, v36 = (gI σ (a0 + 2) ((x1 + (2 * x6)) + 1).toNat) * (gI σ (a0 + 1) (x2 + (2 * (b_ixorq x6 x3))).toNat) → inR (v34 + v36) ∧ inR ((gI σ 1 ((4 * x3) + x6).toNat) * (v34 + v36)) ∧ inR (x5 + ((gI σ 1 ((4 * x3) + x6).toNat) * (v34 + v36))) ∧ ∀ v40 : Int, v40 = x5 + ((gI σ 1 ((4 * x3) + x6).toNat) * (v34 + v36)) → inR (x6 + 1) ∧ (Lay LC g c t σ → GG E mX1_multiply 40 [some (vr a0), some (vi x1), some (vi x2), some (vi x3), some (vi v32), some (vi v40), some (vi (x6 + 1)), none, none, none, none, none] [] σ rc rs Q)))) : GG E mX1_multiply 40 [some (vr a0), some (vi x1), some (vi x2), some (vi x3), some (vi x4), some (vi x5), some (vi x6), none, none, none, none, none] [] σ rc rs Q := by
  refine r_iload (pc := 40) dX1_multiply_40 rfl ?_
  refine r_iconst (pc := 42) dX1_multiply_42 (inRk rfl) ?_
  refine r_icmp_ge (pc := 43) (tgt := 167) dX1_multiply_43 (by decide) (fun c9 => ?_) (fun c9 => ?_)
  · replace h := h.1 c9
    refine r_iload (pc := 167) dX1_multiply_167 rfl ?_
    refine r_iconst (pc := 169) dX1_multiply_169 (inRk rfl) ?_
    refine r_irem (pc := 170) dX1_multiply_170 (by decide) ?_
    refine r_if_ne (pc := 171) (tgt := 181) dX1_multiply_171 (by decide) (fun c9 => ?_) (fun c9 => ?_)
    · replace h := h.1 c9
      refine r_iconst (pc := 181) dX1_multiply_181 (inRk rfl) ?_
      exact r_ireturn (pc := 182) (ty := .boolean) dX1_multiply_182 (by decide +kernel) rfl (nar_bool (by decide)) (h hL)
    · replace h := h.2 c9
      refine r_iload (pc := 174) dX1_multiply_174 rfl ?_
      refine r_iconst (pc := 176) dX1_multiply_176 (inRk rfl) ?_
      refine r_irem (pc := 177) dX1_multiply_177 (by decide) ?_
      refine r_if_eq (pc := 178) (tgt := 183) dX1_multiply_178 (by decide) (fun c9 => ?_) (fun c9 => ?_)
      · replace h := h.1 c9
        refine r_aload_n (pc := 183) dX1_multiply_183 rfl rfl ?_
        refine r_getR (pc := 184) dX1_multiply_184 (k9 := 5) CL_1 (by decide) (by decide) w_460 rfl (okO_of (ci := 1) (N := 12) (qa0.r hL).1 (qa0.r hL).2.1) ?_
        refine eqR (y := a0 + 6) (qa0.f hL (k := 5) (by decide)) ?_
        refine r_iconst (pc := 187) dX1_multiply_187 (inRk rfl) ?_
        refine r_iload_n (pc := 188) dX1_multiply_188 rfl rfl ?_
        obtain ⟨o1, h⟩ := h
        refine r_imul (pc := 189) dX1_multiply_189 o1 ?_
        refine r_iload (pc := 190) dX1_multiply_190 rfl ?_
        refine r_iconst (pc := 192) dX1_multiply_192 (inRk rfl) ?_
        obtain ⟨o2, h⟩ := h
        refine r_idiv (pc := 193) dX1_multiply_193 (by decide) o2 ?_
        obtain ⟨o3, h⟩ := h
        refine r_iastore (pc := 194) dX1_multiply_194 (okB_of (c := 20) (n := 8) (qa0.s hL (k := 5) (by decide)) (qa0.b (k := 6) (by decide)).1 o3) ?_
        refine nmS (fun τ4 e4 => ?_)
        replace h := h τ4 e4
        have hL := hL.wI e4 (qa0.b (k := 6) (by decide)).1 (.inl (qa0.b (k := 6) (by decide)).2)
        refine r_aload_n (pc := 195) dX1_multiply_195 rfl rfl ?_
        refine r_getR (pc := 196) dX1_multiply_196 (k9 := 5) CL_1 (by decide) (by decide) w_460 rfl (okO_of (ci := 1) (N := 12) (qa0.r hL).1 (qa0.r hL).2.1) ?_
        refine eqR (y := a0 + 6) (qa0.f hL (k := 5) (by decide)) ?_
        refine r_iconst (pc := 199) dX1_multiply_199 (inRk rfl) ?_
        refine r_iload_n (pc := 200) dX1_multiply_200 rfl rfl ?_
        refine r_imul (pc := 201) dX1_multiply_201 o1 ?_
        refine r_iconst (pc := 202) dX1_multiply_202 (inRk rfl) ?_
        obtain ⟨o5, h⟩ := h
        refine r_iadd (pc := 203) dX1_multiply_203 o5 ?_
        refine r_iload (pc := 204) dX1_multiply_204 rfl ?_
        refine r_iconst (pc := 206) dX1_multiply_206 (inRk rfl) ?_
        obtain ⟨o6, h⟩ := h
        refine r_idiv (pc := 207) dX1_multiply_207 (by decide) o6 ?_
        obtain ⟨o7, h⟩ := h
        refine r_iastore (pc := 208) dX1_multiply_208 (okB_of (c := 20) (n := 8) (qa0.s hL (k := 5) (by decide)) (qa0.b (k := 6) (by decide)).1 o7) ?_
        refine nmS (fun τ8 e8 => ?_)
        replace h := h τ8 e8
        have hL := hL.wI e8 (qa0.b (k := 6) (by decide)).1 (.inl (qa0.b (k := 6) (by decide)).2)
        obtain ⟨o9, h⟩ := h
        refine r_iinc (pc := 209) dX1_multiply_209 rfl (by decide) o9 (l2 := [some (vr a0), some (vi x1), some (vi x2), some (vi (x3 + 1)), some (vi x4), some (vi x5), some (vi x6), none, none, none, none, none]) rfl ?_
        refine r_goto (pc := 212) (tgt := 26) dX1_multiply_212 (by decide) ?_
        exact GG.msk [true, true, true, true, false, false, false, false, false, false, false, false] (h hL)
      · replace h := h.2 c9
        refine r_iconst (pc := 181) dX1_multiply_181 (inRk rfl) ?_
        exact r_ireturn (pc := 182) (ty := .boolean) dX1_multiply_182 (by decide +kernel) rfl (nar_bool (by decide)) (h hL)
  · replace h := h.2 c9
    refine r_aload_n (pc := 46) dX1_multiply_46 rfl rfl ?_
    refine r_getR (pc := 47) dX1_multiply_47 (k9 := 1) CL_1 (by decide) (by decide) w_450 rfl (okO_of (ci := 1) (N := 12) (qa0.r hL).1 (qa0.r hL).2.1) ?_
    refine eqR (y := a0 + 2) (qa0.f hL (k := 1) (by decide)) ?_
    refine r_iload_n (pc := 50) dX1_multiply_50 rfl rfl ?_
    refine r_iconst (pc := 51) dX1_multiply_51 (inRk rfl) ?_
    refine r_iload (pc := 52) dX1_multiply_52 rfl ?_
    obtain ⟨o10, h⟩ := h
    refine r_imul (pc := 54) dX1_multiply_54 o10 ?_
    obtain ⟨o11, h⟩ := h
    refine r_iadd (pc := 55) dX1_multiply_55 o11 ?_
    obtain ⟨o12, h⟩ := h
    refine r_iaload (pc := 56) dX1_multiply_56 (okA_of (c := 20) (n := 960) (qa0.s hL (k := 1) (by decide)) (qa0.b (k := 2) (by decide)).1 o12) ?_
    refine r_istore (pc := 57) dX1_multiply_57 (by decide) (l2 := [some (vr a0), some (vi x1), some (vi x2), some (vi x3), some (vi x4), some (vi x5), some (vi x6), some (vi (gI σ (a0 + 2) (x1 + (2 * x6)).toNat)), none, none, none, none]) rfl ?_
    refine r_aload_n (pc := 59) dX1_multiply_59 rfl rfl ?_
    refine r_getR (pc := 60) dX1_multiply_60 (k9 := 1) CL_1 (by decide) (by decide) w_450 rfl (okO_of (ci := 1) (N := 12) (qa0.r hL).1 (qa0.r hL).2.1) ?_
    refine eqR (y := a0 + 2) (qa0.f hL (k := 1) (by decide)) ?_
    refine r_iload_n (pc := 63) dX1_multiply_63 rfl rfl ?_
    refine r_iconst (pc := 64) dX1_multiply_64 (inRk rfl) ?_
    refine r_iload (pc := 65) dX1_multiply_65 rfl ?_
    refine r_imul (pc := 67) dX1_multiply_67 o10 ?_
    refine r_iadd (pc := 68) dX1_multiply_68 o11 ?_
    refine r_iconst (pc := 69) dX1_multiply_69 (inRk rfl) ?_
    obtain ⟨o13, h⟩ := h
    refine r_iadd (pc := 70) dX1_multiply_70 o13 ?_
    obtain ⟨o14, h⟩ := h
    refine r_iaload (pc := 71) dX1_multiply_71 (okA_of (c := 20) (n := 960) (qa0.s hL (k := 1) (by decide)) (qa0.b (k := 2) (by decide)).1 o14) ?_
    refine r_istore (pc := 72) dX1_multiply_72 (by decide) (l2 := [some (vr a0), some (vi x1), some (vi x2), some (vi x3), some (vi x4), some (vi x5), some (vi x6), some (vi (gI σ (a0 + 2) (x1 + (2 * x6)).toNat)), some (vi (gI σ (a0 + 2) ((x1 + (2 * x6)) + 1).toNat)), none, none, none]) rfl ?_
    refine r_aload_n (pc := 74) dX1_multiply_74 rfl rfl ?_
    refine r_getR (pc := 75) dX1_multiply_75 (k9 := 0) CL_1 (by decide) (by decide) w_447 rfl (okO_of (ci := 1) (N := 12) (qa0.r hL).1 (qa0.r hL).2.1) ?_
    refine eqR (y := a0 + 1) (qa0.f hL (k := 0) (by decide)) ?_
    refine r_iload_n (pc := 78) dX1_multiply_78 rfl rfl ?_
    refine r_iconst (pc := 79) dX1_multiply_79 (inRk rfl) ?_
    refine r_iload (pc := 80) dX1_multiply_80 rfl ?_
    refine r_iload_n (pc := 82) dX1_multiply_82 rfl rfl ?_
    refine r_ixor (pc := 83) dX1_multiply_83 ?_
    obtain ⟨o15, h⟩ := h
    refine r_imul (pc := 84) dX1_multiply_84 o15 ?_
    obtain ⟨o16, h⟩ := h
    refine r_iadd (pc := 85) dX1_multiply_85 o16 ?_
    obtain ⟨o17, h⟩ := h
    refine r_iaload (pc := 86) dX1_multiply_86 (okA_of (c := 20) (n := 32) (qa0.s hL (k := 0) (by decide)) (qa0.b (k := 1) (by decide)).1 o17) ?_
    refine r_istore (pc := 87) dX1_multiply_87 (by decide) (l2 := [some (vr a0), some (vi x1), some (vi x2), some (vi x3), some (vi x4), some (vi x5), some (vi x6), some (vi (gI σ (a0 + 2) (x1 + (2 * x6)).toNat)), some (vi (gI σ (a0 + 2) ((x1 + (2 * x6)) + 1).toNat)), some (vi (gI σ (a0 + 1) (x2 + (2 * (b_ixorq x6 x3))).toNat)), none, none]) rfl ?_
    refine r_aload_n (pc := 89) dX1_multiply_89 rfl rfl ?_
    refine r_getR (pc := 90) dX1_multiply_90 (k9 := 0) CL_1 (by decide) (by decide) w_447 rfl (okO_of (ci := 1) (N := 12) (qa0.r hL).1 (qa0.r hL).2.1) ?_
    refine eqR (y := a0 + 1) (qa0.f hL (k := 0) (by decide)) ?_
    refine r_iload_n (pc := 93) dX1_multiply_93 rfl rfl ?_
    refine r_iconst (pc := 94) dX1_multiply_94 (inRk rfl) ?_
    refine r_iload (pc := 95) dX1_multiply_95 rfl ?_
    refine r_iload_n (pc := 97) dX1_multiply_97 rfl rfl ?_
    refine r_ixor (pc := 98) dX1_multiply_98 ?_
    refine r_imul (pc := 99) dX1_multiply_99 o15 ?_
    refine r_iadd (pc := 100) dX1_multiply_100 o16 ?_
    refine r_iconst (pc := 101) dX1_multiply_101 (inRk rfl) ?_
    obtain ⟨o18, h⟩ := h
    refine r_iadd (pc := 102) dX1_multiply_102 o18 ?_
    obtain ⟨o19, h⟩ := h
    refine r_iaload (pc := 103) dX1_multiply_103 (okA_of (c := 20) (n := 32) (qa0.s hL (k := 0) (by decide)) (qa0.b (k := 1) (by decide)).1 o19) ?_
    refine r_istore (pc := 104) dX1_multiply_104 (by decide) (l2 := [some (vr a0), some (vi x1), some (vi x2), some (vi x3), some (vi x4), some (vi x5), some (vi x6), some (vi (gI σ (a0 + 2) (x1 + (2 * x6)).toNat)), some (vi (gI σ (a0 + 2) ((x1 + (2 * x6)) + 1).toNat)), some (vi (gI σ (a0 + 1) (x2 + (2 * (b_ixorq x6 x3))).toNat)), some (vi (gI σ (a0 + 1) ((x2 + (2 * (b_ixorq x6 x3))) + 1).toNat)), none]) rfl ?_
    refine r_getsN (pc := 106) (v := vr 1) dX1_multiply_106 (List.mem_of_getElem? (i := 0) rfl) wt_523 trivial ?_
    refine r_iconst (pc := 109) dX1_multiply_109 (inRk rfl) ?_
    refine r_iload_n (pc := 110) dX1_multiply_110 rfl rfl ?_
    obtain ⟨o20, h⟩ := h
    refine r_imul (pc := 111) dX1_multiply_111 o20 ?_
    refine r_iload (pc := 112) dX1_multiply_112 rfl ?_
    obtain ⟨o21, h⟩ := h
    refine r_iadd (pc := 114) dX1_multiply_114 o21 ?_
    obtain ⟨o22, h⟩ := h
    refine r_iaload (pc := 115) dX1_multiply_115 (okA_ofX (c := 20) (n := 16) hL.xt.1.1 (by decide) o22) ?_
    refine r_istore (pc := 116) dX1_multiply_116 (by decide) (l2 := [some (vr a0), some (vi x1), some (vi x2), some (vi x3), some (vi x4), some (vi x5), some (vi x6), some (vi (gI σ (a0 + 2) (x1 + (2 * x6)).toNat)), some (vi (gI σ (a0 + 2) ((x1 + (2 * x6)) + 1).toNat)), some (vi (gI σ (a0 + 1) (x2 + (2 * (b_ixorq x6 x3))).toNat)), some (vi (gI σ (a0 + 1) ((x2 + (2 * (b_ixorq x6 x3))) + 1).toNat)), some (vi (gI σ 1 ((4 * x3) + x6).toNat))]) rfl ?_
    refine r_iload (pc := 118) dX1_multiply_118 rfl ?_
    refine r_iload (pc := 120) dX1_multiply_120 rfl ?_
    refine r_iload (pc := 122) dX1_multiply_122 rfl ?_
    refine r_iload (pc := 124) dX1_multiply_124 rfl ?_
    obtain ⟨o23, h⟩ := h
    refine r_imul (pc := 126) dX1_multiply_126 o23 ?_
    refine nmI (fun v24 e9 => ?_)
    replace h := h v24 e9
    refine r_aload_n (pc := 127) dX1_multiply_127 rfl rfl ?_
    refine r_getI (pc := 128) dX1_multiply_128 (k9 := 6) CL_1 (by decide) (by decide) w_461 rfl (okO_of (ci := 1) (N := 12) (qa0.r hL).1 (qa0.r hL).2.1) (fun _ => ?_)
    refine r_iload (pc := 131) dX1_multiply_131 rfl ?_
    obtain ⟨o25, h⟩ := h
    refine r_imul (pc := 133) dX1_multiply_133 o25 ?_
    refine nmI (fun v26 e9 => ?_)
    replace h := h v26 e9
    refine r_iload (pc := 134) dX1_multiply_134 rfl ?_
    obtain ⟨o27, h⟩ := h
    refine r_imul (pc := 136) dX1_multiply_136 o27 ?_
    refine nmI (fun v28 e9 => ?_)
    replace h := h v28 e9
    obtain ⟨o29, h⟩ := h
    refine r_iadd (pc := 137) dX1_multiply_137 o29 ?_
    obtain ⟨o30, h⟩ := h
    refine r_imul (pc := 138) dX1_multiply_138 o30 ?_
    obtain ⟨o31, h⟩ := h
    refine r_iadd (pc := 139) dX1_multiply_139 o31 ?_
    refine nmI (fun v32 e9 => ?_)
    replace h := h v32 e9
    refine r_istore (pc := 140) dX1_multiply_140 (by decide) (l2 := [some (vr a0), some (vi x1), some (vi x2), some (vi x3), some (vi v32), some (vi x5), some (vi x6), some (vi (gI σ (a0 + 2) (x1 + (2 * x6)).toNat)), some (vi (gI σ (a0 + 2) ((x1 + (2 * x6)) + 1).toNat)), some (vi (gI σ (a0 + 1) (x2 + (2 * (b_ixorq x6 x3))).toNat)), some (vi (gI σ (a0 + 1) ((x2 + (2 * (b_ixorq x6 x3))) + 1).toNat)), some (vi (gI σ 1 ((4 * x3) + x6).toNat))]) rfl ?_
    refine r_iload (pc := 142) dX1_multiply_142 rfl ?_
    refine r_iload (pc := 144) dX1_multiply_144 rfl ?_
    refine r_iload (pc := 146) dX1_multiply_146 rfl ?_
    refine r_iload (pc := 148) dX1_multiply_148 rfl ?_
    obtain ⟨o33, h⟩ := h
    refine r_imul (pc := 150) dX1_multiply_150 o33 ?_
    refine nmI (fun v34 e9 => ?_)
    replace h := h v34 e9
    refine r_iload (pc := 151) dX1_multiply_151 rfl ?_
    refine r_iload (pc := 153) dX1_multiply_153 rfl ?_
    obtain ⟨o35, h⟩ := h
    refine r_imul (pc := 155) dX1_multiply_155 o35 ?_
    refine nmI (fun v36 e9 => ?_)
    replace h := h v36 e9
    obtain ⟨o37, h⟩ := h
    refine r_iadd (pc := 156) dX1_multiply_156 o37 ?_
    obtain ⟨o38, h⟩ := h
    refine r_imul (pc := 157) dX1_multiply_157 o38 ?_
    obtain ⟨o39, h⟩ := h
    refine r_iadd (pc := 158) dX1_multiply_158 o39 ?_
    refine nmI (fun v40 e9 => ?_)
    replace h := h v40 e9
    refine r_istore (pc := 159) dX1_multiply_159 (by decide) (l2 := [some (vr a0), some (vi x1), some (vi x2), some (vi x3), some (vi v32), some (vi v40), some (vi x6), some (vi (gI σ (a0 + 2) (x1 + (2 * x6)).toNat)), some (vi (gI σ (a0 + 2) ((x1 + (2 * x6)) + 1).toNat)), some (vi (gI σ (a0 + 1) (x2 + (2 * (b_ixorq x6 x3))).toNat)), some (vi (gI σ (a0 + 1) ((x2 + (2 * (b_ixorq x6 x3))) + 1).toNat)), some (vi (gI σ 1 ((4 * x3) + x6).toNat))]) rfl ?_
    obtain ⟨o41, h⟩ := h
    refine r_iinc (pc := 161) dX1_multiply_161 rfl (by decide) o41 (l2 := [some (vr a0), some (vi x1), some (vi x2), some (vi x3), some (vi v32), some (vi v40), some (vi (x6 + 1)), some (vi (gI σ (a0 + 2) (x1 + (2 * x6)).toNat)), some (vi (gI σ (a0 + 2) ((x1 + (2 * x6)) + 1).toNat)), some (vi (gI σ (a0 + 1) (x2 + (2 * (b_ixorq x6 x3))).toNat)), some (vi (gI σ (a0 + 1) ((x2 + (2 * (b_ixorq x6 x3))) + 1).toNat)), some (vi (gI σ 1 ((4 * x3) + x6).toNat))]) rfl ?_
    refine r_goto (pc := 164) (tgt := 40) dX1_multiply_164 (by decide) ?_
    exact GG.msk [true, true, true, true, true, true, true, false, false, false, false, false] (h hL)
theorem C_X1_multiply {a0 : Nat} {x1 : Int} {x2 : Int} (h : GG E mX1_multiply 0 [some (vr a0), some (vi x1), some (vi x2), none, none, none, none, none, none, none, none, none] [] σ 0 0 Q) : CC E mX1_multiply [vr a0, vi x1, vi x2] σ Q := CC.of (by decide +kernel) rfl (by decide +kernel) (fun h9 => nomatch h9) (Nat.le_of_ble_eq_true rfl) h
theorem dX1_numberOf_0 : decode cX1_numberOf 0 = .ok (.iconst 0, 1) := by decide +kernel
theorem dX1_numberOf_1 : decode cX1_numberOf 1 = .ok (.istore_n 2, 1) := by decide +kernel
theorem dX1_numberOf_2 : decode cX1_numberOf 2 = .ok (.iload_n 2, 1) := by decide +kernel
theorem dX1_numberOf_3 : decode cX1_numberOf 3 = .ok (.aload_n 0, 1) := by decide +kernel
theorem dX1_numberOf_4 : decode cX1_numberOf 4 = .ok (.getfield 55, 3) := by decide +kernel
theorem dX1_numberOf_7 : decode cX1_numberOf 7 = .ok (.if_icmp .ge 29, 3) := by decide +kernel
theorem dX1_numberOf_10 : decode cX1_numberOf 10 = .ok (.iload_n 2, 1) := by decide +kernel
theorem dX1_numberOf_11 : decode cX1_numberOf 11 = .ok (.bipush 120, 2) := by decide +kernel
theorem dX1_numberOf_13 : decode cX1_numberOf 13 = .ok (.if_icmp .ge 23, 3) := by decide +kernel
theorem dX1_numberOf_16 : decode cX1_numberOf 16 = .ok (.aload_n 0, 1) := by decide +kernel
theorem dX1_numberOf_17 : decode cX1_numberOf 17 = .ok (.iload_n 2, 1) := by decide +kernel
theorem dX1_numberOf_18 : decode cX1_numberOf 18 = .ok (.bipush 8, 2) := by decide +kernel
theorem dX1_numberOf_20 : decode cX1_numberOf 20 = .ok (.imul, 1) := by decide +kernel
theorem dX1_numberOf_21 : decode cX1_numberOf 21 = .ok (.aload_n 1, 1) := by decide +kernel
theorem dX1_numberOf_22 : decode cX1_numberOf 22 = .ok (.invokevirtual 65, 3) := by decide +kernel
theorem dX1_numberOf_25 : decode cX1_numberOf 25 = .ok (.ifCond .eq 5, 3) := by decide +kernel
theorem dX1_numberOf_28 : decode cX1_numberOf 28 = .ok (.iload_n 2, 1) := by decide +kernel
theorem dX1_numberOf_29 : decode cX1_numberOf 29 = .ok (.ireturn, 1) := by decide +kernel
theorem dX1_numberOf_30 : decode cX1_numberOf 30 = .ok (.iinc 2 1, 3) := by decide +kernel
theorem dX1_numberOf_33 : decode cX1_numberOf 33 = .ok (.goto (-31), 3) := by decide +kernel
theorem dX1_numberOf_36 : decode cX1_numberOf 36 = .ok (.iconst (-1), 1) := by decide +kernel
theorem dX1_numberOf_37 : decode cX1_numberOf 37 = .ok (.ireturn, 1) := by decide +kernel
theorem B_X1_numberOf_0 {g : Sg} {c t : Nat} (hL : Lay LC g c t σ) {a0 : Nat} (qa0 : isCl a0) {a1 : Nat} {n1 : Nat} (p1 : PA LC a1 n1) (h : (Lay LC g c t σ → GG E mX1_numberOf 2 [some (vr a0), some (vr a1), some (vi 0)] [] σ rc rs Q)) : GG E mX1_numberOf 0 [some (vr a0), some (vr a1), none] [] σ rc rs Q := by
  refine r_iconst (pc := 0) dX1_numberOf_0 (inRk rfl) ?_
  refine r_istore_n (pc := 1) dX1_numberOf_1 rfl (by decide) (l2 := [some (vr a0), some (vr a1), some (vi 0)]) rfl ?_
  exact (h hL)
theorem B_X1_numberOf_2 {g : Sg} {c t : Nat} (hL : Lay LC g c t σ) {a0 : Nat} (qa0 : isCl a0) {a1 : Nat} {n1 : Nat} (p1 : PA LC a1 n1) {x2 : Int} (h : (((gI σ a0 8) ≤ x2 → (Lay LC g c t σ → Q (.inl (some (vi (-1)))) σ)) ∧ (¬ ((gI σ a0 8) ≤ x2) → ((120 ≤ x2 → (Lay LC g c t σ → Q (.inl (some (vi (-1)))) σ)) ∧ (¬ (120 ≤ x2) → inR (x2 * 8) ∧ (Lay LC g c t σ → CC E mX1_isSame [vr a0, vi (x2 * 8), vr a1] σ (KI (fun r2 τ3 => Lay LC g c t τ3 ∧ (inR r2 → ((r2 = 0 → inR (x2 + 1) ∧ (Lay LC g c t τ3 → GG E mX1_numberOf 2 [some (vr a0), some (vr a1), some (vi (x2 + 1))] [] τ3 rc rs Q)) ∧ (¬ (r2 = 0) → (Lay LC g c t τ3 → Q (.inl (some (vi x2))) τ3))))) (fun _ _ => False)))))))) : GG E mX1_numberOf 2 [some (vr a0), some (vr a1), some (vi x2)] [] σ rc rs Q := by
  refine r_iload_n (pc := 2) dX1_numberOf_2 rfl rfl ?_
  refine r_aload_n (pc := 3) dX1_numberOf_3 rfl rfl ?_
  refine r_getI (pc := 4) dX1_numberOf_4 (k9 := 8) CL_1 (by decide) (by decide) w_472 rfl (okO_of (ci := 1) (N := 12) (qa0.r hL).1 (qa0.r hL).2.1) (fun _ => ?_)
  refine r_icmp_ge (pc := 7) (tgt := 36) dX1_numberOf_7 (by decide) (fun c9 => ?_) (fun c9 => ?_)
  · replace h := h.1 c9
    refine r_iconst (pc := 36) dX1_numberOf_36 (inRk rfl) ?_
    exact r_ireturn (pc := 37) (ty := .int) dX1_numberOf_37 (by decide +kernel) rfl (nar_i _) (h hL)
  · replace h := h.2 c9
    refine r_iload_n (pc := 10) dX1_numberOf_10 rfl rfl ?_
    refine r_bipush (pc := 11) dX1_numberOf_11 (by decide) ?_
    refine r_icmp_ge (pc := 13) (tgt := 36) dX1_numberOf_13 (by decide) (fun c9 => ?_) (fun c9 => ?_)
    · replace h := h.1 c9
      refine r_iconst (pc := 36) dX1_numberOf_36 (inRk rfl) ?_
      exact r_ireturn (pc := 37) (ty := .int) dX1_numberOf_37 (by decide +kernel) rfl (nar_i _) (h hL)
    · replace h := h.2 c9
      refine r_aload_n (pc := 16) dX1_numberOf_16 rfl rfl ?_
      refine r_iload_n (pc := 17) dX1_numberOf_17 rfl rfl ?_
      refine r_bipush (pc := 18) dX1_numberOf_18 (by decide) ?_
      obtain ⟨o1, h⟩ := h
      refine r_imul (pc := 20) dX1_numberOf_20 o1 ?_
      refine r_aload_n (pc := 21) dX1_numberOf_21 rfl rfl ?_
      refine c_VI0N (M := mX1_numberOf) (pc := 22) (As := [vi (x2 * 8), vr a1]) dX1_numberOf_22 K_X1_isSame w_533 ⟨by decide, by decide⟩ (Nat.le_of_ble_eq_true rfl) rfl rfl (ci := 1) rfl rfl (by decide) (okO_of (ci := 1) (N := 12) (qa0.r hL).1 (qa0.r hL).2.1) (h hL) (fun r2 τ3 h8 hr9 => ?_) rfl
      replace hL := h8.1
      replace h := h8.2 hr9
      refine r_if_eq (pc := 25) (tgt := 30) dX1_numberOf_25 (by decide) (fun c9 => ?_) (fun c9 => ?_)
      · replace h := h.1 c9
        obtain ⟨o4, h⟩ := h
        refine r_iinc (pc := 30) dX1_numberOf_30 rfl (by decide) o4 (l2 := [some (vr a0), some (vr a1), some (vi (x2 + 1))]) rfl ?_
        refine r_goto (pc := 33) (tgt := 2) dX1_numberOf_33 (by decide) ?_
        exact (h hL)
      · replace h := h.2 c9
        refine r_iload_n (pc := 28) dX1_numberOf_28 rfl rfl ?_
        exact r_ireturn (pc := 29) (ty := .int) dX1_numberOf_29 (by decide +kernel) rfl (nar_i _) (h hL)
theorem C_X1_numberOf {a0 : Nat} {a1 : Nat} (h : GG E mX1_numberOf 0 [some (vr a0), some (vr a1), none] [] σ 0 0 Q) : CC E mX1_numberOf [vr a0, vr a1] σ Q := CC.of (by decide +kernel) rfl (by decide +kernel) (fun h9 => nomatch h9) (Nat.le_of_ble_eq_true rfl) h
theorem dX1_numberOfWhole_0 : decode cX1_numberOfWhole 0 = .ok (.iconst 0, 1) := by decide +kernel
theorem dX1_numberOfWhole_1 : decode cX1_numberOfWhole 1 = .ok (.istore_n 2, 1) := by decide +kernel
theorem dX1_numberOfWhole_2 : decode cX1_numberOfWhole 2 = .ok (.iload_n 2, 1) := by decide +kernel
theorem dX1_numberOfWhole_3 : decode cX1_numberOfWhole 3 = .ok (.bipush 8, 2) := by decide +kernel
theorem dX1_numberOfWhole_5 : decode cX1_numberOfWhole 5 = .ok (.if_icmp .ge 24, 3) := by decide +kernel
theorem dX1_numberOfWhole_8 : decode cX1_numberOfWhole 8 = .ok (.aload_n 0, 1) := by decide +kernel
theorem dX1_numberOfWhole_9 : decode cX1_numberOfWhole 9 = .ok (.getfield 27, 3) := by decide +kernel
theorem dX1_numberOfWhole_12 : decode cX1_numberOfWhole 12 = .ok (.iload_n 2, 1) := by decide +kernel
theorem dX1_numberOfWhole_13 : decode cX1_numberOfWhole 13 = .ok (.iload_n 2, 1) := by decide +kernel
theorem dX1_numberOfWhole_14 : decode cX1_numberOfWhole 14 = .ok (.ifCond .ne 7, 3) := by decide +kernel
theorem dX1_numberOfWhole_17 : decode cX1_numberOfWhole 17 = .ok (.iload_n 1, 1) := by decide +kernel
theorem dX1_numberOfWhole_18 : decode cX1_numberOfWhole 18 = .ok (.goto 4, 3) := by decide +kernel
theorem dX1_numberOfWhole_21 : decode cX1_numberOfWhole 21 = .ok (.iconst 0, 1) := by decide +kernel
theorem dX1_numberOfWhole_22 : decode cX1_numberOfWhole 22 = .ok (.iastore, 1) := by decide +kernel
theorem dX1_numberOfWhole_23 : decode cX1_numberOfWhole 23 = .ok (.iinc 2 1, 3) := by decide +kernel
theorem dX1_numberOfWhole_26 : decode cX1_numberOfWhole 26 = .ok (.goto (-24), 3) := by decide +kernel
theorem dX1_numberOfWhole_29 : decode cX1_numberOfWhole 29 = .ok (.aload_n 0, 1) := by decide +kernel
theorem dX1_numberOfWhole_30 : decode cX1_numberOfWhole 30 = .ok (.aload_n 0, 1) := by decide +kernel
theorem dX1_numberOfWhole_31 : decode cX1_numberOfWhole 31 = .ok (.getfield 27, 3) := by decide +kernel
theorem dX1_numberOfWhole_34 : decode cX1_numberOfWhole 34 = .ok (.invokevirtual 69, 3) := by decide +kernel
theorem dX1_numberOfWhole_37 : decode cX1_numberOfWhole 37 = .ok (.ireturn, 1) := by decide +kernel
theorem B_X1_numberOfWhole_0 {g : Sg} {c t : Nat} (hL : Lay LC g c t σ) {a0 : Nat} (qa0 : isCl a0) {x1 : Int} (h : (Lay LC g c t σ → GG E mX1_numberOfWhole 2 [some (vr a0), some (vi x1), some (vi 0)] [] σ rc rs Q)) : GG E mX1_numberOfWhole 0 [some (vr a0), some (vi x1), none] [] σ rc rs Q := by
  refine r_iconst (pc := 0) dX1_numberOfWhole_0 (inRk rfl) ?_
  refine r_istore_n (pc := 1) dX1_numberOfWhole_1 rfl (by decide) (l2 := [some (vr a0), some (vi x1), some (vi 0)]) rfl ?_
  exact (h hL)
theorem B_X1_numberOfWhole_2 {g : Sg} {c t : Nat} (hL : Lay LC g c t σ) {a0 : Nat} (qa0 : isCl a0) {x1 : Int} {x2 : Int} (h : ((8 ≤ x2 → (Lay LC g c t σ → CC E mX1_numberOf [vr a0, vr (a0 + 6)] σ (KI (fun r1 τ2 => Lay LC g c t τ2 ∧ (inR r1 → (Lay LC g c t τ2 → Q (.inl (some (vi r1))) τ2))) (fun _ _ => False)))) ∧ (¬ (8 ≤ x2) → ((x2 ≠ 0 → (0 ≤ x2 ∧ x2 < 8) ∧ ∀ τ4 : Sg, τ4 = sI σ (a0 + 6) x2.toNat 0 → inR (x2 + 1) ∧ (Lay LC g c t τ4 → GG E mX1_numberOfWhole 2 [some (vr a0), some (vi x1), some (vi (x2 + 1))] [] τ4 rc rs Q)) ∧ (x2 = 0 → (0 ≤ x2 ∧ x2 < 8) ∧ ∀ τ7 : Sg, τ7 = sI σ (a0 + 6) x2.toNat x1 → inR (x2 + 1) ∧ (Lay LC g c t τ7 → GG E mX1_numberOfWhole 2 [some (vr a0), some (vi x1), some (vi (x2 + 1))] [] τ7 rc rs Q)))))) : GG E mX1_numberOfWhole 2 [some (vr a0), some (vi x1), some (vi x2)] [] σ rc rs Q := by
  refine r_iload_n (pc := 2) dX1_numberOfWhole_2 rfl rfl ?_
  refine r_bipush (pc := 3) dX1_numberOfWhole_3 (by decide) ?_
  refine r_icmp_ge (pc := 5) (tgt := 29) dX1_numberOfWhole_5 (by decide) (fun c9 => ?_) (fun c9 => ?_)
  · replace h := h.1 c9
    refine r_aload_n (pc := 29) dX1_numberOfWhole_29 rfl rfl ?_
    refine r_aload_n (pc := 30) dX1_numberOfWhole_30 rfl rfl ?_
    refine r_getR (pc := 31) dX1_numberOfWhole_31 (k9 := 5) CL_1 (by decide) (by decide) w_460 rfl (okO_of (ci := 1) (N := 12) (qa0.r hL).1 (qa0.r hL).2.1) ?_
    refine eqR (y := a0 + 6) (qa0.f hL (k := 5) (by decide)) ?_
    refine c_VI0N (M := mX1_numberOfWhole) (pc := 34) (As := [vr (a0 + 6)]) dX1_numberOfWhole_34 K_X1_numberOf w_529 ⟨by decide, by decide⟩ (Nat.le_of_ble_eq_true rfl) rfl rfl (ci := 1) rfl rfl (by decide) (okO_of (ci := 1) (N := 12) (qa0.r hL).1 (qa0.r hL).2.1) (h hL) (fun r1 τ2 h8 hr9 => ?_) rfl
    replace hL := h8.1
    replace h := h8.2 hr9
    exact r_ireturn (pc := 37) (ty := .int) dX1_numberOfWhole_37 (by decide +kernel) rfl (nar_i _) (h hL)
  · replace h := h.2 c9
    refine r_aload_n (pc := 8) dX1_numberOfWhole_8 rfl rfl ?_
    refine r_getR (pc := 9) dX1_numberOfWhole_9 (k9 := 5) CL_1 (by decide) (by decide) w_460 rfl (okO_of (ci := 1) (N := 12) (qa0.r hL).1 (qa0.r hL).2.1) ?_
    refine eqR (y := a0 + 6) (qa0.f hL (k := 5) (by decide)) ?_
    refine r_iload_n (pc := 12) dX1_numberOfWhole_12 rfl rfl ?_
    refine r_iload_n (pc := 13) dX1_numberOfWhole_13 rfl rfl ?_
    refine r_if_ne (pc := 14) (tgt := 21) dX1_numberOfWhole_14 (by decide) (fun c9 => ?_) (fun c9 => ?_)
    · replace h := h.1 c9
      refine r_iconst (pc := 21) dX1_numberOfWhole_21 (inRk rfl) ?_
      obtain ⟨o3, h⟩ := h
      refine r_iastore (pc := 22) dX1_numberOfWhole_22 (okB_of (c := 20) (n := 8) (qa0.s hL (k := 5) (by decide)) (qa0.b (k := 6) (by decide)).1 o3) ?_
      refine nmS (fun τ4 e4 => ?_)
      replace h := h τ4 e4
      have hL := hL.wI e4 (qa0.b (k := 6) (by decide)).1 (.inl (qa0.b (k := 6) (by decide)).2)
      obtain ⟨o5, h⟩ := h
      refine r_iinc (pc := 23) dX1_numberOfWhole_23 rfl (by decide) o5 (l2 := [some (vr a0), some (vi x1), some (vi (x2 + 1))]) rfl ?_
      refine r_goto (pc := 26) (tgt := 2) dX1_numberOfWhole_26 (by decide) ?_
      exact (h hL)
    · replace h := h.2 c9
      refine r_iload_n (pc := 17) dX1_numberOfWhole_17 rfl rfl ?_
      refine r_goto (pc := 18) (tgt := 22) dX1_numberOfWhole_18 (by decide) ?_
      obtain ⟨o6, h⟩ := h
      refine r_iastore (pc := 22) dX1_numberOfWhole_22 (okB_of (c := 20) (n := 8) (qa0.s hL (k := 5) (by decide)) (qa0.b (k := 6) (by decide)).1 o6) ?_
      refine nmS (fun τ7 e7 => ?_)
      replace h := h τ7 e7
      have hL := hL.wI e7 (qa0.b (k := 6) (by decide)).1 (.inl (qa0.b (k := 6) (by decide)).2)
      obtain ⟨o8, h⟩ := h
      refine r_iinc (pc := 23) dX1_numberOfWhole_23 rfl (by decide) o8 (l2 := [some (vr a0), some (vi x1), some (vi (x2 + 1))]) rfl ?_
      refine r_goto (pc := 26) (tgt := 2) dX1_numberOfWhole_26 (by decide) ?_
      exact (h hL)
theorem C_X1_numberOfWhole {a0 : Nat} {x1 : Int} (h : GG E mX1_numberOfWhole 0 [some (vr a0), some (vi x1), none] [] σ 0 0 Q) : CC E mX1_numberOfWhole [vr a0, vi x1] σ Q := CC.of (by decide +kernel) rfl (by decide +kernel) (fun h9 => nomatch h9) (Nat.le_of_ble_eq_true rfl) h
theorem dX1_step_0 : decode cX1_step 0 = .ok (.aload_n 0, 1) := by decide +kernel
theorem dX1_step_1 : decode cX1_step 1 = .ok (.iload_n 1, 1) := by decide +kernel
theorem dX1_step_2 : decode cX1_step 2 = .ok (.bipush 8, 2) := by decide +kernel
theorem dX1_step_4 : decode cX1_step 4 = .ok (.imul, 1) := by decide +kernel
theorem dX1_step_5 : decode cX1_step 5 = .ok (.iload_n 2, 1) := by decide +kernel
theorem dX1_step_6 : decode cX1_step 6 = .ok (.bipush 8, 2) := by decide +kernel
theorem dX1_step_8 : decode cX1_step 8 = .ok (.imul, 1) := by decide +kernel
theorem dX1_step_9 : decode cX1_step 9 = .ok (.invokevirtual 73, 3) := by decide +kernel
theorem dX1_step_12 : decode cX1_step 12 = .ok (.ifCond .ne 11, 3) := by decide +kernel
theorem dX1_step_15 : decode cX1_step 15 = .ok (.aload_n 0, 1) := by decide +kernel
theorem dX1_step_16 : decode cX1_step 16 = .ok (.iconst 1, 1) := by decide +kernel
theorem dX1_step_17 : decode cX1_step 17 = .ok (.iload_n 1, 1) := by decide +kernel
theorem dX1_step_18 : decode cX1_step 18 = .ok (.iload_n 2, 1) := by decide +kernel
theorem dX1_step_19 : decode cX1_step 19 = .ok (.invokevirtual 76, 3) := by decide +kernel
theorem dX1_step_22 : decode cX1_step 22 = .ok (.ireturn, 1) := by decide +kernel
theorem dX1_step_23 : decode cX1_step 23 = .ok (.aload_n 0, 1) := by decide +kernel
theorem dX1_step_24 : decode cX1_step 24 = .ok (.aload_n 0, 1) := by decide +kernel
theorem dX1_step_25 : decode cX1_step 25 = .ok (.getfield 27, 3) := by decide +kernel
theorem dX1_step_28 : decode cX1_step 28 = .ok (.invokevirtual 69, 3) := by decide +kernel
theorem dX1_step_31 : decode cX1_step 31 = .ok (.istore_n 3, 1) := by decide +kernel
theorem dX1_step_32 : decode cX1_step 32 = .ok (.iload_n 3, 1) := by decide +kernel
theorem dX1_step_33 : decode cX1_step 33 = .ok (.iconst (-1), 1) := by decide +kernel
theorem dX1_step_34 : decode cX1_step 34 = .ok (.if_icmp .ne 31, 3) := by decide +kernel
theorem dX1_step_37 : decode cX1_step 37 = .ok (.aload_n 0, 1) := by decide +kernel
theorem dX1_step_38 : decode cX1_step 38 = .ok (.getfield 55, 3) := by decide +kernel
theorem dX1_step_41 : decode cX1_step 41 = .ok (.bipush 120, 2) := by decide +kernel
theorem dX1_step_43 : decode cX1_step 43 = .ok (.if_icmp .lt 11, 3) := by decide +kernel
theorem dX1_step_46 : decode cX1_step 46 = .ok (.aload_n 0, 1) := by decide +kernel
theorem dX1_step_47 : decode cX1_step 47 = .ok (.iconst 2, 1) := by decide +kernel
theorem dX1_step_48 : decode cX1_step 48 = .ok (.iload_n 1, 1) := by decide +kernel
theorem dX1_step_49 : decode cX1_step 49 = .ok (.iload_n 2, 1) := by decide +kernel
theorem dX1_step_50 : decode cX1_step 50 = .ok (.invokevirtual 76, 3) := by decide +kernel
theorem dX1_step_53 : decode cX1_step 53 = .ok (.ireturn, 1) := by decide +kernel
theorem dX1_step_54 : decode cX1_step 54 = .ok (.aload_n 0, 1) := by decide +kernel
theorem dX1_step_55 : decode cX1_step 55 = .ok (.getfield 55, 3) := by decide +kernel
theorem dX1_step_58 : decode cX1_step 58 = .ok (.istore_n 3, 1) := by decide +kernel
theorem dX1_step_59 : decode cX1_step 59 = .ok (.aload_n 0, 1) := by decide +kernel
theorem dX1_step_60 : decode cX1_step 60 = .ok (.iload_n 1, 1) := by decide +kernel
theorem dX1_step_61 : decode cX1_step 61 = .ok (.iload_n 2, 1) := by decide +kernel
theorem dX1_step_62 : decode cX1_step 62 = .ok (.invokevirtual 80, 3) := by decide +kernel
theorem dX1_step_65 : decode cX1_step 65 = .ok (.aload_n 0, 1) := by decide +kernel
theorem dX1_step_66 : decode cX1_step 66 = .ok (.getfield 18, 3) := by decide +kernel
theorem dX1_step_69 : decode cX1_step 69 = .ok (.iload_n 1, 1) := by decide +kernel
theorem dX1_step_70 : decode cX1_step 70 = .ok (.iconst 4, 1) := by decide +kernel
theorem dX1_step_71 : decode cX1_step 71 = .ok (.imul, 1) := by decide +kernel
theorem dX1_step_72 : decode cX1_step 72 = .ok (.iload_n 2, 1) := by decide +kernel
theorem dX1_step_73 : decode cX1_step 73 = .ok (.iadd, 1) := by decide +kernel
theorem dX1_step_74 : decode cX1_step 74 = .ok (.iload_n 3, 1) := by decide +kernel
theorem dX1_step_75 : decode cX1_step 75 = .ok (.iastore, 1) := by decide +kernel
theorem dX1_step_76 : decode cX1_step 76 = .ok (.iconst 1, 1) := by decide +kernel
theorem dX1_step_77 : decode cX1_step 77 = .ok (.ireturn, 1) := by decide +kernel
theorem B_X1_step_0 {g : Sg} {c t : Nat} (hL : Lay LC g c t σ) {a0 : Nat} (qa0 : isCl a0) {x1 : Int} {x2 : Int} (h : inR (x1 * 8) ∧ inR (x2 * 8) ∧ (Lay LC g c t σ → CC E mX1_multiply [vr a0, vi (x1 * 8), vi (x2 * 8)] σ (KI (fun r3 τ4 => Lay LC g c t τ4 ∧ (inR r3 → ((r3 ≠ 0 → (Lay LC g c t τ4 → CC E mX1_numberOf [vr a0, vr (a0 + 6)] τ4 (KI (fun r5 τ6 => Lay LC g c t τ6 ∧ (inR r5 → ((r5 ≠ (-1) → inR (x1 * 4) ∧ inR ((x1 * 4) + x2) ∧ (0 ≤ ((x1 * 4) + x2) ∧ ((x1 * 4) + x2) < 480) ∧ ∀ τ10 : Sg, τ10 = sI τ6 (a0 + 3) ((x1 * 4) + x2).toNat r5 → (Lay LC g c t τ10 → Q (.inl (some (vi 1))) τ10)) ∧ (r5 = (-1) → (((gI τ6 a0 8) < 120 → (Lay LC g c t τ6 → CC E mX1_takeNext [vr a0, vi x1, vi x2] τ6 (KV (fun τ12 => Lay LC g c t τ12 ∧ inR (x1 * 4) ∧ inR ((x1 * 4) + x2) ∧ (0 ≤ ((x1 * 4) + x2) ∧ ((x1 * 4) + x2) < 480) ∧ ∀ τ16 : Sg, τ16 = sI τ12 (a0 + 3) ((x1 * 4) + x2).toNat (gI τ6 a0 8) → (Lay LC g c t τ16 → Q (.inl (some (vi 1))) τ16)) (fun _ _ => False)))) ∧ (¬ ((gI τ6 a0 8) < 120) → (Lay LC g c t τ6 → CC E mX1_fail [vr a0, vi 2, vi x1, vi x2] τ6 (KI (fun r17 τ18 => Lay LC g c t τ18 ∧ (inR r17 → (r17 = 0 ∨ r17 = 1) ∧ (Lay LC g c t τ18 → Q (.inl (some (vi r17))) τ18))) (fun _ _ => False))))))))) (fun _ _ => False)))) ∧ (r3 = 0 → (Lay LC g c t τ4 → CC E mX1_fail [vr a0, vi 1, vi x1, vi x2] τ4 (KI (fun r19 τ20 => Lay LC g c t τ20 ∧ (inR r19 → (r19 = 0 ∨ r19 = 1) ∧ (Lay LC g c t τ20 → Q (.inl (some (vi r19))) τ20))) (fun _ _ => False))))))) (fun _ _ => False)))) : GG E mX1_step 0 [some (vr a0), some (vi x1), some (vi x2), none] [] σ rc rs Q := by
  refine r_aload_n (pc := 0) dX1_step_0 rfl rfl ?_
  refine r_iload_n (pc := 1) dX1_step_1 rfl rfl ?_
  refine r_bipush (pc := 2) dX1_step_2 (by decide) ?_
  obtain ⟨o1, h⟩ := h
  refine r_imul (pc := 4) dX1_step_4 o1 ?_
  refine r_iload_n (pc := 5) dX1_step_5 rfl rfl ?_
  refine r_bipush (pc := 6) dX1_step_6 (by decide) ?_
  obtain ⟨o2, h⟩ := h
  refine r_imul (pc := 8) dX1_step_8 o2 ?_
  refine c_VI0N (M := mX1_step) (pc := 9) (As := [vi (x1 * 8), vi (x2 * 8)]) dX1_step_9 K_X1_multiply w_516 ⟨by decide, by decide⟩ (Nat.le_of_ble_eq_true rfl) rfl rfl (ci := 1) rfl rfl (by decide) (okO_of (ci := 1) (N := 12) (qa0.r hL).1 (qa0.r hL).2.1) (h hL) (fun r3 τ4 h8 hr9 => ?_) rfl
  replace hL := h8.1
  replace h := h8.2 hr9
  refine r_if_ne (pc := 12) (tgt := 23) dX1_step_12 (by decide) (fun c9 => ?_) (fun c9 => ?_)
  · replace h := h.1 c9
    refine r_aload_n (pc := 23) dX1_step_23 rfl rfl ?_
    refine r_aload_n (pc := 24) dX1_step_24 rfl rfl ?_
    refine r_getR (pc := 25) dX1_step_25 (k9 := 5) CL_1 (by decide) (by decide) w_460 rfl (okO_of (ci := 1) (N := 12) (qa0.r hL).1 (qa0.r hL).2.1) ?_
    refine eqR (y := a0 + 6) (qa0.f hL (k := 5) (by decide)) ?_
    refine c_VI0N (M := mX1_step) (pc := 28) (As := [vr (a0 + 6)]) dX1_step_28 K_X1_numberOf w_529 ⟨by decide, by decide⟩ (Nat.le_of_ble_eq_true rfl) rfl rfl (ci := 1) rfl rfl (by decide) (okO_of (ci := 1) (N := 12) (qa0.r hL).1 (qa0.r hL).2.1) (h hL) (fun r5 τ6 h8 hr9 => ?_) rfl
    replace hL := h8.1
    replace h := h8.2 hr9
    refine r_istore_n (pc := 31) dX1_step_31 rfl (by decide) (l2 := [some (vr a0), some (vi x1), some (vi x2), some (vi r5)]) rfl ?_
    refine r_iload_n (pc := 32) dX1_step_32 rfl rfl ?_
    refine r_iconst (pc := 33) dX1_step_33 (inRk rfl) ?_
    refine r_icmp_ne (pc := 34) (tgt := 65) dX1_step_34 (by decide) (fun c9 => ?_) (fun c9 => ?_)
    · replace h := h.1 c9
      refine r_aload_n (pc := 65) dX1_step_65 rfl rfl ?_
      refine r_getR (pc := 66) dX1_step_66 (k9 := 2) CL_1 (by decide) (by decide) w_454 rfl (okO_of (ci := 1) (N := 12) (qa0.r hL).1 (qa0.r hL).2.1) ?_
      refine eqR (y := a0 + 3) (qa0.f hL (k := 2) (by decide)) ?_
      refine r_iload_n (pc := 69) dX1_step_69 rfl rfl ?_
      refine r_iconst (pc := 70) dX1_step_70 (inRk rfl) ?_
      obtain ⟨o7, h⟩ := h
      refine r_imul (pc := 71) dX1_step_71 o7 ?_
      refine r_iload_n (pc := 72) dX1_step_72 rfl rfl ?_
      obtain ⟨o8, h⟩ := h
      refine r_iadd (pc := 73) dX1_step_73 o8 ?_
      refine r_iload_n (pc := 74) dX1_step_74 rfl rfl ?_
      obtain ⟨o9, h⟩ := h
      refine r_iastore (pc := 75) dX1_step_75 (okB_of (c := 20) (n := 480) (qa0.s hL (k := 2) (by decide)) (qa0.b (k := 3) (by decide)).1 o9) ?_
      refine nmS (fun τ10 e10 => ?_)
      replace h := h τ10 e10
      have hL := hL.wI e10 (qa0.b (k := 3) (by decide)).1 (.inl (qa0.b (k := 3) (by decide)).2)
      refine r_iconst (pc := 76) dX1_step_76 (inRk rfl) ?_
      exact r_ireturn (pc := 77) (ty := .boolean) dX1_step_77 (by decide +kernel) rfl (nar_bool (by decide)) (h hL)
    · replace h := h.2 c9
      refine r_aload_n (pc := 37) dX1_step_37 rfl rfl ?_
      refine r_getI (pc := 38) dX1_step_38 (k9 := 8) CL_1 (by decide) (by decide) w_472 rfl (okO_of (ci := 1) (N := 12) (qa0.r hL).1 (qa0.r hL).2.1) (fun _ => ?_)
      refine r_bipush (pc := 41) dX1_step_41 (by decide) ?_
      refine r_icmp_lt (pc := 43) (tgt := 54) dX1_step_43 (by decide) (fun c9 => ?_) (fun c9 => ?_)
      · replace h := h.1 c9
        refine r_aload_n (pc := 54) dX1_step_54 rfl rfl ?_
        refine r_getI (pc := 55) dX1_step_55 (k9 := 8) CL_1 (by decide) (by decide) w_472 rfl (okO_of (ci := 1) (N := 12) (qa0.r hL).1 (qa0.r hL).2.1) (fun _ => ?_)
        refine r_istore_n (pc := 58) dX1_step_58 rfl (by decide) (l2 := [some (vr a0), some (vi x1), some (vi x2), some (vi (gI τ6 a0 8))]) rfl ?_
        refine r_aload_n (pc := 59) dX1_step_59 rfl rfl ?_
        refine r_iload_n (pc := 60) dX1_step_60 rfl rfl ?_
        refine r_iload_n (pc := 61) dX1_step_61 rfl rfl ?_
        refine c_VV0N (M := mX1_step) (pc := 62) (As := [vi x1, vi x2]) dX1_step_62 K_X1_takeNext w_537 ⟨by decide, by decide⟩ (Nat.le_of_ble_eq_true rfl) rfl rfl (ci := 1) rfl rfl (by decide) (okO_of (ci := 1) (N := 12) (qa0.r hL).1 (qa0.r hL).2.1) (h hL) (fun τ12 h8 => ?_) rfl
        replace hL := h8.1
        replace h := h8.2
        refine r_aload_n (pc := 65) dX1_step_65 rfl rfl ?_
        refine r_getR (pc := 66) dX1_step_66 (k9 := 2) CL_1 (by decide) (by decide) w_454 rfl (okO_of (ci := 1) (N := 12) (qa0.r hL).1 (qa0.r hL).2.1) ?_
        refine eqR (y := a0 + 3) (qa0.f hL (k := 2) (by decide)) ?_
        refine r_iload_n (pc := 69) dX1_step_69 rfl rfl ?_
        refine r_iconst (pc := 70) dX1_step_70 (inRk rfl) ?_
        obtain ⟨o13, h⟩ := h
        refine r_imul (pc := 71) dX1_step_71 o13 ?_
        refine r_iload_n (pc := 72) dX1_step_72 rfl rfl ?_
        obtain ⟨o14, h⟩ := h
        refine r_iadd (pc := 73) dX1_step_73 o14 ?_
        refine r_iload_n (pc := 74) dX1_step_74 rfl rfl ?_
        obtain ⟨o15, h⟩ := h
        refine r_iastore (pc := 75) dX1_step_75 (okB_of (c := 20) (n := 480) (qa0.s hL (k := 2) (by decide)) (qa0.b (k := 3) (by decide)).1 o15) ?_
        refine nmS (fun τ16 e16 => ?_)
        replace h := h τ16 e16
        have hL := hL.wI e16 (qa0.b (k := 3) (by decide)).1 (.inl (qa0.b (k := 3) (by decide)).2)
        refine r_iconst (pc := 76) dX1_step_76 (inRk rfl) ?_
        exact r_ireturn (pc := 77) (ty := .boolean) dX1_step_77 (by decide +kernel) rfl (nar_bool (by decide)) (h hL)
      · replace h := h.2 c9
        refine r_aload_n (pc := 46) dX1_step_46 rfl rfl ?_
        refine r_iconst (pc := 47) dX1_step_47 (inRk rfl) ?_
        refine r_iload_n (pc := 48) dX1_step_48 rfl rfl ?_
        refine r_iload_n (pc := 49) dX1_step_49 rfl rfl ?_
        refine c_VI0N (M := mX1_step) (pc := 50) (As := [vi 2, vi x1, vi x2]) dX1_step_50 K_X1_fail w_525 ⟨by decide, by decide⟩ (Nat.le_of_ble_eq_true rfl) rfl rfl (ci := 1) rfl rfl (by decide) (okO_of (ci := 1) (N := 12) (qa0.r hL).1 (qa0.r hL).2.1) (h hL) (fun r17 τ18 h8 hr9 => ?_) rfl
        replace hL := h8.1
        replace h := h8.2 hr9
        exact r_ireturn (pc := 53) (ty := .boolean) dX1_step_53 (by decide +kernel) rfl (nar_bool h.1) (h.2 hL)
  · replace h := h.2 c9
    refine r_aload_n (pc := 15) dX1_step_15 rfl rfl ?_
    refine r_iconst (pc := 16) dX1_step_16 (inRk rfl) ?_
    refine r_iload_n (pc := 17) dX1_step_17 rfl rfl ?_
    refine r_iload_n (pc := 18) dX1_step_18 rfl rfl ?_
    refine c_VI0N (M := mX1_step) (pc := 19) (As := [vi 1, vi x1, vi x2]) dX1_step_19 K_X1_fail w_525 ⟨by decide, by decide⟩ (Nat.le_of_ble_eq_true rfl) rfl rfl (ci := 1) rfl rfl (by decide) (okO_of (ci := 1) (N := 12) (qa0.r hL).1 (qa0.r hL).2.1) (h hL) (fun r19 τ20 h8 hr9 => ?_) rfl
    replace hL := h8.1
    replace h := h8.2 hr9
    exact r_ireturn (pc := 22) (ty := .boolean) dX1_step_22 (by decide +kernel) rfl (nar_bool h.1) (h.2 hL)
theorem C_X1_step {a0 : Nat} {x1 : Int} {x2 : Int} (h : GG E mX1_step 0 [some (vr a0), some (vi x1), some (vi x2), none] [] σ 0 0 Q) : CC E mX1_step [vr a0, vi x1, vi x2] σ Q := CC.of (by decide +kernel) rfl (by decide +kernel) (fun h9 => nomatch h9) (Nat.le_of_ble_eq_true rfl) h
theorem dX1_takeNext_0 : decode cX1_takeNext 0 = .ok (.aload_n 0, 1) := by decide +kernel
theorem dX1_takeNext_1 : decode cX1_takeNext 1 = .ok (.getfield 27, 3) := by decide +kernel
theorem dX1_takeNext_4 : decode cX1_takeNext 4 = .ok (.iconst 0, 1) := by decide +kernel
theorem dX1_takeNext_5 : decode cX1_takeNext 5 = .ok (.aload_n 0, 1) := by decide +kernel
theorem dX1_takeNext_6 : decode cX1_takeNext 6 = .ok (.getfield 15, 3) := by decide +kernel
theorem dX1_takeNext_9 : decode cX1_takeNext 9 = .ok (.aload_n 0, 1) := by decide +kernel
theorem dX1_takeNext_10 : decode cX1_takeNext 10 = .ok (.getfield 55, 3) := by decide +kernel
theorem dX1_takeNext_13 : decode cX1_takeNext 13 = .ok (.bipush 8, 2) := by decide +kernel
theorem dX1_takeNext_15 : decode cX1_takeNext 15 = .ok (.imul, 1) := by decide +kernel
theorem dX1_takeNext_16 : decode cX1_takeNext 16 = .ok (.bipush 8, 2) := by decide +kernel
theorem dX1_takeNext_18 : decode cX1_takeNext 18 = .ok (.invokestatic 49, 3) := by decide +kernel
theorem dX1_takeNext_21 : decode cX1_takeNext 21 = .ok (.aload_n 0, 1) := by decide +kernel
theorem dX1_takeNext_22 : decode cX1_takeNext 22 = .ok (.getfield 21, 3) := by decide +kernel
theorem dX1_takeNext_25 : decode cX1_takeNext 25 = .ok (.aload_n 0, 1) := by decide +kernel
theorem dX1_takeNext_26 : decode cX1_takeNext 26 = .ok (.getfield 55, 3) := by decide +kernel
theorem dX1_takeNext_29 : decode cX1_takeNext 29 = .ok (.iload_n 1, 1) := by decide +kernel
theorem dX1_takeNext_30 : decode cX1_takeNext 30 = .ok (.iastore, 1) := by decide +kernel
theorem dX1_takeNext_31 : decode cX1_takeNext 31 = .ok (.aload_n 0, 1) := by decide +kernel
theorem dX1_takeNext_32 : decode cX1_takeNext 32 = .ok (.getfield 24, 3) := by decide +kernel
theorem dX1_takeNext_35 : decode cX1_takeNext 35 = .ok (.aload_n 0, 1) := by decide +kernel
theorem dX1_takeNext_36 : decode cX1_takeNext 36 = .ok (.getfield 55, 3) := by decide +kernel
theorem dX1_takeNext_39 : decode cX1_takeNext 39 = .ok (.iload_n 2, 1) := by decide +kernel
theorem dX1_takeNext_40 : decode cX1_takeNext 40 = .ok (.iastore, 1) := by decide +kernel
theorem dX1_takeNext_41 : decode cX1_takeNext 41 = .ok (.aload_n 0, 1) := by decide +kernel
theorem dX1_takeNext_42 : decode cX1_takeNext 42 = .ok (.dup, 1) := by decide +kernel
theorem dX1_takeNext_43 : decode cX1_takeNext 43 = .ok (.getfield 55, 3) := by decide +kernel
theorem dX1_takeNext_46 : decode cX1_takeNext 46 = .ok (.iconst 1, 1) := by decide +kernel
theorem dX1_takeNext_47 : decode cX1_takeNext 47 = .ok (.iadd, 1) := by decide +kernel
theorem dX1_takeNext_48 : decode cX1_takeNext 48 = .ok (.putfield 55, 3) := by decide +kernel
theorem dX1_takeNext_51 : decode cX1_takeNext 51 = .ok (.return_, 1) := by decide +kernel
theorem B_X1_takeNext_0 {g : Sg} {c t : Nat} (hL : Lay LC g c t σ) {a0 : Nat} (qa0 : isCl a0) {x1 : Int} {x2 : Int} (h : inR ((gI σ a0 8) * 8) ∧ (0 ≤ (gI σ a0 8) * 8 ∧ (gI σ a0 8) * 8 + 8 ≤ 960) ∧ ∀ τ3 : Sg, τ3 = cpI σ (a0 + 6) 0 (a0 + 2) ((gI σ a0 8) * 8).toNat 8 → (0 ≤ (gI τ3 a0 8) ∧ (gI τ3 a0 8) < 120) ∧ ∀ τ5 : Sg, τ5 = sI τ3 (a0 + 4) (gI τ3 a0 8).toNat x1 → (0 ≤ (gI τ5 a0 8) ∧ (gI τ5 a0 8) < 120) ∧ ∀ τ7 : Sg, τ7 = sI τ5 (a0 + 5) (gI τ5 a0 8).toNat x2 → inR ((gI τ7 a0 8) + 1) ∧ ∀ τ9 : Sg, τ9 = sI τ7 a0 8 ((gI τ7 a0 8) + 1) → (Lay LC g c t τ9 → Q (.inl none) τ9)) : GG E mX1_takeNext 0 [some (vr a0), some (vi x1), some (vi x2)] [] σ rc rs Q := by
  refine r_aload_n (pc := 0) dX1_takeNext_0 rfl rfl ?_
  refine r_getR (pc := 1) dX1_takeNext_1 (k9 := 5) CL_1 (by decide) (by decide) w_460 rfl (okO_of (ci := 1) (N := 12) (qa0.r hL).1 (qa0.r hL).2.1) ?_
  refine eqR (y := a0 + 6) (qa0.f hL (k := 5) (by decide)) ?_
  refine r_iconst (pc := 4) dX1_takeNext_4 (inRk rfl) ?_
  refine r_aload_n (pc := 5) dX1_takeNext_5 rfl rfl ?_
  refine r_getR (pc := 6) dX1_takeNext_6 (k9 := 1) CL_1 (by decide) (by decide) w_450 rfl (okO_of (ci := 1) (N := 12) (qa0.r hL).1 (qa0.r hL).2.1) ?_
  refine eqR (y := a0 + 2) (qa0.f hL (k := 1) (by decide)) ?_
  refine r_aload_n (pc := 9) dX1_takeNext_9 rfl rfl ?_
  refine r_getI (pc := 10) dX1_takeNext_10 (k9 := 8) CL_1 (by decide) (by decide) w_472 rfl (okO_of (ci := 1) (N := 12) (qa0.r hL).1 (qa0.r hL).2.1) (fun _ => ?_)
  refine r_bipush (pc := 13) dX1_takeNext_13 (by decide) ?_
  obtain ⟨o1, h⟩ := h
  refine r_imul (pc := 15) dX1_takeNext_15 o1 ?_
  refine r_bipush (pc := 16) dX1_takeNext_16 (by decide) ?_
  obtain ⟨o2, h⟩ := h
  refine r_copy (pc := 18) dX1_takeNext_18 w_541 w_543 w_542 w_110 (by decide) (by decide +kernel) ⟨(qa0.b (k := 6) (by decide)).1, by rw [(qa0.s hL (k := 5) (by decide))]⟩ ⟨(qa0.b (k := 2) (by decide)).1, by rw [(qa0.s hL (k := 1) (by decide))]⟩ (by decide) (cpl (N := 8) (qa0.s hL (k := 5) (by decide)) (by decide) (by first | rfl | decide)) (cpl (N := 960) (qa0.s hL (k := 1) (by decide)) o2 (by first | rfl | decide)) ?_
  refine nmS (fun τ3 e3 => ?_)
  replace h := h τ3 e3
  have hL := hL.wC e3 (qa0.b (k := 2) (by decide)).1 (.inl (qa0.b (k := 2) (by decide)).2)
  refine r_aload_n (pc := 21) dX1_takeNext_21 rfl rfl ?_
  refine r_getR (pc := 22) dX1_takeNext_22 (k9 := 3) CL_1 (by decide) (by decide) w_456 rfl (okO_of (ci := 1) (N := 12) (qa0.r hL).1 (qa0.r hL).2.1) ?_
  refine eqR (y := a0 + 4) (qa0.f hL (k := 3) (by decide)) ?_
  refine r_aload_n (pc := 25) dX1_takeNext_25 rfl rfl ?_
  refine r_getI (pc := 26) dX1_takeNext_26 (k9 := 8) CL_1 (by decide) (by decide) w_472 rfl (okO_of (ci := 1) (N := 12) (qa0.r hL).1 (qa0.r hL).2.1) (fun _ => ?_)
  refine r_iload_n (pc := 29) dX1_takeNext_29 rfl rfl ?_
  obtain ⟨o4, h⟩ := h
  refine r_iastore (pc := 30) dX1_takeNext_30 (okB_of (c := 20) (n := 120) (qa0.s hL (k := 3) (by decide)) (qa0.b (k := 4) (by decide)).1 o4) ?_
  refine nmS (fun τ5 e5 => ?_)
  replace h := h τ5 e5
  have hL := hL.wI e5 (qa0.b (k := 4) (by decide)).1 (.inl (qa0.b (k := 4) (by decide)).2)
  refine r_aload_n (pc := 31) dX1_takeNext_31 rfl rfl ?_
  refine r_getR (pc := 32) dX1_takeNext_32 (k9 := 4) CL_1 (by decide) (by decide) w_458 rfl (okO_of (ci := 1) (N := 12) (qa0.r hL).1 (qa0.r hL).2.1) ?_
  refine eqR (y := a0 + 5) (qa0.f hL (k := 4) (by decide)) ?_
  refine r_aload_n (pc := 35) dX1_takeNext_35 rfl rfl ?_
  refine r_getI (pc := 36) dX1_takeNext_36 (k9 := 8) CL_1 (by decide) (by decide) w_472 rfl (okO_of (ci := 1) (N := 12) (qa0.r hL).1 (qa0.r hL).2.1) (fun _ => ?_)
  refine r_iload_n (pc := 39) dX1_takeNext_39 rfl rfl ?_
  obtain ⟨o6, h⟩ := h
  refine r_iastore (pc := 40) dX1_takeNext_40 (okB_of (c := 20) (n := 120) (qa0.s hL (k := 4) (by decide)) (qa0.b (k := 5) (by decide)).1 o6) ?_
  refine nmS (fun τ7 e7 => ?_)
  replace h := h τ7 e7
  have hL := hL.wI e7 (qa0.b (k := 5) (by decide)).1 (.inl (qa0.b (k := 5) (by decide)).2)
  refine r_aload_n (pc := 41) dX1_takeNext_41 rfl rfl ?_
  refine r_dup (pc := 42) dX1_takeNext_42 (fun _ h9 => nomatch h9) ?_
  refine r_getI (pc := 43) dX1_takeNext_43 (k9 := 8) CL_1 (by decide) (by decide) w_472 rfl (okO_of (ci := 1) (N := 12) (qa0.r hL).1 (qa0.r hL).2.1) (fun _ => ?_)
  refine r_iconst (pc := 46) dX1_takeNext_46 (inRk rfl) ?_
  obtain ⟨o8, h⟩ := h
  refine r_iadd (pc := 47) dX1_takeNext_47 o8 ?_
  refine r_putI (pc := 48) dX1_takeNext_48 (k9 := 8) CL_1 (by decide) (by decide) w_472 rfl rfl (fun h9 => absurd h9 (by decide +kernel)) (okO_of (ci := 1) (N := 12) (qa0.r hL).1 (qa0.r hL).2.1) ?_
  refine nmS (fun τ9 e9 => ?_)
  replace h := h τ9 e9
  have hL := hL.wI e9 (qa0.b (k := 0) (by decide)).1 (.inl (qa0.b (k := 0) (by decide)).2)
  exact r_return (pc := 51) dX1_takeNext_51 (by decide +kernel) rfl (h hL)
theorem C_X1_takeNext {a0 : Nat} {x1 : Int} {x2 : Int} (h : GG E mX1_takeNext 0 [some (vr a0), some (vi x1), some (vi x2)] [] σ 0 0 Q) : CC E mX1_takeNext [vr a0, vi x1, vi x2] σ Q := CC.of (by decide +kernel) rfl (by decide +kernel) (fun h9 => nomatch h9) (Nat.le_of_ble_eq_true rfl) h
theorem dX1_tell_0 : decode cX1_tell 0 = .ok (.aload_n 0, 1) := by decide +kernel
theorem dX1_tell_1 : decode cX1_tell 1 = .ok (.getfield 34, 3) := by decide +kernel
theorem dX1_tell_4 : decode cX1_tell 4 = .ok (.iconst 4, 1) := by decide +kernel
theorem dX1_tell_5 : decode cX1_tell 5 = .ok (.if_icmp .ge 39, 3) := by decide +kernel
theorem dX1_tell_8 : decode cX1_tell 8 = .ok (.aload_n 1, 1) := by decide +kernel
theorem dX1_tell_9 : decode cX1_tell 9 = .ok (.iload_n 2, 1) := by decide +kernel
theorem dX1_tell_10 : decode cX1_tell 10 = .ok (.invokestatic 45, 3) := by decide +kernel
theorem dX1_tell_13 : decode cX1_tell 13 = .ok (.ifCond .eq 31, 3) := by decide +kernel
theorem dX1_tell_16 : decode cX1_tell 16 = .ok (.aload_n 1, 1) := by decide +kernel
theorem dX1_tell_17 : decode cX1_tell 17 = .ok (.iload_n 2, 1) := by decide +kernel
theorem dX1_tell_18 : decode cX1_tell 18 = .ok (.aload_n 0, 1) := by decide +kernel
theorem dX1_tell_19 : decode cX1_tell 19 = .ok (.getfield 9, 3) := by decide +kernel
theorem dX1_tell_22 : decode cX1_tell 22 = .ok (.aload_n 0, 1) := by decide +kernel
theorem dX1_tell_23 : decode cX1_tell 23 = .ok (.getfield 34, 3) := by decide +kernel
theorem dX1_tell_26 : decode cX1_tell 26 = .ok (.bipush 8, 2) := by decide +kernel
theorem dX1_tell_28 : decode cX1_tell 28 = .ok (.imul, 1) := by decide +kernel
theorem dX1_tell_29 : decode cX1_tell 29 = .ok (.bipush 8, 2) := by decide +kernel
theorem dX1_tell_31 : decode cX1_tell 31 = .ok (.invokestatic 49, 3) := by decide +kernel
theorem dX1_tell_34 : decode cX1_tell 34 = .ok (.aload_n 0, 1) := by decide +kernel
theorem dX1_tell_35 : decode cX1_tell 35 = .ok (.dup, 1) := by decide +kernel
theorem dX1_tell_36 : decode cX1_tell 36 = .ok (.getfield 34, 3) := by decide +kernel
theorem dX1_tell_39 : decode cX1_tell 39 = .ok (.iconst 1, 1) := by decide +kernel
theorem dX1_tell_40 : decode cX1_tell 40 = .ok (.iadd, 1) := by decide +kernel
theorem dX1_tell_41 : decode cX1_tell 41 = .ok (.putfield 34, 3) := by decide +kernel
theorem dX1_tell_44 : decode cX1_tell 44 = .ok (.return_, 1) := by decide +kernel
theorem B_X1_tell_0 {g : Sg} {c t : Nat} (hL : Lay LC g c t σ) {a0 : Nat} (qa0 : isCl a0) {a1 : Nat} {n1 : Nat} (p1 : PA LC a1 n1) {x2 : Int} (h : ((4 ≤ (gI σ a0 7) → (Lay LC g c t σ → Q (.inl none) σ)) ∧ (¬ (4 ≤ (gI σ a0 7)) → (Lay LC g c t σ → CC E mX1_holdsTurn [vr a1, vi x2] σ (KI (fun r1 τ2 => Lay LC g c t τ2 ∧ (inR r1 → ((r1 = 0 → (Lay LC g c t τ2 → Q (.inl none) τ2)) ∧ (¬ (r1 = 0) → inR ((gI τ2 a0 7) * 8) ∧ (0 ≤ x2 ∧ x2 + 8 ≤ (n1 : Int)) ∧ (0 ≤ (gI τ2 a0 7) * 8 ∧ (gI τ2 a0 7) * 8 + 8 ≤ 32) ∧ ∀ τ6 : Sg, τ6 = cpI τ2 a1 x2.toNat (a0 + 1) ((gI τ2 a0 7) * 8).toNat 8 → inR ((gI τ6 a0 7) + 1) ∧ ∀ τ8 : Sg, τ8 = sI τ6 a0 7 ((gI τ6 a0 7) + 1) → (Lay LC g c t τ8 → Q (.inl none) τ8))))) (fun _ _ => False)))))) : GG E mX1_tell 0 [some (vr a0), some (vr a1), some (vi x2)] [] σ rc rs Q := by
  refine r_aload_n (pc := 0) dX1_tell_0 rfl rfl ?_
  refine r_getI (pc := 1) dX1_tell_1 (k9 := 7) CL_1 (by decide) (by decide) w_466 rfl (okO_of (ci := 1) (N := 12) (qa0.r hL).1 (qa0.r hL).2.1) (fun _ => ?_)
  refine r_iconst (pc := 4) dX1_tell_4 (inRk rfl) ?_
  refine r_icmp_ge (pc := 5) (tgt := 44) dX1_tell_5 (by decide) (fun c9 => ?_) (fun c9 => ?_)
  · replace h := h.1 c9
    exact r_return (pc := 44) dX1_tell_44 (by decide +kernel) rfl (h hL)
  · replace h := h.2 c9
    refine r_aload_n (pc := 8) dX1_tell_8 rfl rfl ?_
    refine r_iload_n (pc := 9) dX1_tell_9 rfl rfl ?_
    refine c_SI0N (M := mX1_tell) (pc := 10) (As := [vr a1, vi x2]) dX1_tell_10 K_X1_holdsTurn w_520 ⟨by decide, by decide⟩ (Nat.le_of_ble_eq_true rfl) rfl rfl (h hL) (fun r1 τ2 h8 hr9 => ?_) rfl
    replace hL := h8.1
    replace h := h8.2 hr9
    refine r_if_eq (pc := 13) (tgt := 44) dX1_tell_13 (by decide) (fun c9 => ?_) (fun c9 => ?_)
    · replace h := h.1 c9
      exact r_return (pc := 44) dX1_tell_44 (by decide +kernel) rfl (h hL)
    · replace h := h.2 c9
      refine r_aload_n (pc := 16) dX1_tell_16 rfl rfl ?_
      refine r_iload_n (pc := 17) dX1_tell_17 rfl rfl ?_
      refine r_aload_n (pc := 18) dX1_tell_18 rfl rfl ?_
      refine r_getR (pc := 19) dX1_tell_19 (k9 := 0) CL_1 (by decide) (by decide) w_447 rfl (okO_of (ci := 1) (N := 12) (qa0.r hL).1 (qa0.r hL).2.1) ?_
      refine eqR (y := a0 + 1) (qa0.f hL (k := 0) (by decide)) ?_
      refine r_aload_n (pc := 22) dX1_tell_22 rfl rfl ?_
      refine r_getI (pc := 23) dX1_tell_23 (k9 := 7) CL_1 (by decide) (by decide) w_466 rfl (okO_of (ci := 1) (N := 12) (qa0.r hL).1 (qa0.r hL).2.1) (fun _ => ?_)
      refine r_bipush (pc := 26) dX1_tell_26 (by decide) ?_
      obtain ⟨o3, h⟩ := h
      refine r_imul (pc := 28) dX1_tell_28 o3 ?_
      refine r_bipush (pc := 29) dX1_tell_29 (by decide) ?_
      obtain ⟨o4, h⟩ := h
      obtain ⟨o5, h⟩ := h
      refine r_copy (pc := 31) dX1_tell_31 w_541 w_543 w_542 w_110 (by decide) (by decide +kernel) ⟨p1.2.2.1, by rw [(p1.sh hL)]⟩ ⟨(qa0.b (k := 1) (by decide)).1, by rw [(qa0.s hL (k := 0) (by decide))]⟩ (by decide) (cpl (N := (n1 : Int)) (p1.sh hL) o4 (by first | rfl | decide)) (cpl (N := 32) (qa0.s hL (k := 0) (by decide)) o5 (by first | rfl | decide)) ?_
      refine nmS (fun τ6 e6 => ?_)
      replace h := h τ6 e6
      have hL := hL.wC e6 (qa0.b (k := 1) (by decide)).1 (.inl (qa0.b (k := 1) (by decide)).2)
      refine r_aload_n (pc := 34) dX1_tell_34 rfl rfl ?_
      refine r_dup (pc := 35) dX1_tell_35 (fun _ h9 => nomatch h9) ?_
      refine r_getI (pc := 36) dX1_tell_36 (k9 := 7) CL_1 (by decide) (by decide) w_466 rfl (okO_of (ci := 1) (N := 12) (qa0.r hL).1 (qa0.r hL).2.1) (fun _ => ?_)
      refine r_iconst (pc := 39) dX1_tell_39 (inRk rfl) ?_
      obtain ⟨o7, h⟩ := h
      refine r_iadd (pc := 40) dX1_tell_40 o7 ?_
      refine r_putI (pc := 41) dX1_tell_41 (k9 := 7) CL_1 (by decide) (by decide) w_466 rfl rfl (fun h9 => absurd h9 (by decide +kernel)) (okO_of (ci := 1) (N := 12) (qa0.r hL).1 (qa0.r hL).2.1) ?_
      refine nmS (fun τ8 e8 => ?_)
      replace h := h τ8 e8
      have hL := hL.wI e8 (qa0.b (k := 0) (by decide)).1 (.inl (qa0.b (k := 0) (by decide)).2)
      exact r_return (pc := 44) dX1_tell_44 (by decide +kernel) rfl (h hL)
theorem C_X1_tell {a0 : Nat} {a1 : Nat} {x2 : Int} (h : GG E mX1_tell 0 [some (vr a0), some (vr a1), some (vi x2)] [] σ 0 0 Q) : CC E mX1_tell [vr a0, vr a1, vi x2] σ Q := CC.of (by decide +kernel) rfl (by decide +kernel) (fun h9 => nomatch h9) (Nat.le_of_ble_eq_true rfl) h
theorem dX5_clear_0 : decode cX5_clear 0 = .ok (.aload_n 0, 1) := by decide +kernel
theorem dX5_clear_1 : decode cX5_clear 1 = .ok (.iconst 0, 1) := by decide +kernel
theorem dX5_clear_2 : decode cX5_clear 2 = .ok (.putfield 18, 3) := by decide +kernel
theorem dX5_clear_5 : decode cX5_clear 5 = .ok (.return_, 1) := by decide +kernel
theorem B_X5_clear_0 {g : Sg} {c t : Nat} (hL : Lay LC g c t σ)  (h : ∀ τ1 : Sg, τ1 = sI σ 21 2 0 → (Lay LC g c t τ1 → Q (.inl none) τ1)) : GG E mX5_clear 0 [some (vr 21)] [] σ rc rs Q := by
  refine r_aload_n (pc := 0) dX5_clear_0 rfl rfl ?_
  refine r_iconst (pc := 1) dX5_clear_1 (inRk rfl) ?_
  refine r_putI (pc := 2) dX5_clear_2 (k9 := 2) CL_5 (by decide) (by decide) w_184 rfl rfl (fun h9 => absurd h9 (by decide +kernel)) (okO_of (N := 3) (hL.sh (i := 5) rfl (by decide) (by decide)) (by decide)) ?_
  refine nmS (fun τ1 e1 => ?_)
  replace h := h τ1 e1
  have hL := hL.wI e1 (by decide) (.inl (by decide))
  exact r_return (pc := 5) dX5_clear_5 (by decide +kernel) rfl (h hL)
theorem C_X5_clear {a0 : Nat} (h : GG E mX5_clear 0 [some (vr a0)] [] σ 0 0 Q) : CC E mX5_clear [vr a0] σ Q := CC.of (by decide +kernel) rfl (by decide +kernel) (fun h9 => nomatch h9) (Nat.le_of_ble_eq_true rfl) h
theorem dX5_forgetFirst_0 : decode cX5_forgetFirst 0 = .ok (.aload_n 0, 1) := by decide +kernel
theorem dX5_forgetFirst_1 : decode cX5_forgetFirst 1 = .ok (.getfield 11, 3) := by decide +kernel
theorem dX5_forgetFirst_4 : decode cX5_forgetFirst 4 = .ok (.bipush 32, 2) := by decide +kernel
theorem dX5_forgetFirst_6 : decode cX5_forgetFirst 6 = .ok (.aload_n 0, 1) := by decide +kernel
theorem dX5_forgetFirst_7 : decode cX5_forgetFirst 7 = .ok (.getfield 11, 3) := by decide +kernel
theorem dX5_forgetFirst_10 : decode cX5_forgetFirst 10 = .ok (.iconst 0, 1) := by decide +kernel
theorem dX5_forgetFirst_11 : decode cX5_forgetFirst 11 = .ok (.sipush 224, 3) := by decide +kernel
theorem dX5_forgetFirst_14 : decode cX5_forgetFirst 14 = .ok (.invokestatic 28, 3) := by decide +kernel
theorem dX5_forgetFirst_17 : decode cX5_forgetFirst 17 = .ok (.aload_n 0, 1) := by decide +kernel
theorem dX5_forgetFirst_18 : decode cX5_forgetFirst 18 = .ok (.getfield 15, 3) := by decide +kernel
theorem dX5_forgetFirst_21 : decode cX5_forgetFirst 21 = .ok (.iconst 1, 1) := by decide +kernel
theorem dX5_forgetFirst_22 : decode cX5_forgetFirst 22 = .ok (.aload_n 0, 1) := by decide +kernel
theorem dX5_forgetFirst_23 : decode cX5_forgetFirst 23 = .ok (.getfield 15, 3) := by decide +kernel
theorem dX5_forgetFirst_26 : decode cX5_forgetFirst 26 = .ok (.iconst 0, 1) := by decide +kernel
theorem dX5_forgetFirst_27 : decode cX5_forgetFirst 27 = .ok (.bipush 7, 2) := by decide +kernel
theorem dX5_forgetFirst_29 : decode cX5_forgetFirst 29 = .ok (.invokestatic 28, 3) := by decide +kernel
theorem dX5_forgetFirst_32 : decode cX5_forgetFirst 32 = .ok (.aload_n 0, 1) := by decide +kernel
theorem dX5_forgetFirst_33 : decode cX5_forgetFirst 33 = .ok (.bipush 7, 2) := by decide +kernel
theorem dX5_forgetFirst_35 : decode cX5_forgetFirst 35 = .ok (.putfield 18, 3) := by decide +kernel
theorem dX5_forgetFirst_38 : decode cX5_forgetFirst 38 = .ok (.return_, 1) := by decide +kernel
theorem B_X5_forgetFirst_0 {g : Sg} {c t : Nat} (hL : Lay LC g c t σ)  (h : ∀ τ1 : Sg, τ1 = cpI σ 22 32 22 0 224 → ∀ τ2 : Sg, τ2 = cpI τ1 23 1 23 0 7 → ∀ τ3 : Sg, τ3 = sI τ2 21 2 7 → (Lay LC g c t τ3 → Q (.inl none) τ3)) : GG E mX5_forgetFirst 0 [some (vr 21)] [] σ rc rs Q := by
  refine r_aload_n (pc := 0) dX5_forgetFirst_0 rfl rfl ?_
  refine r_getR (pc := 1) dX5_forgetFirst_1 (k9 := 0) CL_5 (by decide) (by decide) w_182 rfl (okO_of (N := 3) (hL.sh (i := 5) rfl (by decide) (by decide)) (by decide)) ?_
  refine eqR (y := 22) (hL.rf (i := 5) rfl) ?_
  refine r_bipush (pc := 4) dX5_forgetFirst_4 (by decide) ?_
  refine r_aload_n (pc := 6) dX5_forgetFirst_6 rfl rfl ?_
  refine r_getR (pc := 7) dX5_forgetFirst_7 (k9 := 0) CL_5 (by decide) (by decide) w_182 rfl (okO_of (N := 3) (hL.sh (i := 5) rfl (by decide) (by decide)) (by decide)) ?_
  refine eqR (y := 22) (hL.rf (i := 5) rfl) ?_
  refine r_iconst (pc := 10) dX5_forgetFirst_10 (inRk rfl) ?_
  refine r_sipush (pc := 11) dX5_forgetFirst_11 (by decide) ?_
  refine r_copy (pc := 14) dX5_forgetFirst_14 w_937 w_543 w_542 w_110 (by decide) (by decide +kernel) ⟨(by decide), by rw [(hL.sh (i := 6) rfl (by decide) (by decide))]⟩ ⟨(by decide), by rw [(hL.sh (i := 6) rfl (by decide) (by decide))]⟩ (by decide) (cpl (N := 256) (hL.sh (i := 6) rfl (by decide) (by decide)) (by decide) (by first | rfl | decide)) (cpl (N := 256) (hL.sh (i := 6) rfl (by decide) (by decide)) (by decide) (by first | rfl | decide)) ?_
  refine nmS (fun τ1 e1 => ?_)
  replace h := h τ1 e1
  have hL := hL.wC e1 (by decide) (.inl (by decide))
  refine r_aload_n (pc := 17) dX5_forgetFirst_17 rfl rfl ?_
  refine r_getR (pc := 18) dX5_forgetFirst_18 (k9 := 1) CL_5 (by decide) (by decide) w_183 rfl (okO_of (N := 3) (hL.sh (i := 5) rfl (by decide) (by decide)) (by decide)) ?_
  refine eqR (y := 23) (hL.rf (i := 6) rfl) ?_
  refine r_iconst (pc := 21) dX5_forgetFirst_21 (inRk rfl) ?_
  refine r_aload_n (pc := 22) dX5_forgetFirst_22 rfl rfl ?_
  refine r_getR (pc := 23) dX5_forgetFirst_23 (k9 := 1) CL_5 (by decide) (by decide) w_183 rfl (okO_of (N := 3) (hL.sh (i := 5) rfl (by decide) (by decide)) (by decide)) ?_
  refine eqR (y := 23) (hL.rf (i := 6) rfl) ?_
  refine r_iconst (pc := 26) dX5_forgetFirst_26 (inRk rfl) ?_
  refine r_bipush (pc := 27) dX5_forgetFirst_27 (by decide) ?_
  refine r_copy (pc := 29) dX5_forgetFirst_29 w_937 w_543 w_542 w_110 (by decide) (by decide +kernel) ⟨(by decide), by rw [(hL.sh (i := 7) rfl (by decide) (by decide))]⟩ ⟨(by decide), by rw [(hL.sh (i := 7) rfl (by decide) (by decide))]⟩ (by decide) (cpl (N := 8) (hL.sh (i := 7) rfl (by decide) (by decide)) (by decide) (by first | rfl | decide)) (cpl (N := 8) (hL.sh (i := 7) rfl (by decide) (by decide)) (by decide) (by first | rfl | decide)) ?_
  refine nmS (fun τ2 e2 => ?_)
  replace h := h τ2 e2
  have hL := hL.wC e2 (by decide) (.inl (by decide))
  refine r_aload_n (pc := 32) dX5_forgetFirst_32 rfl rfl ?_
  refine r_bipush (pc := 33) dX5_forgetFirst_33 (by decide) ?_
  refine r_putI (pc := 35) dX5_forgetFirst_35 (k9 := 2) CL_5 (by decide) (by decide) w_184 rfl rfl (fun h9 => absurd h9 (by decide +kernel)) (okO_of (N := 3) (hL.sh (i := 5) rfl (by decide) (by decide)) (by decide)) ?_
  refine nmS (fun τ3 e3 => ?_)
  replace h := h τ3 e3
  have hL := hL.wI e3 (by decide) (.inl (by decide))
  exact r_return (pc := 38) dX5_forgetFirst_38 (by decide +kernel) rfl (h hL)
theorem C_X5_forgetFirst {a0 : Nat} (h : GG E mX5_forgetFirst 0 [some (vr a0)] [] σ 0 0 Q) : CC E mX5_forgetFirst [vr a0] σ Q := CC.of (by decide +kernel) rfl (by decide +kernel) (fun h9 => nomatch h9) (Nat.le_of_ble_eq_true rfl) h
theorem dX5_giveBack_0 : decode cX5_giveBack 0 = .ok (.aload_n 0, 1) := by decide +kernel
theorem dX5_giveBack_1 : decode cX5_giveBack 1 = .ok (.getfield 18, 3) := by decide +kernel
theorem dX5_giveBack_4 : decode cX5_giveBack 4 = .ok (.iconst 1, 1) := by decide +kernel
theorem dX5_giveBack_5 : decode cX5_giveBack 5 = .ok (.if_icmp .lt 12, 3) := by decide +kernel
theorem dX5_giveBack_8 : decode cX5_giveBack 8 = .ok (.aload_n 0, 1) := by decide +kernel
theorem dX5_giveBack_9 : decode cX5_giveBack 9 = .ok (.getfield 18, 3) := by decide +kernel
theorem dX5_giveBack_12 : decode cX5_giveBack 12 = .ok (.bipush 8, 2) := by decide +kernel
theorem dX5_giveBack_14 : decode cX5_giveBack 14 = .ok (.if_icmp .le 4, 3) := by decide +kernel
theorem dX5_giveBack_17 : decode cX5_giveBack 17 = .ok (.return_, 1) := by decide +kernel
theorem dX5_giveBack_18 : decode cX5_giveBack 18 = .ok (.aload_n 0, 1) := by decide +kernel
theorem dX5_giveBack_19 : decode cX5_giveBack 19 = .ok (.dup, 1) := by decide +kernel
theorem dX5_giveBack_20 : decode cX5_giveBack 20 = .ok (.getfield 18, 3) := by decide +kernel
theorem dX5_giveBack_23 : decode cX5_giveBack 23 = .ok (.iconst 1, 1) := by decide +kernel
theorem dX5_giveBack_24 : decode cX5_giveBack 24 = .ok (.isub, 1) := by decide +kernel
theorem dX5_giveBack_25 : decode cX5_giveBack 25 = .ok (.putfield 18, 3) := by decide +kernel
theorem dX5_giveBack_28 : decode cX5_giveBack 28 = .ok (.iconst 0, 1) := by decide +kernel
theorem dX5_giveBack_29 : decode cX5_giveBack 29 = .ok (.istore_n 2, 1) := by decide +kernel
theorem dX5_giveBack_30 : decode cX5_giveBack 30 = .ok (.iload_n 2, 1) := by decide +kernel
theorem dX5_giveBack_31 : decode cX5_giveBack 31 = .ok (.aload_n 0, 1) := by decide +kernel
theorem dX5_giveBack_32 : decode cX5_giveBack 32 = .ok (.getfield 15, 3) := by decide +kernel
theorem dX5_giveBack_35 : decode cX5_giveBack 35 = .ok (.aload_n 0, 1) := by decide +kernel
theorem dX5_giveBack_36 : decode cX5_giveBack 36 = .ok (.getfield 18, 3) := by decide +kernel
theorem dX5_giveBack_39 : decode cX5_giveBack 39 = .ok (.iaload, 1) := by decide +kernel
theorem dX5_giveBack_40 : decode cX5_giveBack 40 = .ok (.if_icmp .ge 34, 3) := by decide +kernel
theorem dX5_giveBack_43 : decode cX5_giveBack 43 = .ok (.iload_n 2, 1) := by decide +kernel
theorem dX5_giveBack_44 : decode cX5_giveBack 44 = .ok (.iconst 4, 1) := by decide +kernel
theorem dX5_giveBack_45 : decode cX5_giveBack 45 = .ok (.if_icmp .ge 29, 3) := by decide +kernel
theorem dX5_giveBack_48 : decode cX5_giveBack 48 = .ok (.aload_n 1, 1) := by decide +kernel
theorem dX5_giveBack_49 : decode cX5_giveBack 49 = .ok (.aload_n 0, 1) := by decide +kernel
theorem dX5_giveBack_50 : decode cX5_giveBack 50 = .ok (.getfield 11, 3) := by decide +kernel
theorem dX5_giveBack_53 : decode cX5_giveBack 53 = .ok (.aload_n 0, 1) := by decide +kernel
theorem dX5_giveBack_54 : decode cX5_giveBack 54 = .ok (.getfield 18, 3) := by decide +kernel
theorem dX5_giveBack_57 : decode cX5_giveBack 57 = .ok (.bipush 32, 2) := by decide +kernel
theorem dX5_giveBack_59 : decode cX5_giveBack 59 = .ok (.imul, 1) := by decide +kernel
theorem dX5_giveBack_60 : decode cX5_giveBack 60 = .ok (.iload_n 2, 1) := by decide +kernel
theorem dX5_giveBack_61 : decode cX5_giveBack 61 = .ok (.bipush 8, 2) := by decide +kernel
theorem dX5_giveBack_63 : decode cX5_giveBack 63 = .ok (.imul, 1) := by decide +kernel
theorem dX5_giveBack_64 : decode cX5_giveBack 64 = .ok (.iadd, 1) := by decide +kernel
theorem dX5_giveBack_65 : decode cX5_giveBack 65 = .ok (.invokevirtual 37, 3) := by decide +kernel
theorem dX5_giveBack_68 : decode cX5_giveBack 68 = .ok (.iinc 2 1, 3) := by decide +kernel
theorem dX5_giveBack_71 : decode cX5_giveBack 71 = .ok (.goto (-41), 3) := by decide +kernel
theorem dX5_giveBack_74 : decode cX5_giveBack 74 = .ok (.return_, 1) := by decide +kernel
theorem B_X5_giveBack_0 {g : Sg} {c t : Nat} (hL : Lay LC g c t σ) {a1 : Nat} (qa1 : isCl a1) (h : (((gI σ 21 2) < 1 → (Lay LC g c t σ → Q (.inl none) σ)) ∧ (¬ ((gI σ 21 2) < 1) → (((gI σ 21 2) ≤ 8 → inR ((gI σ 21 2) - 1) ∧ ∀ τ2 : Sg, τ2 = sI σ 21 2 ((gI σ 21 2) - 1) → (Lay LC g c t τ2 → GG E mX5_giveBack 30 [some (vr 21), some (vr a1), some (vi 0)] [] τ2 rc rs Q)) ∧ (¬ ((gI σ 21 2) ≤ 8) → (Lay LC g c t σ → Q (.inl none) σ)))))) : GG E mX5_giveBack 0 [some (vr 21), some (vr a1), none] [] σ rc rs Q := by
  refine r_aload_n (pc := 0) dX5_giveBack_0 rfl rfl ?_
  refine r_getI (pc := 1) dX5_giveBack_1 (k9 := 2) CL_5 (by decide) (by decide) w_184 rfl (okO_of (N := 3) (hL.sh (i := 5) rfl (by decide) (by decide)) (by decide)) (fun _ => ?_)
  refine r_iconst (pc := 4) dX5_giveBack_4 (inRk rfl) ?_
  refine r_icmp_lt (pc := 5) (tgt := 17) dX5_giveBack_5 (by decide) (fun c9 => ?_) (fun c9 => ?_)
  · replace h := h.1 c9
    exact r_return (pc := 17) dX5_giveBack_17 (by decide +kernel) rfl (h hL)
  · replace h := h.2 c9
    refine r_aload_n (pc := 8) dX5_giveBack_8 rfl rfl ?_
    refine r_getI (pc := 9) dX5_giveBack_9 (k9 := 2) CL_5 (by decide) (by decide) w_184 rfl (okO_of (N := 3) (hL.sh (i := 5) rfl (by decide) (by decide)) (by decide)) (fun _ => ?_)
    refine r_bipush (pc := 12) dX5_giveBack_12 (by decide) ?_
    refine r_icmp_le (pc := 14) (tgt := 18) dX5_giveBack_14 (by decide) (fun c9 => ?_) (fun c9 => ?_)
    · replace h := h.1 c9
      refine r_aload_n (pc := 18) dX5_giveBack_18 rfl rfl ?_
      refine r_dup (pc := 19) dX5_giveBack_19 (fun _ h9 => nomatch h9) ?_
      refine r_getI (pc := 20) dX5_giveBack_20 (k9 := 2) CL_5 (by decide) (by decide) w_184 rfl (okO_of (N := 3) (hL.sh (i := 5) rfl (by decide) (by decide)) (by decide)) (fun _ => ?_)
      refine r_iconst (pc := 23) dX5_giveBack_23 (inRk rfl) ?_
      obtain ⟨o1, h⟩ := h
      refine r_isub (pc := 24) dX5_giveBack_24 o1 ?_
      refine r_putI (pc := 25) dX5_giveBack_25 (k9 := 2) CL_5 (by decide) (by decide) w_184 rfl rfl (fun h9 => absurd h9 (by decide +kernel)) (okO_of (N := 3) (hL.sh (i := 5) rfl (by decide) (by decide)) (by decide)) ?_
      refine nmS (fun τ2 e2 => ?_)
      replace h := h τ2 e2
      have hL := hL.wI e2 (by decide) (.inl (by decide))
      refine r_iconst (pc := 28) dX5_giveBack_28 (inRk rfl) ?_
      refine r_istore_n (pc := 29) dX5_giveBack_29 rfl (by decide) (l2 := [some (vr 21), some (vr a1), some (vi 0)]) rfl ?_
      exact (h hL)
    · replace h := h.2 c9
      exact r_return (pc := 17) dX5_giveBack_17 (by decide +kernel) rfl (h hL)
theorem B_X5_giveBack_30 {g : Sg} {c t : Nat} (hL : Lay LC g c t σ) {a1 : Nat} (qa1 : isCl a1) {x2 : Int} (h : (0 ≤ (gI σ 21 2) ∧ (gI σ 21 2) < 8) ∧ (((gI σ 23 (gI σ 21 2).toNat) ≤ x2 → (Lay LC g c t σ → Q (.inl none) σ)) ∧ (¬ ((gI σ 23 (gI σ 21 2).toNat) ≤ x2) → ((4 ≤ x2 → (Lay LC g c t σ → Q (.inl none) σ)) ∧ (¬ (4 ≤ x2) → inR ((gI σ 21 2) * 32) ∧ inR (x2 * 8) ∧ inR (((gI σ 21 2) * 32) + (x2 * 8)) ∧ (Lay LC g c t σ → CC E mX1_tell [vr a1, vr 22, vi (((gI σ 21 2) * 32) + (x2 * 8))] σ (KV (fun τ6 => Lay LC g c t τ6 ∧ inR (x2 + 1) ∧ (Lay LC g c t τ6 → GG E mX5_giveBack 30 [some (vr 21), some (vr a1), some (vi (x2 + 1))] [] τ6 rc rs Q)) (fun _ _ => False)))))))) : GG E mX5_giveBack 30 [some (vr 21), some (vr a1), some (vi x2)] [] σ rc rs Q := by
  refine r_iload_n (pc := 30) dX5_giveBack_30 rfl rfl ?_
  refine r_aload_n (pc := 31) dX5_giveBack_31 rfl rfl ?_
  refine r_getR (pc := 32) dX5_giveBack_32 (k9 := 1) CL_5 (by decide) (by decide) w_183 rfl (okO_of (N := 3) (hL.sh (i := 5) rfl (by decide) (by decide)) (by decide)) ?_
  refine eqR (y := 23) (hL.rf (i := 6) rfl) ?_
  refine r_aload_n (pc := 35) dX5_giveBack_35 rfl rfl ?_
  refine r_getI (pc := 36) dX5_giveBack_36 (k9 := 2) CL_5 (by decide) (by decide) w_184 rfl (okO_of (N := 3) (hL.sh (i := 5) rfl (by decide) (by decide)) (by decide)) (fun _ => ?_)
  obtain ⟨o1, h⟩ := h
  refine r_iaload (pc := 39) dX5_giveBack_39 (okA_of (c := 20) (n := 8) (hL.sh (i := 7) rfl (by decide) (by decide)) (by decide) o1) ?_
  refine r_icmp_ge (pc := 40) (tgt := 74) dX5_giveBack_40 (by decide) (fun c9 => ?_) (fun c9 => ?_)
  · replace h := h.1 c9
    exact r_return (pc := 74) dX5_giveBack_74 (by decide +kernel) rfl (h hL)
  · replace h := h.2 c9
    refine r_iload_n (pc := 43) dX5_giveBack_43 rfl rfl ?_
    refine r_iconst (pc := 44) dX5_giveBack_44 (inRk rfl) ?_
    refine r_icmp_ge (pc := 45) (tgt := 74) dX5_giveBack_45 (by decide) (fun c9 => ?_) (fun c9 => ?_)
    · replace h := h.1 c9
      exact r_return (pc := 74) dX5_giveBack_74 (by decide +kernel) rfl (h hL)
    · replace h := h.2 c9
      refine r_aload_n (pc := 48) dX5_giveBack_48 rfl rfl ?_
      refine r_aload_n (pc := 49) dX5_giveBack_49 rfl rfl ?_
      refine r_getR (pc := 50) dX5_giveBack_50 (k9 := 0) CL_5 (by decide) (by decide) w_182 rfl (okO_of (N := 3) (hL.sh (i := 5) rfl (by decide) (by decide)) (by decide)) ?_
      refine eqR (y := 22) (hL.rf (i := 5) rfl) ?_
      refine r_aload_n (pc := 53) dX5_giveBack_53 rfl rfl ?_
      refine r_getI (pc := 54) dX5_giveBack_54 (k9 := 2) CL_5 (by decide) (by decide) w_184 rfl (okO_of (N := 3) (hL.sh (i := 5) rfl (by decide) (by decide)) (by decide)) (fun _ => ?_)
      refine r_bipush (pc := 57) dX5_giveBack_57 (by decide) ?_
      obtain ⟨o2, h⟩ := h
      refine r_imul (pc := 59) dX5_giveBack_59 o2 ?_
      refine r_iload_n (pc := 60) dX5_giveBack_60 rfl rfl ?_
      refine r_bipush (pc := 61) dX5_giveBack_61 (by decide) ?_
      obtain ⟨o3, h⟩ := h
      refine r_imul (pc := 63) dX5_giveBack_63 o3 ?_
      obtain ⟨o4, h⟩ := h
      refine r_iadd (pc := 64) dX5_giveBack_64 o4 ?_
      refine c_VV0N (M := mX5_giveBack) (pc := 65) (As := [vr 22, vi (((gI σ 21 2) * 32) + (x2 * 8))]) dX5_giveBack_65 K_X1_tell w_664 ⟨by decide, by decide⟩ (Nat.le_of_ble_eq_true rfl) rfl rfl (ci := 1) rfl rfl (by decide) (okO_of (ci := 1) (N := 12) (qa1.r hL).1 (qa1.r hL).2.1) (h hL) (fun τ6 h8 => ?_) rfl
      replace hL := h8.1
      replace h := h8.2
      obtain ⟨o7, h⟩ := h
      refine r_iinc (pc := 68) dX5_giveBack_68 rfl (by decide) o7 (l2 := [some (vr 21), some (vr a1), some (vi (x2 + 1))]) rfl ?_
      refine r_goto (pc := 71) (tgt := 30) dX5_giveBack_71 (by decide) ?_
      exact (h hL)
theorem C_X5_giveBack {a0 : Nat} {a1 : Nat} (h : GG E mX5_giveBack 0 [some (vr a0), some (vr a1), none] [] σ 0 0 Q) : CC E mX5_giveBack [vr a0, vr a1] σ Q := CC.of (by decide +kernel) rfl (by decide +kernel) (fun h9 => nomatch h9) (Nat.le_of_ble_eq_true rfl) h
theorem dX5_init_0 : decode cX5_init 0 = .ok (.aload_n 0, 1) := by decide +kernel
theorem dX5_init_1 : decode cX5_init 1 = .ok (.invokespecial 3, 3) := by decide +kernel
theorem dX5_init_4 : decode cX5_init 4 = .ok (.aload_n 0, 1) := by decide +kernel
theorem dX5_init_5 : decode cX5_init 5 = .ok (.sipush 256, 3) := by decide +kernel
theorem dX5_init_8 : decode cX5_init 8 = .ok (.newarray .int, 2) := by decide +kernel
theorem dX5_init_10 : decode cX5_init 10 = .ok (.putfield 11, 3) := by decide +kernel
theorem dX5_init_13 : decode cX5_init 13 = .ok (.aload_n 0, 1) := by decide +kernel
theorem dX5_init_14 : decode cX5_init 14 = .ok (.bipush 8, 2) := by decide +kernel
theorem dX5_init_16 : decode cX5_init 16 = .ok (.newarray .int, 2) := by decide +kernel
theorem dX5_init_18 : decode cX5_init 18 = .ok (.putfield 15, 3) := by decide +kernel
theorem dX5_init_21 : decode cX5_init 21 = .ok (.return_, 1) := by decide +kernel
theorem B_X5_init_0 {a0 : Nat} (h : 16 ≤ a0 ∧ 1 ≤ rc ∧ 256 ≤ rs ∧ ∀ b1 : Nat, b1 = gz σ → okO (nw σ (20, 256)) a0 5 ∧ ∀ τ3 : Sg, τ3 = sR (nw σ (20, 256)) a0 0 b1 → 1 ≤ rc - 1 ∧ 8 ≤ rs - 256 ∧ ∀ b4 : Nat, b4 = gz τ3 → okO (nw τ3 (20, 8)) a0 5 ∧ ∀ τ6 : Sg, τ6 = sR (nw τ3 (20, 8)) a0 1 b4 → Q (.inl none) τ6) : GG E mX5_init 0 [some (vr a0)] [] σ rc rs Q := by
  refine r_aload_n (pc := 0) dX5_init_0 rfl rfl ?_
  refine r_objInit (pc := 1) dX5_init_1 w_181 w_129 w_130 (by decide) (Nat.le_of_ble_eq_true rfl) h.1 ?_
  replace h := h.2
  refine r_aload_n (pc := 4) dX5_init_4 rfl rfl ?_
  refine r_sipush (pc := 5) dX5_init_5 (by decide) ?_
  refine r_newarray (pc := 8) dX5_init_8 (cc := 20) rfl (by decide) (by decide) w_175 (by decide) (by decide) h.1 h.2.1 ?_
  replace h := h.2.2
  change GG _ _ _ _ (vr _ :: _) (nw _ (20, 256)) (_ - 1) (_ - 256) _
  refine nmR (fun b1 e9 => ?_)
  replace h := h b1 e9
  obtain ⟨o2, h⟩ := h
  refine r_putRF (pc := 10) dX5_init_10 (k9 := 0) CL_5 (by decide) (by decide) w_182 rfl rfl rfl rfl o2 ?_
  refine nmS (fun τ3 e3 => ?_)
  replace h := h τ3 e3
  refine r_aload_n (pc := 13) dX5_init_13 rfl rfl ?_
  refine r_bipush (pc := 14) dX5_init_14 (by decide) ?_
  refine r_newarray (pc := 16) dX5_init_16 (cc := 20) rfl (by decide) (by decide) w_175 (by decide) (by decide) h.1 h.2.1 ?_
  replace h := h.2.2
  change GG _ _ _ _ (vr _ :: _) (nw _ (20, 8)) (_ - 1) (_ - 8) _
  refine nmR (fun b4 e9 => ?_)
  replace h := h b4 e9
  obtain ⟨o5, h⟩ := h
  refine r_putRF (pc := 18) dX5_init_18 (k9 := 1) CL_5 (by decide) (by decide) w_183 rfl rfl rfl rfl o5 ?_
  refine nmS (fun τ6 e6 => ?_)
  replace h := h τ6 e6
  exact r_return (pc := 21) dX5_init_21 (by decide +kernel) rfl h
theorem C_X5_init {a0 : Nat} (h : GG E mX5_init 0 [some (vr a0)] [] σ 2 264 Q) : CC E mX5_init [vr a0] σ Q := CC.of (by decide +kernel) rfl (by decide +kernel) (fun h9 => rfl) (Nat.le_of_ble_eq_true rfl) h
theorem dX5_keep_0 : decode cX5_keep 0 = .ok (.aload_n 0, 1) := by decide +kernel
theorem dX5_keep_1 : decode cX5_keep 1 = .ok (.getfield 18, 3) := by decide +kernel
theorem dX5_keep_4 : decode cX5_keep 4 = .ok (.bipush 8, 2) := by decide +kernel
theorem dX5_keep_6 : decode cX5_keep 6 = .ok (.if_icmp .lt 7, 3) := by decide +kernel
theorem dX5_keep_9 : decode cX5_keep 9 = .ok (.aload_n 0, 1) := by decide +kernel
theorem dX5_keep_10 : decode cX5_keep 10 = .ok (.invokevirtual 22, 3) := by decide +kernel
theorem dX5_keep_13 : decode cX5_keep 13 = .ok (.aload_n 1, 1) := by decide +kernel
theorem dX5_keep_14 : decode cX5_keep 14 = .ok (.getfield 25, 3) := by decide +kernel
theorem dX5_keep_17 : decode cX5_keep 17 = .ok (.iconst 0, 1) := by decide +kernel
theorem dX5_keep_18 : decode cX5_keep 18 = .ok (.aload_n 0, 1) := by decide +kernel
theorem dX5_keep_19 : decode cX5_keep 19 = .ok (.getfield 11, 3) := by decide +kernel
theorem dX5_keep_22 : decode cX5_keep 22 = .ok (.aload_n 0, 1) := by decide +kernel
theorem dX5_keep_23 : decode cX5_keep 23 = .ok (.getfield 18, 3) := by decide +kernel
theorem dX5_keep_26 : decode cX5_keep 26 = .ok (.bipush 32, 2) := by decide +kernel
theorem dX5_keep_28 : decode cX5_keep 28 = .ok (.imul, 1) := by decide +kernel
theorem dX5_keep_29 : decode cX5_keep 29 = .ok (.bipush 32, 2) := by decide +kernel
theorem dX5_keep_31 : decode cX5_keep 31 = .ok (.invokestatic 28, 3) := by decide +kernel
theorem dX5_keep_34 : decode cX5_keep 34 = .ok (.aload_n 0, 1) := by decide +kernel
theorem dX5_keep_35 : decode cX5_keep 35 = .ok (.getfield 15, 3) := by decide +kernel
theorem dX5_keep_38 : decode cX5_keep 38 = .ok (.aload_n 0, 1) := by decide +kernel
theorem dX5_keep_39 : decode cX5_keep 39 = .ok (.getfield 18, 3) := by decide +kernel
theorem dX5_keep_42 : decode cX5_keep 42 = .ok (.aload_n 1, 1) := by decide +kernel
theorem dX5_keep_43 : decode cX5_keep 43 = .ok (.getfield 34, 3) := by decide +kernel
theorem dX5_keep_46 : decode cX5_keep 46 = .ok (.iastore, 1) := by decide +kernel
theorem dX5_keep_47 : decode cX5_keep 47 = .ok (.aload_n 0, 1) := by decide +kernel
theorem dX5_keep_48 : decode cX5_keep 48 = .ok (.dup, 1) := by decide +kernel
theorem dX5_keep_49 : decode cX5_keep 49 = .ok (.getfield 18, 3) := by decide +kernel
theorem dX5_keep_52 : decode cX5_keep 52 = .ok (.iconst 1, 1) := by decide +kernel
theorem dX5_keep_53 : decode cX5_keep 53 = .ok (.iadd, 1) := by decide +kernel
theorem dX5_keep_54 : decode cX5_keep 54 = .ok (.putfield 18, 3) := by decide +kernel
theorem dX5_keep_57 : decode cX5_keep 57 = .ok (.return_, 1) := by decide +kernel
theorem B_X5_keep_0 {g : Sg} {c t : Nat} (hL : Lay LC g c t σ) {a1 : Nat} (qa1 : isCl a1) (h : (((gI σ 21 2) < 8 → (Lay LC g c t σ → GG E mX5_keep 13 [some (vr 21), some (vr a1)] [] σ rc rs Q)) ∧ (¬ ((gI σ 21 2) < 8) → (Lay LC g c t σ → CC E mX5_forgetFirst [vr 21] σ (KV (fun τ2 => Lay LC g c t τ2 ∧ (Lay LC g c t τ2 → GG E mX5_keep 13 [some (vr 21), some (vr a1)] [] τ2 rc rs Q)) (fun _ _ => False)))))) : GG E mX5_keep 0 [some (vr 21), some (vr a1)] [] σ rc rs Q := by
  refine r_aload_n (pc := 0) dX5_keep_0 rfl rfl ?_
  refine r_getI (pc := 1) dX5_keep_1 (k9 := 2) CL_5 (by decide) (by decide) w_184 rfl (okO_of (N := 3) (hL.sh (i := 5) rfl (by decide) (by decide)) (by decide)) (fun _ => ?_)
  refine r_bipush (pc := 4) dX5_keep_4 (by decide) ?_
  refine r_icmp_lt (pc := 6) (tgt := 13) dX5_keep_6 (by decide) (fun c9 => ?_) (fun c9 => ?_)
  · replace h := h.1 c9
    exact (h hL)
  · replace h := h.2 c9
    refine r_aload_n (pc := 9) dX5_keep_9 rfl rfl ?_
    refine c_VV0N (M := mX5_keep) (pc := 10) (As := []) dX5_keep_10 K_X5_forgetFirst w_933 ⟨by decide, by decide⟩ (Nat.le_of_ble_eq_true rfl) rfl rfl (ci := 5) rfl rfl (by decide) (okO_of (N := 3) (hL.sh (i := 5) rfl (by decide) (by decide)) (by decide)) (h hL) (fun τ2 h8 => ?_) rfl
    replace hL := h8.1
    replace h := h8.2
    exact (h hL)
theorem B_X5_keep_13 {g : Sg} {c t : Nat} (hL : Lay LC g c t σ) {a1 : Nat} (qa1 : isCl a1) (h : inR ((gI σ 21 2) * 32) ∧ (0 ≤ (gI σ 21 2) * 32 ∧ (gI σ 21 2) * 32 + 32 ≤ 256) ∧ ∀ τ3 : Sg, τ3 = cpI σ (a1 + 1) 0 22 ((gI σ 21 2) * 32).toNat 32 → (0 ≤ (gI τ3 21 2) ∧ (gI τ3 21 2) < 8) ∧ ∀ τ5 : Sg, τ5 = sI τ3 23 (gI τ3 21 2).toNat (gI τ3 a1 7) → inR ((gI τ5 21 2) + 1) ∧ ∀ τ7 : Sg, τ7 = sI τ5 21 2 ((gI τ5 21 2) + 1) → (Lay LC g c t τ7 → Q (.inl none) τ7)) : GG E mX5_keep 13 [some (vr 21), some (vr a1)] [] σ rc rs Q := by
  refine r_aload_n (pc := 13) dX5_keep_13 rfl rfl ?_
  refine r_getR (pc := 14) dX5_keep_14 (k9 := 0) CL_1 (by decide) (by decide) w_448 rfl (okO_of (ci := 1) (N := 12) (qa1.r hL).1 (qa1.r hL).2.1) ?_
  refine eqR (y := a1 + 1) (qa1.f hL (k := 0) (by decide)) ?_
  refine r_iconst (pc := 17) dX5_keep_17 (inRk rfl) ?_
  refine r_aload_n (pc := 18) dX5_keep_18 rfl rfl ?_
  refine r_getR (pc := 19) dX5_keep_19 (k9 := 0) CL_5 (by decide) (by decide) w_182 rfl (okO_of (N := 3) (hL.sh (i := 5) rfl (by decide) (by decide)) (by decide)) ?_
  refine eqR (y := 22) (hL.rf (i := 5) rfl) ?_
  refine r_aload_n (pc := 22) dX5_keep_22 rfl rfl ?_
  refine r_getI (pc := 23) dX5_keep_23 (k9 := 2) CL_5 (by decide) (by decide) w_184 rfl (okO_of (N := 3) (hL.sh (i := 5) rfl (by decide) (by decide)) (by decide)) (fun _ => ?_)
  refine r_bipush (pc := 26) dX5_keep_26 (by decide) ?_
  obtain ⟨o1, h⟩ := h
  refine r_imul (pc := 28) dX5_keep_28 o1 ?_
  refine r_bipush (pc := 29) dX5_keep_29 (by decide) ?_
  obtain ⟨o2, h⟩ := h
  refine r_copy (pc := 31) dX5_keep_31 w_937 w_543 w_542 w_110 (by decide) (by decide +kernel) ⟨(qa1.b (k := 1) (by decide)).1, by rw [(qa1.s hL (k := 0) (by decide))]⟩ ⟨(by decide), by rw [(hL.sh (i := 6) rfl (by decide) (by decide))]⟩ (by decide) (cpl (N := 32) (qa1.s hL (k := 0) (by decide)) (by decide) (by first | rfl | decide)) (cpl (N := 256) (hL.sh (i := 6) rfl (by decide) (by decide)) o2 (by first | rfl | decide)) ?_
  refine nmS (fun τ3 e3 => ?_)
  replace h := h τ3 e3
  have hL := hL.wC e3 (by decide) (.inl (by decide))
  refine r_aload_n (pc := 34) dX5_keep_34 rfl rfl ?_
  refine r_getR (pc := 35) dX5_keep_35 (k9 := 1) CL_5 (by decide) (by decide) w_183 rfl (okO_of (N := 3) (hL.sh (i := 5) rfl (by decide) (by decide)) (by decide)) ?_
  refine eqR (y := 23) (hL.rf (i := 6) rfl) ?_
  refine r_aload_n (pc := 38) dX5_keep_38 rfl rfl ?_
  refine r_getI (pc := 39) dX5_keep_39 (k9 := 2) CL_5 (by decide) (by decide) w_184 rfl (okO_of (N := 3) (hL.sh (i := 5) rfl (by decide) (by decide)) (by decide)) (fun _ => ?_)
  refine r_aload_n (pc := 42) dX5_keep_42 rfl rfl ?_
  refine r_getI (pc := 43) dX5_keep_43 (k9 := 7) CL_1 (by decide) (by decide) w_467 rfl (okO_of (ci := 1) (N := 12) (qa1.r hL).1 (qa1.r hL).2.1) (fun _ => ?_)
  obtain ⟨o4, h⟩ := h
  refine r_iastore (pc := 46) dX5_keep_46 (okB_of (c := 20) (n := 8) (hL.sh (i := 7) rfl (by decide) (by decide)) (by decide) o4) ?_
  refine nmS (fun τ5 e5 => ?_)
  replace h := h τ5 e5
  have hL := hL.wI e5 (by decide) (.inl (by decide))
  refine r_aload_n (pc := 47) dX5_keep_47 rfl rfl ?_
  refine r_dup (pc := 48) dX5_keep_48 (fun _ h9 => nomatch h9) ?_
  refine r_getI (pc := 49) dX5_keep_49 (k9 := 2) CL_5 (by decide) (by decide) w_184 rfl (okO_of (N := 3) (hL.sh (i := 5) rfl (by decide) (by decide)) (by decide)) (fun _ => ?_)
  refine r_iconst (pc := 52) dX5_keep_52 (inRk rfl) ?_
  obtain ⟨o6, h⟩ := h
  refine r_iadd (pc := 53) dX5_keep_53 o6 ?_
  refine r_putI (pc := 54) dX5_keep_54 (k9 := 2) CL_5 (by decide) (by decide) w_184 rfl rfl (fun h9 => absurd h9 (by decide +kernel)) (okO_of (N := 3) (hL.sh (i := 5) rfl (by decide) (by decide)) (by decide)) ?_
  refine nmS (fun τ7 e7 => ?_)
  replace h := h τ7 e7
  have hL := hL.wI e7 (by decide) (.inl (by decide))
  exact r_return (pc := 57) dX5_keep_57 (by decide +kernel) rfl (h hL)
theorem C_X5_keep {a0 : Nat} {a1 : Nat} (h : GG E mX5_keep 0 [some (vr a0), some (vr a1)] [] σ 0 0 Q) : CC E mX5_keep [vr a0, vr a1] σ Q := CC.of (by decide +kernel) rfl (by decide +kernel) (fun h9 => nomatch h9) (Nat.le_of_ble_eq_true rfl) h
end G22
