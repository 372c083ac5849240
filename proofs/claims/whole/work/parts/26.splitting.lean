/-! ===== decode rows and trees: 26.splitting ===== -/
section G26
variable {E : Ev} {σ : Sg} {rc rs : Nat} {Q : NO → Sg → Prop}
theorem dX8_begin_0 : decode cX8_begin 0 = .ok (.aload_n 0, 1) := by decide +kernel
theorem dX8_begin_1 : decode cX8_begin 1 = .ok (.aload_n 1, 1) := by decide +kernel
theorem dX8_begin_2 : decode cX8_begin 2 = .ok (.getfield 48, 3) := by decide +kernel
theorem dX8_begin_5 : decode cX8_begin 5 = .ok (.bipush 12, 2) := by decide +kernel
theorem dX8_begin_7 : decode cX8_begin 7 = .ok (.invokestatic 54, 3) := by decide +kernel
theorem dX8_begin_10 : decode cX8_begin 10 = .ok (.putfield 60, 3) := by decide +kernel
theorem dX8_begin_13 : decode cX8_begin 13 = .ok (.iconst 0, 1) := by decide +kernel
theorem dX8_begin_14 : decode cX8_begin 14 = .ok (.istore_n 2, 1) := by decide +kernel
theorem dX8_begin_15 : decode cX8_begin 15 = .ok (.iload_n 2, 1) := by decide +kernel
theorem dX8_begin_16 : decode cX8_begin 16 = .ok (.aload_n 0, 1) := by decide +kernel
theorem dX8_begin_17 : decode cX8_begin 17 = .ok (.getfield 60, 3) := by decide +kernel
theorem dX8_begin_20 : decode cX8_begin 20 = .ok (.if_icmp .ge 61, 3) := by decide +kernel
theorem dX8_begin_23 : decode cX8_begin 23 = .ok (.aload_n 0, 1) := by decide +kernel
theorem dX8_begin_24 : decode cX8_begin 24 = .ok (.getfield 41, 3) := by decide +kernel
theorem dX8_begin_27 : decode cX8_begin 27 = .ok (.iload_n 2, 1) := by decide +kernel
theorem dX8_begin_28 : decode cX8_begin 28 = .ok (.iload_n 2, 1) := by decide +kernel
theorem dX8_begin_29 : decode cX8_begin 29 = .ok (.ifCond .ne 10, 3) := by decide +kernel
theorem dX8_begin_32 : decode cX8_begin 32 = .ok (.aload_n 0, 1) := by decide +kernel
theorem dX8_begin_33 : decode cX8_begin 33 = .ok (.getfield 60, 3) := by decide +kernel
theorem dX8_begin_36 : decode cX8_begin 36 = .ok (.goto 4, 3) := by decide +kernel
theorem dX8_begin_39 : decode cX8_begin 39 = .ok (.iconst 0, 1) := by decide +kernel
theorem dX8_begin_40 : decode cX8_begin 40 = .ok (.iastore, 1) := by decide +kernel
theorem dX8_begin_41 : decode cX8_begin 41 = .ok (.iconst 0, 1) := by decide +kernel
theorem dX8_begin_42 : decode cX8_begin 42 = .ok (.istore_n 3, 1) := by decide +kernel
theorem dX8_begin_43 : decode cX8_begin 43 = .ok (.iload_n 3, 1) := by decide +kernel
theorem dX8_begin_44 : decode cX8_begin 44 = .ok (.aload_n 0, 1) := by decide +kernel
theorem dX8_begin_45 : decode cX8_begin 45 = .ok (.getfield 60, 3) := by decide +kernel
theorem dX8_begin_48 : decode cX8_begin 48 = .ok (.if_icmp .ge 27, 3) := by decide +kernel
theorem dX8_begin_51 : decode cX8_begin 51 = .ok (.aload_n 0, 1) := by decide +kernel
theorem dX8_begin_52 : decode cX8_begin 52 = .ok (.getfield 17, 3) := by decide +kernel
theorem dX8_begin_55 : decode cX8_begin 55 = .ok (.iload_n 2, 1) := by decide +kernel
theorem dX8_begin_56 : decode cX8_begin 56 = .ok (.aaload, 1) := by decide +kernel
theorem dX8_begin_57 : decode cX8_begin 57 = .ok (.iload_n 3, 1) := by decide +kernel
theorem dX8_begin_58 : decode cX8_begin 58 = .ok (.iload_n 2, 1) := by decide +kernel
theorem dX8_begin_59 : decode cX8_begin 59 = .ok (.iload_n 3, 1) := by decide +kernel
theorem dX8_begin_60 : decode cX8_begin 60 = .ok (.if_icmp .ne 7, 3) := by decide +kernel
theorem dX8_begin_63 : decode cX8_begin 63 = .ok (.iconst 1, 1) := by decide +kernel
theorem dX8_begin_64 : decode cX8_begin 64 = .ok (.goto 4, 3) := by decide +kernel
theorem dX8_begin_67 : decode cX8_begin 67 = .ok (.iconst 0, 1) := by decide +kernel
theorem dX8_begin_68 : decode cX8_begin 68 = .ok (.iastore, 1) := by decide +kernel
theorem dX8_begin_69 : decode cX8_begin 69 = .ok (.iinc 3 1, 3) := by decide +kernel
theorem dX8_begin_72 : decode cX8_begin 72 = .ok (.goto (-29), 3) := by decide +kernel
theorem dX8_begin_75 : decode cX8_begin 75 = .ok (.iinc 2 1, 3) := by decide +kernel
theorem dX8_begin_78 : decode cX8_begin 78 = .ok (.goto (-63), 3) := by decide +kernel
theorem dX8_begin_81 : decode cX8_begin 81 = .ok (.iconst 0, 1) := by decide +kernel
theorem dX8_begin_82 : decode cX8_begin 82 = .ok (.istore_n 2, 1) := by decide +kernel
theorem dX8_begin_83 : decode cX8_begin 83 = .ok (.iload_n 2, 1) := by decide +kernel
theorem dX8_begin_84 : decode cX8_begin 84 = .ok (.aload_n 0, 1) := by decide +kernel
theorem dX8_begin_85 : decode cX8_begin 85 = .ok (.getfield 9, 3) := by decide +kernel
theorem dX8_begin_88 : decode cX8_begin 88 = .ok (.arraylength, 1) := by decide +kernel
theorem dX8_begin_89 : decode cX8_begin 89 = .ok (.if_icmp .ge 16, 3) := by decide +kernel
theorem dX8_begin_92 : decode cX8_begin 92 = .ok (.aload_n 0, 1) := by decide +kernel
theorem dX8_begin_93 : decode cX8_begin 93 = .ok (.getfield 9, 3) := by decide +kernel
theorem dX8_begin_96 : decode cX8_begin 96 = .ok (.iload_n 2, 1) := by decide +kernel
theorem dX8_begin_97 : decode cX8_begin 97 = .ok (.iconst 0, 1) := by decide +kernel
theorem dX8_begin_98 : decode cX8_begin 98 = .ok (.iastore, 1) := by decide +kernel
theorem dX8_begin_99 : decode cX8_begin 99 = .ok (.iinc 2 1, 3) := by decide +kernel
theorem dX8_begin_102 : decode cX8_begin 102 = .ok (.goto (-19), 3) := by decide +kernel
theorem dX8_begin_105 : decode cX8_begin 105 = .ok (.iconst 0, 1) := by decide +kernel
theorem dX8_begin_106 : decode cX8_begin 106 = .ok (.istore_n 2, 1) := by decide +kernel
theorem dX8_begin_107 : decode cX8_begin 107 = .ok (.iload_n 2, 1) := by decide +kernel
theorem dX8_begin_108 : decode cX8_begin 108 = .ok (.aload_n 0, 1) := by decide +kernel
theorem dX8_begin_109 : decode cX8_begin 109 = .ok (.getfield 60, 3) := by decide +kernel
theorem dX8_begin_112 : decode cX8_begin 112 = .ok (.if_icmp .ge 96, 3) := by decide +kernel
theorem dX8_begin_115 : decode cX8_begin 115 = .ok (.iconst 0, 1) := by decide +kernel
theorem dX8_begin_116 : decode cX8_begin 116 = .ok (.istore_n 3, 1) := by decide +kernel
theorem dX8_begin_117 : decode cX8_begin 117 = .ok (.iload_n 3, 1) := by decide +kernel
theorem dX8_begin_118 : decode cX8_begin 118 = .ok (.aload_n 1, 1) := by decide +kernel
theorem dX8_begin_119 : decode cX8_begin 119 = .ok (.getfield 63, 3) := by decide +kernel
theorem dX8_begin_122 : decode cX8_begin 122 = .ok (.if_icmp .ge 80, 3) := by decide +kernel
theorem dX8_begin_125 : decode cX8_begin 125 = .ok (.aload_n 1, 1) := by decide +kernel
theorem dX8_begin_126 : decode cX8_begin 126 = .ok (.aload_n 1, 1) := by decide +kernel
theorem dX8_begin_127 : decode cX8_begin 127 = .ok (.getfield 64, 3) := by decide +kernel
theorem dX8_begin_130 : decode cX8_begin 130 = .ok (.iload_n 3, 1) := by decide +kernel
theorem dX8_begin_131 : decode cX8_begin 131 = .ok (.invokestatic 67, 3) := by decide +kernel
theorem dX8_begin_134 : decode cX8_begin 134 = .ok (.aload_n 1, 1) := by decide +kernel
theorem dX8_begin_135 : decode cX8_begin 135 = .ok (.getfield 71, 3) := by decide +kernel
theorem dX8_begin_138 : decode cX8_begin 138 = .ok (.iload_n 2, 1) := by decide +kernel
theorem dX8_begin_139 : decode cX8_begin 139 = .ok (.invokestatic 67, 3) := by decide +kernel
theorem dX8_begin_142 : decode cX8_begin 142 = .ok (.invokevirtual 74, 3) := by decide +kernel
theorem dX8_begin_145 : decode cX8_begin 145 = .ok (.istore 4, 2) := by decide +kernel
theorem dX8_begin_147 : decode cX8_begin 147 = .ok (.aload_n 1, 1) := by decide +kernel
theorem dX8_begin_148 : decode cX8_begin 148 = .ok (.getfield 77, 3) := by decide +kernel
theorem dX8_begin_151 : decode cX8_begin 151 = .ok (.iload_n 3, 1) := by decide +kernel
theorem dX8_begin_152 : decode cX8_begin 152 = .ok (.invokestatic 67, 3) := by decide +kernel
theorem dX8_begin_155 : decode cX8_begin 155 = .ok (.aload_n 1, 1) := by decide +kernel
theorem dX8_begin_156 : decode cX8_begin 156 = .ok (.getfield 77, 3) := by decide +kernel
theorem dX8_begin_159 : decode cX8_begin 159 = .ok (.iload 4, 2) := by decide +kernel
theorem dX8_begin_161 : decode cX8_begin 161 = .ok (.invokestatic 67, 3) := by decide +kernel
theorem dX8_begin_164 : decode cX8_begin 164 = .ok (.iload_n 2, 1) := by decide +kernel
theorem dX8_begin_165 : decode cX8_begin 165 = .ok (.invokestatic 80, 3) := by decide +kernel
theorem dX8_begin_168 : decode cX8_begin 168 = .ok (.istore 5, 2) := by decide +kernel
theorem dX8_begin_170 : decode cX8_begin 170 = .ok (.iload 5, 2) := by decide +kernel
theorem dX8_begin_172 : decode cX8_begin 172 = .ok (.ifCond .lt 24, 3) := by decide +kernel
theorem dX8_begin_175 : decode cX8_begin 175 = .ok (.iload 5, 2) := by decide +kernel
theorem dX8_begin_177 : decode cX8_begin 177 = .ok (.aload_n 0, 1) := by decide +kernel
theorem dX8_begin_178 : decode cX8_begin 178 = .ok (.getfield 9, 3) := by decide +kernel
theorem dX8_begin_181 : decode cX8_begin 181 = .ok (.arraylength, 1) := by decide +kernel
theorem dX8_begin_182 : decode cX8_begin 182 = .ok (.if_icmp .ge 14, 3) := by decide +kernel
theorem dX8_begin_185 : decode cX8_begin 185 = .ok (.aload_n 0, 1) := by decide +kernel
theorem dX8_begin_186 : decode cX8_begin 186 = .ok (.getfield 9, 3) := by decide +kernel
theorem dX8_begin_189 : decode cX8_begin 189 = .ok (.iload 5, 2) := by decide +kernel
theorem dX8_begin_191 : decode cX8_begin 191 = .ok (.dup2, 1) := by decide +kernel
theorem dX8_begin_192 : decode cX8_begin 192 = .ok (.iaload, 1) := by decide +kernel
theorem dX8_begin_193 : decode cX8_begin 193 = .ok (.iconst 1, 1) := by decide +kernel
theorem dX8_begin_194 : decode cX8_begin 194 = .ok (.iadd, 1) := by decide +kernel
theorem dX8_begin_195 : decode cX8_begin 195 = .ok (.iastore, 1) := by decide +kernel
theorem dX8_begin_196 : decode cX8_begin 196 = .ok (.iinc 3 1, 3) := by decide +kernel
theorem dX8_begin_199 : decode cX8_begin 199 = .ok (.goto (-82), 3) := by decide +kernel
theorem dX8_begin_202 : decode cX8_begin 202 = .ok (.iinc 2 1, 3) := by decide +kernel
theorem dX8_begin_205 : decode cX8_begin 205 = .ok (.goto (-98), 3) := by decide +kernel
theorem dX8_begin_208 : decode cX8_begin 208 = .ok (.return_, 1) := by decide +kernel
theorem B_X8_begin_0 {g : Sg} {c t : Nat} (hL : Lay LC g c t σ)  (h : ∀ v1 : Int, v1 = (if 12 < (gI σ 24 7) then 12 else (gI σ 24 7)) → ∀ τ2 : Sg, τ2 = sI σ 54 11 v1 → (Lay LC g c t τ2 → GG E mX8_begin 15 [some (vr 54), some (vr 24), some (vi 0), none, none, none] [] τ2 rc rs Q)) : GG E mX8_begin 0 [some (vr 54), some (vr 24), none, none, none, none] [] σ rc rs Q := by
  refine r_aload_n (pc := 0) dX8_begin_0 rfl rfl ?_
  refine r_aload_n (pc := 1) dX8_begin_1 rfl rfl ?_
  refine r_getI (pc := 2) dX8_begin_2 (k9 := 7) CL_4 (by decide) (by decide) w_223 rfl (okO_of (N := 12) (hL.sh (i := 8) rfl (by decide) (by decide)) (by decide)) (fun _ => ?_)
  refine r_bipush (pc := 5) dX8_begin_5 (by decide) ?_
  refine r_mmin (pc := 7) dX8_begin_7 w_1014 w_549 w_111 w_550 (by decide) (Nat.le_of_ble_eq_true rfl) ?_
  refine nmI (fun v1 e9 => ?_)
  replace h := h v1 e9
  refine r_putI (pc := 10) dX8_begin_10 (k9 := 11) CL_8 (by decide) (by decide) w_372 rfl rfl (fun h9 => absurd h9 (by decide +kernel)) (okO_of (N := 15) (hL.sh (i := 27) rfl (by decide) (by decide)) (by decide)) ?_
  refine nmS (fun τ2 e2 => ?_)
  replace h := h τ2 e2
  have hL := hL.wI e2 (by decide) (.inl (by decide))
  refine r_iconst (pc := 13) dX8_begin_13 (inRk rfl) ?_
  refine r_istore_n (pc := 14) dX8_begin_14 rfl (by decide) (l2 := [some (vr 54), some (vr 24), some (vi 0), none, none, none]) rfl ?_
  exact (h hL)
theorem B_X8_begin_15 {g : Sg} {c t : Nat} (hL : Lay LC g c t σ) {x2 : Int} (h : (((gI σ 54 11) ≤ x2 → (Lay LC g c t σ → GG E mX8_begin 83 [some (vr 54), some (vr 24), some (vi 0), none, none, none] [] σ rc rs Q)) ∧ (¬ ((gI σ 54 11) ≤ x2) → ((x2 ≠ 0 → (0 ≤ x2 ∧ x2 < 12) ∧ ∀ τ2 : Sg, τ2 = sI σ 124 x2.toNat 0 → (Lay LC g c t τ2 → GG E mX8_begin 43 [some (vr 54), some (vr 24), some (vi x2), some (vi 0), none, none] [] τ2 rc rs Q)) ∧ (x2 = 0 → (0 ≤ x2 ∧ x2 < 12) ∧ ∀ τ4 : Sg, τ4 = sI σ 124 x2.toNat (gI σ 54 11) → (Lay LC g c t τ4 → GG E mX8_begin 43 [some (vr 54), some (vr 24), some (vi x2), some (vi 0), none, none] [] τ4 rc rs Q)))))) : GG E mX8_begin 15 [some (vr 54), some (vr 24), some (vi x2), none, none, none] [] σ rc rs Q := by
  refine r_iload_n (pc := 15) dX8_begin_15 rfl rfl ?_
  refine r_aload_n (pc := 16) dX8_begin_16 rfl rfl ?_
  refine r_getI (pc := 17) dX8_begin_17 (k9 := 11) CL_8 (by decide) (by decide) w_372 rfl (okO_of (N := 15) (hL.sh (i := 27) rfl (by decide) (by decide)) (by decide)) (fun _ => ?_)
  refine r_icmp_ge (pc := 20) (tgt := 81) dX8_begin_20 (by decide) (fun c9 => ?_) (fun c9 => ?_)
  · replace h := h.1 c9
    refine r_iconst (pc := 81) dX8_begin_81 (inRk rfl) ?_
    refine r_istore_n (pc := 82) dX8_begin_82 rfl (by decide) (l2 := [some (vr 54), some (vr 24), some (vi 0), none, none, none]) rfl ?_
    exact (h hL)
  · replace h := h.2 c9
    refine r_aload_n (pc := 23) dX8_begin_23 rfl rfl ?_
    refine r_getR (pc := 24) dX8_begin_24 (k9 := 9) CL_8 (by decide) (by decide) w_370 rfl (okO_of (N := 15) (hL.sh (i := 27) rfl (by decide) (by decide)) (by decide)) ?_
    refine eqR (y := 124) (hL.rf (i := 35) rfl) ?_
    refine r_iload_n (pc := 27) dX8_begin_27 rfl rfl ?_
    refine r_iload_n (pc := 28) dX8_begin_28 rfl rfl ?_
    refine r_if_ne (pc := 29) (tgt := 39) dX8_begin_29 (by decide) (fun c9 => ?_) (fun c9 => ?_)
    · replace h := h.1 c9
      refine r_iconst (pc := 39) dX8_begin_39 (inRk rfl) ?_
      obtain ⟨o1, h⟩ := h
      refine r_iastore (pc := 40) dX8_begin_40 (okB_of (c := 20) (n := 12) (hL.sh (i := 42) rfl (by decide) (by decide)) (by decide) o1) ?_
      refine nmS (fun τ2 e2 => ?_)
      replace h := h τ2 e2
      have hL := hL.wI e2 (by decide) (.inl (by decide))
      refine r_iconst (pc := 41) dX8_begin_41 (inRk rfl) ?_
      refine r_istore_n (pc := 42) dX8_begin_42 rfl (by decide) (l2 := [some (vr 54), some (vr 24), some (vi x2), some (vi 0), none, none]) rfl ?_
      exact (h hL)
    · replace h := h.2 c9
      refine r_aload_n (pc := 32) dX8_begin_32 rfl rfl ?_
      refine r_getI (pc := 33) dX8_begin_33 (k9 := 11) CL_8 (by decide) (by decide) w_372 rfl (okO_of (N := 15) (hL.sh (i := 27) rfl (by decide) (by decide)) (by decide)) (fun _ => ?_)
      refine r_goto (pc := 36) (tgt := 40) dX8_begin_36 (by decide) ?_
      obtain ⟨o3, h⟩ := h
      refine r_iastore (pc := 40) dX8_begin_40 (okB_of (c := 20) (n := 12) (hL.sh (i := 42) rfl (by decide) (by decide)) (by decide) o3) ?_
      refine nmS (fun τ4 e4 => ?_)
      replace h := h τ4 e4
      have hL := hL.wI e4 (by decide) (.inl (by decide))
      refine r_iconst (pc := 41) dX8_begin_41 (inRk rfl) ?_
      refine r_istore_n (pc := 42) dX8_begin_42 rfl (by decide) (l2 := [some (vr 54), some (vr 24), some (vi x2), some (vi 0), none, none]) rfl ?_
      exact (h hL)
theorem B_X8_begin_43 {g : Sg} {c t : Nat} (hL : Lay LC g c t σ) {x2 : Int} {x3 : Int} (h : (((gI σ 54 11) ≤ x3 → inR (x2 + 1) ∧ (Lay LC g c t σ → GG E mX8_begin 15 [some (vr 54), some (vr 24), some (vi (x2 + 1)), none, none, none] [] σ rc rs Q)) ∧ (¬ ((gI σ 54 11) ≤ x3) → (0 ≤ x2 ∧ x2 < 12) ∧ ((x2 ≠ x3 → (0 ≤ x3 ∧ x3 < 12) ∧ ∀ τ5 : Sg, τ5 = sI σ (57 + x2.toNat) x3.toNat 0 → inR (x3 + 1) ∧ (Lay LC g c t τ5 → GG E mX8_begin 43 [some (vr 54), some (vr 24), some (vi x2), some (vi (x3 + 1)), none, none] [] τ5 rc rs Q)) ∧ (x2 = x3 → (0 ≤ x3 ∧ x3 < 12) ∧ ∀ τ8 : Sg, τ8 = sI σ (57 + x2.toNat) x3.toNat 1 → inR (x3 + 1) ∧ (Lay LC g c t τ8 → GG E mX8_begin 43 [some (vr 54), some (vr 24), some (vi x2), some (vi (x3 + 1)), none, none] [] τ8 rc rs Q)))))) : GG E mX8_begin 43 [some (vr 54), some (vr 24), some (vi x2), some (vi x3), none, none] [] σ rc rs Q := by
  refine r_iload_n (pc := 43) dX8_begin_43 rfl rfl ?_
  refine r_aload_n (pc := 44) dX8_begin_44 rfl rfl ?_
  refine r_getI (pc := 45) dX8_begin_45 (k9 := 11) CL_8 (by decide) (by decide) w_372 rfl (okO_of (N := 15) (hL.sh (i := 27) rfl (by decide) (by decide)) (by decide)) (fun _ => ?_)
  refine r_icmp_ge (pc := 48) (tgt := 75) dX8_begin_48 (by decide) (fun c9 => ?_) (fun c9 => ?_)
  · replace h := h.1 c9
    obtain ⟨o1, h⟩ := h
    refine r_iinc (pc := 75) dX8_begin_75 rfl (by decide) o1 (l2 := [some (vr 54), some (vr 24), some (vi (x2 + 1)), some (vi x3), none, none]) rfl ?_
    refine r_goto (pc := 78) (tgt := 15) dX8_begin_78 (by decide) ?_
    exact GG.msk [true, true, true, false, false, false] (h hL)
  · replace h := h.2 c9
    refine r_aload_n (pc := 51) dX8_begin_51 rfl rfl ?_
    refine r_getR (pc := 52) dX8_begin_52 (k9 := 1) CL_8 (by decide) (by decide) w_361 rfl (okO_of (N := 15) (hL.sh (i := 27) rfl (by decide) (by decide)) (by decide)) ?_
    refine eqR (y := 56) (hL.rf (i := 27) rfl) ?_
    refine r_iload_n (pc := 55) dX8_begin_55 rfl rfl ?_
    obtain ⟨o2, h⟩ := h
    refine r_aaload (pc := 56) dX8_begin_56 (okB_of (c := 24) (n := 12) (hL.sh (i := 29) rfl (by decide) (by decide)) (by decide) o2) ?_
    have q3 : 57 ≤ 57 + x2.toNat ∧ 57 + x2.toNat < 69 := ⟨Nat.le_add_right _ _, rowB o2 (by decide)⟩
    refine eqR (y := 57 + x2.toNat) (hL.rx (i := 0) rfl (rowC o2 (by decide))) ?_
    refine r_iload_n (pc := 57) dX8_begin_57 rfl rfl ?_
    refine r_iload_n (pc := 58) dX8_begin_58 rfl rfl ?_
    refine r_iload_n (pc := 59) dX8_begin_59 rfl rfl ?_
    refine r_icmp_ne (pc := 60) (tgt := 67) dX8_begin_60 (by decide) (fun c9 => ?_) (fun c9 => ?_)
    · replace h := h.1 c9
      refine r_iconst (pc := 67) dX8_begin_67 (inRk rfl) ?_
      obtain ⟨o4, h⟩ := h
      refine r_iastore (pc := 68) dX8_begin_68 (okB_of (c := 20) (n := 12) (hL.sh (i := 30) rfl q3.1 q3.2) (Nat.le_trans (by decide) q3.1) o4) ?_
      refine nmS (fun τ5 e5 => ?_)
      replace h := h τ5 e5
      have hL := hL.wI e5 (Nat.le_trans (by decide) q3.1) (.inl ⟨Nat.le_trans (by decide) q3.1, Nat.lt_of_lt_of_le q3.2 (by decide)⟩)
      obtain ⟨o6, h⟩ := h
      refine r_iinc (pc := 69) dX8_begin_69 rfl (by decide) o6 (l2 := [some (vr 54), some (vr 24), some (vi x2), some (vi (x3 + 1)), none, none]) rfl ?_
      refine r_goto (pc := 72) (tgt := 43) dX8_begin_72 (by decide) ?_
      exact (h hL)
    · replace h := h.2 c9
      refine r_iconst (pc := 63) dX8_begin_63 (inRk rfl) ?_
      refine r_goto (pc := 64) (tgt := 68) dX8_begin_64 (by decide) ?_
      obtain ⟨o7, h⟩ := h
      refine r_iastore (pc := 68) dX8_begin_68 (okB_of (c := 20) (n := 12) (hL.sh (i := 30) rfl q3.1 q3.2) (Nat.le_trans (by decide) q3.1) o7) ?_
      refine nmS (fun τ8 e8 => ?_)
      replace h := h τ8 e8
      have hL := hL.wI e8 (Nat.le_trans (by decide) q3.1) (.inl ⟨Nat.le_trans (by decide) q3.1, Nat.lt_of_lt_of_le q3.2 (by decide)⟩)
      obtain ⟨o9, h⟩ := h
      refine r_iinc (pc := 69) dX8_begin_69 rfl (by decide) o9 (l2 := [some (vr 54), some (vr 24), some (vi x2), some (vi (x3 + 1)), none, none]) rfl ?_
      refine r_goto (pc := 72) (tgt := 43) dX8_begin_72 (by decide) ?_
      exact (h hL)
theorem B_X8_begin_83 {g : Sg} {c t : Nat} (hL : Lay LC g c t σ) {x2 : Int} (h : ((1728 ≤ x2 → (Lay LC g c t σ → GG E mX8_begin 107 [some (vr 54), some (vr 24), some (vi 0), none, none, none] [] σ rc rs Q)) ∧ (¬ (1728 ≤ x2) → (0 ≤ x2 ∧ x2 < 1728) ∧ ∀ τ2 : Sg, τ2 = sI σ 55 x2.toNat 0 → inR (x2 + 1) ∧ (Lay LC g c t τ2 → GG E mX8_begin 83 [some (vr 54), some (vr 24), some (vi (x2 + 1)), none, none, none] [] τ2 rc rs Q)))) : GG E mX8_begin 83 [some (vr 54), some (vr 24), some (vi x2), none, none, none] [] σ rc rs Q := by
  refine r_iload_n (pc := 83) dX8_begin_83 rfl rfl ?_
  refine r_aload_n (pc := 84) dX8_begin_84 rfl rfl ?_
  refine r_getR (pc := 85) dX8_begin_85 (k9 := 0) CL_8 (by decide) (by decide) w_360 rfl (okO_of (N := 15) (hL.sh (i := 27) rfl (by decide) (by decide)) (by decide)) ?_
  refine eqR (y := 55) (hL.rf (i := 26) rfl) ?_
  have o4 : okN σ 55 := okN_of (hL.sh (i := 28) rfl (by decide) (by decide)) (by decide) (by decide) (by decide)
  refine r_alen (pc := 88) dX8_begin_88 o4.1 o4.2 ?_
  refine eqI (y := 1728) (by rw [(hL.sh (i := 28) rfl (by decide) (by decide))] <;> rfl) ?_
  refine r_icmp_ge (pc := 89) (tgt := 105) dX8_begin_89 (by decide) (fun c9 => ?_) (fun c9 => ?_)
  · replace h := h.1 c9
    refine r_iconst (pc := 105) dX8_begin_105 (inRk rfl) ?_
    refine r_istore_n (pc := 106) dX8_begin_106 rfl (by decide) (l2 := [some (vr 54), some (vr 24), some (vi 0), none, none, none]) rfl ?_
    exact (h hL)
  · replace h := h.2 c9
    refine r_aload_n (pc := 92) dX8_begin_92 rfl rfl ?_
    refine r_getR (pc := 93) dX8_begin_93 (k9 := 0) CL_8 (by decide) (by decide) w_360 rfl (okO_of (N := 15) (hL.sh (i := 27) rfl (by decide) (by decide)) (by decide)) ?_
    refine eqR (y := 55) (hL.rf (i := 26) rfl) ?_
    refine r_iload_n (pc := 96) dX8_begin_96 rfl rfl ?_
    refine r_iconst (pc := 97) dX8_begin_97 (inRk rfl) ?_
    obtain ⟨o1, h⟩ := h
    refine r_iastore (pc := 98) dX8_begin_98 (okB_of (c := 20) (n := 1728) (hL.sh (i := 28) rfl (by decide) (by decide)) (by decide) o1) ?_
    refine nmS (fun τ2 e2 => ?_)
    replace h := h τ2 e2
    have hL := hL.wI e2 (by decide) (.inl (by decide))
    obtain ⟨o3, h⟩ := h
    refine r_iinc (pc := 99) dX8_begin_99 rfl (by decide) o3 (l2 := [some (vr 54), some (vr 24), some (vi (x2 + 1)), none, none, none]) rfl ?_
    refine r_goto (pc := 102) (tgt := 83) dX8_begin_102 (by decide) ?_
    exact (h hL)
theorem B_X8_begin_107 {g : Sg} {c t : Nat} (hL : Lay LC g c t σ) {x2 : Int} (h : (((gI σ 54 11) ≤ x2 → (Lay LC g c t σ → Q (.inl none) σ)) ∧ (¬ ((gI σ 54 11) ≤ x2) → (Lay LC g c t σ → GG E mX8_begin 117 [some (vr 54), some (vr 24), some (vi x2), some (vi 0), none, none] [] σ rc rs Q)))) : GG E mX8_begin 107 [some (vr 54), some (vr 24), some (vi x2), none, none, none] [] σ rc rs Q := by
  refine r_iload_n (pc := 107) dX8_begin_107 rfl rfl ?_
  refine r_aload_n (pc := 108) dX8_begin_108 rfl rfl ?_
  refine r_getI (pc := 109) dX8_begin_109 (k9 := 11) CL_8 (by decide) (by decide) w_372 rfl (okO_of (N := 15) (hL.sh (i := 27) rfl (by decide) (by decide)) (by decide)) (fun _ => ?_)
  refine r_icmp_ge (pc := 112) (tgt := 208) dX8_begin_112 (by decide) (fun c9 => ?_) (fun c9 => ?_)
  · replace h := h.1 c9
    exact r_return (pc := 208) dX8_begin_208 (by decide +kernel) rfl (h hL)
  · replace h := h.2 c9
    refine r_iconst (pc := 115) dX8_begin_115 (inRk rfl) ?_
    refine r_istore_n (pc := 116) dX8_begin_116 rfl (by decide) (l2 := [some (vr 54), some (vr 24), some (vi x2), some (vi 0), none, none]) rfl ?_
    exact (h hL)
theorem B_X8_begin_117 {g : Sg} {c t : Nat} (hL : Lay LC g c t σ) {x2 : Int} {x3 : Int} (h : (((gI σ 24 6) ≤ x3 → inR (x2 + 1) ∧ (Lay LC g c t σ → GG E mX8_begin 107 [some (vr 54), some (vr 24), some (vi (x2 + 1)), none, none, none] [] σ rc rs Q)) ∧ (¬ ((gI σ 24 6) ≤ x3) → (Lay LC g c t σ → CC E mX11_at [vr 26, vi x3] σ (KI (fun r2 τ3 => Lay LC g c t τ3 ∧ (inR r2 → (Lay LC g c t τ3 → CC E mX11_at [vr 29, vi x2] τ3 (KI (fun r4 τ5 => Lay LC g c t τ5 ∧ (inR r4 → (Lay LC g c t τ5 → CC E mX4_times [vr 24, vi r2, vi r4] τ5 (KI (fun r6 τ7 => Lay LC g c t τ7 ∧ (inR r6 → (Lay LC g c t τ7 → CC E mX11_at [vr 28, vi x3] τ7 (KI (fun r8 τ9 => Lay LC g c t τ9 ∧ (inR r8 → (Lay LC g c t τ9 → CC E mX11_at [vr 28, vi r6] τ9 (KI (fun r10 τ11 => Lay LC g c t τ11 ∧ (inR r10 → (Lay LC g c t τ11 → CC E mX8_placeOf [vi r8, vi r10, vi x2] τ11 (KI (fun r12 τ13 => Lay LC g c t τ13 ∧ (inR r12 → ((r12 < 0 → inR (x3 + 1) ∧ (Lay LC g c t τ13 → GG E mX8_begin 117 [some (vr 54), some (vr 24), some (vi x2), some (vi (x3 + 1)), none, none] [] τ13 rc rs Q)) ∧ (¬ (r12 < 0) → ((1728 ≤ r12 → inR (x3 + 1) ∧ (Lay LC g c t τ13 → GG E mX8_begin 117 [some (vr 54), some (vr 24), some (vi x2), some (vi (x3 + 1)), none, none] [] τ13 rc rs Q)) ∧ (¬ (1728 ≤ r12) → (0 ≤ r12 ∧ r12 < 1728) ∧ inR ((gI τ13 55 r12.toNat) + 1) ∧ ∀ τ18 : Sg, τ18 = sI τ13 55 r12.toNat ((gI τ13 55 r12.toNat) + 1) → inR (x3 + 1) ∧ (Lay LC g c t τ18 → GG E mX8_begin 117 [some (vr 54), some (vr 24), some (vi x2), some (vi (x3 + 1)), none, none] [] τ18 rc rs Q))))))) (fun _ _ => False))))) (fun _ _ => False))))) (fun _ _ => False))))) (fun _ _ => False))))) (fun _ _ => False))))) (fun _ _ => False)))))) : GG E mX8_begin 117 [some (vr 54), some (vr 24), some (vi x2), some (vi x3), none, none] [] σ rc rs Q := by
  refine r_iload_n (pc := 117) dX8_begin_117 rfl rfl ?_
  refine r_aload_n (pc := 118) dX8_begin_118 rfl rfl ?_
  refine r_getI (pc := 119) dX8_begin_119 (k9 := 6) CL_4 (by decide) (by decide) w_219 rfl (okO_of (N := 12) (hL.sh (i := 8) rfl (by decide) (by decide)) (by decide)) (fun _ => ?_)
  refine r_icmp_ge (pc := 122) (tgt := 202) dX8_begin_122 (by decide) (fun c9 => ?_) (fun c9 => ?_)
  · replace h := h.1 c9
    obtain ⟨o1, h⟩ := h
    refine r_iinc (pc := 202) dX8_begin_202 rfl (by decide) o1 (l2 := [some (vr 54), some (vr 24), some (vi (x2 + 1)), some (vi x3), none, none]) rfl ?_
    refine r_goto (pc := 205) (tgt := 107) dX8_begin_205 (by decide) ?_
    exact GG.msk [true, true, true, false, false, false] (h hL)
  · replace h := h.2 c9
    refine r_aload_n (pc := 125) dX8_begin_125 rfl rfl ?_
    refine r_aload_n (pc := 126) dX8_begin_126 rfl rfl ?_
    refine r_getR (pc := 127) dX8_begin_127 (k9 := 1) CL_4 (by decide) (by decide) w_201 rfl (okO_of (N := 12) (hL.sh (i := 8) rfl (by decide) (by decide)) (by decide)) ?_
    refine eqR (y := 26) (hL.rf (i := 9) rfl) ?_
    refine r_iload_n (pc := 130) dX8_begin_130 rfl rfl ?_
    refine c_SNI0N (M := mX8_begin) (pc := 131) (As := [vr 26, vi x3]) dX8_begin_131 K_X11_at wt_1015 ⟨by decide, by decide⟩ (Nat.le_of_ble_eq_true rfl) rfl rfl (h hL) (fun r2 τ3 h8 hr9 => ?_) rfl
    replace hL := h8.1
    replace h := h8.2 hr9
    refine r_aload_n (pc := 134) dX8_begin_134 rfl rfl ?_
    refine r_getR (pc := 135) dX8_begin_135 (k9 := 4) CL_4 (by decide) (by decide) w_210 rfl (okO_of (N := 12) (hL.sh (i := 8) rfl (by decide) (by decide)) (by decide)) ?_
    refine eqR (y := 29) (hL.rf (i := 12) rfl) ?_
    refine r_iload_n (pc := 138) dX8_begin_138 rfl rfl ?_
    refine c_SNI0N (M := mX8_begin) (pc := 139) (As := [vr 29, vi x2]) dX8_begin_139 K_X11_at wt_1015 ⟨by decide, by decide⟩ (Nat.le_of_ble_eq_true rfl) rfl rfl (h hL) (fun r4 τ5 h8 hr9 => ?_) rfl
    replace hL := h8.1
    replace h := h8.2 hr9
    refine c_VI0N (M := mX8_begin) (pc := 142) (As := [vi r2, vi r4]) dX8_begin_142 K_X4_times w_1016 ⟨by decide, by decide⟩ (Nat.le_of_ble_eq_true rfl) rfl rfl (ci := 4) rfl rfl (by decide) (okO_of (N := 12) (hL.sh (i := 8) rfl (by decide) (by decide)) (by decide)) (h hL) (fun r6 τ7 h8 hr9 => ?_) rfl
    replace hL := h8.1
    replace h := h8.2 hr9
    refine r_istore (pc := 145) dX8_begin_145 (by decide) (l2 := [some (vr 54), some (vr 24), some (vi x2), some (vi x3), some (vi r6), none]) rfl ?_
    refine r_aload_n (pc := 147) dX8_begin_147 rfl rfl ?_
    refine r_getR (pc := 148) dX8_begin_148 (k9 := 3) CL_4 (by decide) (by decide) w_206 rfl (okO_of (N := 12) (hL.sh (i := 8) rfl (by decide) (by decide)) (by decide)) ?_
    refine eqR (y := 28) (hL.rf (i := 11) rfl) ?_
    refine r_iload_n (pc := 151) dX8_begin_151 rfl rfl ?_
    refine c_SNI0N (M := mX8_begin) (pc := 152) (As := [vr 28, vi x3]) dX8_begin_152 K_X11_at wt_1015 ⟨by decide, by decide⟩ (Nat.le_of_ble_eq_true rfl) rfl rfl (h hL) (fun r8 τ9 h8 hr9 => ?_) rfl
    replace hL := h8.1
    replace h := h8.2 hr9
    refine r_aload_n (pc := 155) dX8_begin_155 rfl rfl ?_
    refine r_getR (pc := 156) dX8_begin_156 (k9 := 3) CL_4 (by decide) (by decide) w_206 rfl (okO_of (N := 12) (hL.sh (i := 8) rfl (by decide) (by decide)) (by decide)) ?_
    refine eqR (y := 28) (hL.rf (i := 11) rfl) ?_
    refine r_iload (pc := 159) dX8_begin_159 rfl ?_
    refine c_SNI0N (M := mX8_begin) (pc := 161) (As := [vr 28, vi r6]) dX8_begin_161 K_X11_at wt_1015 ⟨by decide, by decide⟩ (Nat.le_of_ble_eq_true rfl) rfl rfl (h hL) (fun r10 τ11 h8 hr9 => ?_) rfl
    replace hL := h8.1
    replace h := h8.2 hr9
    refine r_iload_n (pc := 164) dX8_begin_164 rfl rfl ?_
    refine c_SI0N (M := mX8_begin) (pc := 165) (As := [vi r8, vi r10, vi x2]) dX8_begin_165 K_X8_placeOf w_1017 ⟨by decide, by decide⟩ (Nat.le_of_ble_eq_true rfl) rfl rfl (h hL) (fun r12 τ13 h8 hr9 => ?_) rfl
    replace hL := h8.1
    replace h := h8.2 hr9
    refine r_istore (pc := 168) dX8_begin_168 (by decide) (l2 := [some (vr 54), some (vr 24), some (vi x2), some (vi x3), some (vi r6), some (vi r12)]) rfl ?_
    refine r_iload (pc := 170) dX8_begin_170 rfl ?_
    refine r_if_lt (pc := 172) (tgt := 196) dX8_begin_172 (by decide) (fun c9 => ?_) (fun c9 => ?_)
    · replace h := h.1 c9
      obtain ⟨o14, h⟩ := h
      refine r_iinc (pc := 196) dX8_begin_196 rfl (by decide) o14 (l2 := [some (vr 54), some (vr 24), some (vi x2), some (vi (x3 + 1)), some (vi r6), some (vi r12)]) rfl ?_
      refine r_goto (pc := 199) (tgt := 117) dX8_begin_199 (by decide) ?_
      exact GG.msk [true, true, true, true, false, false] (h hL)
    · replace h := h.2 c9
      refine r_iload (pc := 175) dX8_begin_175 rfl ?_
      refine r_aload_n (pc := 177) dX8_begin_177 rfl rfl ?_
      refine r_getR (pc := 178) dX8_begin_178 (k9 := 0) CL_8 (by decide) (by decide) w_360 rfl (okO_of (N := 15) (hL.sh (i := 27) rfl (by decide) (by decide)) (by decide)) ?_
      refine eqR (y := 55) (hL.rf (i := 26) rfl) ?_
      have o20 : okN τ13 55 := okN_of (hL.sh (i := 28) rfl (by decide) (by decide)) (by decide) (by decide) (by decide)
      refine r_alen (pc := 181) dX8_begin_181 o20.1 o20.2 ?_
      refine eqI (y := 1728) (by rw [(hL.sh (i := 28) rfl (by decide) (by decide))] <;> rfl) ?_
      refine r_icmp_ge (pc := 182) (tgt := 196) dX8_begin_182 (by decide) (fun c9 => ?_) (fun c9 => ?_)
      · replace h := h.1 c9
        obtain ⟨o15, h⟩ := h
        refine r_iinc (pc := 196) dX8_begin_196 rfl (by decide) o15 (l2 := [some (vr 54), some (vr 24), some (vi x2), some (vi (x3 + 1)), some (vi r6), some (vi r12)]) rfl ?_
        refine r_goto (pc := 199) (tgt := 117) dX8_begin_199 (by decide) ?_
        exact GG.msk [true, true, true, true, false, false] (h hL)
      · replace h := h.2 c9
        refine r_aload_n (pc := 185) dX8_begin_185 rfl rfl ?_
        refine r_getR (pc := 186) dX8_begin_186 (k9 := 0) CL_8 (by decide) (by decide) w_360 rfl (okO_of (N := 15) (hL.sh (i := 27) rfl (by decide) (by decide)) (by decide)) ?_
        refine eqR (y := 55) (hL.rf (i := 26) rfl) ?_
        refine r_iload (pc := 189) dX8_begin_189 rfl ?_
        refine r_dup2_11 (pc := 191) dX8_begin_191 (fun _ h9 => nomatch h9) (fun _ h9 => nomatch h9) ?_
        obtain ⟨o16, h⟩ := h
        refine r_iaload (pc := 192) dX8_begin_192 (okA_of (c := 20) (n := 1728) (hL.sh (i := 28) rfl (by decide) (by decide)) (by decide) o16) ?_
        refine r_iconst (pc := 193) dX8_begin_193 (inRk rfl) ?_
        obtain ⟨o17, h⟩ := h
        refine r_iadd (pc := 194) dX8_begin_194 o17 ?_
        refine r_iastore (pc := 195) dX8_begin_195 (okB_of (c := 20) (n := 1728) (hL.sh (i := 28) rfl (by decide) (by decide)) (by decide) o16) ?_
        refine nmS (fun τ18 e18 => ?_)
        replace h := h τ18 e18
        have hL := hL.wI e18 (by decide) (.inl (by decide))
        obtain ⟨o19, h⟩ := h
        refine r_iinc (pc := 196) dX8_begin_196 rfl (by decide) o19 (l2 := [some (vr 54), some (vr 24), some (vi x2), some (vi (x3 + 1)), some (vi r6), some (vi r12)]) rfl ?_
        refine r_goto (pc := 199) (tgt := 117) dX8_begin_199 (by decide) ?_
        exact GG.msk [true, true, true, true, false, false] (h hL)
theorem C_X8_begin {a0 : Nat} {a1 : Nat} (h : GG E mX8_begin 0 [some (vr a0), some (vr a1), none, none, none, none] [] σ 0 0 Q) : CC E mX8_begin [vr a0, vr a1] σ Q := CC.of (by decide +kernel) rfl (by decide +kernel) (fun h9 => nomatch h9) (Nat.le_of_ble_eq_true rfl) h
theorem dX8_clear_0 : decode cX8_clear 0 = .ok (.iload_n 2, 1) := by decide +kernel
theorem dX8_clear_1 : decode cX8_clear 1 = .ok (.istore 5, 2) := by decide +kernel
theorem dX8_clear_3 : decode cX8_clear 3 = .ok (.iconst 0, 1) := by decide +kernel
theorem dX8_clear_4 : decode cX8_clear 4 = .ok (.istore 6, 2) := by decide +kernel
theorem dX8_clear_6 : decode cX8_clear 6 = .ok (.iload 6, 2) := by decide +kernel
theorem dX8_clear_8 : decode cX8_clear 8 = .ok (.iload 4, 2) := by decide +kernel
theorem dX8_clear_10 : decode cX8_clear 10 = .ok (.if_icmp .ge 127, 3) := by decide +kernel
theorem dX8_clear_13 : decode cX8_clear 13 = .ok (.iload 5, 2) := by decide +kernel
theorem dX8_clear_15 : decode cX8_clear 15 = .ok (.iload_n 3, 1) := by decide +kernel
theorem dX8_clear_16 : decode cX8_clear 16 = .ok (.if_icmp .ge 121, 3) := by decide +kernel
theorem dX8_clear_19 : decode cX8_clear 19 = .ok (.iload 5, 2) := by decide +kernel
theorem dX8_clear_21 : decode cX8_clear 21 = .ok (.istore 7, 2) := by decide +kernel
theorem dX8_clear_23 : decode cX8_clear 23 = .ok (.iload 7, 2) := by decide +kernel
theorem dX8_clear_25 : decode cX8_clear 25 = .ok (.iload_n 3, 1) := by decide +kernel
theorem dX8_clear_26 : decode cX8_clear 26 = .ok (.if_icmp .ge 19, 3) := by decide +kernel
theorem dX8_clear_29 : decode cX8_clear 29 = .ok (.aload_n 1, 1) := by decide +kernel
theorem dX8_clear_30 : decode cX8_clear 30 = .ok (.iload 7, 2) := by decide +kernel
theorem dX8_clear_32 : decode cX8_clear 32 = .ok (.aaload, 1) := by decide +kernel
theorem dX8_clear_33 : decode cX8_clear 33 = .ok (.iload 6, 2) := by decide +kernel
theorem dX8_clear_35 : decode cX8_clear 35 = .ok (.iaload, 1) := by decide +kernel
theorem dX8_clear_36 : decode cX8_clear 36 = .ok (.ifCond .ne 9, 3) := by decide +kernel
theorem dX8_clear_39 : decode cX8_clear 39 = .ok (.iinc 7 1, 3) := by decide +kernel
theorem dX8_clear_42 : decode cX8_clear 42 = .ok (.goto (-19), 3) := by decide +kernel
theorem dX8_clear_45 : decode cX8_clear 45 = .ok (.iload 7, 2) := by decide +kernel
theorem dX8_clear_47 : decode cX8_clear 47 = .ok (.iload_n 3, 1) := by decide +kernel
theorem dX8_clear_48 : decode cX8_clear 48 = .ok (.if_icmp .ge 83, 3) := by decide +kernel
theorem dX8_clear_51 : decode cX8_clear 51 = .ok (.aload_n 1, 1) := by decide +kernel
theorem dX8_clear_52 : decode cX8_clear 52 = .ok (.iload 7, 2) := by decide +kernel
theorem dX8_clear_54 : decode cX8_clear 54 = .ok (.aaload, 1) := by decide +kernel
theorem dX8_clear_55 : decode cX8_clear 55 = .ok (.astore 8, 2) := by decide +kernel
theorem dX8_clear_57 : decode cX8_clear 57 = .ok (.aload_n 1, 1) := by decide +kernel
theorem dX8_clear_58 : decode cX8_clear 58 = .ok (.iload 7, 2) := by decide +kernel
theorem dX8_clear_60 : decode cX8_clear 60 = .ok (.aload_n 1, 1) := by decide +kernel
theorem dX8_clear_61 : decode cX8_clear 61 = .ok (.iload 5, 2) := by decide +kernel
theorem dX8_clear_63 : decode cX8_clear 63 = .ok (.aaload, 1) := by decide +kernel
theorem dX8_clear_64 : decode cX8_clear 64 = .ok (.aastore, 1) := by decide +kernel
theorem dX8_clear_65 : decode cX8_clear 65 = .ok (.aload_n 1, 1) := by decide +kernel
theorem dX8_clear_66 : decode cX8_clear 66 = .ok (.iload 5, 2) := by decide +kernel
theorem dX8_clear_68 : decode cX8_clear 68 = .ok (.aload 8, 2) := by decide +kernel
theorem dX8_clear_70 : decode cX8_clear 70 = .ok (.aastore, 1) := by decide +kernel
theorem dX8_clear_71 : decode cX8_clear 71 = .ok (.aload_n 0, 1) := by decide +kernel
theorem dX8_clear_72 : decode cX8_clear 72 = .ok (.aload 8, 2) := by decide +kernel
theorem dX8_clear_74 : decode cX8_clear 74 = .ok (.aload_n 0, 1) := by decide +kernel
theorem dX8_clear_75 : decode cX8_clear 75 = .ok (.getfield 44, 3) := by decide +kernel
theorem dX8_clear_78 : decode cX8_clear 78 = .ok (.aload 8, 2) := by decide +kernel
theorem dX8_clear_80 : decode cX8_clear 80 = .ok (.iload 6, 2) := by decide +kernel
theorem dX8_clear_82 : decode cX8_clear 82 = .ok (.iaload, 1) := by decide +kernel
theorem dX8_clear_83 : decode cX8_clear 83 = .ok (.invokevirtual 126, 3) := by decide +kernel
theorem dX8_clear_86 : decode cX8_clear 86 = .ok (.invokevirtual 144, 3) := by decide +kernel
theorem dX8_clear_89 : decode cX8_clear 89 = .ok (.iload_n 2, 1) := by decide +kernel
theorem dX8_clear_90 : decode cX8_clear 90 = .ok (.istore 9, 2) := by decide +kernel
theorem dX8_clear_92 : decode cX8_clear 92 = .ok (.iload 9, 2) := by decide +kernel
theorem dX8_clear_94 : decode cX8_clear 94 = .ok (.iload_n 3, 1) := by decide +kernel
theorem dX8_clear_95 : decode cX8_clear 95 = .ok (.if_icmp .ge 33, 3) := by decide +kernel
theorem dX8_clear_98 : decode cX8_clear 98 = .ok (.iload 9, 2) := by decide +kernel
theorem dX8_clear_100 : decode cX8_clear 100 = .ok (.iload 5, 2) := by decide +kernel
theorem dX8_clear_102 : decode cX8_clear 102 = .ok (.if_icmp .eq 20, 3) := by decide +kernel
theorem dX8_clear_105 : decode cX8_clear 105 = .ok (.aload_n 0, 1) := by decide +kernel
theorem dX8_clear_106 : decode cX8_clear 106 = .ok (.aload_n 1, 1) := by decide +kernel
theorem dX8_clear_107 : decode cX8_clear 107 = .ok (.iload 9, 2) := by decide +kernel
theorem dX8_clear_109 : decode cX8_clear 109 = .ok (.aaload, 1) := by decide +kernel
theorem dX8_clear_110 : decode cX8_clear 110 = .ok (.aload 8, 2) := by decide +kernel
theorem dX8_clear_112 : decode cX8_clear 112 = .ok (.aload_n 1, 1) := by decide +kernel
theorem dX8_clear_113 : decode cX8_clear 113 = .ok (.iload 9, 2) := by decide +kernel
theorem dX8_clear_115 : decode cX8_clear 115 = .ok (.aaload, 1) := by decide +kernel
theorem dX8_clear_116 : decode cX8_clear 116 = .ok (.iload 6, 2) := by decide +kernel
theorem dX8_clear_118 : decode cX8_clear 118 = .ok (.iaload, 1) := by decide +kernel
theorem dX8_clear_119 : decode cX8_clear 119 = .ok (.invokevirtual 148, 3) := by decide +kernel
theorem dX8_clear_122 : decode cX8_clear 122 = .ok (.iinc 9 1, 3) := by decide +kernel
theorem dX8_clear_125 : decode cX8_clear 125 = .ok (.goto (-33), 3) := by decide +kernel
theorem dX8_clear_128 : decode cX8_clear 128 = .ok (.iinc 5 1, 3) := by decide +kernel
theorem dX8_clear_131 : decode cX8_clear 131 = .ok (.iinc 6 1, 3) := by decide +kernel
theorem dX8_clear_134 : decode cX8_clear 134 = .ok (.goto (-128), 3) := by decide +kernel
theorem dX8_clear_137 : decode cX8_clear 137 = .ok (.iload 5, 2) := by decide +kernel
theorem dX8_clear_139 : decode cX8_clear 139 = .ok (.ireturn, 1) := by decide +kernel
theorem B_X8_clear_69_0 {g : Sg} {c t : Nat} (hL : Lay LC g c t σ) {x2 : Int} {x3 : Int} {x4 : Int} (h : (Lay LC g c t σ → GG E mX8_clear 6 [some (vr 54), some (vr 69), some (vi x2), some (vi x3), some (vi x4), some (vi x2), some (vi 0), none, none, none] [] σ rc rs Q)) : GG E mX8_clear 0 [some (vr 54), some (vr 69), some (vi x2), some (vi x3), some (vi x4), none, none, none, none, none] [] σ rc rs Q := by
  refine r_iload_n (pc := 0) dX8_clear_0 rfl rfl ?_
  refine r_istore (pc := 1) dX8_clear_1 (by decide) (l2 := [some (vr 54), some (vr 69), some (vi x2), some (vi x3), some (vi x4), some (vi x2), none, none, none, none]) rfl ?_
  refine r_iconst (pc := 3) dX8_clear_3 (inRk rfl) ?_
  refine r_istore (pc := 4) dX8_clear_4 (by decide) (l2 := [some (vr 54), some (vr 69), some (vi x2), some (vi x3), some (vi x4), some (vi x2), some (vi 0), none, none, none]) rfl ?_
  exact (h hL)
theorem B_X8_clear_69_6 {g : Sg} {c t : Nat} (hL : Lay LC g c t σ) {x2 : Int} {x3 : Int} {x4 : Int} {x5 : Int} {x6 : Int} (h : ((x4 ≤ x6 → (Lay LC g c t σ → Q (.inl (some (vi x5))) σ)) ∧ (¬ (x4 ≤ x6) → ((x3 ≤ x5 → (Lay LC g c t σ → Q (.inl (some (vi x5))) σ)) ∧ (¬ (x3 ≤ x5) → (Lay LC g c t σ → GG E mX8_clear 23 [some (vr 54), some (vr 69), some (vi x2), some (vi x3), some (vi x4), some (vi x5), some (vi x6), some (vi x5), none, none] [] σ rc rs Q)))))) : GG E mX8_clear 6 [some (vr 54), some (vr 69), some (vi x2), some (vi x3), some (vi x4), some (vi x5), some (vi x6), none, none, none] [] σ rc rs Q := by
  refine r_iload (pc := 6) dX8_clear_6 rfl ?_
  refine r_iload (pc := 8) dX8_clear_8 rfl ?_
  refine r_icmp_ge (pc := 10) (tgt := 137) dX8_clear_10 (by decide) (fun c9 => ?_) (fun c9 => ?_)
  · replace h := h.1 c9
    refine r_iload (pc := 137) dX8_clear_137 rfl ?_
    exact r_ireturn (pc := 139) (ty := .int) dX8_clear_139 (by decide +kernel) rfl (nar_i _) (h hL)
  · replace h := h.2 c9
    refine r_iload (pc := 13) dX8_clear_13 rfl ?_
    refine r_iload_n (pc := 15) dX8_clear_15 rfl rfl ?_
    refine r_icmp_ge (pc := 16) (tgt := 137) dX8_clear_16 (by decide) (fun c9 => ?_) (fun c9 => ?_)
    · replace h := h.1 c9
      refine r_iload (pc := 137) dX8_clear_137 rfl ?_
      exact r_ireturn (pc := 139) (ty := .int) dX8_clear_139 (by decide +kernel) rfl (nar_i _) (h hL)
    · replace h := h.2 c9
      refine r_iload (pc := 19) dX8_clear_19 rfl ?_
      refine r_istore (pc := 21) dX8_clear_21 (by decide) (l2 := [some (vr 54), some (vr 69), some (vi x2), some (vi x3), some (vi x4), some (vi x5), some (vi x6), some (vi x5), none, none]) rfl ?_
      exact (h hL)
theorem B_X8_clear_69_23 {g : Sg} {c t : Nat} (hL : Lay LC g c t σ) {x2 : Int} {x3 : Int} {x4 : Int} {x5 : Int} {x6 : Int} {x7 : Int} (h : ((x3 ≤ x7 → (Lay LC g c t σ → GG E mX8_clear 45 [some (vr 54), some (vr 69), some (vi x2), some (vi x3), some (vi x4), some (vi x5), some (vi x6), some (vi x7), none, none] [] σ rc rs Q)) ∧ (¬ (x3 ≤ x7) → (0 ≤ x7 ∧ x7 < 12) ∧ ∀ b2 : Nat, b2 = gR σ 69 x7.toNat → (70 ≤ b2 ∧ b2 < 82) → (0 ≤ x6 ∧ x6 < 12) ∧ (((gI σ b2 x6.toNat) ≠ 0 → (Lay LC g c t σ → GG E mX8_clear 45 [some (vr 54), some (vr 69), some (vi x2), some (vi x3), some (vi x4), some (vi x5), some (vi x6), some (vi x7), none, none] [] σ rc rs Q)) ∧ ((gI σ b2 x6.toNat) = 0 → inR (x7 + 1) ∧ (Lay LC g c t σ → GG E mX8_clear 23 [some (vr 54), some (vr 69), some (vi x2), some (vi x3), some (vi x4), some (vi x5), some (vi x6), some (vi (x7 + 1)), none, none] [] σ rc rs Q)))))) : GG E mX8_clear 23 [some (vr 54), some (vr 69), some (vi x2), some (vi x3), some (vi x4), some (vi x5), some (vi x6), some (vi x7), none, none] [] σ rc rs Q := by
  refine r_iload (pc := 23) dX8_clear_23 rfl ?_
  refine r_iload_n (pc := 25) dX8_clear_25 rfl rfl ?_
  refine r_icmp_ge (pc := 26) (tgt := 45) dX8_clear_26 (by decide) (fun c9 => ?_) (fun c9 => ?_)
  · replace h := h.1 c9
    exact (h hL)
  · replace h := h.2 c9
    refine r_aload_n (pc := 29) dX8_clear_29 rfl rfl ?_
    refine r_iload (pc := 30) dX8_clear_30 rfl ?_
    obtain ⟨o1, h⟩ := h
    refine r_aaload (pc := 32) dX8_clear_32 (okB_of (c := 24) (n := 12) (hL.sh (i := 31) rfl (by decide) (by decide)) (by decide) o1) ?_
    refine nmR (fun b2 e9 => ?_)
    have q3 : (70 ≤ b2 ∧ b2 < 82) := e9 ▸ hL.rsw (i := 1) rfl (rowC o1 (by decide))
    replace h := h b2 e9 q3
    refine r_iload (pc := 33) dX8_clear_33 rfl ?_
    obtain ⟨o4, h⟩ := h
    refine r_iaload (pc := 35) dX8_clear_35 (okA_of (c := 20) (n := 12) (hL.sh (i := 32) rfl q3.1 q3.2) (Nat.le_trans (by decide) q3.1) o4) ?_
    refine r_if_ne (pc := 36) (tgt := 45) dX8_clear_36 (by decide) (fun c9 => ?_) (fun c9 => ?_)
    · replace h := h.1 c9
      exact (h hL)
    · replace h := h.2 c9
      obtain ⟨o5, h⟩ := h
      refine r_iinc (pc := 39) dX8_clear_39 rfl (by decide) o5 (l2 := [some (vr 54), some (vr 69), some (vi x2), some (vi x3), some (vi x4), some (vi x5), some (vi x6), some (vi (x7 + 1)), none, none]) rfl ?_
      refine r_goto (pc := 42) (tgt := 23) dX8_clear_42 (by decide) ?_
      exact (h hL)
theorem B_X8_clear_69_45 {g : Sg} {c t : Nat} (hL : Lay LC g c t σ) {x2 : Int} {x3 : Int} {x4 : Int} {x5 : Int} {x6 : Int} {x7 : Int} (h : ((x3 ≤ x7 → inR (x6 + 1) ∧ (Lay LC g c t σ → GG E mX8_clear 6 [some (vr 54), some (vr 69), some (vi x2), some (vi x3), some (vi x4), some (vi x5), some (vi (x6 + 1)), none, none, none] [] σ rc rs Q)) ∧ (¬ (x3 ≤ x7) → (0 ≤ x7 ∧ x7 < 12) ∧ ∀ b3 : Nat, b3 = gR σ 69 x7.toNat → (70 ≤ b3 ∧ b3 < 82) → (0 ≤ x5 ∧ x5 < 12) ∧ ∀ b6 : Nat, b6 = gR σ 69 x5.toNat → (70 ≤ b6 ∧ b6 < 82) → ∀ τ8 : Sg, τ8 = sR σ 69 x7.toNat b6 → ∀ τ9 : Sg, τ9 = sR τ8 69 x5.toNat b3 → (0 ≤ x6 ∧ x6 < 12) ∧ (Lay LC g c t τ9 → CC E mX2_inverse [vr 35, vi (gI τ9 b3 x6.toNat)] τ9 (KI (fun r11 τ12 => Lay LC g c t τ12 ∧ (inR r11 → (Lay LC g c t τ12 → CC E mX8_stretchRow [vr 54, vr b3, vi r11] τ12 (KV (fun τ14 => Lay LC g c t τ14 ∧ (Lay LC g c t τ14 → GG E mX8_clear 92 [some (vr 54), some (vr 69), some (vi x2), some (vi x3), some (vi x4), some (vi x5), some (vi x6), none, some (vr b3), some (vi x2)] [] τ14 rc rs Q)) (fun _ _ => False))))) (fun _ _ => False)))))) : GG E mX8_clear 45 [some (vr 54), some (vr 69), some (vi x2), some (vi x3), some (vi x4), some (vi x5), some (vi x6), some (vi x7), none, none] [] σ rc rs Q := by
  refine r_iload (pc := 45) dX8_clear_45 rfl ?_
  refine r_iload_n (pc := 47) dX8_clear_47 rfl rfl ?_
  refine r_icmp_ge (pc := 48) (tgt := 131) dX8_clear_48 (by decide) (fun c9 => ?_) (fun c9 => ?_)
  · replace h := h.1 c9
    obtain ⟨o1, h⟩ := h
    refine r_iinc (pc := 131) dX8_clear_131 rfl (by decide) o1 (l2 := [some (vr 54), some (vr 69), some (vi x2), some (vi x3), some (vi x4), some (vi x5), some (vi (x6 + 1)), some (vi x7), none, none]) rfl ?_
    refine r_goto (pc := 134) (tgt := 6) dX8_clear_134 (by decide) ?_
    exact GG.msk [true, true, true, true, true, true, true, false, false, false] (h hL)
  · replace h := h.2 c9
    refine r_aload_n (pc := 51) dX8_clear_51 rfl rfl ?_
    refine r_iload (pc := 52) dX8_clear_52 rfl ?_
    obtain ⟨o2, h⟩ := h
    refine r_aaload (pc := 54) dX8_clear_54 (okB_of (c := 24) (n := 12) (hL.sh (i := 31) rfl (by decide) (by decide)) (by decide) o2) ?_
    refine nmR (fun b3 e9 => ?_)
    have q4 : (70 ≤ b3 ∧ b3 < 82) := e9 ▸ hL.rsw (i := 1) rfl (rowC o2 (by decide))
    replace h := h b3 e9 q4
    refine r_astore (pc := 55) dX8_clear_55 (by decide) (l2 := [some (vr 54), some (vr 69), some (vi x2), some (vi x3), some (vi x4), some (vi x5), some (vi x6), some (vi x7), some (vr b3), none]) rfl ?_
    refine r_aload_n (pc := 57) dX8_clear_57 rfl rfl ?_
    refine r_iload (pc := 58) dX8_clear_58 rfl ?_
    refine r_aload_n (pc := 60) dX8_clear_60 rfl rfl ?_
    refine r_iload (pc := 61) dX8_clear_61 rfl ?_
    obtain ⟨o5, h⟩ := h
    refine r_aaload (pc := 63) dX8_clear_63 (okB_of (c := 24) (n := 12) (hL.sh (i := 31) rfl (by decide) (by decide)) (by decide) o5) ?_
    refine nmR (fun b6 e9 => ?_)
    have q7 : (70 ≤ b6 ∧ b6 < 82) := e9 ▸ hL.rsw (i := 1) rfl (rowC o5 (by decide))
    replace h := h b6 e9 q7
    refine r_aastore (pc := 64) dX8_clear_64 (okB_of (c := 24) (n := 12) (hL.sh (i := 31) rfl (by decide) (by decide)) (by decide) o2) ⟨(Nat.le_trans (by decide) q7.1), by rw [(hL.sh (i := 32) rfl q7.1 q7.2)]⟩ ?_
    refine nmS (fun τ8 e8 => ?_)
    replace h := h τ8 e8
    have hL := hL.wR e8 (i := 1) rfl q7 (by decide) (by decide)
    refine r_aload_n (pc := 65) dX8_clear_65 rfl rfl ?_
    refine r_iload (pc := 66) dX8_clear_66 rfl ?_
    refine r_aload (pc := 68) dX8_clear_68 rfl ?_
    refine r_aastore (pc := 70) dX8_clear_70 (okB_of (c := 24) (n := 12) (hL.sh (i := 31) rfl (by decide) (by decide)) (by decide) o5) ⟨(Nat.le_trans (by decide) q4.1), by rw [(hL.sh (i := 32) rfl q4.1 q4.2)]⟩ ?_
    refine nmS (fun τ9 e9 => ?_)
    replace h := h τ9 e9
    have hL := hL.wR e9 (i := 1) rfl q4 (by decide) (by decide)
    refine r_aload_n (pc := 71) dX8_clear_71 rfl rfl ?_
    refine r_aload (pc := 72) dX8_clear_72 rfl ?_
    refine r_aload_n (pc := 74) dX8_clear_74 rfl rfl ?_
    refine r_getR (pc := 75) dX8_clear_75 (k9 := 10) CL_8 (by decide) (by decide) w_371 rfl (okO_of (N := 15) (hL.sh (i := 27) rfl (by decide) (by decide)) (by decide)) ?_
    refine eqR (y := 35) (hL.rf (i := 36) rfl) ?_
    refine r_aload (pc := 78) dX8_clear_78 rfl ?_
    refine r_iload (pc := 80) dX8_clear_80 rfl ?_
    obtain ⟨o10, h⟩ := h
    refine r_iaload (pc := 82) dX8_clear_82 (okA_of (c := 20) (n := 12) (hL.sh (i := 32) rfl q4.1 q4.2) (Nat.le_trans (by decide) q4.1) o10) ?_
    refine c_VI0N (M := mX8_clear) (pc := 83) (As := [vi (gI τ9 b3 x6.toNat)]) dX8_clear_83 K_X2_inverse w_1041 ⟨by decide, by decide⟩ (Nat.le_of_ble_eq_true rfl) rfl rfl (ci := 2) rfl rfl (by decide) (okO_of (N := 2) (hL.sh (i := 19) rfl (by decide) (by decide)) (by decide)) (h hL) (fun r11 τ12 h8 hr9 => ?_) rfl
    replace hL := h8.1
    replace h := h8.2 hr9
    refine c_VV0N (M := mX8_clear) (pc := 86) (As := [vr b3, vi r11]) dX8_clear_86 K_X8_stretchRow w_1055 ⟨by decide, by decide⟩ (Nat.le_of_ble_eq_true rfl) rfl rfl (ci := 8) rfl rfl (by decide) (okO_of (N := 15) (hL.sh (i := 27) rfl (by decide) (by decide)) (by decide)) (h hL) (fun τ14 h8 => ?_) rfl
    replace hL := h8.1
    replace h := h8.2
    refine r_iload_n (pc := 89) dX8_clear_89 rfl rfl ?_
    refine r_istore (pc := 90) dX8_clear_90 (by decide) (l2 := [some (vr 54), some (vr 69), some (vi x2), some (vi x3), some (vi x4), some (vi x5), some (vi x6), some (vi x7), some (vr b3), some (vi x2)]) rfl ?_
    exact GG.msk [true, true, true, true, true, true, true, false, true, true] (h hL)
theorem B_X8_clear_69_92 {g : Sg} {c t : Nat} (hL : Lay LC g c t σ) {x2 : Int} {x3 : Int} {x4 : Int} {x5 : Int} {x6 : Int} {a8 : Nat} (qa8 : 70 ≤ a8 ∧ a8 < 82) {x9 : Int} (h : ((x3 ≤ x9 → inR (x5 + 1) ∧ inR (x6 + 1) ∧ (Lay LC g c t σ → GG E mX8_clear 6 [some (vr 54), some (vr 69), some (vi x2), some (vi x3), some (vi x4), some (vi (x5 + 1)), some (vi (x6 + 1)), none, none, none] [] σ rc rs Q)) ∧ (¬ (x3 ≤ x9) → ((x9 = x5 → inR (x9 + 1) ∧ (Lay LC g c t σ → GG E mX8_clear 92 [some (vr 54), some (vr 69), some (vi x2), some (vi x3), some (vi x4), some (vi x5), some (vi x6), none, some (vr a8), some (vi (x9 + 1))] [] σ rc rs Q)) ∧ (¬ (x9 = x5) → (0 ≤ x9 ∧ x9 < 12) ∧ ∀ b5 : Nat, b5 = gR σ 69 x9.toNat → (70 ≤ b5 ∧ b5 < 82) → ∀ b7 : Nat, b7 = gR σ 69 x9.toNat → (70 ≤ b7 ∧ b7 < 82) → (0 ≤ x6 ∧ x6 < 12) ∧ (Lay LC g c t σ → CC E mX8_takeAway [vr 54, vr b5, vr a8, vi (gI σ b7 x6.toNat)] σ (KV (fun τ11 => Lay LC g c t τ11 ∧ inR (x9 + 1) ∧ (Lay LC g c t τ11 → GG E mX8_clear 92 [some (vr 54), some (vr 69), some (vi x2), some (vi x3), some (vi x4), some (vi x5), some (vi x6), none, some (vr a8), some (vi (x9 + 1))] [] τ11 rc rs Q)) (fun _ _ => False)))))))) : GG E mX8_clear 92 [some (vr 54), some (vr 69), some (vi x2), some (vi x3), some (vi x4), some (vi x5), some (vi x6), none, some (vr a8), some (vi x9)] [] σ rc rs Q := by
  refine r_iload (pc := 92) dX8_clear_92 rfl ?_
  refine r_iload_n (pc := 94) dX8_clear_94 rfl rfl ?_
  refine r_icmp_ge (pc := 95) (tgt := 128) dX8_clear_95 (by decide) (fun c9 => ?_) (fun c9 => ?_)
  · replace h := h.1 c9
    obtain ⟨o1, h⟩ := h
    refine r_iinc (pc := 128) dX8_clear_128 rfl (by decide) o1 (l2 := [some (vr 54), some (vr 69), some (vi x2), some (vi x3), some (vi x4), some (vi (x5 + 1)), some (vi x6), none, some (vr a8), some (vi x9)]) rfl ?_
    obtain ⟨o2, h⟩ := h
    refine r_iinc (pc := 131) dX8_clear_131 rfl (by decide) o2 (l2 := [some (vr 54), some (vr 69), some (vi x2), some (vi x3), some (vi x4), some (vi (x5 + 1)), some (vi (x6 + 1)), none, some (vr a8), some (vi x9)]) rfl ?_
    refine r_goto (pc := 134) (tgt := 6) dX8_clear_134 (by decide) ?_
    exact GG.msk [true, true, true, true, true, true, true, false, false, false] (h hL)
  · replace h := h.2 c9
    refine r_iload (pc := 98) dX8_clear_98 rfl ?_
    refine r_iload (pc := 100) dX8_clear_100 rfl ?_
    refine r_icmp_eq (pc := 102) (tgt := 122) dX8_clear_102 (by decide) (fun c9 => ?_) (fun c9 => ?_)
    · replace h := h.1 c9
      obtain ⟨o3, h⟩ := h
      refine r_iinc (pc := 122) dX8_clear_122 rfl (by decide) o3 (l2 := [some (vr 54), some (vr 69), some (vi x2), some (vi x3), some (vi x4), some (vi x5), some (vi x6), none, some (vr a8), some (vi (x9 + 1))]) rfl ?_
      refine r_goto (pc := 125) (tgt := 92) dX8_clear_125 (by decide) ?_
      exact (h hL)
    · replace h := h.2 c9
      refine r_aload_n (pc := 105) dX8_clear_105 rfl rfl ?_
      refine r_aload_n (pc := 106) dX8_clear_106 rfl rfl ?_
      refine r_iload (pc := 107) dX8_clear_107 rfl ?_
      obtain ⟨o4, h⟩ := h
      refine r_aaload (pc := 109) dX8_clear_109 (okB_of (c := 24) (n := 12) (hL.sh (i := 31) rfl (by decide) (by decide)) (by decide) o4) ?_
      refine nmR (fun b5 e9 => ?_)
      have q6 : (70 ≤ b5 ∧ b5 < 82) := e9 ▸ hL.rsw (i := 1) rfl (rowC o4 (by decide))
      replace h := h b5 e9 q6
      refine r_aload (pc := 110) dX8_clear_110 rfl ?_
      refine r_aload_n (pc := 112) dX8_clear_112 rfl rfl ?_
      refine r_iload (pc := 113) dX8_clear_113 rfl ?_
      refine r_aaload (pc := 115) dX8_clear_115 (okB_of (c := 24) (n := 12) (hL.sh (i := 31) rfl (by decide) (by decide)) (by decide) o4) ?_
      refine nmR (fun b7 e9 => ?_)
      have q8 : (70 ≤ b7 ∧ b7 < 82) := e9 ▸ hL.rsw (i := 1) rfl (rowC o4 (by decide))
      replace h := h b7 e9 q8
      refine r_iload (pc := 116) dX8_clear_116 rfl ?_
      obtain ⟨o9, h⟩ := h
      refine r_iaload (pc := 118) dX8_clear_118 (okA_of (c := 20) (n := 12) (hL.sh (i := 32) rfl q8.1 q8.2) (Nat.le_trans (by decide) q8.1) o9) ?_
      refine c_VV0N (M := mX8_clear) (pc := 119) (As := [vr b5, vr a8, vi (gI σ b7 x6.toNat)]) dX8_clear_119 K_X8_takeAway w_1059 ⟨by decide, by decide⟩ (Nat.le_of_ble_eq_true rfl) rfl rfl (ci := 8) rfl rfl (by decide) (okO_of (N := 15) (hL.sh (i := 27) rfl (by decide) (by decide)) (by decide)) (h hL) (fun τ11 h8 => ?_) rfl
      replace hL := h8.1
      replace h := h8.2
      obtain ⟨o12, h⟩ := h
      refine r_iinc (pc := 122) dX8_clear_122 rfl (by decide) o12 (l2 := [some (vr 54), some (vr 69), some (vi x2), some (vi x3), some (vi x4), some (vi x5), some (vi x6), none, some (vr a8), some (vi (x9 + 1))]) rfl ?_
      refine r_goto (pc := 125) (tgt := 92) dX8_clear_125 (by decide) ?_
      exact (h hL)
theorem C_X8_clear {a0 : Nat} {a1 : Nat} {x2 : Int} {x3 : Int} {x4 : Int} (h : GG E mX8_clear 0 [some (vr a0), some (vr a1), some (vi x2), some (vi x3), some (vi x4), none, none, none, none, none] [] σ 0 0 Q) : CC E mX8_clear [vr a0, vr a1, vi x2, vi x3, vi x4] σ Q := CC.of (by decide +kernel) rfl (by decide +kernel) (fun h9 => nomatch h9) (Nat.le_of_ble_eq_true rfl) h
theorem B_X8_clear_108_0 {g : Sg} {c t : Nat} (hL : Lay LC g c t σ) {x2 : Int} {x3 : Int} {x4 : Int} (h : (Lay LC g c t σ → GG E mX8_clear 6 [some (vr 54), some (vr 108), some (vi x2), some (vi x3), some (vi x4), some (vi x2), some (vi 0), none, none, none] [] σ rc rs Q)) : GG E mX8_clear 0 [some (vr 54), some (vr 108), some (vi x2), some (vi x3), some (vi x4), none, none, none, none, none] [] σ rc rs Q := by
  refine r_iload_n (pc := 0) dX8_clear_0 rfl rfl ?_
  refine r_istore (pc := 1) dX8_clear_1 (by decide) (l2 := [some (vr 54), some (vr 108), some (vi x2), some (vi x3), some (vi x4), some (vi x2), none, none, none, none]) rfl ?_
  refine r_iconst (pc := 3) dX8_clear_3 (inRk rfl) ?_
  refine r_istore (pc := 4) dX8_clear_4 (by decide) (l2 := [some (vr 54), some (vr 108), some (vi x2), some (vi x3), some (vi x4), some (vi x2), some (vi 0), none, none, none]) rfl ?_
  exact (h hL)
theorem B_X8_clear_108_6 {g : Sg} {c t : Nat} (hL : Lay LC g c t σ) {x2 : Int} {x3 : Int} {x4 : Int} {x5 : Int} {x6 : Int} (h : ((x4 ≤ x6 → (Lay LC g c t σ → Q (.inl (some (vi x5))) σ)) ∧ (¬ (x4 ≤ x6) → ((x3 ≤ x5 → (Lay LC g c t σ → Q (.inl (some (vi x5))) σ)) ∧ (¬ (x3 ≤ x5) → (Lay LC g c t σ → GG E mX8_clear 23 [some (vr 54), some (vr 108), some (vi x2), some (vi x3), some (vi x4), some (vi x5), some (vi x6), some (vi x5), none, none] [] σ rc rs Q)))))) : GG E mX8_clear 6 [some (vr 54), some (vr 108), some (vi x2), some (vi x3), some (vi x4), some (vi x5), some (vi x6), none, none, none] [] σ rc rs Q := by
  refine r_iload (pc := 6) dX8_clear_6 rfl ?_
  refine r_iload (pc := 8) dX8_clear_8 rfl ?_
  refine r_icmp_ge (pc := 10) (tgt := 137) dX8_clear_10 (by decide) (fun c9 => ?_) (fun c9 => ?_)
  · replace h := h.1 c9
    refine r_iload (pc := 137) dX8_clear_137 rfl ?_
    exact r_ireturn (pc := 139) (ty := .int) dX8_clear_139 (by decide +kernel) rfl (nar_i _) (h hL)
  · replace h := h.2 c9
    refine r_iload (pc := 13) dX8_clear_13 rfl ?_
    refine r_iload_n (pc := 15) dX8_clear_15 rfl rfl ?_
    refine r_icmp_ge (pc := 16) (tgt := 137) dX8_clear_16 (by decide) (fun c9 => ?_) (fun c9 => ?_)
    · replace h := h.1 c9
      refine r_iload (pc := 137) dX8_clear_137 rfl ?_
      exact r_ireturn (pc := 139) (ty := .int) dX8_clear_139 (by decide +kernel) rfl (nar_i _) (h hL)
    · replace h := h.2 c9
      refine r_iload (pc := 19) dX8_clear_19 rfl ?_
      refine r_istore (pc := 21) dX8_clear_21 (by decide) (l2 := [some (vr 54), some (vr 108), some (vi x2), some (vi x3), some (vi x4), some (vi x5), some (vi x6), some (vi x5), none, none]) rfl ?_
      exact (h hL)
theorem B_X8_clear_108_23 {g : Sg} {c t : Nat} (hL : Lay LC g c t σ) {x2 : Int} {x3 : Int} {x4 : Int} {x5 : Int} {x6 : Int} {x7 : Int} (h : ((x3 ≤ x7 → (Lay LC g c t σ → GG E mX8_clear 45 [some (vr 54), some (vr 108), some (vi x2), some (vi x3), some (vi x4), some (vi x5), some (vi x6), some (vi x7), none, none] [] σ rc rs Q)) ∧ (¬ (x3 ≤ x7) → (0 ≤ x7 ∧ x7 < 12) ∧ ∀ b2 : Nat, b2 = gR σ 108 x7.toNat → (109 ≤ b2 ∧ b2 < 121) → (0 ≤ x6 ∧ x6 < 24) ∧ (((gI σ b2 x6.toNat) ≠ 0 → (Lay LC g c t σ → GG E mX8_clear 45 [some (vr 54), some (vr 108), some (vi x2), some (vi x3), some (vi x4), some (vi x5), some (vi x6), some (vi x7), none, none] [] σ rc rs Q)) ∧ ((gI σ b2 x6.toNat) = 0 → inR (x7 + 1) ∧ (Lay LC g c t σ → GG E mX8_clear 23 [some (vr 54), some (vr 108), some (vi x2), some (vi x3), some (vi x4), some (vi x5), some (vi x6), some (vi (x7 + 1)), none, none] [] σ rc rs Q)))))) : GG E mX8_clear 23 [some (vr 54), some (vr 108), some (vi x2), some (vi x3), some (vi x4), some (vi x5), some (vi x6), some (vi x7), none, none] [] σ rc rs Q := by
  refine r_iload (pc := 23) dX8_clear_23 rfl ?_
  refine r_iload_n (pc := 25) dX8_clear_25 rfl rfl ?_
  refine r_icmp_ge (pc := 26) (tgt := 45) dX8_clear_26 (by decide) (fun c9 => ?_) (fun c9 => ?_)
  · replace h := h.1 c9
    exact (h hL)
  · replace h := h.2 c9
    refine r_aload_n (pc := 29) dX8_clear_29 rfl rfl ?_
    refine r_iload (pc := 30) dX8_clear_30 rfl ?_
    obtain ⟨o1, h⟩ := h
    refine r_aaload (pc := 32) dX8_clear_32 (okB_of (c := 24) (n := 12) (hL.sh (i := 37) rfl (by decide) (by decide)) (by decide) o1) ?_
    refine nmR (fun b2 e9 => ?_)
    have q3 : (109 ≤ b2 ∧ b2 < 121) := e9 ▸ hL.rsw (i := 2) rfl (rowC o1 (by decide))
    replace h := h b2 e9 q3
    refine r_iload (pc := 33) dX8_clear_33 rfl ?_
    obtain ⟨o4, h⟩ := h
    refine r_iaload (pc := 35) dX8_clear_35 (okA_of (c := 20) (n := 24) (hL.sh (i := 38) rfl q3.1 q3.2) (Nat.le_trans (by decide) q3.1) o4) ?_
    refine r_if_ne (pc := 36) (tgt := 45) dX8_clear_36 (by decide) (fun c9 => ?_) (fun c9 => ?_)
    · replace h := h.1 c9
      exact (h hL)
    · replace h := h.2 c9
      obtain ⟨o5, h⟩ := h
      refine r_iinc (pc := 39) dX8_clear_39 rfl (by decide) o5 (l2 := [some (vr 54), some (vr 108), some (vi x2), some (vi x3), some (vi x4), some (vi x5), some (vi x6), some (vi (x7 + 1)), none, none]) rfl ?_
      refine r_goto (pc := 42) (tgt := 23) dX8_clear_42 (by decide) ?_
      exact (h hL)
theorem B_X8_clear_108_45 {g : Sg} {c t : Nat} (hL : Lay LC g c t σ) {x2 : Int} {x3 : Int} {x4 : Int} {x5 : Int} {x6 : Int} {x7 : Int} (h : ((x3 ≤ x7 → inR (x6 + 1) ∧ (Lay LC g c t σ → GG E mX8_clear 6 [some (vr 54), some (vr 108), some (vi x2), some (vi x3), some (vi x4), some (vi x5), some (vi (x6 + 1)), none, none, none] [] σ rc rs Q)) ∧ (¬ (x3 ≤ x7) → (0 ≤ x7 ∧ x7 < 12) ∧ ∀ b3 : Nat, b3 = gR σ 108 x7.toNat → (109 ≤ b3 ∧ b3 < 121) → (0 ≤ x5 ∧ x5 < 12) ∧ ∀ b6 : Nat, b6 = gR σ 108 x5.toNat → (109 ≤ b6 ∧ b6 < 121) → ∀ τ8 : Sg, τ8 = sR σ 108 x7.toNat b6 → ∀ τ9 : Sg, τ9 = sR τ8 108 x5.toNat b3 → (0 ≤ x6 ∧ x6 < 24) ∧ (Lay LC g c t τ9 → CC E mX2_inverse [vr 35, vi (gI τ9 b3 x6.toNat)] τ9 (KI (fun r11 τ12 => Lay LC g c t τ12 ∧ (inR r11 → (Lay LC g c t τ12 → CC E mX8_stretchRow [vr 54, vr b3, vi r11] τ12 (KV (fun τ14 => Lay LC g c t τ14 ∧ (Lay LC g c t τ14 → GG E mX8_clear 92 [some (vr 54), some (vr 108), some (vi x2), some (vi x3), some (vi x4), some (vi x5), some (vi x6), none, some (vr b3), some (vi x2)] [] τ14 rc rs Q)) (fun _ _ => False))))) (fun _ _ => False)))))) : GG E mX8_clear 45 [some (vr 54), some (vr 108), some (vi x2), some (vi x3), some (vi x4), some (vi x5), some (vi x6), some (vi x7), none, none] [] σ rc rs Q := by
  refine r_iload (pc := 45) dX8_clear_45 rfl ?_
  refine r_iload_n (pc := 47) dX8_clear_47 rfl rfl ?_
  refine r_icmp_ge (pc := 48) (tgt := 131) dX8_clear_48 (by decide) (fun c9 => ?_) (fun c9 => ?_)
  · replace h := h.1 c9
    obtain ⟨o1, h⟩ := h
    refine r_iinc (pc := 131) dX8_clear_131 rfl (by decide) o1 (l2 := [some (vr 54), some (vr 108), some (vi x2), some (vi x3), some (vi x4), some (vi x5), some (vi (x6 + 1)), some (vi x7), none, none]) rfl ?_
    refine r_goto (pc := 134) (tgt := 6) dX8_clear_134 (by decide) ?_
    exact GG.msk [true, true, true, true, true, true, true, false, false, false] (h hL)
  · replace h := h.2 c9
    refine r_aload_n (pc := 51) dX8_clear_51 rfl rfl ?_
    refine r_iload (pc := 52) dX8_clear_52 rfl ?_
    obtain ⟨o2, h⟩ := h
    refine r_aaload (pc := 54) dX8_clear_54 (okB_of (c := 24) (n := 12) (hL.sh (i := 37) rfl (by decide) (by decide)) (by decide) o2) ?_
    refine nmR (fun b3 e9 => ?_)
    have q4 : (109 ≤ b3 ∧ b3 < 121) := e9 ▸ hL.rsw (i := 2) rfl (rowC o2 (by decide))
    replace h := h b3 e9 q4
    refine r_astore (pc := 55) dX8_clear_55 (by decide) (l2 := [some (vr 54), some (vr 108), some (vi x2), some (vi x3), some (vi x4), some (vi x5), some (vi x6), some (vi x7), some (vr b3), none]) rfl ?_
    refine r_aload_n (pc := 57) dX8_clear_57 rfl rfl ?_
    refine r_iload (pc := 58) dX8_clear_58 rfl ?_
    refine r_aload_n (pc := 60) dX8_clear_60 rfl rfl ?_
    refine r_iload (pc := 61) dX8_clear_61 rfl ?_
    obtain ⟨o5, h⟩ := h
    refine r_aaload (pc := 63) dX8_clear_63 (okB_of (c := 24) (n := 12) (hL.sh (i := 37) rfl (by decide) (by decide)) (by decide) o5) ?_
    refine nmR (fun b6 e9 => ?_)
    have q7 : (109 ≤ b6 ∧ b6 < 121) := e9 ▸ hL.rsw (i := 2) rfl (rowC o5 (by decide))
    replace h := h b6 e9 q7
    refine r_aastore (pc := 64) dX8_clear_64 (okB_of (c := 24) (n := 12) (hL.sh (i := 37) rfl (by decide) (by decide)) (by decide) o2) ⟨(Nat.le_trans (by decide) q7.1), by rw [(hL.sh (i := 38) rfl q7.1 q7.2)]⟩ ?_
    refine nmS (fun τ8 e8 => ?_)
    replace h := h τ8 e8
    have hL := hL.wR e8 (i := 2) rfl q7 (by decide) (by decide)
    refine r_aload_n (pc := 65) dX8_clear_65 rfl rfl ?_
    refine r_iload (pc := 66) dX8_clear_66 rfl ?_
    refine r_aload (pc := 68) dX8_clear_68 rfl ?_
    refine r_aastore (pc := 70) dX8_clear_70 (okB_of (c := 24) (n := 12) (hL.sh (i := 37) rfl (by decide) (by decide)) (by decide) o5) ⟨(Nat.le_trans (by decide) q4.1), by rw [(hL.sh (i := 38) rfl q4.1 q4.2)]⟩ ?_
    refine nmS (fun τ9 e9 => ?_)
    replace h := h τ9 e9
    have hL := hL.wR e9 (i := 2) rfl q4 (by decide) (by decide)
    refine r_aload_n (pc := 71) dX8_clear_71 rfl rfl ?_
    refine r_aload (pc := 72) dX8_clear_72 rfl ?_
    refine r_aload_n (pc := 74) dX8_clear_74 rfl rfl ?_
    refine r_getR (pc := 75) dX8_clear_75 (k9 := 10) CL_8 (by decide) (by decide) w_371 rfl (okO_of (N := 15) (hL.sh (i := 27) rfl (by decide) (by decide)) (by decide)) ?_
    refine eqR (y := 35) (hL.rf (i := 36) rfl) ?_
    refine r_aload (pc := 78) dX8_clear_78 rfl ?_
    refine r_iload (pc := 80) dX8_clear_80 rfl ?_
    obtain ⟨o10, h⟩ := h
    refine r_iaload (pc := 82) dX8_clear_82 (okA_of (c := 20) (n := 24) (hL.sh (i := 38) rfl q4.1 q4.2) (Nat.le_trans (by decide) q4.1) o10) ?_
    refine c_VI0N (M := mX8_clear) (pc := 83) (As := [vi (gI τ9 b3 x6.toNat)]) dX8_clear_83 K_X2_inverse w_1041 ⟨by decide, by decide⟩ (Nat.le_of_ble_eq_true rfl) rfl rfl (ci := 2) rfl rfl (by decide) (okO_of (N := 2) (hL.sh (i := 19) rfl (by decide) (by decide)) (by decide)) (h hL) (fun r11 τ12 h8 hr9 => ?_) rfl
    replace hL := h8.1
    replace h := h8.2 hr9
    refine c_VV0N (M := mX8_clear) (pc := 86) (As := [vr b3, vi r11]) dX8_clear_86 K_X8_stretchRow w_1055 ⟨by decide, by decide⟩ (Nat.le_of_ble_eq_true rfl) rfl rfl (ci := 8) rfl rfl (by decide) (okO_of (N := 15) (hL.sh (i := 27) rfl (by decide) (by decide)) (by decide)) (h hL) (fun τ14 h8 => ?_) rfl
    replace hL := h8.1
    replace h := h8.2
    refine r_iload_n (pc := 89) dX8_clear_89 rfl rfl ?_
    refine r_istore (pc := 90) dX8_clear_90 (by decide) (l2 := [some (vr 54), some (vr 108), some (vi x2), some (vi x3), some (vi x4), some (vi x5), some (vi x6), some (vi x7), some (vr b3), some (vi x2)]) rfl ?_
    exact GG.msk [true, true, true, true, true, true, true, false, true, true] (h hL)
theorem B_X8_clear_108_92 {g : Sg} {c t : Nat} (hL : Lay LC g c t σ) {x2 : Int} {x3 : Int} {x4 : Int} {x5 : Int} {x6 : Int} {a8 : Nat} (qa8 : 109 ≤ a8 ∧ a8 < 121) {x9 : Int} (h : ((x3 ≤ x9 → inR (x5 + 1) ∧ inR (x6 + 1) ∧ (Lay LC g c t σ → GG E mX8_clear 6 [some (vr 54), some (vr 108), some (vi x2), some (vi x3), some (vi x4), some (vi (x5 + 1)), some (vi (x6 + 1)), none, none, none] [] σ rc rs Q)) ∧ (¬ (x3 ≤ x9) → ((x9 = x5 → inR (x9 + 1) ∧ (Lay LC g c t σ → GG E mX8_clear 92 [some (vr 54), some (vr 108), some (vi x2), some (vi x3), some (vi x4), some (vi x5), some (vi x6), none, some (vr a8), some (vi (x9 + 1))] [] σ rc rs Q)) ∧ (¬ (x9 = x5) → (0 ≤ x9 ∧ x9 < 12) ∧ ∀ b5 : Nat, b5 = gR σ 108 x9.toNat → (109 ≤ b5 ∧ b5 < 121) → ∀ b7 : Nat, b7 = gR σ 108 x9.toNat → (109 ≤ b7 ∧ b7 < 121) → (0 ≤ x6 ∧ x6 < 24) ∧ (Lay LC g c t σ → CC E mX8_takeAway [vr 54, vr b5, vr a8, vi (gI σ b7 x6.toNat)] σ (KV (fun τ11 => Lay LC g c t τ11 ∧ inR (x9 + 1) ∧ (Lay LC g c t τ11 → GG E mX8_clear 92 [some (vr 54), some (vr 108), some (vi x2), some (vi x3), some (vi x4), some (vi x5), some (vi x6), none, some (vr a8), some (vi (x9 + 1))] [] τ11 rc rs Q)) (fun _ _ => False)))))))) : GG E mX8_clear 92 [some (vr 54), some (vr 108), some (vi x2), some (vi x3), some (vi x4), some (vi x5), some (vi x6), none, some (vr a8), some (vi x9)] [] σ rc rs Q := by
  refine r_iload (pc := 92) dX8_clear_92 rfl ?_
  refine r_iload_n (pc := 94) dX8_clear_94 rfl rfl ?_
  refine r_icmp_ge (pc := 95) (tgt := 128) dX8_clear_95 (by decide) (fun c9 => ?_) (fun c9 => ?_)
  · replace h := h.1 c9
    obtain ⟨o1, h⟩ := h
    refine r_iinc (pc := 128) dX8_clear_128 rfl (by decide) o1 (l2 := [some (vr 54), some (vr 108), some (vi x2), some (vi x3), some (vi x4), some (vi (x5 + 1)), some (vi x6), none, some (vr a8), some (vi x9)]) rfl ?_
    obtain ⟨o2, h⟩ := h
    refine r_iinc (pc := 131) dX8_clear_131 rfl (by decide) o2 (l2 := [some (vr 54), some (vr 108), some (vi x2), some (vi x3), some (vi x4), some (vi (x5 + 1)), some (vi (x6 + 1)), none, some (vr a8), some (vi x9)]) rfl ?_
    refine r_goto (pc := 134) (tgt := 6) dX8_clear_134 (by decide) ?_
    exact GG.msk [true, true, true, true, true, true, true, false, false, false] (h hL)
  · replace h := h.2 c9
    refine r_iload (pc := 98) dX8_clear_98 rfl ?_
    refine r_iload (pc := 100) dX8_clear_100 rfl ?_
    refine r_icmp_eq (pc := 102) (tgt := 122) dX8_clear_102 (by decide) (fun c9 => ?_) (fun c9 => ?_)
    · replace h := h.1 c9
      obtain ⟨o3, h⟩ := h
      refine r_iinc (pc := 122) dX8_clear_122 rfl (by decide) o3 (l2 := [some (vr 54), some (vr 108), some (vi x2), some (vi x3), some (vi x4), some (vi x5), some (vi x6), none, some (vr a8), some (vi (x9 + 1))]) rfl ?_
      refine r_goto (pc := 125) (tgt := 92) dX8_clear_125 (by decide) ?_
      exact (h hL)
    · replace h := h.2 c9
      refine r_aload_n (pc := 105) dX8_clear_105 rfl rfl ?_
      refine r_aload_n (pc := 106) dX8_clear_106 rfl rfl ?_
      refine r_iload (pc := 107) dX8_clear_107 rfl ?_
      obtain ⟨o4, h⟩ := h
      refine r_aaload (pc := 109) dX8_clear_109 (okB_of (c := 24) (n := 12) (hL.sh (i := 37) rfl (by decide) (by decide)) (by decide) o4) ?_
      refine nmR (fun b5 e9 => ?_)
      have q6 : (109 ≤ b5 ∧ b5 < 121) := e9 ▸ hL.rsw (i := 2) rfl (rowC o4 (by decide))
      replace h := h b5 e9 q6
      refine r_aload (pc := 110) dX8_clear_110 rfl ?_
      refine r_aload_n (pc := 112) dX8_clear_112 rfl rfl ?_
      refine r_iload (pc := 113) dX8_clear_113 rfl ?_
      refine r_aaload (pc := 115) dX8_clear_115 (okB_of (c := 24) (n := 12) (hL.sh (i := 37) rfl (by decide) (by decide)) (by decide) o4) ?_
      refine nmR (fun b7 e9 => ?_)
      have q8 : (109 ≤ b7 ∧ b7 < 121) := e9 ▸ hL.rsw (i := 2) rfl (rowC o4 (by decide))
      replace h := h b7 e9 q8
      refine r_iload (pc := 116) dX8_clear_116 rfl ?_
      obtain ⟨o9, h⟩ := h
      refine r_iaload (pc := 118) dX8_clear_118 (okA_of (c := 20) (n := 24) (hL.sh (i := 38) rfl q8.1 q8.2) (Nat.le_trans (by decide) q8.1) o9) ?_
      refine c_VV0N (M := mX8_clear) (pc := 119) (As := [vr b5, vr a8, vi (gI σ b7 x6.toNat)]) dX8_clear_119 K_X8_takeAway w_1059 ⟨by decide, by decide⟩ (Nat.le_of_ble_eq_true rfl) rfl rfl (ci := 8) rfl rfl (by decide) (okO_of (N := 15) (hL.sh (i := 27) rfl (by decide) (by decide)) (by decide)) (h hL) (fun τ11 h8 => ?_) rfl
      replace hL := h8.1
      replace h := h8.2
      obtain ⟨o12, h⟩ := h
      refine r_iinc (pc := 122) dX8_clear_122 rfl (by decide) o12 (l2 := [some (vr 54), some (vr 108), some (vi x2), some (vi x3), some (vi x4), some (vi x5), some (vi x6), none, some (vr a8), some (vi (x9 + 1))]) rfl ?_
      refine r_goto (pc := 125) (tgt := 92) dX8_clear_125 (by decide) ?_
      exact (h hL)
theorem dX8_fillEquation_0 : decode cX8_fillEquation 0 = .ok (.iconst 0, 1) := by decide +kernel
theorem dX8_fillEquation_1 : decode cX8_fillEquation 1 = .ok (.istore_n 1, 1) := by decide +kernel
theorem dX8_fillEquation_2 : decode cX8_fillEquation 2 = .ok (.iload_n 1, 1) := by decide +kernel
theorem dX8_fillEquation_3 : decode cX8_fillEquation 3 = .ok (.aload_n 0, 1) := by decide +kernel
theorem dX8_fillEquation_4 : decode cX8_fillEquation 4 = .ok (.getfield 87, 3) := by decide +kernel
theorem dX8_fillEquation_7 : decode cX8_fillEquation 7 = .ok (.if_icmp .ge 43, 3) := by decide +kernel
theorem dX8_fillEquation_10 : decode cX8_fillEquation 10 = .ok (.iconst 0, 1) := by decide +kernel
theorem dX8_fillEquation_11 : decode cX8_fillEquation 11 = .ok (.istore_n 2, 1) := by decide +kernel
theorem dX8_fillEquation_12 : decode cX8_fillEquation 12 = .ok (.iload_n 2, 1) := by decide +kernel
theorem dX8_fillEquation_13 : decode cX8_fillEquation 13 = .ok (.aload_n 0, 1) := by decide +kernel
theorem dX8_fillEquation_14 : decode cX8_fillEquation 14 = .ok (.getfield 87, 3) := by decide +kernel
theorem dX8_fillEquation_17 : decode cX8_fillEquation 17 = .ok (.if_icmp .ge 27, 3) := by decide +kernel
theorem dX8_fillEquation_20 : decode cX8_fillEquation 20 = .ok (.aload_n 0, 1) := by decide +kernel
theorem dX8_fillEquation_21 : decode cX8_fillEquation 21 = .ok (.getfield 26, 3) := by decide +kernel
theorem dX8_fillEquation_24 : decode cX8_fillEquation 24 = .ok (.iload_n 1, 1) := by decide +kernel
theorem dX8_fillEquation_25 : decode cX8_fillEquation 25 = .ok (.aaload, 1) := by decide +kernel
theorem dX8_fillEquation_26 : decode cX8_fillEquation 26 = .ok (.iload_n 2, 1) := by decide +kernel
theorem dX8_fillEquation_27 : decode cX8_fillEquation 27 = .ok (.iload_n 1, 1) := by decide +kernel
theorem dX8_fillEquation_28 : decode cX8_fillEquation 28 = .ok (.iload_n 2, 1) := by decide +kernel
theorem dX8_fillEquation_29 : decode cX8_fillEquation 29 = .ok (.if_icmp .ne 7, 3) := by decide +kernel
theorem dX8_fillEquation_32 : decode cX8_fillEquation 32 = .ok (.iconst 1, 1) := by decide +kernel
theorem dX8_fillEquation_33 : decode cX8_fillEquation 33 = .ok (.goto 4, 3) := by decide +kernel
theorem dX8_fillEquation_36 : decode cX8_fillEquation 36 = .ok (.iconst 0, 1) := by decide +kernel
theorem dX8_fillEquation_37 : decode cX8_fillEquation 37 = .ok (.iastore, 1) := by decide +kernel
theorem dX8_fillEquation_38 : decode cX8_fillEquation 38 = .ok (.iinc 2 1, 3) := by decide +kernel
theorem dX8_fillEquation_41 : decode cX8_fillEquation 41 = .ok (.goto (-29), 3) := by decide +kernel
theorem dX8_fillEquation_44 : decode cX8_fillEquation 44 = .ok (.iinc 1 1, 3) := by decide +kernel
theorem dX8_fillEquation_47 : decode cX8_fillEquation 47 = .ok (.goto (-45), 3) := by decide +kernel
theorem dX8_fillEquation_50 : decode cX8_fillEquation 50 = .ok (.aload_n 0, 1) := by decide +kernel
theorem dX8_fillEquation_51 : decode cX8_fillEquation 51 = .ok (.getfield 38, 3) := by decide +kernel
theorem dX8_fillEquation_54 : decode cX8_fillEquation 54 = .ok (.aload_n 0, 1) := by decide +kernel
theorem dX8_fillEquation_55 : decode cX8_fillEquation 55 = .ok (.getfield 87, 3) := by decide +kernel
theorem dX8_fillEquation_58 : decode cX8_fillEquation 58 = .ok (.iconst 1, 1) := by decide +kernel
theorem dX8_fillEquation_59 : decode cX8_fillEquation 59 = .ok (.iastore, 1) := by decide +kernel
theorem dX8_fillEquation_60 : decode cX8_fillEquation 60 = .ok (.iconst 1, 1) := by decide +kernel
theorem dX8_fillEquation_61 : decode cX8_fillEquation 61 = .ok (.istore_n 1, 1) := by decide +kernel
theorem dX8_fillEquation_62 : decode cX8_fillEquation 62 = .ok (.iload_n 1, 1) := by decide +kernel
theorem dX8_fillEquation_63 : decode cX8_fillEquation 63 = .ok (.aload_n 0, 1) := by decide +kernel
theorem dX8_fillEquation_64 : decode cX8_fillEquation 64 = .ok (.getfield 87, 3) := by decide +kernel
theorem dX8_fillEquation_67 : decode cX8_fillEquation 67 = .ok (.if_icmp .gt 125, 3) := by decide +kernel
theorem dX8_fillEquation_70 : decode cX8_fillEquation 70 = .ok (.iconst 0, 1) := by decide +kernel
theorem dX8_fillEquation_71 : decode cX8_fillEquation 71 = .ok (.istore_n 2, 1) := by decide +kernel
theorem dX8_fillEquation_72 : decode cX8_fillEquation 72 = .ok (.iconst 0, 1) := by decide +kernel
theorem dX8_fillEquation_73 : decode cX8_fillEquation 73 = .ok (.istore_n 3, 1) := by decide +kernel
theorem dX8_fillEquation_74 : decode cX8_fillEquation 74 = .ok (.iload_n 3, 1) := by decide +kernel
theorem dX8_fillEquation_75 : decode cX8_fillEquation 75 = .ok (.aload_n 0, 1) := by decide +kernel
theorem dX8_fillEquation_76 : decode cX8_fillEquation 76 = .ok (.getfield 87, 3) := by decide +kernel
theorem dX8_fillEquation_79 : decode cX8_fillEquation 79 = .ok (.if_icmp .ge 23, 3) := by decide +kernel
theorem dX8_fillEquation_82 : decode cX8_fillEquation 82 = .ok (.aload_n 0, 1) := by decide +kernel
theorem dX8_fillEquation_83 : decode cX8_fillEquation 83 = .ok (.iload_n 3, 1) := by decide +kernel
theorem dX8_fillEquation_84 : decode cX8_fillEquation 84 = .ok (.invokevirtual 123, 3) := by decide +kernel
theorem dX8_fillEquation_87 : decode cX8_fillEquation 87 = .ok (.iload_n 2, 1) := by decide +kernel
theorem dX8_fillEquation_88 : decode cX8_fillEquation 88 = .ok (.aload_n 0, 1) := by decide +kernel
theorem dX8_fillEquation_89 : decode cX8_fillEquation 89 = .ok (.getfield 32, 3) := by decide +kernel
theorem dX8_fillEquation_92 : decode cX8_fillEquation 92 = .ok (.iload_n 3, 1) := by decide +kernel
theorem dX8_fillEquation_93 : decode cX8_fillEquation 93 = .ok (.iaload, 1) := by decide +kernel
theorem dX8_fillEquation_94 : decode cX8_fillEquation 94 = .ok (.iadd, 1) := by decide +kernel
theorem dX8_fillEquation_95 : decode cX8_fillEquation 95 = .ok (.istore_n 2, 1) := by decide +kernel
theorem dX8_fillEquation_96 : decode cX8_fillEquation 96 = .ok (.iinc 3 1, 3) := by decide +kernel
theorem dX8_fillEquation_99 : decode cX8_fillEquation 99 = .ok (.goto (-25), 3) := by decide +kernel
theorem dX8_fillEquation_102 : decode cX8_fillEquation 102 = .ok (.aload_n 0, 1) := by decide +kernel
theorem dX8_fillEquation_103 : decode cX8_fillEquation 103 = .ok (.getfield 44, 3) := by decide +kernel
theorem dX8_fillEquation_106 : decode cX8_fillEquation 106 = .ok (.aload_n 0, 1) := by decide +kernel
theorem dX8_fillEquation_107 : decode cX8_fillEquation 107 = .ok (.getfield 44, 3) := by decide +kernel
theorem dX8_fillEquation_110 : decode cX8_fillEquation 110 = .ok (.iload_n 2, 1) := by decide +kernel
theorem dX8_fillEquation_111 : decode cX8_fillEquation 111 = .ok (.ineg, 1) := by decide +kernel
theorem dX8_fillEquation_112 : decode cX8_fillEquation 112 = .ok (.invokevirtual 119, 3) := by decide +kernel
theorem dX8_fillEquation_115 : decode cX8_fillEquation 115 = .ok (.aload_n 0, 1) := by decide +kernel
theorem dX8_fillEquation_116 : decode cX8_fillEquation 116 = .ok (.getfield 44, 3) := by decide +kernel
theorem dX8_fillEquation_119 : decode cX8_fillEquation 119 = .ok (.iload_n 1, 1) := by decide +kernel
theorem dX8_fillEquation_120 : decode cX8_fillEquation 120 = .ok (.invokevirtual 126, 3) := by decide +kernel
theorem dX8_fillEquation_123 : decode cX8_fillEquation 123 = .ok (.invokevirtual 129, 3) := by decide +kernel
theorem dX8_fillEquation_126 : decode cX8_fillEquation 126 = .ok (.istore_n 3, 1) := by decide +kernel
theorem dX8_fillEquation_127 : decode cX8_fillEquation 127 = .ok (.aload_n 0, 1) := by decide +kernel
theorem dX8_fillEquation_128 : decode cX8_fillEquation 128 = .ok (.getfield 38, 3) := by decide +kernel
theorem dX8_fillEquation_131 : decode cX8_fillEquation 131 = .ok (.aload_n 0, 1) := by decide +kernel
theorem dX8_fillEquation_132 : decode cX8_fillEquation 132 = .ok (.getfield 87, 3) := by decide +kernel
theorem dX8_fillEquation_135 : decode cX8_fillEquation 135 = .ok (.iload_n 1, 1) := by decide +kernel
theorem dX8_fillEquation_136 : decode cX8_fillEquation 136 = .ok (.isub, 1) := by decide +kernel
theorem dX8_fillEquation_137 : decode cX8_fillEquation 137 = .ok (.iload_n 3, 1) := by decide +kernel
theorem dX8_fillEquation_138 : decode cX8_fillEquation 138 = .ok (.iastore, 1) := by decide +kernel
theorem dX8_fillEquation_139 : decode cX8_fillEquation 139 = .ok (.iconst 0, 1) := by decide +kernel
theorem dX8_fillEquation_140 : decode cX8_fillEquation 140 = .ok (.istore 4, 2) := by decide +kernel
theorem dX8_fillEquation_142 : decode cX8_fillEquation 142 = .ok (.iload 4, 2) := by decide +kernel
theorem dX8_fillEquation_144 : decode cX8_fillEquation 144 = .ok (.aload_n 0, 1) := by decide +kernel
theorem dX8_fillEquation_145 : decode cX8_fillEquation 145 = .ok (.getfield 87, 3) := by decide +kernel
theorem dX8_fillEquation_148 : decode cX8_fillEquation 148 = .ok (.if_icmp .ge 38, 3) := by decide +kernel
theorem dX8_fillEquation_151 : decode cX8_fillEquation 151 = .ok (.aload_n 0, 1) := by decide +kernel
theorem dX8_fillEquation_152 : decode cX8_fillEquation 152 = .ok (.getfield 26, 3) := by decide +kernel
theorem dX8_fillEquation_155 : decode cX8_fillEquation 155 = .ok (.iload 4, 2) := by decide +kernel
theorem dX8_fillEquation_157 : decode cX8_fillEquation 157 = .ok (.aaload, 1) := by decide +kernel
theorem dX8_fillEquation_158 : decode cX8_fillEquation 158 = .ok (.iload 4, 2) := by decide +kernel
theorem dX8_fillEquation_160 : decode cX8_fillEquation 160 = .ok (.aload_n 0, 1) := by decide +kernel
theorem dX8_fillEquation_161 : decode cX8_fillEquation 161 = .ok (.getfield 44, 3) := by decide +kernel
theorem dX8_fillEquation_164 : decode cX8_fillEquation 164 = .ok (.aload_n 0, 1) := by decide +kernel
theorem dX8_fillEquation_165 : decode cX8_fillEquation 165 = .ok (.getfield 26, 3) := by decide +kernel
theorem dX8_fillEquation_168 : decode cX8_fillEquation 168 = .ok (.iload 4, 2) := by decide +kernel
theorem dX8_fillEquation_170 : decode cX8_fillEquation 170 = .ok (.aaload, 1) := by decide +kernel
theorem dX8_fillEquation_171 : decode cX8_fillEquation 171 = .ok (.iload 4, 2) := by decide +kernel
theorem dX8_fillEquation_173 : decode cX8_fillEquation 173 = .ok (.iaload, 1) := by decide +kernel
theorem dX8_fillEquation_174 : decode cX8_fillEquation 174 = .ok (.iload_n 3, 1) := by decide +kernel
theorem dX8_fillEquation_175 : decode cX8_fillEquation 175 = .ok (.iadd, 1) := by decide +kernel
theorem dX8_fillEquation_176 : decode cX8_fillEquation 176 = .ok (.invokevirtual 119, 3) := by decide +kernel
theorem dX8_fillEquation_179 : decode cX8_fillEquation 179 = .ok (.iastore, 1) := by decide +kernel
theorem dX8_fillEquation_180 : decode cX8_fillEquation 180 = .ok (.iinc 4 1, 3) := by decide +kernel
theorem dX8_fillEquation_183 : decode cX8_fillEquation 183 = .ok (.goto (-41), 3) := by decide +kernel
theorem dX8_fillEquation_186 : decode cX8_fillEquation 186 = .ok (.iinc 1 1, 3) := by decide +kernel
theorem dX8_fillEquation_189 : decode cX8_fillEquation 189 = .ok (.goto (-127), 3) := by decide +kernel
theorem dX8_fillEquation_192 : decode cX8_fillEquation 192 = .ok (.return_, 1) := by decide +kernel
theorem B_X8_fillEquation_0 {g : Sg} {c t : Nat} (hL : Lay LC g c t σ)  (h : (Lay LC g c t σ → GG E mX8_fillEquation 2 [some (vr 54), some (vi 0), none, none, none] [] σ rc rs Q)) : GG E mX8_fillEquation 0 [some (vr 54), none, none, none, none] [] σ rc rs Q := by
  refine r_iconst (pc := 0) dX8_fillEquation_0 (inRk rfl) ?_
  refine r_istore_n (pc := 1) dX8_fillEquation_1 rfl (by decide) (l2 := [some (vr 54), some (vi 0), none, none, none]) rfl ?_
  exact (h hL)
theorem B_X8_fillEquation_2 {g : Sg} {c t : Nat} (hL : Lay LC g c t σ) {x1 : Int} (h : (((gI σ 54 13) ≤ x1 → (0 ≤ (gI σ 54 13) ∧ (gI σ 54 13) < 13) ∧ ∀ τ2 : Sg, τ2 = sI σ 123 (gI σ 54 13).toNat 1 → (Lay LC g c t τ2 → GG E mX8_fillEquation 62 [some (vr 54), some (vi 1), none, none, none] [] τ2 rc rs Q)) ∧ (¬ ((gI σ 54 13) ≤ x1) → (Lay LC g c t σ → GG E mX8_fillEquation 12 [some (vr 54), some (vi x1), some (vi 0), none, none] [] σ rc rs Q)))) : GG E mX8_fillEquation 2 [some (vr 54), some (vi x1), none, none, none] [] σ rc rs Q := by
  refine r_iload_n (pc := 2) dX8_fillEquation_2 rfl rfl ?_
  refine r_aload_n (pc := 3) dX8_fillEquation_3 rfl rfl ?_
  refine r_getI (pc := 4) dX8_fillEquation_4 (k9 := 13) CL_8 (by decide) (by decide) w_375 rfl (okO_of (N := 15) (hL.sh (i := 27) rfl (by decide) (by decide)) (by decide)) (fun _ => ?_)
  refine r_icmp_ge (pc := 7) (tgt := 50) dX8_fillEquation_7 (by decide) (fun c9 => ?_) (fun c9 => ?_)
  · replace h := h.1 c9
    refine r_aload_n (pc := 50) dX8_fillEquation_50 rfl rfl ?_
    refine r_getR (pc := 51) dX8_fillEquation_51 (k9 := 8) CL_8 (by decide) (by decide) w_369 rfl (okO_of (N := 15) (hL.sh (i := 27) rfl (by decide) (by decide)) (by decide)) ?_
    refine eqR (y := 123) (hL.rf (i := 34) rfl) ?_
    refine r_aload_n (pc := 54) dX8_fillEquation_54 rfl rfl ?_
    refine r_getI (pc := 55) dX8_fillEquation_55 (k9 := 13) CL_8 (by decide) (by decide) w_375 rfl (okO_of (N := 15) (hL.sh (i := 27) rfl (by decide) (by decide)) (by decide)) (fun _ => ?_)
    refine r_iconst (pc := 58) dX8_fillEquation_58 (inRk rfl) ?_
    obtain ⟨o1, h⟩ := h
    refine r_iastore (pc := 59) dX8_fillEquation_59 (okB_of (c := 20) (n := 13) (hL.sh (i := 41) rfl (by decide) (by decide)) (by decide) o1) ?_
    refine nmS (fun τ2 e2 => ?_)
    replace h := h τ2 e2
    have hL := hL.wI e2 (by decide) (.inl (by decide))
    refine r_iconst (pc := 60) dX8_fillEquation_60 (inRk rfl) ?_
    refine r_istore_n (pc := 61) dX8_fillEquation_61 rfl (by decide) (l2 := [some (vr 54), some (vi 1), none, none, none]) rfl ?_
    exact (h hL)
  · replace h := h.2 c9
    refine r_iconst (pc := 10) dX8_fillEquation_10 (inRk rfl) ?_
    refine r_istore_n (pc := 11) dX8_fillEquation_11 rfl (by decide) (l2 := [some (vr 54), some (vi x1), some (vi 0), none, none]) rfl ?_
    exact (h hL)
theorem B_X8_fillEquation_12 {g : Sg} {c t : Nat} (hL : Lay LC g c t σ) {x1 : Int} {x2 : Int} (h : (((gI σ 54 13) ≤ x2 → inR (x1 + 1) ∧ (Lay LC g c t σ → GG E mX8_fillEquation 2 [some (vr 54), some (vi (x1 + 1)), none, none, none] [] σ rc rs Q)) ∧ (¬ ((gI σ 54 13) ≤ x2) → (0 ≤ x1 ∧ x1 < 12) ∧ ((x1 ≠ x2 → (0 ≤ x2 ∧ x2 < 12) ∧ ∀ τ5 : Sg, τ5 = sI σ (96 + x1.toNat) x2.toNat 0 → inR (x2 + 1) ∧ (Lay LC g c t τ5 → GG E mX8_fillEquation 12 [some (vr 54), some (vi x1), some (vi (x2 + 1)), none, none] [] τ5 rc rs Q)) ∧ (x1 = x2 → (0 ≤ x2 ∧ x2 < 12) ∧ ∀ τ8 : Sg, τ8 = sI σ (96 + x1.toNat) x2.toNat 1 → inR (x2 + 1) ∧ (Lay LC g c t τ8 → GG E mX8_fillEquation 12 [some (vr 54), some (vi x1), some (vi (x2 + 1)), none, none] [] τ8 rc rs Q)))))) : GG E mX8_fillEquation 12 [some (vr 54), some (vi x1), some (vi x2), none, none] [] σ rc rs Q := by
  refine r_iload_n (pc := 12) dX8_fillEquation_12 rfl rfl ?_
  refine r_aload_n (pc := 13) dX8_fillEquation_13 rfl rfl ?_
  refine r_getI (pc := 14) dX8_fillEquation_14 (k9 := 13) CL_8 (by decide) (by decide) w_375 rfl (okO_of (N := 15) (hL.sh (i := 27) rfl (by decide) (by decide)) (by decide)) (fun _ => ?_)
  refine r_icmp_ge (pc := 17) (tgt := 44) dX8_fillEquation_17 (by decide) (fun c9 => ?_) (fun c9 => ?_)
  · replace h := h.1 c9
    obtain ⟨o1, h⟩ := h
    refine r_iinc (pc := 44) dX8_fillEquation_44 rfl (by decide) o1 (l2 := [some (vr 54), some (vi (x1 + 1)), some (vi x2), none, none]) rfl ?_
    refine r_goto (pc := 47) (tgt := 2) dX8_fillEquation_47 (by decide) ?_
    exact GG.msk [true, true, false, false, false] (h hL)
  · replace h := h.2 c9
    refine r_aload_n (pc := 20) dX8_fillEquation_20 rfl rfl ?_
    refine r_getR (pc := 21) dX8_fillEquation_21 (k9 := 4) CL_8 (by decide) (by decide) w_365 rfl (okO_of (N := 15) (hL.sh (i := 27) rfl (by decide) (by decide)) (by decide)) ?_
    refine eqR (y := 95) (hL.rf (i := 30) rfl) ?_
    refine r_iload_n (pc := 24) dX8_fillEquation_24 rfl rfl ?_
    obtain ⟨o2, h⟩ := h
    refine r_aaload (pc := 25) dX8_fillEquation_25 (okB_of (c := 24) (n := 12) (hL.sh (i := 35) rfl (by decide) (by decide)) (by decide) o2) ?_
    have q3 : 96 ≤ 96 + x1.toNat ∧ 96 + x1.toNat < 108 := ⟨Nat.le_add_right _ _, rowB o2 (by decide)⟩
    refine eqR (y := 96 + x1.toNat) (hL.rx (i := 2) rfl (rowC o2 (by decide))) ?_
    refine r_iload_n (pc := 26) dX8_fillEquation_26 rfl rfl ?_
    refine r_iload_n (pc := 27) dX8_fillEquation_27 rfl rfl ?_
    refine r_iload_n (pc := 28) dX8_fillEquation_28 rfl rfl ?_
    refine r_icmp_ne (pc := 29) (tgt := 36) dX8_fillEquation_29 (by decide) (fun c9 => ?_) (fun c9 => ?_)
    · replace h := h.1 c9
      refine r_iconst (pc := 36) dX8_fillEquation_36 (inRk rfl) ?_
      obtain ⟨o4, h⟩ := h
      refine r_iastore (pc := 37) dX8_fillEquation_37 (okB_of (c := 20) (n := 12) (hL.sh (i := 36) rfl q3.1 q3.2) (Nat.le_trans (by decide) q3.1) o4) ?_
      refine nmS (fun τ5 e5 => ?_)
      replace h := h τ5 e5
      have hL := hL.wI e5 (Nat.le_trans (by decide) q3.1) (.inl ⟨Nat.le_trans (by decide) q3.1, Nat.lt_of_lt_of_le q3.2 (by decide)⟩)
      obtain ⟨o6, h⟩ := h
      refine r_iinc (pc := 38) dX8_fillEquation_38 rfl (by decide) o6 (l2 := [some (vr 54), some (vi x1), some (vi (x2 + 1)), none, none]) rfl ?_
      refine r_goto (pc := 41) (tgt := 12) dX8_fillEquation_41 (by decide) ?_
      exact (h hL)
    · replace h := h.2 c9
      refine r_iconst (pc := 32) dX8_fillEquation_32 (inRk rfl) ?_
      refine r_goto (pc := 33) (tgt := 37) dX8_fillEquation_33 (by decide) ?_
      obtain ⟨o7, h⟩ := h
      refine r_iastore (pc := 37) dX8_fillEquation_37 (okB_of (c := 20) (n := 12) (hL.sh (i := 36) rfl q3.1 q3.2) (Nat.le_trans (by decide) q3.1) o7) ?_
      refine nmS (fun τ8 e8 => ?_)
      replace h := h τ8 e8
      have hL := hL.wI e8 (Nat.le_trans (by decide) q3.1) (.inl ⟨Nat.le_trans (by decide) q3.1, Nat.lt_of_lt_of_le q3.2 (by decide)⟩)
      obtain ⟨o9, h⟩ := h
      refine r_iinc (pc := 38) dX8_fillEquation_38 rfl (by decide) o9 (l2 := [some (vr 54), some (vi x1), some (vi (x2 + 1)), none, none]) rfl ?_
      refine r_goto (pc := 41) (tgt := 12) dX8_fillEquation_41 (by decide) ?_
      exact (h hL)
theorem B_X8_fillEquation_62 {g : Sg} {c t : Nat} (hL : Lay LC g c t σ) {x1 : Int} (h : (((gI σ 54 13) < x1 → (Lay LC g c t σ → Q (.inl none) σ)) ∧ (¬ ((gI σ 54 13) < x1) → (Lay LC g c t σ → GG E mX8_fillEquation 74 [some (vr 54), some (vi x1), some (vi 0), some (vi 0), none] [] σ rc rs Q)))) : GG E mX8_fillEquation 62 [some (vr 54), some (vi x1), none, none, none] [] σ rc rs Q := by
  refine r_iload_n (pc := 62) dX8_fillEquation_62 rfl rfl ?_
  refine r_aload_n (pc := 63) dX8_fillEquation_63 rfl rfl ?_
  refine r_getI (pc := 64) dX8_fillEquation_64 (k9 := 13) CL_8 (by decide) (by decide) w_375 rfl (okO_of (N := 15) (hL.sh (i := 27) rfl (by decide) (by decide)) (by decide)) (fun _ => ?_)
  refine r_icmp_gt (pc := 67) (tgt := 192) dX8_fillEquation_67 (by decide) (fun c9 => ?_) (fun c9 => ?_)
  · replace h := h.1 c9
    exact r_return (pc := 192) dX8_fillEquation_192 (by decide +kernel) rfl (h hL)
  · replace h := h.2 c9
    refine r_iconst (pc := 70) dX8_fillEquation_70 (inRk rfl) ?_
    refine r_istore_n (pc := 71) dX8_fillEquation_71 rfl (by decide) (l2 := [some (vr 54), some (vi x1), some (vi 0), none, none]) rfl ?_
    refine r_iconst (pc := 72) dX8_fillEquation_72 (inRk rfl) ?_
    refine r_istore_n (pc := 73) dX8_fillEquation_73 rfl (by decide) (l2 := [some (vr 54), some (vi x1), some (vi 0), some (vi 0), none]) rfl ?_
    exact (h hL)
theorem B_X8_fillEquation_74 {g : Sg} {c t : Nat} (hL : Lay LC g c t σ) {x1 : Int} {x2 : Int} {x3 : Int} (h : (((gI σ 54 13) ≤ x3 → inR (-x2) ∧ (Lay LC g c t σ → CC E mX2_mod [vr 35, vi (-x2)] σ (KI (fun r2 τ3 => Lay LC g c t τ3 ∧ (inR r2 → (Lay LC g c t τ3 → CC E mX2_inverse [vr 35, vi x1] τ3 (KI (fun r4 τ5 => Lay LC g c t τ5 ∧ (inR r4 → (Lay LC g c t τ5 → CC E mX2_times [vr 35, vi r2, vi r4] τ5 (KI (fun r6 τ7 => Lay LC g c t τ7 ∧ (inR r6 → inR ((gI τ7 54 13) - x1) ∧ (0 ≤ ((gI τ7 54 13) - x1) ∧ ((gI τ7 54 13) - x1) < 13) ∧ ∀ τ10 : Sg, τ10 = sI τ7 123 ((gI τ7 54 13) - x1).toNat r6 → (Lay LC g c t τ10 → GG E mX8_fillEquation 142 [some (vr 54), some (vi x1), none, some (vi r6), some (vi 0)] [] τ10 rc rs Q))) (fun _ _ => False))))) (fun _ _ => False))))) (fun _ _ => False)))) ∧ (¬ ((gI σ 54 13) ≤ x3) → (Lay LC g c t σ → CC E mX8_multiplyColumn [vr 54, vi x3] σ (KV (fun τ12 => Lay LC g c t τ12 ∧ (0 ≤ x3 ∧ x3 < 12) ∧ inR (x2 + (gI τ12 121 x3.toNat)) ∧ inR (x3 + 1) ∧ (Lay LC g c t τ12 → GG E mX8_fillEquation 74 [some (vr 54), some (vi x1), some (vi (x2 + (gI τ12 121 x3.toNat))), some (vi (x3 + 1)), none] [] τ12 rc rs Q)) (fun _ _ => False)))))) : GG E mX8_fillEquation 74 [some (vr 54), some (vi x1), some (vi x2), some (vi x3), none] [] σ rc rs Q := by
  refine r_iload_n (pc := 74) dX8_fillEquation_74 rfl rfl ?_
  refine r_aload_n (pc := 75) dX8_fillEquation_75 rfl rfl ?_
  refine r_getI (pc := 76) dX8_fillEquation_76 (k9 := 13) CL_8 (by decide) (by decide) w_375 rfl (okO_of (N := 15) (hL.sh (i := 27) rfl (by decide) (by decide)) (by decide)) (fun _ => ?_)
  refine r_icmp_ge (pc := 79) (tgt := 102) dX8_fillEquation_79 (by decide) (fun c9 => ?_) (fun c9 => ?_)
  · replace h := h.1 c9
    refine r_aload_n (pc := 102) dX8_fillEquation_102 rfl rfl ?_
    refine r_getR (pc := 103) dX8_fillEquation_103 (k9 := 10) CL_8 (by decide) (by decide) w_371 rfl (okO_of (N := 15) (hL.sh (i := 27) rfl (by decide) (by decide)) (by decide)) ?_
    refine eqR (y := 35) (hL.rf (i := 36) rfl) ?_
    refine r_aload_n (pc := 106) dX8_fillEquation_106 rfl rfl ?_
    refine r_getR (pc := 107) dX8_fillEquation_107 (k9 := 10) CL_8 (by decide) (by decide) w_371 rfl (okO_of (N := 15) (hL.sh (i := 27) rfl (by decide) (by decide)) (by decide)) ?_
    refine eqR (y := 35) (hL.rf (i := 36) rfl) ?_
    refine r_iload_n (pc := 110) dX8_fillEquation_110 rfl rfl ?_
    obtain ⟨o1, h⟩ := h
    refine r_ineg (pc := 111) dX8_fillEquation_111 o1 ?_
    refine c_VI0N (M := mX8_fillEquation) (pc := 112) (As := [vi (-x2)]) dX8_fillEquation_112 K_X2_mod w_1032 ⟨by decide, by decide⟩ (Nat.le_of_ble_eq_true rfl) rfl rfl (ci := 2) rfl rfl (by decide) (okO_of (N := 2) (hL.sh (i := 19) rfl (by decide) (by decide)) (by decide)) (h hL) (fun r2 τ3 h8 hr9 => ?_) rfl
    replace hL := h8.1
    replace h := h8.2 hr9
    refine r_aload_n (pc := 115) dX8_fillEquation_115 rfl rfl ?_
    refine r_getR (pc := 116) dX8_fillEquation_116 (k9 := 10) CL_8 (by decide) (by decide) w_371 rfl (okO_of (N := 15) (hL.sh (i := 27) rfl (by decide) (by decide)) (by decide)) ?_
    refine eqR (y := 35) (hL.rf (i := 36) rfl) ?_
    refine r_iload_n (pc := 119) dX8_fillEquation_119 rfl rfl ?_
    refine c_VI0N (M := mX8_fillEquation) (pc := 120) (As := [vi x1]) dX8_fillEquation_120 K_X2_inverse w_1041 ⟨by decide, by decide⟩ (Nat.le_of_ble_eq_true rfl) rfl rfl (ci := 2) rfl rfl (by decide) (okO_of (N := 2) (hL.sh (i := 19) rfl (by decide) (by decide)) (by decide)) (h hL) (fun r4 τ5 h8 hr9 => ?_) rfl
    replace hL := h8.1
    replace h := h8.2 hr9
    refine c_VI0N (M := mX8_fillEquation) (pc := 123) (As := [vi r2, vi r4]) dX8_fillEquation_123 K_X2_times w_1042 ⟨by decide, by decide⟩ (Nat.le_of_ble_eq_true rfl) rfl rfl (ci := 2) rfl rfl (by decide) (okO_of (N := 2) (hL.sh (i := 19) rfl (by decide) (by decide)) (by decide)) (h hL) (fun r6 τ7 h8 hr9 => ?_) rfl
    replace hL := h8.1
    replace h := h8.2 hr9
    refine r_istore_n (pc := 126) dX8_fillEquation_126 rfl (by decide) (l2 := [some (vr 54), some (vi x1), some (vi x2), some (vi r6), none]) rfl ?_
    refine r_aload_n (pc := 127) dX8_fillEquation_127 rfl rfl ?_
    refine r_getR (pc := 128) dX8_fillEquation_128 (k9 := 8) CL_8 (by decide) (by decide) w_369 rfl (okO_of (N := 15) (hL.sh (i := 27) rfl (by decide) (by decide)) (by decide)) ?_
    refine eqR (y := 123) (hL.rf (i := 34) rfl) ?_
    refine r_aload_n (pc := 131) dX8_fillEquation_131 rfl rfl ?_
    refine r_getI (pc := 132) dX8_fillEquation_132 (k9 := 13) CL_8 (by decide) (by decide) w_375 rfl (okO_of (N := 15) (hL.sh (i := 27) rfl (by decide) (by decide)) (by decide)) (fun _ => ?_)
    refine r_iload_n (pc := 135) dX8_fillEquation_135 rfl rfl ?_
    obtain ⟨o8, h⟩ := h
    refine r_isub (pc := 136) dX8_fillEquation_136 o8 ?_
    refine r_iload_n (pc := 137) dX8_fillEquation_137 rfl rfl ?_
    obtain ⟨o9, h⟩ := h
    refine r_iastore (pc := 138) dX8_fillEquation_138 (okB_of (c := 20) (n := 13) (hL.sh (i := 41) rfl (by decide) (by decide)) (by decide) o9) ?_
    refine nmS (fun τ10 e10 => ?_)
    replace h := h τ10 e10
    have hL := hL.wI e10 (by decide) (.inl (by decide))
    refine r_iconst (pc := 139) dX8_fillEquation_139 (inRk rfl) ?_
    refine r_istore (pc := 140) dX8_fillEquation_140 (by decide) (l2 := [some (vr 54), some (vi x1), some (vi x2), some (vi r6), some (vi 0)]) rfl ?_
    exact GG.msk [true, true, false, true, true] (h hL)
  · replace h := h.2 c9
    refine r_aload_n (pc := 82) dX8_fillEquation_82 rfl rfl ?_
    refine r_iload_n (pc := 83) dX8_fillEquation_83 rfl rfl ?_
    refine c_VV0N (M := mX8_fillEquation) (pc := 84) (As := [vi x3]) dX8_fillEquation_84 K_X8_multiplyColumn w_1037 ⟨by decide, by decide⟩ (Nat.le_of_ble_eq_true rfl) rfl rfl (ci := 8) rfl rfl (by decide) (okO_of (N := 15) (hL.sh (i := 27) rfl (by decide) (by decide)) (by decide)) (h hL) (fun τ12 h8 => ?_) rfl
    replace hL := h8.1
    replace h := h8.2
    refine r_iload_n (pc := 87) dX8_fillEquation_87 rfl rfl ?_
    refine r_aload_n (pc := 88) dX8_fillEquation_88 rfl rfl ?_
    refine r_getR (pc := 89) dX8_fillEquation_89 (k9 := 6) CL_8 (by decide) (by decide) w_367 rfl (okO_of (N := 15) (hL.sh (i := 27) rfl (by decide) (by decide)) (by decide)) ?_
    refine eqR (y := 121) (hL.rf (i := 32) rfl) ?_
    refine r_iload_n (pc := 92) dX8_fillEquation_92 rfl rfl ?_
    obtain ⟨o13, h⟩ := h
    refine r_iaload (pc := 93) dX8_fillEquation_93 (okA_of (c := 20) (n := 12) (hL.sh (i := 39) rfl (by decide) (by decide)) (by decide) o13) ?_
    obtain ⟨o14, h⟩ := h
    refine r_iadd (pc := 94) dX8_fillEquation_94 o14 ?_
    refine r_istore_n (pc := 95) dX8_fillEquation_95 rfl (by decide) (l2 := [some (vr 54), some (vi x1), some (vi (x2 + (gI τ12 121 x3.toNat))), some (vi x3), none]) rfl ?_
    obtain ⟨o15, h⟩ := h
    refine r_iinc (pc := 96) dX8_fillEquation_96 rfl (by decide) o15 (l2 := [some (vr 54), some (vi x1), some (vi (x2 + (gI τ12 121 x3.toNat))), some (vi (x3 + 1)), none]) rfl ?_
    refine r_goto (pc := 99) (tgt := 74) dX8_fillEquation_99 (by decide) ?_
    exact (h hL)
theorem B_X8_fillEquation_142 {g : Sg} {c t : Nat} (hL : Lay LC g c t σ) {x1 : Int} {x3 : Int} {x4 : Int} (h : (((gI σ 54 13) ≤ x4 → inR (x1 + 1) ∧ (Lay LC g c t σ → GG E mX8_fillEquation 62 [some (vr 54), some (vi (x1 + 1)), none, none, none] [] σ rc rs Q)) ∧ (¬ ((gI σ 54 13) ≤ x4) → (0 ≤ x4 ∧ x4 < 12) ∧ inR ((gI σ (96 + x4.toNat) x4.toNat) + x3) ∧ (Lay LC g c t σ → CC E mX2_mod [vr 35, vi ((gI σ (96 + x4.toNat) x4.toNat) + x3)] σ (KI (fun r6 τ7 => Lay LC g c t τ7 ∧ (inR r6 → ∀ τ8 : Sg, τ8 = sI τ7 (96 + x4.toNat) x4.toNat r6 → inR (x4 + 1) ∧ (Lay LC g c t τ8 → GG E mX8_fillEquation 142 [some (vr 54), some (vi x1), none, some (vi x3), some (vi (x4 + 1))] [] τ8 rc rs Q))) (fun _ _ => False)))))) : GG E mX8_fillEquation 142 [some (vr 54), some (vi x1), none, some (vi x3), some (vi x4)] [] σ rc rs Q := by
  refine r_iload (pc := 142) dX8_fillEquation_142 rfl ?_
  refine r_aload_n (pc := 144) dX8_fillEquation_144 rfl rfl ?_
  refine r_getI (pc := 145) dX8_fillEquation_145 (k9 := 13) CL_8 (by decide) (by decide) w_375 rfl (okO_of (N := 15) (hL.sh (i := 27) rfl (by decide) (by decide)) (by decide)) (fun _ => ?_)
  refine r_icmp_ge (pc := 148) (tgt := 186) dX8_fillEquation_148 (by decide) (fun c9 => ?_) (fun c9 => ?_)
  · replace h := h.1 c9
    obtain ⟨o1, h⟩ := h
    refine r_iinc (pc := 186) dX8_fillEquation_186 rfl (by decide) o1 (l2 := [some (vr 54), some (vi (x1 + 1)), none, some (vi x3), some (vi x4)]) rfl ?_
    refine r_goto (pc := 189) (tgt := 62) dX8_fillEquation_189 (by decide) ?_
    exact GG.msk [true, true, false, false, false] (h hL)
  · replace h := h.2 c9
    refine r_aload_n (pc := 151) dX8_fillEquation_151 rfl rfl ?_
    refine r_getR (pc := 152) dX8_fillEquation_152 (k9 := 4) CL_8 (by decide) (by decide) w_365 rfl (okO_of (N := 15) (hL.sh (i := 27) rfl (by decide) (by decide)) (by decide)) ?_
    refine eqR (y := 95) (hL.rf (i := 30) rfl) ?_
    refine r_iload (pc := 155) dX8_fillEquation_155 rfl ?_
    obtain ⟨o2, h⟩ := h
    refine r_aaload (pc := 157) dX8_fillEquation_157 (okB_of (c := 24) (n := 12) (hL.sh (i := 35) rfl (by decide) (by decide)) (by decide) o2) ?_
    have q3 : 96 ≤ 96 + x4.toNat ∧ 96 + x4.toNat < 108 := ⟨Nat.le_add_right _ _, rowB o2 (by decide)⟩
    refine eqR (y := 96 + x4.toNat) (hL.rx (i := 2) rfl (rowC o2 (by decide))) ?_
    refine r_iload (pc := 158) dX8_fillEquation_158 rfl ?_
    refine r_aload_n (pc := 160) dX8_fillEquation_160 rfl rfl ?_
    refine r_getR (pc := 161) dX8_fillEquation_161 (k9 := 10) CL_8 (by decide) (by decide) w_371 rfl (okO_of (N := 15) (hL.sh (i := 27) rfl (by decide) (by decide)) (by decide)) ?_
    refine eqR (y := 35) (hL.rf (i := 36) rfl) ?_
    refine r_aload_n (pc := 164) dX8_fillEquation_164 rfl rfl ?_
    refine r_getR (pc := 165) dX8_fillEquation_165 (k9 := 4) CL_8 (by decide) (by decide) w_365 rfl (okO_of (N := 15) (hL.sh (i := 27) rfl (by decide) (by decide)) (by decide)) ?_
    refine eqR (y := 95) (hL.rf (i := 30) rfl) ?_
    refine r_iload (pc := 168) dX8_fillEquation_168 rfl ?_
    refine r_aaload (pc := 170) dX8_fillEquation_170 (okB_of (c := 24) (n := 12) (hL.sh (i := 35) rfl (by decide) (by decide)) (by decide) o2) ?_
    have q4 : 96 ≤ 96 + x4.toNat ∧ 96 + x4.toNat < 108 := ⟨Nat.le_add_right _ _, rowB o2 (by decide)⟩
    refine eqR (y := 96 + x4.toNat) (hL.rx (i := 2) rfl (rowC o2 (by decide))) ?_
    refine r_iload (pc := 171) dX8_fillEquation_171 rfl ?_
    refine r_iaload (pc := 173) dX8_fillEquation_173 (okA_of (c := 20) (n := 12) (hL.sh (i := 36) rfl q4.1 q4.2) (Nat.le_trans (by decide) q4.1) o2) ?_
    refine r_iload_n (pc := 174) dX8_fillEquation_174 rfl rfl ?_
    obtain ⟨o5, h⟩ := h
    refine r_iadd (pc := 175) dX8_fillEquation_175 o5 ?_
    refine c_VI0N (M := mX8_fillEquation) (pc := 176) (As := [vi ((gI σ (96 + x4.toNat) x4.toNat) + x3)]) dX8_fillEquation_176 K_X2_mod w_1032 ⟨by decide, by decide⟩ (Nat.le_of_ble_eq_true rfl) rfl rfl (ci := 2) rfl rfl (by decide) (okO_of (N := 2) (hL.sh (i := 19) rfl (by decide) (by decide)) (by decide)) (h hL) (fun r6 τ7 h8 hr9 => ?_) rfl
    replace hL := h8.1
    replace h := h8.2 hr9
    refine r_iastore (pc := 179) dX8_fillEquation_179 (okB_of (c := 20) (n := 12) (hL.sh (i := 36) rfl q4.1 q4.2) (Nat.le_trans (by decide) q4.1) o2) ?_
    refine nmS (fun τ8 e8 => ?_)
    replace h := h τ8 e8
    have hL := hL.wI e8 (Nat.le_trans (by decide) q4.1) (.inl ⟨Nat.le_trans (by decide) q4.1, Nat.lt_of_lt_of_le q4.2 (by decide)⟩)
    obtain ⟨o9, h⟩ := h
    refine r_iinc (pc := 180) dX8_fillEquation_180 rfl (by decide) o9 (l2 := [some (vr 54), some (vi x1), none, some (vi x3), some (vi (x4 + 1))]) rfl ?_
    refine r_goto (pc := 183) (tgt := 142) dX8_fillEquation_183 (by decide) ?_
    exact (h hL)
theorem C_X8_fillEquation {a0 : Nat} (h : GG E mX8_fillEquation 0 [some (vr a0), none, none, none, none] [] σ 0 0 Q) : CC E mX8_fillEquation [vr a0] σ Q := CC.of (by decide +kernel) rfl (by decide +kernel) (fun h9 => nomatch h9) (Nat.le_of_ble_eq_true rfl) h
theorem dX8_fillTable_0 : decode cX8_fillTable 0 = .ok (.iconst 0, 1) := by decide +kernel
theorem dX8_fillTable_1 : decode cX8_fillTable 1 = .ok (.istore_n 2, 1) := by decide +kernel
theorem dX8_fillTable_2 : decode cX8_fillTable 2 = .ok (.iload_n 2, 1) := by decide +kernel
theorem dX8_fillTable_3 : decode cX8_fillTable 3 = .ok (.aload_n 0, 1) := by decide +kernel
theorem dX8_fillTable_4 : decode cX8_fillTable 4 = .ok (.getfield 87, 3) := by decide +kernel
theorem dX8_fillTable_7 : decode cX8_fillTable 7 = .ok (.if_icmp .ge 30, 3) := by decide +kernel
theorem dX8_fillTable_10 : decode cX8_fillTable 10 = .ok (.aload_n 0, 1) := by decide +kernel
theorem dX8_fillTable_11 : decode cX8_fillTable 11 = .ok (.getfield 35, 3) := by decide +kernel
theorem dX8_fillTable_14 : decode cX8_fillTable 14 = .ok (.iload_n 2, 1) := by decide +kernel
theorem dX8_fillTable_15 : decode cX8_fillTable 15 = .ok (.aload_n 0, 1) := by decide +kernel
theorem dX8_fillTable_16 : decode cX8_fillTable 16 = .ok (.aload_n 0, 1) := by decide +kernel
theorem dX8_fillTable_17 : decode cX8_fillTable 17 = .ok (.getfield 17, 3) := by decide +kernel
theorem dX8_fillTable_20 : decode cX8_fillTable 20 = .ok (.aload_n 0, 1) := by decide +kernel
theorem dX8_fillTable_21 : decode cX8_fillTable 21 = .ok (.getfield 84, 3) := by decide +kernel
theorem dX8_fillTable_24 : decode cX8_fillTable 24 = .ok (.iload_n 2, 1) := by decide +kernel
theorem dX8_fillTable_25 : decode cX8_fillTable 25 = .ok (.iadd, 1) := by decide +kernel
theorem dX8_fillTable_26 : decode cX8_fillTable 26 = .ok (.aaload, 1) := by decide +kernel
theorem dX8_fillTable_27 : decode cX8_fillTable 27 = .ok (.invokevirtual 115, 3) := by decide +kernel
theorem dX8_fillTable_30 : decode cX8_fillTable 30 = .ok (.iastore, 1) := by decide +kernel
theorem dX8_fillTable_31 : decode cX8_fillTable 31 = .ok (.iinc 2 1, 3) := by decide +kernel
theorem dX8_fillTable_34 : decode cX8_fillTable 34 = .ok (.goto (-32), 3) := by decide +kernel
theorem dX8_fillTable_37 : decode cX8_fillTable 37 = .ok (.iconst 0, 1) := by decide +kernel
theorem dX8_fillTable_38 : decode cX8_fillTable 38 = .ok (.istore_n 2, 1) := by decide +kernel
theorem dX8_fillTable_39 : decode cX8_fillTable 39 = .ok (.iload_n 2, 1) := by decide +kernel
theorem dX8_fillTable_40 : decode cX8_fillTable 40 = .ok (.aload_n 0, 1) := by decide +kernel
theorem dX8_fillTable_41 : decode cX8_fillTable 41 = .ok (.getfield 87, 3) := by decide +kernel
theorem dX8_fillTable_44 : decode cX8_fillTable 44 = .ok (.if_icmp .ge 102, 3) := by decide +kernel
theorem dX8_fillTable_47 : decode cX8_fillTable 47 = .ok (.iconst 0, 1) := by decide +kernel
theorem dX8_fillTable_48 : decode cX8_fillTable 48 = .ok (.istore_n 3, 1) := by decide +kernel
theorem dX8_fillTable_49 : decode cX8_fillTable 49 = .ok (.iload_n 3, 1) := by decide +kernel
theorem dX8_fillTable_50 : decode cX8_fillTable 50 = .ok (.aload_n 0, 1) := by decide +kernel
theorem dX8_fillTable_51 : decode cX8_fillTable 51 = .ok (.getfield 87, 3) := by decide +kernel
theorem dX8_fillTable_54 : decode cX8_fillTable 54 = .ok (.if_icmp .ge 86, 3) := by decide +kernel
theorem dX8_fillTable_57 : decode cX8_fillTable 57 = .ok (.iconst 0, 1) := by decide +kernel
theorem dX8_fillTable_58 : decode cX8_fillTable 58 = .ok (.istore 4, 2) := by decide +kernel
theorem dX8_fillTable_60 : decode cX8_fillTable 60 = .ok (.iconst 0, 1) := by decide +kernel
theorem dX8_fillTable_61 : decode cX8_fillTable 61 = .ok (.istore 5, 2) := by decide +kernel
theorem dX8_fillTable_63 : decode cX8_fillTable 63 = .ok (.iload 5, 2) := by decide +kernel
theorem dX8_fillTable_65 : decode cX8_fillTable 65 = .ok (.aload_n 0, 1) := by decide +kernel
theorem dX8_fillTable_66 : decode cX8_fillTable 66 = .ok (.getfield 60, 3) := by decide +kernel
theorem dX8_fillTable_69 : decode cX8_fillTable 69 = .ok (.if_icmp .ge 48, 3) := by decide +kernel
theorem dX8_fillTable_72 : decode cX8_fillTable 72 = .ok (.iload 4, 2) := by decide +kernel
theorem dX8_fillTable_74 : decode cX8_fillTable 74 = .ok (.aload_n 0, 1) := by decide +kernel
theorem dX8_fillTable_75 : decode cX8_fillTable 75 = .ok (.getfield 9, 3) := by decide +kernel
theorem dX8_fillTable_78 : decode cX8_fillTable 78 = .ok (.iload_n 1, 1) := by decide +kernel
theorem dX8_fillTable_79 : decode cX8_fillTable 79 = .ok (.aload_n 0, 1) := by decide +kernel
theorem dX8_fillTable_80 : decode cX8_fillTable 80 = .ok (.getfield 35, 3) := by decide +kernel
theorem dX8_fillTable_83 : decode cX8_fillTable 83 = .ok (.iload_n 3, 1) := by decide +kernel
theorem dX8_fillTable_84 : decode cX8_fillTable 84 = .ok (.iaload, 1) := by decide +kernel
theorem dX8_fillTable_85 : decode cX8_fillTable 85 = .ok (.iload 5, 2) := by decide +kernel
theorem dX8_fillTable_87 : decode cX8_fillTable 87 = .ok (.invokestatic 80, 3) := by decide +kernel
theorem dX8_fillTable_90 : decode cX8_fillTable 90 = .ok (.invokestatic 67, 3) := by decide +kernel
theorem dX8_fillTable_93 : decode cX8_fillTable 93 = .ok (.aload_n 0, 1) := by decide +kernel
theorem dX8_fillTable_94 : decode cX8_fillTable 94 = .ok (.getfield 17, 3) := by decide +kernel
theorem dX8_fillTable_97 : decode cX8_fillTable 97 = .ok (.aload_n 0, 1) := by decide +kernel
theorem dX8_fillTable_98 : decode cX8_fillTable 98 = .ok (.getfield 84, 3) := by decide +kernel
theorem dX8_fillTable_101 : decode cX8_fillTable 101 = .ok (.iload_n 2, 1) := by decide +kernel
theorem dX8_fillTable_102 : decode cX8_fillTable 102 = .ok (.iadd, 1) := by decide +kernel
theorem dX8_fillTable_103 : decode cX8_fillTable 103 = .ok (.aaload, 1) := by decide +kernel
theorem dX8_fillTable_104 : decode cX8_fillTable 104 = .ok (.iload 5, 2) := by decide +kernel
theorem dX8_fillTable_106 : decode cX8_fillTable 106 = .ok (.iaload, 1) := by decide +kernel
theorem dX8_fillTable_107 : decode cX8_fillTable 107 = .ok (.imul, 1) := by decide +kernel
theorem dX8_fillTable_108 : decode cX8_fillTable 108 = .ok (.iadd, 1) := by decide +kernel
theorem dX8_fillTable_109 : decode cX8_fillTable 109 = .ok (.istore 4, 2) := by decide +kernel
theorem dX8_fillTable_111 : decode cX8_fillTable 111 = .ok (.iinc 5 1, 3) := by decide +kernel
theorem dX8_fillTable_114 : decode cX8_fillTable 114 = .ok (.goto (-51), 3) := by decide +kernel
theorem dX8_fillTable_117 : decode cX8_fillTable 117 = .ok (.aload_n 0, 1) := by decide +kernel
theorem dX8_fillTable_118 : decode cX8_fillTable 118 = .ok (.getfield 23, 3) := by decide +kernel
theorem dX8_fillTable_121 : decode cX8_fillTable 121 = .ok (.iload_n 2, 1) := by decide +kernel
theorem dX8_fillTable_122 : decode cX8_fillTable 122 = .ok (.aaload, 1) := by decide +kernel
theorem dX8_fillTable_123 : decode cX8_fillTable 123 = .ok (.iload_n 3, 1) := by decide +kernel
theorem dX8_fillTable_124 : decode cX8_fillTable 124 = .ok (.aload_n 0, 1) := by decide +kernel
theorem dX8_fillTable_125 : decode cX8_fillTable 125 = .ok (.getfield 44, 3) := by decide +kernel
theorem dX8_fillTable_128 : decode cX8_fillTable 128 = .ok (.iload 4, 2) := by decide +kernel
theorem dX8_fillTable_130 : decode cX8_fillTable 130 = .ok (.invokevirtual 119, 3) := by decide +kernel
theorem dX8_fillTable_133 : decode cX8_fillTable 133 = .ok (.iastore, 1) := by decide +kernel
theorem dX8_fillTable_134 : decode cX8_fillTable 134 = .ok (.iinc 3 1, 3) := by decide +kernel
theorem dX8_fillTable_137 : decode cX8_fillTable 137 = .ok (.goto (-88), 3) := by decide +kernel
theorem dX8_fillTable_140 : decode cX8_fillTable 140 = .ok (.iinc 2 1, 3) := by decide +kernel
theorem dX8_fillTable_143 : decode cX8_fillTable 143 = .ok (.goto (-104), 3) := by decide +kernel
theorem dX8_fillTable_146 : decode cX8_fillTable 146 = .ok (.return_, 1) := by decide +kernel
theorem B_X8_fillTable_0 {g : Sg} {c t : Nat} (hL : Lay LC g c t σ) {x1 : Int} (h : (Lay LC g c t σ → GG E mX8_fillTable 2 [some (vr 54), some (vi x1), some (vi 0), none, none, none] [] σ rc rs Q)) : GG E mX8_fillTable 0 [some (vr 54), some (vi x1), none, none, none, none] [] σ rc rs Q := by
  refine r_iconst (pc := 0) dX8_fillTable_0 (inRk rfl) ?_
  refine r_istore_n (pc := 1) dX8_fillTable_1 rfl (by decide) (l2 := [some (vr 54), some (vi x1), some (vi 0), none, none, none]) rfl ?_
  exact (h hL)
theorem B_X8_fillTable_2 {g : Sg} {c t : Nat} (hL : Lay LC g c t σ) {x1 : Int} {x2 : Int} (h : (((gI σ 54 13) ≤ x2 → (Lay LC g c t σ → GG E mX8_fillTable 39 [some (vr 54), some (vi x1), some (vi 0), none, none, none] [] σ rc rs Q)) ∧ (¬ ((gI σ 54 13) ≤ x2) → inR ((gI σ 54 12) + x2) ∧ (0 ≤ ((gI σ 54 12) + x2) ∧ ((gI σ 54 12) + x2) < 12) ∧ (Lay LC g c t σ → CC E mX8_firstFilled [vr 54, vr (57 + ((gI σ 54 12) + x2).toNat)] σ (KI (fun r4 τ5 => Lay LC g c t τ5 ∧ (inR r4 → (0 ≤ x2 ∧ x2 < 12) ∧ ∀ τ7 : Sg, τ7 = sI τ5 122 x2.toNat r4 → inR (x2 + 1) ∧ (Lay LC g c t τ7 → GG E mX8_fillTable 2 [some (vr 54), some (vi x1), some (vi (x2 + 1)), none, none, none] [] τ7 rc rs Q))) (fun _ _ => False)))))) : GG E mX8_fillTable 2 [some (vr 54), some (vi x1), some (vi x2), none, none, none] [] σ rc rs Q := by
  refine r_iload_n (pc := 2) dX8_fillTable_2 rfl rfl ?_
  refine r_aload_n (pc := 3) dX8_fillTable_3 rfl rfl ?_
  refine r_getI (pc := 4) dX8_fillTable_4 (k9 := 13) CL_8 (by decide) (by decide) w_375 rfl (okO_of (N := 15) (hL.sh (i := 27) rfl (by decide) (by decide)) (by decide)) (fun _ => ?_)
  refine r_icmp_ge (pc := 7) (tgt := 37) dX8_fillTable_7 (by decide) (fun c9 => ?_) (fun c9 => ?_)
  · replace h := h.1 c9
    refine r_iconst (pc := 37) dX8_fillTable_37 (inRk rfl) ?_
    refine r_istore_n (pc := 38) dX8_fillTable_38 rfl (by decide) (l2 := [some (vr 54), some (vi x1), some (vi 0), none, none, none]) rfl ?_
    exact (h hL)
  · replace h := h.2 c9
    refine r_aload_n (pc := 10) dX8_fillTable_10 rfl rfl ?_
    refine r_getR (pc := 11) dX8_fillTable_11 (k9 := 7) CL_8 (by decide) (by decide) w_368 rfl (okO_of (N := 15) (hL.sh (i := 27) rfl (by decide) (by decide)) (by decide)) ?_
    refine eqR (y := 122) (hL.rf (i := 33) rfl) ?_
    refine r_iload_n (pc := 14) dX8_fillTable_14 rfl rfl ?_
    refine r_aload_n (pc := 15) dX8_fillTable_15 rfl rfl ?_
    refine r_aload_n (pc := 16) dX8_fillTable_16 rfl rfl ?_
    refine r_getR (pc := 17) dX8_fillTable_17 (k9 := 1) CL_8 (by decide) (by decide) w_361 rfl (okO_of (N := 15) (hL.sh (i := 27) rfl (by decide) (by decide)) (by decide)) ?_
    refine eqR (y := 56) (hL.rf (i := 27) rfl) ?_
    refine r_aload_n (pc := 20) dX8_fillTable_20 rfl rfl ?_
    refine r_getI (pc := 21) dX8_fillTable_21 (k9 := 12) CL_8 (by decide) (by decide) w_374 rfl (okO_of (N := 15) (hL.sh (i := 27) rfl (by decide) (by decide)) (by decide)) (fun _ => ?_)
    refine r_iload_n (pc := 24) dX8_fillTable_24 rfl rfl ?_
    obtain ⟨o1, h⟩ := h
    refine r_iadd (pc := 25) dX8_fillTable_25 o1 ?_
    obtain ⟨o2, h⟩ := h
    refine r_aaload (pc := 26) dX8_fillTable_26 (okB_of (c := 24) (n := 12) (hL.sh (i := 29) rfl (by decide) (by decide)) (by decide) o2) ?_
    have q3 : 57 ≤ 57 + ((gI σ 54 12) + x2).toNat ∧ 57 + ((gI σ 54 12) + x2).toNat < 69 := ⟨Nat.le_add_right _ _, rowB o2 (by decide)⟩
    refine eqR (y := 57 + ((gI σ 54 12) + x2).toNat) (hL.rx (i := 0) rfl (rowC o2 (by decide))) ?_
    refine c_VI0N (M := mX8_fillTable) (pc := 27) (As := [vr (57 + ((gI σ 54 12) + x2).toNat)]) dX8_fillTable_27 K_X8_firstFilled w_1028 ⟨by decide, by decide⟩ (Nat.le_of_ble_eq_true rfl) rfl rfl (ci := 8) rfl rfl (by decide) (okO_of (N := 15) (hL.sh (i := 27) rfl (by decide) (by decide)) (by decide)) (h hL) (fun r4 τ5 h8 hr9 => ?_) rfl
    replace hL := h8.1
    replace h := h8.2 hr9
    obtain ⟨o6, h⟩ := h
    refine r_iastore (pc := 30) dX8_fillTable_30 (okB_of (c := 20) (n := 12) (hL.sh (i := 40) rfl (by decide) (by decide)) (by decide) o6) ?_
    refine nmS (fun τ7 e7 => ?_)
    replace h := h τ7 e7
    have hL := hL.wI e7 (by decide) (.inl (by decide))
    obtain ⟨o8, h⟩ := h
    refine r_iinc (pc := 31) dX8_fillTable_31 rfl (by decide) o8 (l2 := [some (vr 54), some (vi x1), some (vi (x2 + 1)), none, none, none]) rfl ?_
    refine r_goto (pc := 34) (tgt := 2) dX8_fillTable_34 (by decide) ?_
    exact (h hL)
theorem B_X8_fillTable_39 {g : Sg} {c t : Nat} (hL : Lay LC g c t σ) {x1 : Int} {x2 : Int} (h : (((gI σ 54 13) ≤ x2 → (Lay LC g c t σ → Q (.inl none) σ)) ∧ (¬ ((gI σ 54 13) ≤ x2) → (Lay LC g c t σ → GG E mX8_fillTable 49 [some (vr 54), some (vi x1), some (vi x2), some (vi 0), none, none] [] σ rc rs Q)))) : GG E mX8_fillTable 39 [some (vr 54), some (vi x1), some (vi x2), none, none, none] [] σ rc rs Q := by
  refine r_iload_n (pc := 39) dX8_fillTable_39 rfl rfl ?_
  refine r_aload_n (pc := 40) dX8_fillTable_40 rfl rfl ?_
  refine r_getI (pc := 41) dX8_fillTable_41 (k9 := 13) CL_8 (by decide) (by decide) w_375 rfl (okO_of (N := 15) (hL.sh (i := 27) rfl (by decide) (by decide)) (by decide)) (fun _ => ?_)
  refine r_icmp_ge (pc := 44) (tgt := 146) dX8_fillTable_44 (by decide) (fun c9 => ?_) (fun c9 => ?_)
  · replace h := h.1 c9
    exact r_return (pc := 146) dX8_fillTable_146 (by decide +kernel) rfl (h hL)
  · replace h := h.2 c9
    refine r_iconst (pc := 47) dX8_fillTable_47 (inRk rfl) ?_
    refine r_istore_n (pc := 48) dX8_fillTable_48 rfl (by decide) (l2 := [some (vr 54), some (vi x1), some (vi x2), some (vi 0), none, none]) rfl ?_
    exact (h hL)
theorem B_X8_fillTable_49 {g : Sg} {c t : Nat} (hL : Lay LC g c t σ) {x1 : Int} {x2 : Int} {x3 : Int} (h : (((gI σ 54 13) ≤ x3 → inR (x2 + 1) ∧ (Lay LC g c t σ → GG E mX8_fillTable 39 [some (vr 54), some (vi x1), some (vi (x2 + 1)), none, none, none] [] σ rc rs Q)) ∧ (¬ ((gI σ 54 13) ≤ x3) → (Lay LC g c t σ → GG E mX8_fillTable 63 [some (vr 54), some (vi x1), some (vi x2), some (vi x3), some (vi 0), some (vi 0)] [] σ rc rs Q)))) : GG E mX8_fillTable 49 [some (vr 54), some (vi x1), some (vi x2), some (vi x3), none, none] [] σ rc rs Q := by
  refine r_iload_n (pc := 49) dX8_fillTable_49 rfl rfl ?_
  refine r_aload_n (pc := 50) dX8_fillTable_50 rfl rfl ?_
  refine r_getI (pc := 51) dX8_fillTable_51 (k9 := 13) CL_8 (by decide) (by decide) w_375 rfl (okO_of (N := 15) (hL.sh (i := 27) rfl (by decide) (by decide)) (by decide)) (fun _ => ?_)
  refine r_icmp_ge (pc := 54) (tgt := 140) dX8_fillTable_54 (by decide) (fun c9 => ?_) (fun c9 => ?_)
  · replace h := h.1 c9
    obtain ⟨o1, h⟩ := h
    refine r_iinc (pc := 140) dX8_fillTable_140 rfl (by decide) o1 (l2 := [some (vr 54), some (vi x1), some (vi (x2 + 1)), some (vi x3), none, none]) rfl ?_
    refine r_goto (pc := 143) (tgt := 39) dX8_fillTable_143 (by decide) ?_
    exact GG.msk [true, true, true, false, false, false] (h hL)
  · replace h := h.2 c9
    refine r_iconst (pc := 57) dX8_fillTable_57 (inRk rfl) ?_
    refine r_istore (pc := 58) dX8_fillTable_58 (by decide) (l2 := [some (vr 54), some (vi x1), some (vi x2), some (vi x3), some (vi 0), none]) rfl ?_
    refine r_iconst (pc := 60) dX8_fillTable_60 (inRk rfl) ?_
    refine r_istore (pc := 61) dX8_fillTable_61 (by decide) (l2 := [some (vr 54), some (vi x1), some (vi x2), some (vi x3), some (vi 0), some (vi 0)]) rfl ?_
    exact (h hL)
theorem B_X8_fillTable_63 {g : Sg} {c t : Nat} (hL : Lay LC g c t σ) {x1 : Int} {x2 : Int} {x3 : Int} {x4 : Int} {x5 : Int} (h : (((gI σ 54 11) ≤ x5 → (0 ≤ x2 ∧ x2 < 12) ∧ (Lay LC g c t σ → CC E mX2_mod [vr 35, vi x4] σ (KI (fun r3 τ4 => Lay LC g c t τ4 ∧ (inR r3 → (0 ≤ x3 ∧ x3 < 12) ∧ ∀ τ6 : Sg, τ6 = sI τ4 (83 + x2.toNat) x3.toNat r3 → inR (x3 + 1) ∧ (Lay LC g c t τ6 → GG E mX8_fillTable 49 [some (vr 54), some (vi x1), some (vi x2), some (vi (x3 + 1)), none, none] [] τ6 rc rs Q))) (fun _ _ => False)))) ∧ (¬ ((gI σ 54 11) ≤ x5) → (0 ≤ x3 ∧ x3 < 12) ∧ (Lay LC g c t σ → CC E mX8_placeOf [vi x1, vi (gI σ 122 x3.toNat), vi x5] σ (KI (fun r9 τ10 => Lay LC g c t τ10 ∧ (inR r9 → (Lay LC g c t τ10 → CC E mX11_at [vr 55, vi r9] τ10 (KI (fun r11 τ12 => Lay LC g c t τ12 ∧ (inR r11 → inR ((gI τ12 54 12) + x2) ∧ (0 ≤ ((gI τ12 54 12) + x2) ∧ ((gI τ12 54 12) + x2) < 12) ∧ (0 ≤ x5 ∧ x5 < 12) ∧ inR (r11 * (gI τ12 (57 + ((gI τ12 54 12) + x2).toNat) x5.toNat)) ∧ ∀ v18 : Int, v18 = r11 * (gI τ12 (57 + ((gI τ12 54 12) + x2).toNat) x5.toNat) → inR (x4 + v18) ∧ inR (x5 + 1) ∧ (Lay LC g c t τ12 → GG E mX8_fillTable 63 [some (vr 54), some (vi x1), some (vi x2), some (vi x3), some (vi (x4 + v18)), some (vi (x5 + 1))] [] τ12 rc rs Q))) (fun _ _ => False))))) (fun _ _ => False)))))) : GG E mX8_fillTable 63 [some (vr 54), some (vi x1), some (vi x2), some (vi x3), some (vi x4), some (vi x5)] [] σ rc rs Q := by
  refine r_iload (pc := 63) dX8_fillTable_63 rfl ?_
  refine r_aload_n (pc := 65) dX8_fillTable_65 rfl rfl ?_
  refine r_getI (pc := 66) dX8_fillTable_66 (k9 := 11) CL_8 (by decide) (by decide) w_372 rfl (okO_of (N := 15) (hL.sh (i := 27) rfl (by decide) (by decide)) (by decide)) (fun _ => ?_)
  refine r_icmp_ge (pc := 69) (tgt := 117) dX8_fillTable_69 (by decide) (fun c9 => ?_) (fun c9 => ?_)
  · replace h := h.1 c9
    refine r_aload_n (pc := 117) dX8_fillTable_117 rfl rfl ?_
    refine r_getR (pc := 118) dX8_fillTable_118 (k9 := 3) CL_8 (by decide) (by decide) w_364 rfl (okO_of (N := 15) (hL.sh (i := 27) rfl (by decide) (by decide)) (by decide)) ?_
    refine eqR (y := 82) (hL.rf (i := 29) rfl) ?_
    refine r_iload_n (pc := 121) dX8_fillTable_121 rfl rfl ?_
    obtain ⟨o1, h⟩ := h
    refine r_aaload (pc := 122) dX8_fillTable_122 (okB_of (c := 24) (n := 12) (hL.sh (i := 33) rfl (by decide) (by decide)) (by decide) o1) ?_
    have q2 : 83 ≤ 83 + x2.toNat ∧ 83 + x2.toNat < 95 := ⟨Nat.le_add_right _ _, rowB o1 (by decide)⟩
    refine eqR (y := 83 + x2.toNat) (hL.rx (i := 1) rfl (rowC o1 (by decide))) ?_
    refine r_iload_n (pc := 123) dX8_fillTable_123 rfl rfl ?_
    refine r_aload_n (pc := 124) dX8_fillTable_124 rfl rfl ?_
    refine r_getR (pc := 125) dX8_fillTable_125 (k9 := 10) CL_8 (by decide) (by decide) w_371 rfl (okO_of (N := 15) (hL.sh (i := 27) rfl (by decide) (by decide)) (by decide)) ?_
    refine eqR (y := 35) (hL.rf (i := 36) rfl) ?_
    refine r_iload (pc := 128) dX8_fillTable_128 rfl ?_
    refine c_VI0N (M := mX8_fillTable) (pc := 130) (As := [vi x4]) dX8_fillTable_130 K_X2_mod w_1032 ⟨by decide, by decide⟩ (Nat.le_of_ble_eq_true rfl) rfl rfl (ci := 2) rfl rfl (by decide) (okO_of (N := 2) (hL.sh (i := 19) rfl (by decide) (by decide)) (by decide)) (h hL) (fun r3 τ4 h8 hr9 => ?_) rfl
    replace hL := h8.1
    replace h := h8.2 hr9
    obtain ⟨o5, h⟩ := h
    refine r_iastore (pc := 133) dX8_fillTable_133 (okB_of (c := 20) (n := 12) (hL.sh (i := 34) rfl q2.1 q2.2) (Nat.le_trans (by decide) q2.1) o5) ?_
    refine nmS (fun τ6 e6 => ?_)
    replace h := h τ6 e6
    have hL := hL.wI e6 (Nat.le_trans (by decide) q2.1) (.inl ⟨Nat.le_trans (by decide) q2.1, Nat.lt_of_lt_of_le q2.2 (by decide)⟩)
    obtain ⟨o7, h⟩ := h
    refine r_iinc (pc := 134) dX8_fillTable_134 rfl (by decide) o7 (l2 := [some (vr 54), some (vi x1), some (vi x2), some (vi (x3 + 1)), some (vi x4), some (vi x5)]) rfl ?_
    refine r_goto (pc := 137) (tgt := 49) dX8_fillTable_137 (by decide) ?_
    exact GG.msk [true, true, true, true, false, false] (h hL)
  · replace h := h.2 c9
    refine r_iload (pc := 72) dX8_fillTable_72 rfl ?_
    refine r_aload_n (pc := 74) dX8_fillTable_74 rfl rfl ?_
    refine r_getR (pc := 75) dX8_fillTable_75 (k9 := 0) CL_8 (by decide) (by decide) w_360 rfl (okO_of (N := 15) (hL.sh (i := 27) rfl (by decide) (by decide)) (by decide)) ?_
    refine eqR (y := 55) (hL.rf (i := 26) rfl) ?_
    refine r_iload_n (pc := 78) dX8_fillTable_78 rfl rfl ?_
    refine r_aload_n (pc := 79) dX8_fillTable_79 rfl rfl ?_
    refine r_getR (pc := 80) dX8_fillTable_80 (k9 := 7) CL_8 (by decide) (by decide) w_368 rfl (okO_of (N := 15) (hL.sh (i := 27) rfl (by decide) (by decide)) (by decide)) ?_
    refine eqR (y := 122) (hL.rf (i := 33) rfl) ?_
    refine r_iload_n (pc := 83) dX8_fillTable_83 rfl rfl ?_
    obtain ⟨o8, h⟩ := h
    refine r_iaload (pc := 84) dX8_fillTable_84 (okA_of (c := 20) (n := 12) (hL.sh (i := 40) rfl (by decide) (by decide)) (by decide) o8) ?_
    refine r_iload (pc := 85) dX8_fillTable_85 rfl ?_
    refine c_SI0N (M := mX8_fillTable) (pc := 87) (As := [vi x1, vi (gI σ 122 x3.toNat), vi x5]) dX8_fillTable_87 K_X8_placeOf w_1017 ⟨by decide, by decide⟩ (Nat.le_of_ble_eq_true rfl) rfl rfl (h hL) (fun r9 τ10 h8 hr9 => ?_) rfl
    replace hL := h8.1
    replace h := h8.2 hr9
    refine c_SNI0N (M := mX8_fillTable) (pc := 90) (As := [vr 55, vi r9]) dX8_fillTable_90 K_X11_at wt_1015 ⟨by decide, by decide⟩ (Nat.le_of_ble_eq_true rfl) rfl rfl (h hL) (fun r11 τ12 h8 hr9 => ?_) rfl
    replace hL := h8.1
    replace h := h8.2 hr9
    refine r_aload_n (pc := 93) dX8_fillTable_93 rfl rfl ?_
    refine r_getR (pc := 94) dX8_fillTable_94 (k9 := 1) CL_8 (by decide) (by decide) w_361 rfl (okO_of (N := 15) (hL.sh (i := 27) rfl (by decide) (by decide)) (by decide)) ?_
    refine eqR (y := 56) (hL.rf (i := 27) rfl) ?_
    refine r_aload_n (pc := 97) dX8_fillTable_97 rfl rfl ?_
    refine r_getI (pc := 98) dX8_fillTable_98 (k9 := 12) CL_8 (by decide) (by decide) w_374 rfl (okO_of (N := 15) (hL.sh (i := 27) rfl (by decide) (by decide)) (by decide)) (fun _ => ?_)
    refine r_iload_n (pc := 101) dX8_fillTable_101 rfl rfl ?_
    obtain ⟨o13, h⟩ := h
    refine r_iadd (pc := 102) dX8_fillTable_102 o13 ?_
    obtain ⟨o14, h⟩ := h
    refine r_aaload (pc := 103) dX8_fillTable_103 (okB_of (c := 24) (n := 12) (hL.sh (i := 29) rfl (by decide) (by decide)) (by decide) o14) ?_
    have q15 : 57 ≤ 57 + ((gI τ12 54 12) + x2).toNat ∧ 57 + ((gI τ12 54 12) + x2).toNat < 69 := ⟨Nat.le_add_right _ _, rowB o14 (by decide)⟩
    refine eqR (y := 57 + ((gI τ12 54 12) + x2).toNat) (hL.rx (i := 0) rfl (rowC o14 (by decide))) ?_
    refine r_iload (pc := 104) dX8_fillTable_104 rfl ?_
    obtain ⟨o16, h⟩ := h
    refine r_iaload (pc := 106) dX8_fillTable_106 (okA_of (c := 20) (n := 12) (hL.sh (i := 30) rfl q15.1 q15.2) (Nat.le_trans (by decide) q15.1) o16) ?_
    obtain ⟨o17, h⟩ := h
    refine r_imul (pc := 107) dX8_fillTable_107 o17 ?_
    refine nmI (fun v18 e9 => ?_)
    replace h := h v18 e9
    obtain ⟨o19, h⟩ := h
    refine r_iadd (pc := 108) dX8_fillTable_108 o19 ?_
    refine r_istore (pc := 109) dX8_fillTable_109 (by decide) (l2 := [some (vr 54), some (vi x1), some (vi x2), some (vi x3), some (vi (x4 + v18)), some (vi x5)]) rfl ?_
    obtain ⟨o20, h⟩ := h
    refine r_iinc (pc := 111) dX8_fillTable_111 rfl (by decide) o20 (l2 := [some (vr 54), some (vi x1), some (vi x2), some (vi x3), some (vi (x4 + v18)), some (vi (x5 + 1))]) rfl ?_
    refine r_goto (pc := 114) (tgt := 63) dX8_fillTable_114 (by decide) ?_
    exact (h hL)
theorem C_X8_fillTable {a0 : Nat} {x1 : Int} (h : GG E mX8_fillTable 0 [some (vr a0), some (vi x1), none, none, none, none] [] σ 0 0 Q) : CC E mX8_fillTable [vr a0, vi x1] σ Q := CC.of (by decide +kernel) rfl (by decide +kernel) (fun h9 => nomatch h9) (Nat.le_of_ble_eq_true rfl) h
theorem dX8_firstFilled_0 : decode cX8_firstFilled 0 = .ok (.iconst 0, 1) := by decide +kernel
theorem dX8_firstFilled_1 : decode cX8_firstFilled 1 = .ok (.istore_n 2, 1) := by decide +kernel
theorem dX8_firstFilled_2 : decode cX8_firstFilled 2 = .ok (.iload_n 2, 1) := by decide +kernel
theorem dX8_firstFilled_3 : decode cX8_firstFilled 3 = .ok (.aload_n 0, 1) := by decide +kernel
theorem dX8_firstFilled_4 : decode cX8_firstFilled 4 = .ok (.getfield 60, 3) := by decide +kernel
theorem dX8_firstFilled_7 : decode cX8_firstFilled 7 = .ok (.if_icmp .ge 17, 3) := by decide +kernel
theorem dX8_firstFilled_10 : decode cX8_firstFilled 10 = .ok (.aload_n 1, 1) := by decide +kernel
theorem dX8_firstFilled_11 : decode cX8_firstFilled 11 = .ok (.iload_n 2, 1) := by decide +kernel
theorem dX8_firstFilled_12 : decode cX8_firstFilled 12 = .ok (.iaload, 1) := by decide +kernel
theorem dX8_firstFilled_13 : decode cX8_firstFilled 13 = .ok (.ifCond .eq 5, 3) := by decide +kernel
theorem dX8_firstFilled_16 : decode cX8_firstFilled 16 = .ok (.iload_n 2, 1) := by decide +kernel
theorem dX8_firstFilled_17 : decode cX8_firstFilled 17 = .ok (.ireturn, 1) := by decide +kernel
theorem dX8_firstFilled_18 : decode cX8_firstFilled 18 = .ok (.iinc 2 1, 3) := by decide +kernel
theorem dX8_firstFilled_21 : decode cX8_firstFilled 21 = .ok (.goto (-19), 3) := by decide +kernel
theorem dX8_firstFilled_24 : decode cX8_firstFilled 24 = .ok (.iconst 0, 1) := by decide +kernel
theorem dX8_firstFilled_25 : decode cX8_firstFilled 25 = .ok (.ireturn, 1) := by decide +kernel
theorem B_X8_firstFilled_0 {g : Sg} {c t : Nat} (hL : Lay LC g c t σ) {a1 : Nat} {n1 : Nat} (p1 : PA LC a1 n1) (h : (Lay LC g c t σ → GG E mX8_firstFilled 2 [some (vr 54), some (vr a1), some (vi 0)] [] σ rc rs Q)) : GG E mX8_firstFilled 0 [some (vr 54), some (vr a1), none] [] σ rc rs Q := by
  refine r_iconst (pc := 0) dX8_firstFilled_0 (inRk rfl) ?_
  refine r_istore_n (pc := 1) dX8_firstFilled_1 rfl (by decide) (l2 := [some (vr 54), some (vr a1), some (vi 0)]) rfl ?_
  exact (h hL)
theorem B_X8_firstFilled_2 {g : Sg} {c t : Nat} (hL : Lay LC g c t σ) {a1 : Nat} {n1 : Nat} (p1 : PA LC a1 n1) {x2 : Int} (h : (((gI σ 54 11) ≤ x2 → (Lay LC g c t σ → Q (.inl (some (vi 0))) σ)) ∧ (¬ ((gI σ 54 11) ≤ x2) → (0 ≤ x2 ∧ x2 < (n1 : Int)) ∧ (((gI σ a1 x2.toNat) = 0 → inR (x2 + 1) ∧ (Lay LC g c t σ → GG E mX8_firstFilled 2 [some (vr 54), some (vr a1), some (vi (x2 + 1))] [] σ rc rs Q)) ∧ (¬ ((gI σ a1 x2.toNat) = 0) → (Lay LC g c t σ → Q (.inl (some (vi x2))) σ)))))) : GG E mX8_firstFilled 2 [some (vr 54), some (vr a1), some (vi x2)] [] σ rc rs Q := by
  refine r_iload_n (pc := 2) dX8_firstFilled_2 rfl rfl ?_
  refine r_aload_n (pc := 3) dX8_firstFilled_3 rfl rfl ?_
  refine r_getI (pc := 4) dX8_firstFilled_4 (k9 := 11) CL_8 (by decide) (by decide) w_372 rfl (okO_of (N := 15) (hL.sh (i := 27) rfl (by decide) (by decide)) (by decide)) (fun _ => ?_)
  refine r_icmp_ge (pc := 7) (tgt := 24) dX8_firstFilled_7 (by decide) (fun c9 => ?_) (fun c9 => ?_)
  · replace h := h.1 c9
    refine r_iconst (pc := 24) dX8_firstFilled_24 (inRk rfl) ?_
    exact r_ireturn (pc := 25) (ty := .int) dX8_firstFilled_25 (by decide +kernel) rfl (nar_i _) (h hL)
  · replace h := h.2 c9
    refine r_aload_n (pc := 10) dX8_firstFilled_10 rfl rfl ?_
    refine r_iload_n (pc := 11) dX8_firstFilled_11 rfl rfl ?_
    obtain ⟨o1, h⟩ := h
    refine r_iaload (pc := 12) dX8_firstFilled_12 (okA_of (c := 20) (n := n1) (p1.sh hL) p1.2.2.1 o1) ?_
    refine r_if_eq (pc := 13) (tgt := 18) dX8_firstFilled_13 (by decide) (fun c9 => ?_) (fun c9 => ?_)
    · replace h := h.1 c9
      obtain ⟨o2, h⟩ := h
      refine r_iinc (pc := 18) dX8_firstFilled_18 rfl (by decide) o2 (l2 := [some (vr 54), some (vr a1), some (vi (x2 + 1))]) rfl ?_
      refine r_goto (pc := 21) (tgt := 2) dX8_firstFilled_21 (by decide) ?_
      exact (h hL)
    · replace h := h.2 c9
      refine r_iload_n (pc := 16) dX8_firstFilled_16 rfl rfl ?_
      exact r_ireturn (pc := 17) (ty := .int) dX8_firstFilled_17 (by decide +kernel) rfl (nar_i _) (h hL)
theorem C_X8_firstFilled {a0 : Nat} {a1 : Nat} (h : GG E mX8_firstFilled 0 [some (vr a0), some (vr a1), none] [] σ 0 0 Q) : CC E mX8_firstFilled [vr a0, vr a1] σ Q := CC.of (by decide +kernel) rfl (by decide +kernel) (fun h9 => nomatch h9) (Nat.le_of_ble_eq_true rfl) h
theorem dX8_init_0 : decode cX8_init 0 = .ok (.aload_n 0, 1) := by decide +kernel
theorem dX8_init_1 : decode cX8_init 1 = .ok (.invokespecial 3, 3) := by decide +kernel
theorem dX8_init_4 : decode cX8_init 4 = .ok (.aload_n 0, 1) := by decide +kernel
theorem dX8_init_5 : decode cX8_init 5 = .ok (.sipush 1728, 3) := by decide +kernel
theorem dX8_init_8 : decode cX8_init 8 = .ok (.newarray .int, 2) := by decide +kernel
theorem dX8_init_10 : decode cX8_init 10 = .ok (.putfield 9, 3) := by decide +kernel
theorem dX8_init_13 : decode cX8_init 13 = .ok (.aload_n 0, 1) := by decide +kernel
theorem dX8_init_14 : decode cX8_init 14 = .ok (.bipush 12, 2) := by decide +kernel
theorem dX8_init_16 : decode cX8_init 16 = .ok (.bipush 12, 2) := by decide +kernel
theorem dX8_init_18 : decode cX8_init 18 = .ok (.multianewarray 15 2, 4) := by decide +kernel
theorem dX8_init_22 : decode cX8_init 22 = .ok (.putfield 17, 3) := by decide +kernel
theorem dX8_init_25 : decode cX8_init 25 = .ok (.aload_n 0, 1) := by decide +kernel
theorem dX8_init_26 : decode cX8_init 26 = .ok (.bipush 12, 2) := by decide +kernel
theorem dX8_init_28 : decode cX8_init 28 = .ok (.bipush 12, 2) := by decide +kernel
theorem dX8_init_30 : decode cX8_init 30 = .ok (.multianewarray 15 2, 4) := by decide +kernel
theorem dX8_init_34 : decode cX8_init 34 = .ok (.putfield 20, 3) := by decide +kernel
theorem dX8_init_37 : decode cX8_init 37 = .ok (.aload_n 0, 1) := by decide +kernel
theorem dX8_init_38 : decode cX8_init 38 = .ok (.bipush 12, 2) := by decide +kernel
theorem dX8_init_40 : decode cX8_init 40 = .ok (.bipush 12, 2) := by decide +kernel
theorem dX8_init_42 : decode cX8_init 42 = .ok (.multianewarray 15 2, 4) := by decide +kernel
theorem dX8_init_46 : decode cX8_init 46 = .ok (.putfield 23, 3) := by decide +kernel
theorem dX8_init_49 : decode cX8_init 49 = .ok (.aload_n 0, 1) := by decide +kernel
theorem dX8_init_50 : decode cX8_init 50 = .ok (.bipush 12, 2) := by decide +kernel
theorem dX8_init_52 : decode cX8_init 52 = .ok (.bipush 12, 2) := by decide +kernel
theorem dX8_init_54 : decode cX8_init 54 = .ok (.multianewarray 15 2, 4) := by decide +kernel
theorem dX8_init_58 : decode cX8_init 58 = .ok (.putfield 26, 3) := by decide +kernel
theorem dX8_init_61 : decode cX8_init 61 = .ok (.aload_n 0, 1) := by decide +kernel
theorem dX8_init_62 : decode cX8_init 62 = .ok (.bipush 12, 2) := by decide +kernel
theorem dX8_init_64 : decode cX8_init 64 = .ok (.bipush 24, 2) := by decide +kernel
theorem dX8_init_66 : decode cX8_init 66 = .ok (.multianewarray 15 2, 4) := by decide +kernel
theorem dX8_init_70 : decode cX8_init 70 = .ok (.putfield 29, 3) := by decide +kernel
theorem dX8_init_73 : decode cX8_init 73 = .ok (.aload_n 0, 1) := by decide +kernel
theorem dX8_init_74 : decode cX8_init 74 = .ok (.bipush 12, 2) := by decide +kernel
theorem dX8_init_76 : decode cX8_init 76 = .ok (.newarray .int, 2) := by decide +kernel
theorem dX8_init_78 : decode cX8_init 78 = .ok (.putfield 32, 3) := by decide +kernel
theorem dX8_init_81 : decode cX8_init 81 = .ok (.aload_n 0, 1) := by decide +kernel
theorem dX8_init_82 : decode cX8_init 82 = .ok (.bipush 12, 2) := by decide +kernel
theorem dX8_init_84 : decode cX8_init 84 = .ok (.newarray .int, 2) := by decide +kernel
theorem dX8_init_86 : decode cX8_init 86 = .ok (.putfield 35, 3) := by decide +kernel
theorem dX8_init_89 : decode cX8_init 89 = .ok (.aload_n 0, 1) := by decide +kernel
theorem dX8_init_90 : decode cX8_init 90 = .ok (.bipush 13, 2) := by decide +kernel
theorem dX8_init_92 : decode cX8_init 92 = .ok (.newarray .int, 2) := by decide +kernel
theorem dX8_init_94 : decode cX8_init 94 = .ok (.putfield 38, 3) := by decide +kernel
theorem dX8_init_97 : decode cX8_init 97 = .ok (.aload_n 0, 1) := by decide +kernel
theorem dX8_init_98 : decode cX8_init 98 = .ok (.bipush 12, 2) := by decide +kernel
theorem dX8_init_100 : decode cX8_init 100 = .ok (.newarray .int, 2) := by decide +kernel
theorem dX8_init_102 : decode cX8_init 102 = .ok (.putfield 41, 3) := by decide +kernel
theorem dX8_init_105 : decode cX8_init 105 = .ok (.aload_n 0, 1) := by decide +kernel
theorem dX8_init_106 : decode cX8_init 106 = .ok (.aload_n 1, 1) := by decide +kernel
theorem dX8_init_107 : decode cX8_init 107 = .ok (.putfield 44, 3) := by decide +kernel
theorem dX8_init_110 : decode cX8_init 110 = .ok (.return_, 1) := by decide +kernel
theorem B_X8_init_0 {a0 : Nat} {a1 : Nat} (h : 16 ≤ a0 ∧ 1 ≤ rc ∧ 1728 ≤ rs ∧ ∀ b1 : Nat, b1 = gz σ → okO (nw σ (20, 1728)) a0 8 ∧ ∀ τ3 : Sg, τ3 = sR (nw σ (20, 1728)) a0 0 b1 → 13 ≤ rc - 1 ∧ 156 ≤ rs - 1728 ∧ ∀ b4 : Nat, b4 = gz τ3 → okO (nm τ3 12 12) a0 8 ∧ ∀ τ6 : Sg, τ6 = sR (nm τ3 12 12) a0 1 b4 → 13 ≤ rc - 1 - 13 ∧ 156 ≤ rs - 1728 - 156 ∧ ∀ b7 : Nat, b7 = gz τ6 → okO (nm τ6 12 12) a0 8 ∧ ∀ τ9 : Sg, τ9 = sR (nm τ6 12 12) a0 2 b7 → 13 ≤ rc - 1 - 13 - 13 ∧ 156 ≤ rs - 1728 - 156 - 156 ∧ ∀ b10 : Nat, b10 = gz τ9 → okO (nm τ9 12 12) a0 8 ∧ ∀ τ12 : Sg, τ12 = sR (nm τ9 12 12) a0 3 b10 → 13 ≤ rc - 1 - 13 - 13 - 13 ∧ 156 ≤ rs - 1728 - 156 - 156 - 156 ∧ ∀ b13 : Nat, b13 = gz τ12 → okO (nm τ12 12 12) a0 8 ∧ ∀ τ15 : Sg, τ15 = sR (nm τ12 12 12) a0 4 b13 → 13 ≤ rc - 1 - 13 - 13 - 13 - 13 ∧ 300 ≤ rs - 1728 - 156 - 156 - 156 - 156 ∧ ∀ b16 : Nat, b16 = gz τ15 → okO (nm τ15 12 24) a0 8 ∧ ∀ τ18 : Sg, τ18 = sR (nm τ15 12 24) a0 5 b16 → 1 ≤ rc - 1 - 13 - 13 - 13 - 13 - 13 ∧ 12 ≤ rs - 1728 - 156 - 156 - 156 - 156 - 300 ∧ ∀ b19 : Nat, b19 = gz τ18 → okO (nw τ18 (20, 12)) a0 8 ∧ ∀ τ21 : Sg, τ21 = sR (nw τ18 (20, 12)) a0 6 b19 → 1 ≤ rc - 1 - 13 - 13 - 13 - 13 - 13 - 1 ∧ 12 ≤ rs - 1728 - 156 - 156 - 156 - 156 - 300 - 12 ∧ ∀ b22 : Nat, b22 = gz τ21 → okO (nw τ21 (20, 12)) a0 8 ∧ ∀ τ24 : Sg, τ24 = sR (nw τ21 (20, 12)) a0 7 b22 → 1 ≤ rc - 1 - 13 - 13 - 13 - 13 - 13 - 1 - 1 ∧ 13 ≤ rs - 1728 - 156 - 156 - 156 - 156 - 300 - 12 - 12 ∧ ∀ b25 : Nat, b25 = gz τ24 → okO (nw τ24 (20, 13)) a0 8 ∧ ∀ τ27 : Sg, τ27 = sR (nw τ24 (20, 13)) a0 8 b25 → 1 ≤ rc - 1 - 13 - 13 - 13 - 13 - 13 - 1 - 1 - 1 ∧ 12 ≤ rs - 1728 - 156 - 156 - 156 - 156 - 300 - 12 - 12 - 13 ∧ ∀ b28 : Nat, b28 = gz τ27 → okO (nw τ27 (20, 12)) a0 8 ∧ ∀ τ30 : Sg, τ30 = sR (nw τ27 (20, 12)) a0 9 b28 → okO τ30 a0 8 ∧ ∀ τ32 : Sg, τ32 = sR τ30 a0 10 a1 → Q (.inl none) τ32) : GG E mX8_init 0 [some (vr a0), some (vr a1)] [] σ rc rs Q := by
  refine r_aload_n (pc := 0) dX8_init_0 rfl rfl ?_
  refine r_objInit (pc := 1) dX8_init_1 w_358 w_129 w_130 (by decide) (Nat.le_of_ble_eq_true rfl) h.1 ?_
  replace h := h.2
  refine r_aload_n (pc := 4) dX8_init_4 rfl rfl ?_
  refine r_sipush (pc := 5) dX8_init_5 (by decide) ?_
  refine r_newarray (pc := 8) dX8_init_8 (cc := 20) rfl (by decide) (by decide) w_175 (by decide) (by decide) h.1 h.2.1 ?_
  replace h := h.2.2
  change GG _ _ _ _ (vr _ :: _) (nw _ (20, 1728)) (_ - 1) (_ - 1728) _
  refine nmR (fun b1 e9 => ?_)
  replace h := h b1 e9
  obtain ⟨o2, h⟩ := h
  refine r_putRF (pc := 10) dX8_init_10 (k9 := 0) CL_8 (by decide) (by decide) w_360 rfl rfl rfl rfl o2 ?_
  refine nmS (fun τ3 e3 => ?_)
  replace h := h τ3 e3
  refine r_aload_n (pc := 13) dX8_init_13 rfl rfl ?_
  refine r_bipush (pc := 14) dX8_init_14 (by decide) ?_
  refine r_bipush (pc := 16) dX8_init_16 (by decide) ?_
  refine r_mna (pc := 18) dX8_init_18 w_359 w_175 (by decide) (by decide) (by decide) (by decide) h.1 h.2.1 ?_
  replace h := h.2.2
  change GG _ _ _ _ (vr _ :: _) (nm _ 12 12) (_ - 13) (_ - 156) _
  refine nmR (fun b4 e9 => ?_)
  replace h := h b4 e9
  obtain ⟨o5, h⟩ := h
  refine r_putRF (pc := 22) dX8_init_22 (k9 := 1) CL_8 (by decide) (by decide) w_361 rfl rfl rfl rfl o5 ?_
  refine nmS (fun τ6 e6 => ?_)
  replace h := h τ6 e6
  refine r_aload_n (pc := 25) dX8_init_25 rfl rfl ?_
  refine r_bipush (pc := 26) dX8_init_26 (by decide) ?_
  refine r_bipush (pc := 28) dX8_init_28 (by decide) ?_
  refine r_mna (pc := 30) dX8_init_30 w_359 w_175 (by decide) (by decide) (by decide) (by decide) h.1 h.2.1 ?_
  replace h := h.2.2
  change GG _ _ _ _ (vr _ :: _) (nm _ 12 12) (_ - 13) (_ - 156) _
  refine nmR (fun b7 e9 => ?_)
  replace h := h b7 e9
  obtain ⟨o8, h⟩ := h
  refine r_putRF (pc := 34) dX8_init_34 (k9 := 2) CL_8 (by decide) (by decide) w_363 rfl rfl rfl rfl o8 ?_
  refine nmS (fun τ9 e9 => ?_)
  replace h := h τ9 e9
  refine r_aload_n (pc := 37) dX8_init_37 rfl rfl ?_
  refine r_bipush (pc := 38) dX8_init_38 (by decide) ?_
  refine r_bipush (pc := 40) dX8_init_40 (by decide) ?_
  refine r_mna (pc := 42) dX8_init_42 w_359 w_175 (by decide) (by decide) (by decide) (by decide) h.1 h.2.1 ?_
  replace h := h.2.2
  change GG _ _ _ _ (vr _ :: _) (nm _ 12 12) (_ - 13) (_ - 156) _
  refine nmR (fun b10 e9 => ?_)
  replace h := h b10 e9
  obtain ⟨o11, h⟩ := h
  refine r_putRF (pc := 46) dX8_init_46 (k9 := 3) CL_8 (by decide) (by decide) w_364 rfl rfl rfl rfl o11 ?_
  refine nmS (fun τ12 e12 => ?_)
  replace h := h τ12 e12
  refine r_aload_n (pc := 49) dX8_init_49 rfl rfl ?_
  refine r_bipush (pc := 50) dX8_init_50 (by decide) ?_
  refine r_bipush (pc := 52) dX8_init_52 (by decide) ?_
  refine r_mna (pc := 54) dX8_init_54 w_359 w_175 (by decide) (by decide) (by decide) (by decide) h.1 h.2.1 ?_
  replace h := h.2.2
  change GG _ _ _ _ (vr _ :: _) (nm _ 12 12) (_ - 13) (_ - 156) _
  refine nmR (fun b13 e9 => ?_)
  replace h := h b13 e9
  obtain ⟨o14, h⟩ := h
  refine r_putRF (pc := 58) dX8_init_58 (k9 := 4) CL_8 (by decide) (by decide) w_365 rfl rfl rfl rfl o14 ?_
  refine nmS (fun τ15 e15 => ?_)
  replace h := h τ15 e15
  refine r_aload_n (pc := 61) dX8_init_61 rfl rfl ?_
  refine r_bipush (pc := 62) dX8_init_62 (by decide) ?_
  refine r_bipush (pc := 64) dX8_init_64 (by decide) ?_
  refine r_mna (pc := 66) dX8_init_66 w_359 w_175 (by decide) (by decide) (by decide) (by decide) h.1 h.2.1 ?_
  replace h := h.2.2
  change GG _ _ _ _ (vr _ :: _) (nm _ 12 24) (_ - 13) (_ - 300) _
  refine nmR (fun b16 e9 => ?_)
  replace h := h b16 e9
  obtain ⟨o17, h⟩ := h
  refine r_putRF (pc := 70) dX8_init_70 (k9 := 5) CL_8 (by decide) (by decide) w_366 rfl rfl rfl rfl o17 ?_
  refine nmS (fun τ18 e18 => ?_)
  replace h := h τ18 e18
  refine r_aload_n (pc := 73) dX8_init_73 rfl rfl ?_
  refine r_bipush (pc := 74) dX8_init_74 (by decide) ?_
  refine r_newarray (pc := 76) dX8_init_76 (cc := 20) rfl (by decide) (by decide) w_175 (by decide) (by decide) h.1 h.2.1 ?_
  replace h := h.2.2
  change GG _ _ _ _ (vr _ :: _) (nw _ (20, 12)) (_ - 1) (_ - 12) _
  refine nmR (fun b19 e9 => ?_)
  replace h := h b19 e9
  obtain ⟨o20, h⟩ := h
  refine r_putRF (pc := 78) dX8_init_78 (k9 := 6) CL_8 (by decide) (by decide) w_367 rfl rfl rfl rfl o20 ?_
  refine nmS (fun τ21 e21 => ?_)
  replace h := h τ21 e21
  refine r_aload_n (pc := 81) dX8_init_81 rfl rfl ?_
  refine r_bipush (pc := 82) dX8_init_82 (by decide) ?_
  refine r_newarray (pc := 84) dX8_init_84 (cc := 20) rfl (by decide) (by decide) w_175 (by decide) (by decide) h.1 h.2.1 ?_
  replace h := h.2.2
  change GG _ _ _ _ (vr _ :: _) (nw _ (20, 12)) (_ - 1) (_ - 12) _
  refine nmR (fun b22 e9 => ?_)
  replace h := h b22 e9
  obtain ⟨o23, h⟩ := h
  refine r_putRF (pc := 86) dX8_init_86 (k9 := 7) CL_8 (by decide) (by decide) w_368 rfl rfl rfl rfl o23 ?_
  refine nmS (fun τ24 e24 => ?_)
  replace h := h τ24 e24
  refine r_aload_n (pc := 89) dX8_init_89 rfl rfl ?_
  refine r_bipush (pc := 90) dX8_init_90 (by decide) ?_
  refine r_newarray (pc := 92) dX8_init_92 (cc := 20) rfl (by decide) (by decide) w_175 (by decide) (by decide) h.1 h.2.1 ?_
  replace h := h.2.2
  change GG _ _ _ _ (vr _ :: _) (nw _ (20, 13)) (_ - 1) (_ - 13) _
  refine nmR (fun b25 e9 => ?_)
  replace h := h b25 e9
  obtain ⟨o26, h⟩ := h
  refine r_putRF (pc := 94) dX8_init_94 (k9 := 8) CL_8 (by decide) (by decide) w_369 rfl rfl rfl rfl o26 ?_
  refine nmS (fun τ27 e27 => ?_)
  replace h := h τ27 e27
  refine r_aload_n (pc := 97) dX8_init_97 rfl rfl ?_
  refine r_bipush (pc := 98) dX8_init_98 (by decide) ?_
  refine r_newarray (pc := 100) dX8_init_100 (cc := 20) rfl (by decide) (by decide) w_175 (by decide) (by decide) h.1 h.2.1 ?_
  replace h := h.2.2
  change GG _ _ _ _ (vr _ :: _) (nw _ (20, 12)) (_ - 1) (_ - 12) _
  refine nmR (fun b28 e9 => ?_)
  replace h := h b28 e9
  obtain ⟨o29, h⟩ := h
  refine r_putRF (pc := 102) dX8_init_102 (k9 := 9) CL_8 (by decide) (by decide) w_370 rfl rfl rfl rfl o29 ?_
  refine nmS (fun τ30 e30 => ?_)
  replace h := h τ30 e30
  refine r_aload_n (pc := 105) dX8_init_105 rfl rfl ?_
  refine r_aload_n (pc := 106) dX8_init_106 rfl rfl ?_
  obtain ⟨o31, h⟩ := h
  refine r_putRF (pc := 107) dX8_init_107 (k9 := 10) CL_8 (by decide) (by decide) w_371 rfl rfl rfl rfl o31 ?_
  refine nmS (fun τ32 e32 => ?_)
  replace h := h τ32 e32
  exact r_return (pc := 110) dX8_init_110 (by decide +kernel) rfl h
theorem C_X8_init {a0 : Nat} {a1 : Nat} (h : GG E mX8_init 0 [some (vr a0), some (vr a1)] [] σ 70 2701 Q) : CC E mX8_init [vr a0, vr a1] σ Q := CC.of (by decide +kernel) rfl (by decide +kernel) (fun h9 => rfl) (Nat.le_of_ble_eq_true rfl) h
theorem dX8_mixRows_0 : decode cX8_mixRows 0 = .ok (.iconst 0, 1) := by decide +kernel
theorem dX8_mixRows_1 : decode cX8_mixRows 1 = .ok (.istore_n 3, 1) := by decide +kernel
theorem dX8_mixRows_2 : decode cX8_mixRows 2 = .ok (.iload_n 3, 1) := by decide +kernel
theorem dX8_mixRows_3 : decode cX8_mixRows 3 = .ok (.aload_n 0, 1) := by decide +kernel
theorem dX8_mixRows_4 : decode cX8_mixRows 4 = .ok (.getfield 60, 3) := by decide +kernel
theorem dX8_mixRows_7 : decode cX8_mixRows 7 = .ok (.if_icmp .ge 71, 3) := by decide +kernel
theorem dX8_mixRows_10 : decode cX8_mixRows 10 = .ok (.iconst 0, 1) := by decide +kernel
theorem dX8_mixRows_11 : decode cX8_mixRows 11 = .ok (.istore 4, 2) := by decide +kernel
theorem dX8_mixRows_13 : decode cX8_mixRows 13 = .ok (.iconst 0, 1) := by decide +kernel
theorem dX8_mixRows_14 : decode cX8_mixRows 14 = .ok (.istore 5, 2) := by decide +kernel
theorem dX8_mixRows_16 : decode cX8_mixRows 16 = .ok (.iload 5, 2) := by decide +kernel
theorem dX8_mixRows_18 : decode cX8_mixRows 18 = .ok (.aload_n 0, 1) := by decide +kernel
theorem dX8_mixRows_19 : decode cX8_mixRows 19 = .ok (.getfield 87, 3) := by decide +kernel
theorem dX8_mixRows_22 : decode cX8_mixRows 22 = .ok (.if_icmp .ge 38, 3) := by decide +kernel
theorem dX8_mixRows_25 : decode cX8_mixRows 25 = .ok (.iload 4, 2) := by decide +kernel
theorem dX8_mixRows_27 : decode cX8_mixRows 27 = .ok (.aload_n 1, 1) := by decide +kernel
theorem dX8_mixRows_28 : decode cX8_mixRows 28 = .ok (.aload_n 0, 1) := by decide +kernel
theorem dX8_mixRows_29 : decode cX8_mixRows 29 = .ok (.getfield 87, 3) := by decide +kernel
theorem dX8_mixRows_32 : decode cX8_mixRows 32 = .ok (.iload 5, 2) := by decide +kernel
theorem dX8_mixRows_34 : decode cX8_mixRows 34 = .ok (.iadd, 1) := by decide +kernel
theorem dX8_mixRows_35 : decode cX8_mixRows 35 = .ok (.iaload, 1) := by decide +kernel
theorem dX8_mixRows_36 : decode cX8_mixRows 36 = .ok (.aload_n 0, 1) := by decide +kernel
theorem dX8_mixRows_37 : decode cX8_mixRows 37 = .ok (.getfield 17, 3) := by decide +kernel
theorem dX8_mixRows_40 : decode cX8_mixRows 40 = .ok (.aload_n 0, 1) := by decide +kernel
theorem dX8_mixRows_41 : decode cX8_mixRows 41 = .ok (.getfield 84, 3) := by decide +kernel
theorem dX8_mixRows_44 : decode cX8_mixRows 44 = .ok (.iload 5, 2) := by decide +kernel
theorem dX8_mixRows_46 : decode cX8_mixRows 46 = .ok (.iadd, 1) := by decide +kernel
theorem dX8_mixRows_47 : decode cX8_mixRows 47 = .ok (.aaload, 1) := by decide +kernel
theorem dX8_mixRows_48 : decode cX8_mixRows 48 = .ok (.iload_n 3, 1) := by decide +kernel
theorem dX8_mixRows_49 : decode cX8_mixRows 49 = .ok (.iaload, 1) := by decide +kernel
theorem dX8_mixRows_50 : decode cX8_mixRows 50 = .ok (.imul, 1) := by decide +kernel
theorem dX8_mixRows_51 : decode cX8_mixRows 51 = .ok (.iadd, 1) := by decide +kernel
theorem dX8_mixRows_52 : decode cX8_mixRows 52 = .ok (.istore 4, 2) := by decide +kernel
theorem dX8_mixRows_54 : decode cX8_mixRows 54 = .ok (.iinc 5 1, 3) := by decide +kernel
theorem dX8_mixRows_57 : decode cX8_mixRows 57 = .ok (.goto (-41), 3) := by decide +kernel
theorem dX8_mixRows_60 : decode cX8_mixRows 60 = .ok (.aload_n 2, 1) := by decide +kernel
theorem dX8_mixRows_61 : decode cX8_mixRows 61 = .ok (.iload_n 3, 1) := by decide +kernel
theorem dX8_mixRows_62 : decode cX8_mixRows 62 = .ok (.aload_n 0, 1) := by decide +kernel
theorem dX8_mixRows_63 : decode cX8_mixRows 63 = .ok (.getfield 44, 3) := by decide +kernel
theorem dX8_mixRows_66 : decode cX8_mixRows 66 = .ok (.iload 4, 2) := by decide +kernel
theorem dX8_mixRows_68 : decode cX8_mixRows 68 = .ok (.invokevirtual 119, 3) := by decide +kernel
theorem dX8_mixRows_71 : decode cX8_mixRows 71 = .ok (.iastore, 1) := by decide +kernel
theorem dX8_mixRows_72 : decode cX8_mixRows 72 = .ok (.iinc 3 1, 3) := by decide +kernel
theorem dX8_mixRows_75 : decode cX8_mixRows 75 = .ok (.goto (-73), 3) := by decide +kernel
theorem dX8_mixRows_78 : decode cX8_mixRows 78 = .ok (.return_, 1) := by decide +kernel
theorem B_X8_mixRows_0 {g : Sg} {c t : Nat} (hL : Lay LC g c t σ) {a1 : Nat} {n1 : Nat} (p1 : PA LC a1 n1) {a2 : Nat} {n2 : Nat} (p2 : PA LC a2 n2) (h : (Lay LC g c t σ → GG E mX8_mixRows 2 [some (vr 54), some (vr a1), some (vr a2), some (vi 0), none, none] [] σ rc rs Q)) : GG E mX8_mixRows 0 [some (vr 54), some (vr a1), some (vr a2), none, none, none] [] σ rc rs Q := by
  refine r_iconst (pc := 0) dX8_mixRows_0 (inRk rfl) ?_
  refine r_istore_n (pc := 1) dX8_mixRows_1 rfl (by decide) (l2 := [some (vr 54), some (vr a1), some (vr a2), some (vi 0), none, none]) rfl ?_
  exact (h hL)
theorem B_X8_mixRows_2 {g : Sg} {c t : Nat} (hL : Lay LC g c t σ) {a1 : Nat} {n1 : Nat} (p1 : PA LC a1 n1) {a2 : Nat} {n2 : Nat} (p2 : PA LC a2 n2) {x3 : Int} (h : (((gI σ 54 11) ≤ x3 → (Lay LC g c t σ → Q (.inl none) σ)) ∧ (¬ ((gI σ 54 11) ≤ x3) → (Lay LC g c t σ → GG E mX8_mixRows 16 [some (vr 54), some (vr a1), some (vr a2), some (vi x3), some (vi 0), some (vi 0)] [] σ rc rs Q)))) : GG E mX8_mixRows 2 [some (vr 54), some (vr a1), some (vr a2), some (vi x3), none, none] [] σ rc rs Q := by
  refine r_iload_n (pc := 2) dX8_mixRows_2 rfl rfl ?_
  refine r_aload_n (pc := 3) dX8_mixRows_3 rfl rfl ?_
  refine r_getI (pc := 4) dX8_mixRows_4 (k9 := 11) CL_8 (by decide) (by decide) w_372 rfl (okO_of (N := 15) (hL.sh (i := 27) rfl (by decide) (by decide)) (by decide)) (fun _ => ?_)
  refine r_icmp_ge (pc := 7) (tgt := 78) dX8_mixRows_7 (by decide) (fun c9 => ?_) (fun c9 => ?_)
  · replace h := h.1 c9
    exact r_return (pc := 78) dX8_mixRows_78 (by decide +kernel) rfl (h hL)
  · replace h := h.2 c9
    refine r_iconst (pc := 10) dX8_mixRows_10 (inRk rfl) ?_
    refine r_istore (pc := 11) dX8_mixRows_11 (by decide) (l2 := [some (vr 54), some (vr a1), some (vr a2), some (vi x3), some (vi 0), none]) rfl ?_
    refine r_iconst (pc := 13) dX8_mixRows_13 (inRk rfl) ?_
    refine r_istore (pc := 14) dX8_mixRows_14 (by decide) (l2 := [some (vr 54), some (vr a1), some (vr a2), some (vi x3), some (vi 0), some (vi 0)]) rfl ?_
    exact (h hL)
theorem B_X8_mixRows_16 {g : Sg} {c t : Nat} (hL : Lay LC g c t σ) {a1 : Nat} {n1 : Nat} (p1 : PA LC a1 n1) {a2 : Nat} {n2 : Nat} (p2 : PA LC a2 n2) {x3 : Int} {x4 : Int} {x5 : Int} (h : (((gI σ 54 13) ≤ x5 → (Lay LC g c t σ → CC E mX2_mod [vr 35, vi x4] σ (KI (fun r1 τ2 => Lay LC g c t τ2 ∧ (inR r1 → (0 ≤ x3 ∧ x3 < (n2 : Int)) ∧ ∀ τ4 : Sg, τ4 = sI τ2 a2 x3.toNat r1 → inR (x3 + 1) ∧ (Lay LC g c t τ4 → GG E mX8_mixRows 2 [some (vr 54), some (vr a1), some (vr a2), some (vi (x3 + 1)), none, none] [] τ4 rc rs Q))) (fun _ _ => False)))) ∧ (¬ ((gI σ 54 13) ≤ x5) → inR ((gI σ 54 13) + x5) ∧ (0 ≤ ((gI σ 54 13) + x5) ∧ ((gI σ 54 13) + x5) < (n1 : Int)) ∧ inR ((gI σ 54 12) + x5) ∧ (0 ≤ ((gI σ 54 12) + x5) ∧ ((gI σ 54 12) + x5) < 12) ∧ (0 ≤ x3 ∧ x3 < 12) ∧ inR ((gI σ a1 ((gI σ 54 13) + x5).toNat) * (gI σ (57 + ((gI σ 54 12) + x5).toNat) x3.toNat)) ∧ ∀ v13 : Int, v13 = (gI σ a1 ((gI σ 54 13) + x5).toNat) * (gI σ (57 + ((gI σ 54 12) + x5).toNat) x3.toNat) → inR (x4 + v13) ∧ inR (x5 + 1) ∧ (Lay LC g c t σ → GG E mX8_mixRows 16 [some (vr 54), some (vr a1), some (vr a2), some (vi x3), some (vi (x4 + v13)), some (vi (x5 + 1))] [] σ rc rs Q)))) : GG E mX8_mixRows 16 [some (vr 54), some (vr a1), some (vr a2), some (vi x3), some (vi x4), some (vi x5)] [] σ rc rs Q := by
  refine r_iload (pc := 16) dX8_mixRows_16 rfl ?_
  refine r_aload_n (pc := 18) dX8_mixRows_18 rfl rfl ?_
  refine r_getI (pc := 19) dX8_mixRows_19 (k9 := 13) CL_8 (by decide) (by decide) w_375 rfl (okO_of (N := 15) (hL.sh (i := 27) rfl (by decide) (by decide)) (by decide)) (fun _ => ?_)
  refine r_icmp_ge (pc := 22) (tgt := 60) dX8_mixRows_22 (by decide) (fun c9 => ?_) (fun c9 => ?_)
  · replace h := h.1 c9
    refine r_aload_n (pc := 60) dX8_mixRows_60 rfl rfl ?_
    refine r_iload_n (pc := 61) dX8_mixRows_61 rfl rfl ?_
    refine r_aload_n (pc := 62) dX8_mixRows_62 rfl rfl ?_
    refine r_getR (pc := 63) dX8_mixRows_63 (k9 := 10) CL_8 (by decide) (by decide) w_371 rfl (okO_of (N := 15) (hL.sh (i := 27) rfl (by decide) (by decide)) (by decide)) ?_
    refine eqR (y := 35) (hL.rf (i := 36) rfl) ?_
    refine r_iload (pc := 66) dX8_mixRows_66 rfl ?_
    refine c_VI0N (M := mX8_mixRows) (pc := 68) (As := [vi x4]) dX8_mixRows_68 K_X2_mod w_1032 ⟨by decide, by decide⟩ (Nat.le_of_ble_eq_true rfl) rfl rfl (ci := 2) rfl rfl (by decide) (okO_of (N := 2) (hL.sh (i := 19) rfl (by decide) (by decide)) (by decide)) (h hL) (fun r1 τ2 h8 hr9 => ?_) rfl
    replace hL := h8.1
    replace h := h8.2 hr9
    obtain ⟨o3, h⟩ := h
    refine r_iastore (pc := 71) dX8_mixRows_71 (okB_of (c := 20) (n := n2) (p2.sh hL) p2.2.2.1 o3) ?_
    refine nmS (fun τ4 e4 => ?_)
    replace h := h τ4 e4
    have hL := hL.wI e4 p2.2.2.1 (.inl ⟨p2.1, p2.2.1⟩)
    obtain ⟨o5, h⟩ := h
    refine r_iinc (pc := 72) dX8_mixRows_72 rfl (by decide) o5 (l2 := [some (vr 54), some (vr a1), some (vr a2), some (vi (x3 + 1)), some (vi x4), some (vi x5)]) rfl ?_
    refine r_goto (pc := 75) (tgt := 2) dX8_mixRows_75 (by decide) ?_
    exact GG.msk [true, true, true, true, false, false] (h hL)
  · replace h := h.2 c9
    refine r_iload (pc := 25) dX8_mixRows_25 rfl ?_
    refine r_aload_n (pc := 27) dX8_mixRows_27 rfl rfl ?_
    refine r_aload_n (pc := 28) dX8_mixRows_28 rfl rfl ?_
    refine r_getI (pc := 29) dX8_mixRows_29 (k9 := 13) CL_8 (by decide) (by decide) w_375 rfl (okO_of (N := 15) (hL.sh (i := 27) rfl (by decide) (by decide)) (by decide)) (fun _ => ?_)
    refine r_iload (pc := 32) dX8_mixRows_32 rfl ?_
    obtain ⟨o6, h⟩ := h
    refine r_iadd (pc := 34) dX8_mixRows_34 o6 ?_
    obtain ⟨o7, h⟩ := h
    refine r_iaload (pc := 35) dX8_mixRows_35 (okA_of (c := 20) (n := n1) (p1.sh hL) p1.2.2.1 o7) ?_
    refine r_aload_n (pc := 36) dX8_mixRows_36 rfl rfl ?_
    refine r_getR (pc := 37) dX8_mixRows_37 (k9 := 1) CL_8 (by decide) (by decide) w_361 rfl (okO_of (N := 15) (hL.sh (i := 27) rfl (by decide) (by decide)) (by decide)) ?_
    refine eqR (y := 56) (hL.rf (i := 27) rfl) ?_
    refine r_aload_n (pc := 40) dX8_mixRows_40 rfl rfl ?_
    refine r_getI (pc := 41) dX8_mixRows_41 (k9 := 12) CL_8 (by decide) (by decide) w_374 rfl (okO_of (N := 15) (hL.sh (i := 27) rfl (by decide) (by decide)) (by decide)) (fun _ => ?_)
    refine r_iload (pc := 44) dX8_mixRows_44 rfl ?_
    obtain ⟨o8, h⟩ := h
    refine r_iadd (pc := 46) dX8_mixRows_46 o8 ?_
    obtain ⟨o9, h⟩ := h
    refine r_aaload (pc := 47) dX8_mixRows_47 (okB_of (c := 24) (n := 12) (hL.sh (i := 29) rfl (by decide) (by decide)) (by decide) o9) ?_
    have q10 : 57 ≤ 57 + ((gI σ 54 12) + x5).toNat ∧ 57 + ((gI σ 54 12) + x5).toNat < 69 := ⟨Nat.le_add_right _ _, rowB o9 (by decide)⟩
    refine eqR (y := 57 + ((gI σ 54 12) + x5).toNat) (hL.rx (i := 0) rfl (rowC o9 (by decide))) ?_
    refine r_iload_n (pc := 48) dX8_mixRows_48 rfl rfl ?_
    obtain ⟨o11, h⟩ := h
    refine r_iaload (pc := 49) dX8_mixRows_49 (okA_of (c := 20) (n := 12) (hL.sh (i := 30) rfl q10.1 q10.2) (Nat.le_trans (by decide) q10.1) o11) ?_
    obtain ⟨o12, h⟩ := h
    refine r_imul (pc := 50) dX8_mixRows_50 o12 ?_
    refine nmI (fun v13 e9 => ?_)
    replace h := h v13 e9
    obtain ⟨o14, h⟩ := h
    refine r_iadd (pc := 51) dX8_mixRows_51 o14 ?_
    refine r_istore (pc := 52) dX8_mixRows_52 (by decide) (l2 := [some (vr 54), some (vr a1), some (vr a2), some (vi x3), some (vi (x4 + v13)), some (vi x5)]) rfl ?_
    obtain ⟨o15, h⟩ := h
    refine r_iinc (pc := 54) dX8_mixRows_54 rfl (by decide) o15 (l2 := [some (vr 54), some (vr a1), some (vr a2), some (vi x3), some (vi (x4 + v13)), some (vi (x5 + 1))]) rfl ?_
    refine r_goto (pc := 57) (tgt := 16) dX8_mixRows_57 (by decide) ?_
    exact (h hL)
theorem C_X8_mixRows {a0 : Nat} {a1 : Nat} {a2 : Nat} (h : GG E mX8_mixRows 0 [some (vr a0), some (vr a1), some (vr a2), none, none, none] [] σ 0 0 Q) : CC E mX8_mixRows [vr a0, vr a1, vr a2] σ Q := CC.of (by decide +kernel) rfl (by decide +kernel) (fun h9 => nomatch h9) (Nat.le_of_ble_eq_true rfl) h
theorem dX8_multiplyColumn_0 : decode cX8_multiplyColumn 0 = .ok (.iconst 0, 1) := by decide +kernel
theorem dX8_multiplyColumn_1 : decode cX8_multiplyColumn 1 = .ok (.istore_n 2, 1) := by decide +kernel
theorem dX8_multiplyColumn_2 : decode cX8_multiplyColumn 2 = .ok (.iload_n 2, 1) := by decide +kernel
theorem dX8_multiplyColumn_3 : decode cX8_multiplyColumn 3 = .ok (.aload_n 0, 1) := by decide +kernel
theorem dX8_multiplyColumn_4 : decode cX8_multiplyColumn 4 = .ok (.getfield 87, 3) := by decide +kernel
theorem dX8_multiplyColumn_7 : decode cX8_multiplyColumn 7 = .ok (.if_icmp .ge 65, 3) := by decide +kernel
theorem dX8_multiplyColumn_10 : decode cX8_multiplyColumn 10 = .ok (.iconst 0, 1) := by decide +kernel
theorem dX8_multiplyColumn_11 : decode cX8_multiplyColumn 11 = .ok (.istore_n 3, 1) := by decide +kernel
theorem dX8_multiplyColumn_12 : decode cX8_multiplyColumn 12 = .ok (.iconst 0, 1) := by decide +kernel
theorem dX8_multiplyColumn_13 : decode cX8_multiplyColumn 13 = .ok (.istore 4, 2) := by decide +kernel
theorem dX8_multiplyColumn_15 : decode cX8_multiplyColumn 15 = .ok (.iload 4, 2) := by decide +kernel
theorem dX8_multiplyColumn_17 : decode cX8_multiplyColumn 17 = .ok (.aload_n 0, 1) := by decide +kernel
theorem dX8_multiplyColumn_18 : decode cX8_multiplyColumn 18 = .ok (.getfield 87, 3) := by decide +kernel
theorem dX8_multiplyColumn_21 : decode cX8_multiplyColumn 21 = .ok (.if_icmp .ge 31, 3) := by decide +kernel
theorem dX8_multiplyColumn_24 : decode cX8_multiplyColumn 24 = .ok (.iload_n 3, 1) := by decide +kernel
theorem dX8_multiplyColumn_25 : decode cX8_multiplyColumn 25 = .ok (.aload_n 0, 1) := by decide +kernel
theorem dX8_multiplyColumn_26 : decode cX8_multiplyColumn 26 = .ok (.getfield 23, 3) := by decide +kernel
theorem dX8_multiplyColumn_29 : decode cX8_multiplyColumn 29 = .ok (.iload_n 2, 1) := by decide +kernel
theorem dX8_multiplyColumn_30 : decode cX8_multiplyColumn 30 = .ok (.aaload, 1) := by decide +kernel
theorem dX8_multiplyColumn_31 : decode cX8_multiplyColumn 31 = .ok (.iload 4, 2) := by decide +kernel
theorem dX8_multiplyColumn_33 : decode cX8_multiplyColumn 33 = .ok (.iaload, 1) := by decide +kernel
theorem dX8_multiplyColumn_34 : decode cX8_multiplyColumn 34 = .ok (.aload_n 0, 1) := by decide +kernel
theorem dX8_multiplyColumn_35 : decode cX8_multiplyColumn 35 = .ok (.getfield 26, 3) := by decide +kernel
theorem dX8_multiplyColumn_38 : decode cX8_multiplyColumn 38 = .ok (.iload 4, 2) := by decide +kernel
theorem dX8_multiplyColumn_40 : decode cX8_multiplyColumn 40 = .ok (.aaload, 1) := by decide +kernel
theorem dX8_multiplyColumn_41 : decode cX8_multiplyColumn 41 = .ok (.iload_n 1, 1) := by decide +kernel
theorem dX8_multiplyColumn_42 : decode cX8_multiplyColumn 42 = .ok (.iaload, 1) := by decide +kernel
theorem dX8_multiplyColumn_43 : decode cX8_multiplyColumn 43 = .ok (.imul, 1) := by decide +kernel
theorem dX8_multiplyColumn_44 : decode cX8_multiplyColumn 44 = .ok (.iadd, 1) := by decide +kernel
theorem dX8_multiplyColumn_45 : decode cX8_multiplyColumn 45 = .ok (.istore_n 3, 1) := by decide +kernel
theorem dX8_multiplyColumn_46 : decode cX8_multiplyColumn 46 = .ok (.iinc 4 1, 3) := by decide +kernel
theorem dX8_multiplyColumn_49 : decode cX8_multiplyColumn 49 = .ok (.goto (-34), 3) := by decide +kernel
theorem dX8_multiplyColumn_52 : decode cX8_multiplyColumn 52 = .ok (.aload_n 0, 1) := by decide +kernel
theorem dX8_multiplyColumn_53 : decode cX8_multiplyColumn 53 = .ok (.getfield 32, 3) := by decide +kernel
theorem dX8_multiplyColumn_56 : decode cX8_multiplyColumn 56 = .ok (.iload_n 2, 1) := by decide +kernel
theorem dX8_multiplyColumn_57 : decode cX8_multiplyColumn 57 = .ok (.aload_n 0, 1) := by decide +kernel
theorem dX8_multiplyColumn_58 : decode cX8_multiplyColumn 58 = .ok (.getfield 44, 3) := by decide +kernel
theorem dX8_multiplyColumn_61 : decode cX8_multiplyColumn 61 = .ok (.iload_n 3, 1) := by decide +kernel
theorem dX8_multiplyColumn_62 : decode cX8_multiplyColumn 62 = .ok (.invokevirtual 119, 3) := by decide +kernel
theorem dX8_multiplyColumn_65 : decode cX8_multiplyColumn 65 = .ok (.iastore, 1) := by decide +kernel
theorem dX8_multiplyColumn_66 : decode cX8_multiplyColumn 66 = .ok (.iinc 2 1, 3) := by decide +kernel
theorem dX8_multiplyColumn_69 : decode cX8_multiplyColumn 69 = .ok (.goto (-67), 3) := by decide +kernel
theorem dX8_multiplyColumn_72 : decode cX8_multiplyColumn 72 = .ok (.iconst 0, 1) := by decide +kernel
theorem dX8_multiplyColumn_73 : decode cX8_multiplyColumn 73 = .ok (.istore_n 2, 1) := by decide +kernel
theorem dX8_multiplyColumn_74 : decode cX8_multiplyColumn 74 = .ok (.iload_n 2, 1) := by decide +kernel
theorem dX8_multiplyColumn_75 : decode cX8_multiplyColumn 75 = .ok (.aload_n 0, 1) := by decide +kernel
theorem dX8_multiplyColumn_76 : decode cX8_multiplyColumn 76 = .ok (.getfield 87, 3) := by decide +kernel
theorem dX8_multiplyColumn_79 : decode cX8_multiplyColumn 79 = .ok (.if_icmp .ge 23, 3) := by decide +kernel
theorem dX8_multiplyColumn_82 : decode cX8_multiplyColumn 82 = .ok (.aload_n 0, 1) := by decide +kernel
theorem dX8_multiplyColumn_83 : decode cX8_multiplyColumn 83 = .ok (.getfield 26, 3) := by decide +kernel
theorem dX8_multiplyColumn_86 : decode cX8_multiplyColumn 86 = .ok (.iload_n 2, 1) := by decide +kernel
theorem dX8_multiplyColumn_87 : decode cX8_multiplyColumn 87 = .ok (.aaload, 1) := by decide +kernel
theorem dX8_multiplyColumn_88 : decode cX8_multiplyColumn 88 = .ok (.iload_n 1, 1) := by decide +kernel
theorem dX8_multiplyColumn_89 : decode cX8_multiplyColumn 89 = .ok (.aload_n 0, 1) := by decide +kernel
theorem dX8_multiplyColumn_90 : decode cX8_multiplyColumn 90 = .ok (.getfield 32, 3) := by decide +kernel
theorem dX8_multiplyColumn_93 : decode cX8_multiplyColumn 93 = .ok (.iload_n 2, 1) := by decide +kernel
theorem dX8_multiplyColumn_94 : decode cX8_multiplyColumn 94 = .ok (.iaload, 1) := by decide +kernel
theorem dX8_multiplyColumn_95 : decode cX8_multiplyColumn 95 = .ok (.iastore, 1) := by decide +kernel
theorem dX8_multiplyColumn_96 : decode cX8_multiplyColumn 96 = .ok (.iinc 2 1, 3) := by decide +kernel
theorem dX8_multiplyColumn_99 : decode cX8_multiplyColumn 99 = .ok (.goto (-25), 3) := by decide +kernel
theorem dX8_multiplyColumn_102 : decode cX8_multiplyColumn 102 = .ok (.return_, 1) := by decide +kernel
theorem B_X8_multiplyColumn_0 {g : Sg} {c t : Nat} (hL : Lay LC g c t σ) {x1 : Int} (h : (Lay LC g c t σ → GG E mX8_multiplyColumn 2 [some (vr 54), some (vi x1), some (vi 0), none, none] [] σ rc rs Q)) : GG E mX8_multiplyColumn 0 [some (vr 54), some (vi x1), none, none, none] [] σ rc rs Q := by
  refine r_iconst (pc := 0) dX8_multiplyColumn_0 (inRk rfl) ?_
  refine r_istore_n (pc := 1) dX8_multiplyColumn_1 rfl (by decide) (l2 := [some (vr 54), some (vi x1), some (vi 0), none, none]) rfl ?_
  exact (h hL)
theorem B_X8_multiplyColumn_2 {g : Sg} {c t : Nat} (hL : Lay LC g c t σ) {x1 : Int} {x2 : Int} (h : (((gI σ 54 13) ≤ x2 → (Lay LC g c t σ → GG E mX8_multiplyColumn 74 [some (vr 54), some (vi x1), some (vi 0), none, none] [] σ rc rs Q)) ∧ (¬ ((gI σ 54 13) ≤ x2) → (Lay LC g c t σ → GG E mX8_multiplyColumn 15 [some (vr 54), some (vi x1), some (vi x2), some (vi 0), some (vi 0)] [] σ rc rs Q)))) : GG E mX8_multiplyColumn 2 [some (vr 54), some (vi x1), some (vi x2), none, none] [] σ rc rs Q := by
  refine r_iload_n (pc := 2) dX8_multiplyColumn_2 rfl rfl ?_
  refine r_aload_n (pc := 3) dX8_multiplyColumn_3 rfl rfl ?_
  refine r_getI (pc := 4) dX8_multiplyColumn_4 (k9 := 13) CL_8 (by decide) (by decide) w_375 rfl (okO_of (N := 15) (hL.sh (i := 27) rfl (by decide) (by decide)) (by decide)) (fun _ => ?_)
  refine r_icmp_ge (pc := 7) (tgt := 72) dX8_multiplyColumn_7 (by decide) (fun c9 => ?_) (fun c9 => ?_)
  · replace h := h.1 c9
    refine r_iconst (pc := 72) dX8_multiplyColumn_72 (inRk rfl) ?_
    refine r_istore_n (pc := 73) dX8_multiplyColumn_73 rfl (by decide) (l2 := [some (vr 54), some (vi x1), some (vi 0), none, none]) rfl ?_
    exact (h hL)
  · replace h := h.2 c9
    refine r_iconst (pc := 10) dX8_multiplyColumn_10 (inRk rfl) ?_
    refine r_istore_n (pc := 11) dX8_multiplyColumn_11 rfl (by decide) (l2 := [some (vr 54), some (vi x1), some (vi x2), some (vi 0), none]) rfl ?_
    refine r_iconst (pc := 12) dX8_multiplyColumn_12 (inRk rfl) ?_
    refine r_istore (pc := 13) dX8_multiplyColumn_13 (by decide) (l2 := [some (vr 54), some (vi x1), some (vi x2), some (vi 0), some (vi 0)]) rfl ?_
    exact (h hL)
theorem B_X8_multiplyColumn_15 {g : Sg} {c t : Nat} (hL : Lay LC g c t σ) {x1 : Int} {x2 : Int} {x3 : Int} {x4 : Int} (h : (((gI σ 54 13) ≤ x4 → (Lay LC g c t σ → CC E mX2_mod [vr 35, vi x3] σ (KI (fun r1 τ2 => Lay LC g c t τ2 ∧ (inR r1 → (0 ≤ x2 ∧ x2 < 12) ∧ ∀ τ4 : Sg, τ4 = sI τ2 121 x2.toNat r1 → inR (x2 + 1) ∧ (Lay LC g c t τ4 → GG E mX8_multiplyColumn 2 [some (vr 54), some (vi x1), some (vi (x2 + 1)), none, none] [] τ4 rc rs Q))) (fun _ _ => False)))) ∧ (¬ ((gI σ 54 13) ≤ x4) → (0 ≤ x2 ∧ x2 < 12) ∧ (0 ≤ x4 ∧ x4 < 12) ∧ (0 ≤ x1 ∧ x1 < 12) ∧ inR ((gI σ (83 + x2.toNat) x4.toNat) * (gI σ (96 + x4.toNat) x1.toNat)) ∧ ∀ v12 : Int, v12 = (gI σ (83 + x2.toNat) x4.toNat) * (gI σ (96 + x4.toNat) x1.toNat) → inR (x3 + v12) ∧ inR (x4 + 1) ∧ (Lay LC g c t σ → GG E mX8_multiplyColumn 15 [some (vr 54), some (vi x1), some (vi x2), some (vi (x3 + v12)), some (vi (x4 + 1))] [] σ rc rs Q)))) : GG E mX8_multiplyColumn 15 [some (vr 54), some (vi x1), some (vi x2), some (vi x3), some (vi x4)] [] σ rc rs Q := by
  refine r_iload (pc := 15) dX8_multiplyColumn_15 rfl ?_
  refine r_aload_n (pc := 17) dX8_multiplyColumn_17 rfl rfl ?_
  refine r_getI (pc := 18) dX8_multiplyColumn_18 (k9 := 13) CL_8 (by decide) (by decide) w_375 rfl (okO_of (N := 15) (hL.sh (i := 27) rfl (by decide) (by decide)) (by decide)) (fun _ => ?_)
  refine r_icmp_ge (pc := 21) (tgt := 52) dX8_multiplyColumn_21 (by decide) (fun c9 => ?_) (fun c9 => ?_)
  · replace h := h.1 c9
    refine r_aload_n (pc := 52) dX8_multiplyColumn_52 rfl rfl ?_
    refine r_getR (pc := 53) dX8_multiplyColumn_53 (k9 := 6) CL_8 (by decide) (by decide) w_367 rfl (okO_of (N := 15) (hL.sh (i := 27) rfl (by decide) (by decide)) (by decide)) ?_
    refine eqR (y := 121) (hL.rf (i := 32) rfl) ?_
    refine r_iload_n (pc := 56) dX8_multiplyColumn_56 rfl rfl ?_
    refine r_aload_n (pc := 57) dX8_multiplyColumn_57 rfl rfl ?_
    refine r_getR (pc := 58) dX8_multiplyColumn_58 (k9 := 10) CL_8 (by decide) (by decide) w_371 rfl (okO_of (N := 15) (hL.sh (i := 27) rfl (by decide) (by decide)) (by decide)) ?_
    refine eqR (y := 35) (hL.rf (i := 36) rfl) ?_
    refine r_iload_n (pc := 61) dX8_multiplyColumn_61 rfl rfl ?_
    refine c_VI0N (M := mX8_multiplyColumn) (pc := 62) (As := [vi x3]) dX8_multiplyColumn_62 K_X2_mod w_1032 ⟨by decide, by decide⟩ (Nat.le_of_ble_eq_true rfl) rfl rfl (ci := 2) rfl rfl (by decide) (okO_of (N := 2) (hL.sh (i := 19) rfl (by decide) (by decide)) (by decide)) (h hL) (fun r1 τ2 h8 hr9 => ?_) rfl
    replace hL := h8.1
    replace h := h8.2 hr9
    obtain ⟨o3, h⟩ := h
    refine r_iastore (pc := 65) dX8_multiplyColumn_65 (okB_of (c := 20) (n := 12) (hL.sh (i := 39) rfl (by decide) (by decide)) (by decide) o3) ?_
    refine nmS (fun τ4 e4 => ?_)
    replace h := h τ4 e4
    have hL := hL.wI e4 (by decide) (.inl (by decide))
    obtain ⟨o5, h⟩ := h
    refine r_iinc (pc := 66) dX8_multiplyColumn_66 rfl (by decide) o5 (l2 := [some (vr 54), some (vi x1), some (vi (x2 + 1)), some (vi x3), some (vi x4)]) rfl ?_
    refine r_goto (pc := 69) (tgt := 2) dX8_multiplyColumn_69 (by decide) ?_
    exact GG.msk [true, true, true, false, false] (h hL)
  · replace h := h.2 c9
    refine r_iload_n (pc := 24) dX8_multiplyColumn_24 rfl rfl ?_
    refine r_aload_n (pc := 25) dX8_multiplyColumn_25 rfl rfl ?_
    refine r_getR (pc := 26) dX8_multiplyColumn_26 (k9 := 3) CL_8 (by decide) (by decide) w_364 rfl (okO_of (N := 15) (hL.sh (i := 27) rfl (by decide) (by decide)) (by decide)) ?_
    refine eqR (y := 82) (hL.rf (i := 29) rfl) ?_
    refine r_iload_n (pc := 29) dX8_multiplyColumn_29 rfl rfl ?_
    obtain ⟨o6, h⟩ := h
    refine r_aaload (pc := 30) dX8_multiplyColumn_30 (okB_of (c := 24) (n := 12) (hL.sh (i := 33) rfl (by decide) (by decide)) (by decide) o6) ?_
    have q7 : 83 ≤ 83 + x2.toNat ∧ 83 + x2.toNat < 95 := ⟨Nat.le_add_right _ _, rowB o6 (by decide)⟩
    refine eqR (y := 83 + x2.toNat) (hL.rx (i := 1) rfl (rowC o6 (by decide))) ?_
    refine r_iload (pc := 31) dX8_multiplyColumn_31 rfl ?_
    obtain ⟨o8, h⟩ := h
    refine r_iaload (pc := 33) dX8_multiplyColumn_33 (okA_of (c := 20) (n := 12) (hL.sh (i := 34) rfl q7.1 q7.2) (Nat.le_trans (by decide) q7.1) o8) ?_
    refine r_aload_n (pc := 34) dX8_multiplyColumn_34 rfl rfl ?_
    refine r_getR (pc := 35) dX8_multiplyColumn_35 (k9 := 4) CL_8 (by decide) (by decide) w_365 rfl (okO_of (N := 15) (hL.sh (i := 27) rfl (by decide) (by decide)) (by decide)) ?_
    refine eqR (y := 95) (hL.rf (i := 30) rfl) ?_
    refine r_iload (pc := 38) dX8_multiplyColumn_38 rfl ?_
    refine r_aaload (pc := 40) dX8_multiplyColumn_40 (okB_of (c := 24) (n := 12) (hL.sh (i := 35) rfl (by decide) (by decide)) (by decide) o8) ?_
    have q9 : 96 ≤ 96 + x4.toNat ∧ 96 + x4.toNat < 108 := ⟨Nat.le_add_right _ _, rowB o8 (by decide)⟩
    refine eqR (y := 96 + x4.toNat) (hL.rx (i := 2) rfl (rowC o8 (by decide))) ?_
    refine r_iload_n (pc := 41) dX8_multiplyColumn_41 rfl rfl ?_
    obtain ⟨o10, h⟩ := h
    refine r_iaload (pc := 42) dX8_multiplyColumn_42 (okA_of (c := 20) (n := 12) (hL.sh (i := 36) rfl q9.1 q9.2) (Nat.le_trans (by decide) q9.1) o10) ?_
    obtain ⟨o11, h⟩ := h
    refine r_imul (pc := 43) dX8_multiplyColumn_43 o11 ?_
    refine nmI (fun v12 e9 => ?_)
    replace h := h v12 e9
    obtain ⟨o13, h⟩ := h
    refine r_iadd (pc := 44) dX8_multiplyColumn_44 o13 ?_
    refine r_istore_n (pc := 45) dX8_multiplyColumn_45 rfl (by decide) (l2 := [some (vr 54), some (vi x1), some (vi x2), some (vi (x3 + v12)), some (vi x4)]) rfl ?_
    obtain ⟨o14, h⟩ := h
    refine r_iinc (pc := 46) dX8_multiplyColumn_46 rfl (by decide) o14 (l2 := [some (vr 54), some (vi x1), some (vi x2), some (vi (x3 + v12)), some (vi (x4 + 1))]) rfl ?_
    refine r_goto (pc := 49) (tgt := 15) dX8_multiplyColumn_49 (by decide) ?_
    exact (h hL)
theorem B_X8_multiplyColumn_74 {g : Sg} {c t : Nat} (hL : Lay LC g c t σ) {x1 : Int} {x2 : Int} (h : (((gI σ 54 13) ≤ x2 → (Lay LC g c t σ → Q (.inl none) σ)) ∧ (¬ ((gI σ 54 13) ≤ x2) → (0 ≤ x2 ∧ x2 < 12) ∧ (0 ≤ x1 ∧ x1 < 12) ∧ ∀ τ4 : Sg, τ4 = sI σ (96 + x2.toNat) x1.toNat (gI σ 121 x2.toNat) → inR (x2 + 1) ∧ (Lay LC g c t τ4 → GG E mX8_multiplyColumn 74 [some (vr 54), some (vi x1), some (vi (x2 + 1)), none, none] [] τ4 rc rs Q)))) : GG E mX8_multiplyColumn 74 [some (vr 54), some (vi x1), some (vi x2), none, none] [] σ rc rs Q := by
  refine r_iload_n (pc := 74) dX8_multiplyColumn_74 rfl rfl ?_
  refine r_aload_n (pc := 75) dX8_multiplyColumn_75 rfl rfl ?_
  refine r_getI (pc := 76) dX8_multiplyColumn_76 (k9 := 13) CL_8 (by decide) (by decide) w_375 rfl (okO_of (N := 15) (hL.sh (i := 27) rfl (by decide) (by decide)) (by decide)) (fun _ => ?_)
  refine r_icmp_ge (pc := 79) (tgt := 102) dX8_multiplyColumn_79 (by decide) (fun c9 => ?_) (fun c9 => ?_)
  · replace h := h.1 c9
    exact r_return (pc := 102) dX8_multiplyColumn_102 (by decide +kernel) rfl (h hL)
  · replace h := h.2 c9
    refine r_aload_n (pc := 82) dX8_multiplyColumn_82 rfl rfl ?_
    refine r_getR (pc := 83) dX8_multiplyColumn_83 (k9 := 4) CL_8 (by decide) (by decide) w_365 rfl (okO_of (N := 15) (hL.sh (i := 27) rfl (by decide) (by decide)) (by decide)) ?_
    refine eqR (y := 95) (hL.rf (i := 30) rfl) ?_
    refine r_iload_n (pc := 86) dX8_multiplyColumn_86 rfl rfl ?_
    obtain ⟨o1, h⟩ := h
    refine r_aaload (pc := 87) dX8_multiplyColumn_87 (okB_of (c := 24) (n := 12) (hL.sh (i := 35) rfl (by decide) (by decide)) (by decide) o1) ?_
    have q2 : 96 ≤ 96 + x2.toNat ∧ 96 + x2.toNat < 108 := ⟨Nat.le_add_right _ _, rowB o1 (by decide)⟩
    refine eqR (y := 96 + x2.toNat) (hL.rx (i := 2) rfl (rowC o1 (by decide))) ?_
    refine r_iload_n (pc := 88) dX8_multiplyColumn_88 rfl rfl ?_
    refine r_aload_n (pc := 89) dX8_multiplyColumn_89 rfl rfl ?_
    refine r_getR (pc := 90) dX8_multiplyColumn_90 (k9 := 6) CL_8 (by decide) (by decide) w_367 rfl (okO_of (N := 15) (hL.sh (i := 27) rfl (by decide) (by decide)) (by decide)) ?_
    refine eqR (y := 121) (hL.rf (i := 32) rfl) ?_
    refine r_iload_n (pc := 93) dX8_multiplyColumn_93 rfl rfl ?_
    refine r_iaload (pc := 94) dX8_multiplyColumn_94 (okA_of (c := 20) (n := 12) (hL.sh (i := 39) rfl (by decide) (by decide)) (by decide) o1) ?_
    obtain ⟨o3, h⟩ := h
    refine r_iastore (pc := 95) dX8_multiplyColumn_95 (okB_of (c := 20) (n := 12) (hL.sh (i := 36) rfl q2.1 q2.2) (Nat.le_trans (by decide) q2.1) o3) ?_
    refine nmS (fun τ4 e4 => ?_)
    replace h := h τ4 e4
    have hL := hL.wI e4 (Nat.le_trans (by decide) q2.1) (.inl ⟨Nat.le_trans (by decide) q2.1, Nat.lt_of_lt_of_le q2.2 (by decide)⟩)
    obtain ⟨o5, h⟩ := h
    refine r_iinc (pc := 96) dX8_multiplyColumn_96 rfl (by decide) o5 (l2 := [some (vr 54), some (vi x1), some (vi (x2 + 1)), none, none]) rfl ?_
    refine r_goto (pc := 99) (tgt := 74) dX8_multiplyColumn_99 (by decide) ?_
    exact (h hL)
theorem C_X8_multiplyColumn {a0 : Nat} {x1 : Int} (h : GG E mX8_multiplyColumn 0 [some (vr a0), some (vi x1), none, none, none] [] σ 0 0 Q) : CC E mX8_multiplyColumn [vr a0, vi x1] σ Q := CC.of (by decide +kernel) rfl (by decide +kernel) (fun h9 => nomatch h9) (Nat.le_of_ble_eq_true rfl) h
theorem dX8_placeOf_0 : decode cX8_placeOf 0 = .ok (.iload_n 0, 1) := by decide +kernel
theorem dX8_placeOf_1 : decode cX8_placeOf 1 = .ok (.bipush 12, 2) := by decide +kernel
theorem dX8_placeOf_3 : decode cX8_placeOf 3 = .ok (.imul, 1) := by decide +kernel
theorem dX8_placeOf_4 : decode cX8_placeOf 4 = .ok (.iload_n 1, 1) := by decide +kernel
theorem dX8_placeOf_5 : decode cX8_placeOf 5 = .ok (.iadd, 1) := by decide +kernel
theorem dX8_placeOf_6 : decode cX8_placeOf 6 = .ok (.bipush 12, 2) := by decide +kernel
theorem dX8_placeOf_8 : decode cX8_placeOf 8 = .ok (.imul, 1) := by decide +kernel
theorem dX8_placeOf_9 : decode cX8_placeOf 9 = .ok (.iload_n 2, 1) := by decide +kernel
theorem dX8_placeOf_10 : decode cX8_placeOf 10 = .ok (.iadd, 1) := by decide +kernel
theorem dX8_placeOf_11 : decode cX8_placeOf 11 = .ok (.ireturn, 1) := by decide +kernel
theorem B_X8_placeOf_0 {x0 : Int} {x1 : Int} {x2 : Int} (h : inR (x0 * 12) ∧ inR ((x0 * 12) + x1) ∧ inR (((x0 * 12) + x1) * 12) ∧ inR ((((x0 * 12) + x1) * 12) + x2) ∧ Q (.inl (some (vi ((((x0 * 12) + x1) * 12) + x2)))) σ) : GG E mX8_placeOf 0 [some (vi x0), some (vi x1), some (vi x2)] [] σ rc rs Q := by
  refine r_iload_n (pc := 0) dX8_placeOf_0 rfl rfl ?_
  refine r_bipush (pc := 1) dX8_placeOf_1 (by decide) ?_
  obtain ⟨o1, h⟩ := h
  refine r_imul (pc := 3) dX8_placeOf_3 o1 ?_
  refine r_iload_n (pc := 4) dX8_placeOf_4 rfl rfl ?_
  obtain ⟨o2, h⟩ := h
  refine r_iadd (pc := 5) dX8_placeOf_5 o2 ?_
  refine r_bipush (pc := 6) dX8_placeOf_6 (by decide) ?_
  obtain ⟨o3, h⟩ := h
  refine r_imul (pc := 8) dX8_placeOf_8 o3 ?_
  refine r_iload_n (pc := 9) dX8_placeOf_9 rfl rfl ?_
  obtain ⟨o4, h⟩ := h
  refine r_iadd (pc := 10) dX8_placeOf_10 o4 ?_
  exact r_ireturn (pc := 11) (ty := .int) dX8_placeOf_11 (by decide +kernel) rfl (nar_i _) h
theorem C_X8_placeOf {x0 : Int} {x1 : Int} {x2 : Int} (h : GG E mX8_placeOf 0 [some (vi x0), some (vi x1), some (vi x2)] [] σ 0 0 Q) : CC E mX8_placeOf [vi x0, vi x1, vi x2] σ Q := CC.of (by decide +kernel) rfl (by decide +kernel) (fun h9 => nomatch h9) (Nat.le_of_ble_eq_true rfl) h
theorem dX8_placeSpace_0 : decode cX8_placeSpace 0 = .ok (.iconst 0, 1) := by decide +kernel
theorem dX8_placeSpace_1 : decode cX8_placeSpace 1 = .ok (.istore_n 2, 1) := by decide +kernel
theorem dX8_placeSpace_2 : decode cX8_placeSpace 2 = .ok (.iload_n 2, 1) := by decide +kernel
theorem dX8_placeSpace_3 : decode cX8_placeSpace 3 = .ok (.aload_n 0, 1) := by decide +kernel
theorem dX8_placeSpace_4 : decode cX8_placeSpace 4 = .ok (.getfield 87, 3) := by decide +kernel
theorem dX8_placeSpace_7 : decode cX8_placeSpace 7 = .ok (.if_icmp .ge 89, 3) := by decide +kernel
theorem dX8_placeSpace_10 : decode cX8_placeSpace 10 = .ok (.iconst 0, 1) := by decide +kernel
theorem dX8_placeSpace_11 : decode cX8_placeSpace 11 = .ok (.istore_n 3, 1) := by decide +kernel
theorem dX8_placeSpace_12 : decode cX8_placeSpace 12 = .ok (.iload_n 3, 1) := by decide +kernel
theorem dX8_placeSpace_13 : decode cX8_placeSpace 13 = .ok (.aload_n 0, 1) := by decide +kernel
theorem dX8_placeSpace_14 : decode cX8_placeSpace 14 = .ok (.getfield 87, 3) := by decide +kernel
theorem dX8_placeSpace_17 : decode cX8_placeSpace 17 = .ok (.if_icmp .ge 73, 3) := by decide +kernel
theorem dX8_placeSpace_20 : decode cX8_placeSpace 20 = .ok (.aload_n 0, 1) := by decide +kernel
theorem dX8_placeSpace_21 : decode cX8_placeSpace 21 = .ok (.getfield 29, 3) := by decide +kernel
theorem dX8_placeSpace_24 : decode cX8_placeSpace 24 = .ok (.iload_n 2, 1) := by decide +kernel
theorem dX8_placeSpace_25 : decode cX8_placeSpace 25 = .ok (.aaload, 1) := by decide +kernel
theorem dX8_placeSpace_26 : decode cX8_placeSpace 26 = .ok (.iload_n 3, 1) := by decide +kernel
theorem dX8_placeSpace_27 : decode cX8_placeSpace 27 = .ok (.iload_n 2, 1) := by decide +kernel
theorem dX8_placeSpace_28 : decode cX8_placeSpace 28 = .ok (.iload_n 3, 1) := by decide +kernel
theorem dX8_placeSpace_29 : decode cX8_placeSpace 29 = .ok (.if_icmp .ne 23, 3) := by decide +kernel
theorem dX8_placeSpace_32 : decode cX8_placeSpace 32 = .ok (.aload_n 0, 1) := by decide +kernel
theorem dX8_placeSpace_33 : decode cX8_placeSpace 33 = .ok (.getfield 44, 3) := by decide +kernel
theorem dX8_placeSpace_36 : decode cX8_placeSpace 36 = .ok (.aload_n 0, 1) := by decide +kernel
theorem dX8_placeSpace_37 : decode cX8_placeSpace 37 = .ok (.getfield 23, 3) := by decide +kernel
theorem dX8_placeSpace_40 : decode cX8_placeSpace 40 = .ok (.iload_n 2, 1) := by decide +kernel
theorem dX8_placeSpace_41 : decode cX8_placeSpace 41 = .ok (.aaload, 1) := by decide +kernel
theorem dX8_placeSpace_42 : decode cX8_placeSpace 42 = .ok (.iload_n 3, 1) := by decide +kernel
theorem dX8_placeSpace_43 : decode cX8_placeSpace 43 = .ok (.iaload, 1) := by decide +kernel
theorem dX8_placeSpace_44 : decode cX8_placeSpace 44 = .ok (.iload_n 1, 1) := by decide +kernel
theorem dX8_placeSpace_45 : decode cX8_placeSpace 45 = .ok (.isub, 1) := by decide +kernel
theorem dX8_placeSpace_46 : decode cX8_placeSpace 46 = .ok (.invokevirtual 119, 3) := by decide +kernel
theorem dX8_placeSpace_49 : decode cX8_placeSpace 49 = .ok (.goto 11, 3) := by decide +kernel
theorem dX8_placeSpace_52 : decode cX8_placeSpace 52 = .ok (.aload_n 0, 1) := by decide +kernel
theorem dX8_placeSpace_53 : decode cX8_placeSpace 53 = .ok (.getfield 23, 3) := by decide +kernel
theorem dX8_placeSpace_56 : decode cX8_placeSpace 56 = .ok (.iload_n 2, 1) := by decide +kernel
theorem dX8_placeSpace_57 : decode cX8_placeSpace 57 = .ok (.aaload, 1) := by decide +kernel
theorem dX8_placeSpace_58 : decode cX8_placeSpace 58 = .ok (.iload_n 3, 1) := by decide +kernel
theorem dX8_placeSpace_59 : decode cX8_placeSpace 59 = .ok (.iaload, 1) := by decide +kernel
theorem dX8_placeSpace_60 : decode cX8_placeSpace 60 = .ok (.iastore, 1) := by decide +kernel
theorem dX8_placeSpace_61 : decode cX8_placeSpace 61 = .ok (.aload_n 0, 1) := by decide +kernel
theorem dX8_placeSpace_62 : decode cX8_placeSpace 62 = .ok (.getfield 29, 3) := by decide +kernel
theorem dX8_placeSpace_65 : decode cX8_placeSpace 65 = .ok (.iload_n 2, 1) := by decide +kernel
theorem dX8_placeSpace_66 : decode cX8_placeSpace 66 = .ok (.aaload, 1) := by decide +kernel
theorem dX8_placeSpace_67 : decode cX8_placeSpace 67 = .ok (.aload_n 0, 1) := by decide +kernel
theorem dX8_placeSpace_68 : decode cX8_placeSpace 68 = .ok (.getfield 87, 3) := by decide +kernel
theorem dX8_placeSpace_71 : decode cX8_placeSpace 71 = .ok (.iload_n 3, 1) := by decide +kernel
theorem dX8_placeSpace_72 : decode cX8_placeSpace 72 = .ok (.iadd, 1) := by decide +kernel
theorem dX8_placeSpace_73 : decode cX8_placeSpace 73 = .ok (.iload_n 2, 1) := by decide +kernel
theorem dX8_placeSpace_74 : decode cX8_placeSpace 74 = .ok (.iload_n 3, 1) := by decide +kernel
theorem dX8_placeSpace_75 : decode cX8_placeSpace 75 = .ok (.if_icmp .ne 7, 3) := by decide +kernel
theorem dX8_placeSpace_78 : decode cX8_placeSpace 78 = .ok (.iconst 1, 1) := by decide +kernel
theorem dX8_placeSpace_79 : decode cX8_placeSpace 79 = .ok (.goto 4, 3) := by decide +kernel
theorem dX8_placeSpace_82 : decode cX8_placeSpace 82 = .ok (.iconst 0, 1) := by decide +kernel
theorem dX8_placeSpace_83 : decode cX8_placeSpace 83 = .ok (.iastore, 1) := by decide +kernel
theorem dX8_placeSpace_84 : decode cX8_placeSpace 84 = .ok (.iinc 3 1, 3) := by decide +kernel
theorem dX8_placeSpace_87 : decode cX8_placeSpace 87 = .ok (.goto (-75), 3) := by decide +kernel
theorem dX8_placeSpace_90 : decode cX8_placeSpace 90 = .ok (.iinc 2 1, 3) := by decide +kernel
theorem dX8_placeSpace_93 : decode cX8_placeSpace 93 = .ok (.goto (-91), 3) := by decide +kernel
theorem dX8_placeSpace_96 : decode cX8_placeSpace 96 = .ok (.aload_n 0, 1) := by decide +kernel
theorem dX8_placeSpace_97 : decode cX8_placeSpace 97 = .ok (.getfield 90, 3) := by decide +kernel
theorem dX8_placeSpace_100 : decode cX8_placeSpace 100 = .ok (.istore_n 2, 1) := by decide +kernel
theorem dX8_placeSpace_101 : decode cX8_placeSpace 101 = .ok (.aload_n 0, 1) := by decide +kernel
theorem dX8_placeSpace_102 : decode cX8_placeSpace 102 = .ok (.aload_n 0, 1) := by decide +kernel
theorem dX8_placeSpace_103 : decode cX8_placeSpace 103 = .ok (.getfield 29, 3) := by decide +kernel
theorem dX8_placeSpace_106 : decode cX8_placeSpace 106 = .ok (.iconst 0, 1) := by decide +kernel
theorem dX8_placeSpace_107 : decode cX8_placeSpace 107 = .ok (.aload_n 0, 1) := by decide +kernel
theorem dX8_placeSpace_108 : decode cX8_placeSpace 108 = .ok (.getfield 87, 3) := by decide +kernel
theorem dX8_placeSpace_111 : decode cX8_placeSpace 111 = .ok (.aload_n 0, 1) := by decide +kernel
theorem dX8_placeSpace_112 : decode cX8_placeSpace 112 = .ok (.getfield 87, 3) := by decide +kernel
theorem dX8_placeSpace_115 : decode cX8_placeSpace 115 = .ok (.invokevirtual 130, 3) := by decide +kernel
theorem dX8_placeSpace_118 : decode cX8_placeSpace 118 = .ok (.istore_n 3, 1) := by decide +kernel
theorem dX8_placeSpace_119 : decode cX8_placeSpace 119 = .ok (.iload_n 3, 1) := by decide +kernel
theorem dX8_placeSpace_120 : decode cX8_placeSpace 120 = .ok (.aload_n 0, 1) := by decide +kernel
theorem dX8_placeSpace_121 : decode cX8_placeSpace 121 = .ok (.getfield 87, 3) := by decide +kernel
theorem dX8_placeSpace_124 : decode cX8_placeSpace 124 = .ok (.if_icmp .ge 64, 3) := by decide +kernel
theorem dX8_placeSpace_127 : decode cX8_placeSpace 127 = .ok (.aload_n 0, 1) := by decide +kernel
theorem dX8_placeSpace_128 : decode cX8_placeSpace 128 = .ok (.getfield 90, 3) := by decide +kernel
theorem dX8_placeSpace_131 : decode cX8_placeSpace 131 = .ok (.aload_n 0, 1) := by decide +kernel
theorem dX8_placeSpace_132 : decode cX8_placeSpace 132 = .ok (.getfield 87, 3) := by decide +kernel
theorem dX8_placeSpace_135 : decode cX8_placeSpace 135 = .ok (.if_icmp .ge 53, 3) := by decide +kernel
theorem dX8_placeSpace_138 : decode cX8_placeSpace 138 = .ok (.aload_n 0, 1) := by decide +kernel
theorem dX8_placeSpace_139 : decode cX8_placeSpace 139 = .ok (.aload_n 0, 1) := by decide +kernel
theorem dX8_placeSpace_140 : decode cX8_placeSpace 140 = .ok (.getfield 29, 3) := by decide +kernel
theorem dX8_placeSpace_143 : decode cX8_placeSpace 143 = .ok (.iload_n 3, 1) := by decide +kernel
theorem dX8_placeSpace_144 : decode cX8_placeSpace 144 = .ok (.aaload, 1) := by decide +kernel
theorem dX8_placeSpace_145 : decode cX8_placeSpace 145 = .ok (.aload_n 0, 1) := by decide +kernel
theorem dX8_placeSpace_146 : decode cX8_placeSpace 146 = .ok (.getfield 20, 3) := by decide +kernel
theorem dX8_placeSpace_149 : decode cX8_placeSpace 149 = .ok (.aload_n 0, 1) := by decide +kernel
theorem dX8_placeSpace_150 : decode cX8_placeSpace 150 = .ok (.getfield 90, 3) := by decide +kernel
theorem dX8_placeSpace_153 : decode cX8_placeSpace 153 = .ok (.aaload, 1) := by decide +kernel
theorem dX8_placeSpace_154 : decode cX8_placeSpace 154 = .ok (.invokevirtual 134, 3) := by decide +kernel
theorem dX8_placeSpace_157 : decode cX8_placeSpace 157 = .ok (.aload_n 0, 1) := by decide +kernel
theorem dX8_placeSpace_158 : decode cX8_placeSpace 158 = .ok (.getfield 41, 3) := by decide +kernel
theorem dX8_placeSpace_161 : decode cX8_placeSpace 161 = .ok (.aload_n 0, 1) := by decide +kernel
theorem dX8_placeSpace_162 : decode cX8_placeSpace 162 = .ok (.getfield 84, 3) := by decide +kernel
theorem dX8_placeSpace_165 : decode cX8_placeSpace 165 = .ok (.aload_n 0, 1) := by decide +kernel
theorem dX8_placeSpace_166 : decode cX8_placeSpace 166 = .ok (.getfield 90, 3) := by decide +kernel
theorem dX8_placeSpace_169 : decode cX8_placeSpace 169 = .ok (.iadd, 1) := by decide +kernel
theorem dX8_placeSpace_170 : decode cX8_placeSpace 170 = .ok (.iconst 0, 1) := by decide +kernel
theorem dX8_placeSpace_171 : decode cX8_placeSpace 171 = .ok (.iastore, 1) := by decide +kernel
theorem dX8_placeSpace_172 : decode cX8_placeSpace 172 = .ok (.aload_n 0, 1) := by decide +kernel
theorem dX8_placeSpace_173 : decode cX8_placeSpace 173 = .ok (.dup, 1) := by decide +kernel
theorem dX8_placeSpace_174 : decode cX8_placeSpace 174 = .ok (.getfield 90, 3) := by decide +kernel
theorem dX8_placeSpace_177 : decode cX8_placeSpace 177 = .ok (.iconst 1, 1) := by decide +kernel
theorem dX8_placeSpace_178 : decode cX8_placeSpace 178 = .ok (.iadd, 1) := by decide +kernel
theorem dX8_placeSpace_179 : decode cX8_placeSpace 179 = .ok (.putfield 90, 3) := by decide +kernel
theorem dX8_placeSpace_182 : decode cX8_placeSpace 182 = .ok (.iinc 3 1, 3) := by decide +kernel
theorem dX8_placeSpace_185 : decode cX8_placeSpace 185 = .ok (.goto (-66), 3) := by decide +kernel
theorem dX8_placeSpace_188 : decode cX8_placeSpace 188 = .ok (.aload_n 0, 1) := by decide +kernel
theorem dX8_placeSpace_189 : decode cX8_placeSpace 189 = .ok (.aload_n 0, 1) := by decide +kernel
theorem dX8_placeSpace_190 : decode cX8_placeSpace 190 = .ok (.getfield 20, 3) := by decide +kernel
theorem dX8_placeSpace_193 : decode cX8_placeSpace 193 = .ok (.iload_n 2, 1) := by decide +kernel
theorem dX8_placeSpace_194 : decode cX8_placeSpace 194 = .ok (.aload_n 0, 1) := by decide +kernel
theorem dX8_placeSpace_195 : decode cX8_placeSpace 195 = .ok (.getfield 90, 3) := by decide +kernel
theorem dX8_placeSpace_198 : decode cX8_placeSpace 198 = .ok (.aload_n 0, 1) := by decide +kernel
theorem dX8_placeSpace_199 : decode cX8_placeSpace 199 = .ok (.getfield 60, 3) := by decide +kernel
theorem dX8_placeSpace_202 : decode cX8_placeSpace 202 = .ok (.invokevirtual 130, 3) := by decide +kernel
theorem dX8_placeSpace_205 : decode cX8_placeSpace 205 = .ok (.pop, 1) := by decide +kernel
theorem dX8_placeSpace_206 : decode cX8_placeSpace 206 = .ok (.iload_n 2, 1) := by decide +kernel
theorem dX8_placeSpace_207 : decode cX8_placeSpace 207 = .ok (.aload_n 0, 1) := by decide +kernel
theorem dX8_placeSpace_208 : decode cX8_placeSpace 208 = .ok (.getfield 90, 3) := by decide +kernel
theorem dX8_placeSpace_211 : decode cX8_placeSpace 211 = .ok (.if_icmp .ge 20, 3) := by decide +kernel
theorem dX8_placeSpace_214 : decode cX8_placeSpace 214 = .ok (.aload_n 0, 1) := by decide +kernel
theorem dX8_placeSpace_215 : decode cX8_placeSpace 215 = .ok (.getfield 41, 3) := by decide +kernel
theorem dX8_placeSpace_218 : decode cX8_placeSpace 218 = .ok (.aload_n 0, 1) := by decide +kernel
theorem dX8_placeSpace_219 : decode cX8_placeSpace 219 = .ok (.getfield 84, 3) := by decide +kernel
theorem dX8_placeSpace_222 : decode cX8_placeSpace 222 = .ok (.iload_n 2, 1) := by decide +kernel
theorem dX8_placeSpace_223 : decode cX8_placeSpace 223 = .ok (.iadd, 1) := by decide +kernel
theorem dX8_placeSpace_224 : decode cX8_placeSpace 224 = .ok (.aload_n 0, 1) := by decide +kernel
theorem dX8_placeSpace_225 : decode cX8_placeSpace 225 = .ok (.getfield 90, 3) := by decide +kernel
theorem dX8_placeSpace_228 : decode cX8_placeSpace 228 = .ok (.iload_n 2, 1) := by decide +kernel
theorem dX8_placeSpace_229 : decode cX8_placeSpace 229 = .ok (.isub, 1) := by decide +kernel
theorem dX8_placeSpace_230 : decode cX8_placeSpace 230 = .ok (.iastore, 1) := by decide +kernel
theorem dX8_placeSpace_231 : decode cX8_placeSpace 231 = .ok (.return_, 1) := by decide +kernel
theorem B_X8_placeSpace_0 {g : Sg} {c t : Nat} (hL : Lay LC g c t σ) {x1 : Int} (h : (Lay LC g c t σ → GG E mX8_placeSpace 2 [some (vr 54), some (vi x1), some (vi 0), none] [] σ rc rs Q)) : GG E mX8_placeSpace 0 [some (vr 54), some (vi x1), none, none] [] σ rc rs Q := by
  refine r_iconst (pc := 0) dX8_placeSpace_0 (inRk rfl) ?_
  refine r_istore_n (pc := 1) dX8_placeSpace_1 rfl (by decide) (l2 := [some (vr 54), some (vi x1), some (vi 0), none]) rfl ?_
  exact (h hL)
theorem B_X8_placeSpace_2 {g : Sg} {c t : Nat} (hL : Lay LC g c t σ) {x1 : Int} {x2 : Int} (h : (((gI σ 54 13) ≤ x2 → (Lay LC g c t σ → CC E mX8_clear [vr 54, vr 108, vi 0, vi (gI σ 54 13), vi (gI σ 54 13)] σ (KI (fun r1 τ2 => Lay LC g c t τ2 ∧ (inR r1 → (Lay LC g c t τ2 → GG E mX8_placeSpace 119 [some (vr 54), none, some (vi (gI σ 54 14)), some (vi r1)] [] τ2 rc rs Q))) (fun _ _ => False)))) ∧ (¬ ((gI σ 54 13) ≤ x2) → (Lay LC g c t σ → GG E mX8_placeSpace 12 [some (vr 54), some (vi x1), some (vi x2), some (vi 0)] [] σ rc rs Q)))) : GG E mX8_placeSpace 2 [some (vr 54), some (vi x1), some (vi x2), none] [] σ rc rs Q := by
  refine r_iload_n (pc := 2) dX8_placeSpace_2 rfl rfl ?_
  refine r_aload_n (pc := 3) dX8_placeSpace_3 rfl rfl ?_
  refine r_getI (pc := 4) dX8_placeSpace_4 (k9 := 13) CL_8 (by decide) (by decide) w_375 rfl (okO_of (N := 15) (hL.sh (i := 27) rfl (by decide) (by decide)) (by decide)) (fun _ => ?_)
  refine r_icmp_ge (pc := 7) (tgt := 96) dX8_placeSpace_7 (by decide) (fun c9 => ?_) (fun c9 => ?_)
  · replace h := h.1 c9
    refine r_aload_n (pc := 96) dX8_placeSpace_96 rfl rfl ?_
    refine r_getI (pc := 97) dX8_placeSpace_97 (k9 := 14) CL_8 (by decide) (by decide) w_376 rfl (okO_of (N := 15) (hL.sh (i := 27) rfl (by decide) (by decide)) (by decide)) (fun _ => ?_)
    refine r_istore_n (pc := 100) dX8_placeSpace_100 rfl (by decide) (l2 := [some (vr 54), some (vi x1), some (vi (gI σ 54 14)), none]) rfl ?_
    refine r_aload_n (pc := 101) dX8_placeSpace_101 rfl rfl ?_
    refine r_aload_n (pc := 102) dX8_placeSpace_102 rfl rfl ?_
    refine r_getR (pc := 103) dX8_placeSpace_103 (k9 := 5) CL_8 (by decide) (by decide) w_366 rfl (okO_of (N := 15) (hL.sh (i := 27) rfl (by decide) (by decide)) (by decide)) ?_
    refine eqR (y := 108) (hL.rf (i := 31) rfl) ?_
    refine r_iconst (pc := 106) dX8_placeSpace_106 (inRk rfl) ?_
    refine r_aload_n (pc := 107) dX8_placeSpace_107 rfl rfl ?_
    refine r_getI (pc := 108) dX8_placeSpace_108 (k9 := 13) CL_8 (by decide) (by decide) w_375 rfl (okO_of (N := 15) (hL.sh (i := 27) rfl (by decide) (by decide)) (by decide)) (fun _ => ?_)
    refine r_aload_n (pc := 111) dX8_placeSpace_111 rfl rfl ?_
    refine r_getI (pc := 112) dX8_placeSpace_112 (k9 := 13) CL_8 (by decide) (by decide) w_375 rfl (okO_of (N := 15) (hL.sh (i := 27) rfl (by decide) (by decide)) (by decide)) (fun _ => ?_)
    refine c_VI0N (M := mX8_placeSpace) (pc := 115) (As := [vr 108, vi 0, vi (gI σ 54 13), vi (gI σ 54 13)]) dX8_placeSpace_115 K_X8_clear w_1051 ⟨by decide, by decide⟩ (Nat.le_of_ble_eq_true rfl) rfl rfl (ci := 8) rfl rfl (by decide) (okO_of (N := 15) (hL.sh (i := 27) rfl (by decide) (by decide)) (by decide)) (h hL) (fun r1 τ2 h8 hr9 => ?_) rfl
    replace hL := h8.1
    replace h := h8.2 hr9
    refine r_istore_n (pc := 118) dX8_placeSpace_118 rfl (by decide) (l2 := [some (vr 54), some (vi x1), some (vi (gI σ 54 14)), some (vi r1)]) rfl ?_
    exact GG.msk [true, false, true, true] (h hL)
  · replace h := h.2 c9
    refine r_iconst (pc := 10) dX8_placeSpace_10 (inRk rfl) ?_
    refine r_istore_n (pc := 11) dX8_placeSpace_11 rfl (by decide) (l2 := [some (vr 54), some (vi x1), some (vi x2), some (vi 0)]) rfl ?_
    exact (h hL)
theorem B_X8_placeSpace_12 {g : Sg} {c t : Nat} (hL : Lay LC g c t σ) {x1 : Int} {x2 : Int} {x3 : Int} (h : (((gI σ 54 13) ≤ x3 → inR (x2 + 1) ∧ (Lay LC g c t σ → GG E mX8_placeSpace 2 [some (vr 54), some (vi x1), some (vi (x2 + 1)), none] [] σ rc rs Q)) ∧ (¬ ((gI σ 54 13) ≤ x3) → (0 ≤ x2 ∧ x2 < 12) ∧ ∀ b3 : Nat, b3 = gR σ 108 x2.toNat → (109 ≤ b3 ∧ b3 < 121) → ((x2 ≠ x3 → (0 ≤ x3 ∧ x3 < 12) ∧ (0 ≤ x3 ∧ x3 < 24) ∧ ∀ τ8 : Sg, τ8 = sI σ b3 x3.toNat (gI σ (83 + x2.toNat) x3.toNat) → ∀ b9 : Nat, b9 = gR τ8 108 x2.toNat → (109 ≤ b9 ∧ b9 < 121) → inR ((gI τ8 54 13) + x3) ∧ ((x2 ≠ x3 → (0 ≤ ((gI τ8 54 13) + x3) ∧ ((gI τ8 54 13) + x3) < 24) ∧ ∀ τ13 : Sg, τ13 = sI τ8 b9 ((gI τ8 54 13) + x3).toNat 0 → inR (x3 + 1) ∧ (Lay LC g c t τ13 → GG E mX8_placeSpace 12 [some (vr 54), some (vi x1), some (vi x2), some (vi (x3 + 1))] [] τ13 rc rs Q)) ∧ (x2 = x3 → (0 ≤ ((gI τ8 54 13) + x3) ∧ ((gI τ8 54 13) + x3) < 24) ∧ ∀ τ16 : Sg, τ16 = sI τ8 b9 ((gI τ8 54 13) + x3).toNat 1 → inR (x3 + 1) ∧ (Lay LC g c t τ16 → GG E mX8_placeSpace 12 [some (vr 54), some (vi x1), some (vi x2), some (vi (x3 + 1))] [] τ16 rc rs Q)))) ∧ (x2 = x3 → (0 ≤ x3 ∧ x3 < 12) ∧ inR ((gI σ (83 + x2.toNat) x3.toNat) - x1) ∧ (Lay LC g c t σ → CC E mX2_mod [vr 35, vi ((gI σ (83 + x2.toNat) x3.toNat) - x1)] σ (KI (fun r21 τ22 => Lay LC g c t τ22 ∧ (inR r21 → (0 ≤ x3 ∧ x3 < 24) ∧ ∀ τ24 : Sg, τ24 = sI τ22 b3 x3.toNat r21 → ∀ b25 : Nat, b25 = gR τ24 108 x2.toNat → (109 ≤ b25 ∧ b25 < 121) → inR ((gI τ24 54 13) + x3) ∧ ((x2 ≠ x3 → (0 ≤ ((gI τ24 54 13) + x3) ∧ ((gI τ24 54 13) + x3) < 24) ∧ ∀ τ29 : Sg, τ29 = sI τ24 b25 ((gI τ24 54 13) + x3).toNat 0 → inR (x3 + 1) ∧ (Lay LC g c t τ29 → GG E mX8_placeSpace 12 [some (vr 54), some (vi x1), some (vi x2), some (vi (x3 + 1))] [] τ29 rc rs Q)) ∧ (x2 = x3 → (0 ≤ ((gI τ24 54 13) + x3) ∧ ((gI τ24 54 13) + x3) < 24) ∧ ∀ τ32 : Sg, τ32 = sI τ24 b25 ((gI τ24 54 13) + x3).toNat 1 → inR (x3 + 1) ∧ (Lay LC g c t τ32 → GG E mX8_placeSpace 12 [some (vr 54), some (vi x1), some (vi x2), some (vi (x3 + 1))] [] τ32 rc rs Q))))) (fun _ _ => False)))))))) : GG E mX8_placeSpace 12 [some (vr 54), some (vi x1), some (vi x2), some (vi x3)] [] σ rc rs Q := by
  refine r_iload_n (pc := 12) dX8_placeSpace_12 rfl rfl ?_
  refine r_aload_n (pc := 13) dX8_placeSpace_13 rfl rfl ?_
  refine r_getI (pc := 14) dX8_placeSpace_14 (k9 := 13) CL_8 (by decide) (by decide) w_375 rfl (okO_of (N := 15) (hL.sh (i := 27) rfl (by decide) (by decide)) (by decide)) (fun _ => ?_)
  refine r_icmp_ge (pc := 17) (tgt := 90) dX8_placeSpace_17 (by decide) (fun c9 => ?_) (fun c9 => ?_)
  · replace h := h.1 c9
    obtain ⟨o1, h⟩ := h
    refine r_iinc (pc := 90) dX8_placeSpace_90 rfl (by decide) o1 (l2 := [some (vr 54), some (vi x1), some (vi (x2 + 1)), some (vi x3)]) rfl ?_
    refine r_goto (pc := 93) (tgt := 2) dX8_placeSpace_93 (by decide) ?_
    exact GG.msk [true, true, true, false] (h hL)
  · replace h := h.2 c9
    refine r_aload_n (pc := 20) dX8_placeSpace_20 rfl rfl ?_
    refine r_getR (pc := 21) dX8_placeSpace_21 (k9 := 5) CL_8 (by decide) (by decide) w_366 rfl (okO_of (N := 15) (hL.sh (i := 27) rfl (by decide) (by decide)) (by decide)) ?_
    refine eqR (y := 108) (hL.rf (i := 31) rfl) ?_
    refine r_iload_n (pc := 24) dX8_placeSpace_24 rfl rfl ?_
    obtain ⟨o2, h⟩ := h
    refine r_aaload (pc := 25) dX8_placeSpace_25 (okB_of (c := 24) (n := 12) (hL.sh (i := 37) rfl (by decide) (by decide)) (by decide) o2) ?_
    refine nmR (fun b3 e9 => ?_)
    have q4 : (109 ≤ b3 ∧ b3 < 121) := e9 ▸ hL.rsw (i := 2) rfl (rowC o2 (by decide))
    replace h := h b3 e9 q4
    refine r_iload_n (pc := 26) dX8_placeSpace_26 rfl rfl ?_
    refine r_iload_n (pc := 27) dX8_placeSpace_27 rfl rfl ?_
    refine r_iload_n (pc := 28) dX8_placeSpace_28 rfl rfl ?_
    refine r_icmp_ne (pc := 29) (tgt := 52) dX8_placeSpace_29 (by decide) (fun c9 => ?_) (fun c9 => ?_)
    · replace h := h.1 c9
      refine r_aload_n (pc := 52) dX8_placeSpace_52 rfl rfl ?_
      refine r_getR (pc := 53) dX8_placeSpace_53 (k9 := 3) CL_8 (by decide) (by decide) w_364 rfl (okO_of (N := 15) (hL.sh (i := 27) rfl (by decide) (by decide)) (by decide)) ?_
      refine eqR (y := 82) (hL.rf (i := 29) rfl) ?_
      refine r_iload_n (pc := 56) dX8_placeSpace_56 rfl rfl ?_
      refine r_aaload (pc := 57) dX8_placeSpace_57 (okB_of (c := 24) (n := 12) (hL.sh (i := 33) rfl (by decide) (by decide)) (by decide) o2) ?_
      have q5 : 83 ≤ 83 + x2.toNat ∧ 83 + x2.toNat < 95 := ⟨Nat.le_add_right _ _, rowB o2 (by decide)⟩
      refine eqR (y := 83 + x2.toNat) (hL.rx (i := 1) rfl (rowC o2 (by decide))) ?_
      refine r_iload_n (pc := 58) dX8_placeSpace_58 rfl rfl ?_
      obtain ⟨o6, h⟩ := h
      refine r_iaload (pc := 59) dX8_placeSpace_59 (okA_of (c := 20) (n := 12) (hL.sh (i := 34) rfl q5.1 q5.2) (Nat.le_trans (by decide) q5.1) o6) ?_
      obtain ⟨o7, h⟩ := h
      refine r_iastore (pc := 60) dX8_placeSpace_60 (okB_of (c := 20) (n := 24) (hL.sh (i := 38) rfl q4.1 q4.2) (Nat.le_trans (by decide) q4.1) o7) ?_
      refine nmS (fun τ8 e8 => ?_)
      replace h := h τ8 e8
      have hL := hL.wI e8 (Nat.le_trans (by decide) q4.1) (.inl ⟨Nat.le_trans (by decide) q4.1, Nat.lt_of_lt_of_le q4.2 (by decide)⟩)
      refine r_aload_n (pc := 61) dX8_placeSpace_61 rfl rfl ?_
      refine r_getR (pc := 62) dX8_placeSpace_62 (k9 := 5) CL_8 (by decide) (by decide) w_366 rfl (okO_of (N := 15) (hL.sh (i := 27) rfl (by decide) (by decide)) (by decide)) ?_
      refine eqR (y := 108) (hL.rf (i := 31) rfl) ?_
      refine r_iload_n (pc := 65) dX8_placeSpace_65 rfl rfl ?_
      refine r_aaload (pc := 66) dX8_placeSpace_66 (okB_of (c := 24) (n := 12) (hL.sh (i := 37) rfl (by decide) (by decide)) (by decide) o2) ?_
      refine nmR (fun b9 e9 => ?_)
      have q10 : (109 ≤ b9 ∧ b9 < 121) := e9 ▸ hL.rsw (i := 2) rfl (rowC o2 (by decide))
      replace h := h b9 e9 q10
      refine r_aload_n (pc := 67) dX8_placeSpace_67 rfl rfl ?_
      refine r_getI (pc := 68) dX8_placeSpace_68 (k9 := 13) CL_8 (by decide) (by decide) w_375 rfl (okO_of (N := 15) (hL.sh (i := 27) rfl (by decide) (by decide)) (by decide)) (fun _ => ?_)
      refine r_iload_n (pc := 71) dX8_placeSpace_71 rfl rfl ?_
      obtain ⟨o11, h⟩ := h
      refine r_iadd (pc := 72) dX8_placeSpace_72 o11 ?_
      refine r_iload_n (pc := 73) dX8_placeSpace_73 rfl rfl ?_
      refine r_iload_n (pc := 74) dX8_placeSpace_74 rfl rfl ?_
      refine r_icmp_ne (pc := 75) (tgt := 82) dX8_placeSpace_75 (by decide) (fun c9 => ?_) (fun c9 => ?_)
      · replace h := h.1 c9
        refine r_iconst (pc := 82) dX8_placeSpace_82 (inRk rfl) ?_
        obtain ⟨o12, h⟩ := h
        refine r_iastore (pc := 83) dX8_placeSpace_83 (okB_of (c := 20) (n := 24) (hL.sh (i := 38) rfl q10.1 q10.2) (Nat.le_trans (by decide) q10.1) o12) ?_
        refine nmS (fun τ13 e13 => ?_)
        replace h := h τ13 e13
        have hL := hL.wI e13 (Nat.le_trans (by decide) q10.1) (.inl ⟨Nat.le_trans (by decide) q10.1, Nat.lt_of_lt_of_le q10.2 (by decide)⟩)
        obtain ⟨o14, h⟩ := h
        refine r_iinc (pc := 84) dX8_placeSpace_84 rfl (by decide) o14 (l2 := [some (vr 54), some (vi x1), some (vi x2), some (vi (x3 + 1))]) rfl ?_
        refine r_goto (pc := 87) (tgt := 12) dX8_placeSpace_87 (by decide) ?_
        exact (h hL)
      · replace h := h.2 c9
        refine r_iconst (pc := 78) dX8_placeSpace_78 (inRk rfl) ?_
        refine r_goto (pc := 79) (tgt := 83) dX8_placeSpace_79 (by decide) ?_
        obtain ⟨o15, h⟩ := h
        refine r_iastore (pc := 83) dX8_placeSpace_83 (okB_of (c := 20) (n := 24) (hL.sh (i := 38) rfl q10.1 q10.2) (Nat.le_trans (by decide) q10.1) o15) ?_
        refine nmS (fun τ16 e16 => ?_)
        replace h := h τ16 e16
        have hL := hL.wI e16 (Nat.le_trans (by decide) q10.1) (.inl ⟨Nat.le_trans (by decide) q10.1, Nat.lt_of_lt_of_le q10.2 (by decide)⟩)
        obtain ⟨o17, h⟩ := h
        refine r_iinc (pc := 84) dX8_placeSpace_84 rfl (by decide) o17 (l2 := [some (vr 54), some (vi x1), some (vi x2), some (vi (x3 + 1))]) rfl ?_
        refine r_goto (pc := 87) (tgt := 12) dX8_placeSpace_87 (by decide) ?_
        exact (h hL)
    · replace h := h.2 c9
      refine r_aload_n (pc := 32) dX8_placeSpace_32 rfl rfl ?_
      refine r_getR (pc := 33) dX8_placeSpace_33 (k9 := 10) CL_8 (by decide) (by decide) w_371 rfl (okO_of (N := 15) (hL.sh (i := 27) rfl (by decide) (by decide)) (by decide)) ?_
      refine eqR (y := 35) (hL.rf (i := 36) rfl) ?_
      refine r_aload_n (pc := 36) dX8_placeSpace_36 rfl rfl ?_
      refine r_getR (pc := 37) dX8_placeSpace_37 (k9 := 3) CL_8 (by decide) (by decide) w_364 rfl (okO_of (N := 15) (hL.sh (i := 27) rfl (by decide) (by decide)) (by decide)) ?_
      refine eqR (y := 82) (hL.rf (i := 29) rfl) ?_
      refine r_iload_n (pc := 40) dX8_placeSpace_40 rfl rfl ?_
      refine r_aaload (pc := 41) dX8_placeSpace_41 (okB_of (c := 24) (n := 12) (hL.sh (i := 33) rfl (by decide) (by decide)) (by decide) o2) ?_
      have q18 : 83 ≤ 83 + x2.toNat ∧ 83 + x2.toNat < 95 := ⟨Nat.le_add_right _ _, rowB o2 (by decide)⟩
      refine eqR (y := 83 + x2.toNat) (hL.rx (i := 1) rfl (rowC o2 (by decide))) ?_
      refine r_iload_n (pc := 42) dX8_placeSpace_42 rfl rfl ?_
      obtain ⟨o19, h⟩ := h
      refine r_iaload (pc := 43) dX8_placeSpace_43 (okA_of (c := 20) (n := 12) (hL.sh (i := 34) rfl q18.1 q18.2) (Nat.le_trans (by decide) q18.1) o19) ?_
      refine r_iload_n (pc := 44) dX8_placeSpace_44 rfl rfl ?_
      obtain ⟨o20, h⟩ := h
      refine r_isub (pc := 45) dX8_placeSpace_45 o20 ?_
      refine c_VI0N (M := mX8_placeSpace) (pc := 46) (As := [vi ((gI σ (83 + x2.toNat) x3.toNat) - x1)]) dX8_placeSpace_46 K_X2_mod w_1032 ⟨by decide, by decide⟩ (Nat.le_of_ble_eq_true rfl) rfl rfl (ci := 2) rfl rfl (by decide) (okO_of (N := 2) (hL.sh (i := 19) rfl (by decide) (by decide)) (by decide)) (h hL) (fun r21 τ22 h8 hr9 => ?_) rfl
      replace hL := h8.1
      replace h := h8.2 hr9
      refine r_goto (pc := 49) (tgt := 60) dX8_placeSpace_49 (by decide) ?_
      obtain ⟨o23, h⟩ := h
      refine r_iastore (pc := 60) dX8_placeSpace_60 (okB_of (c := 20) (n := 24) (hL.sh (i := 38) rfl q4.1 q4.2) (Nat.le_trans (by decide) q4.1) o23) ?_
      refine nmS (fun τ24 e24 => ?_)
      replace h := h τ24 e24
      have hL := hL.wI e24 (Nat.le_trans (by decide) q4.1) (.inl ⟨Nat.le_trans (by decide) q4.1, Nat.lt_of_lt_of_le q4.2 (by decide)⟩)
      refine r_aload_n (pc := 61) dX8_placeSpace_61 rfl rfl ?_
      refine r_getR (pc := 62) dX8_placeSpace_62 (k9 := 5) CL_8 (by decide) (by decide) w_366 rfl (okO_of (N := 15) (hL.sh (i := 27) rfl (by decide) (by decide)) (by decide)) ?_
      refine eqR (y := 108) (hL.rf (i := 31) rfl) ?_
      refine r_iload_n (pc := 65) dX8_placeSpace_65 rfl rfl ?_
      refine r_aaload (pc := 66) dX8_placeSpace_66 (okB_of (c := 24) (n := 12) (hL.sh (i := 37) rfl (by decide) (by decide)) (by decide) o2) ?_
      refine nmR (fun b25 e9 => ?_)
      have q26 : (109 ≤ b25 ∧ b25 < 121) := e9 ▸ hL.rsw (i := 2) rfl (rowC o2 (by decide))
      replace h := h b25 e9 q26
      refine r_aload_n (pc := 67) dX8_placeSpace_67 rfl rfl ?_
      refine r_getI (pc := 68) dX8_placeSpace_68 (k9 := 13) CL_8 (by decide) (by decide) w_375 rfl (okO_of (N := 15) (hL.sh (i := 27) rfl (by decide) (by decide)) (by decide)) (fun _ => ?_)
      refine r_iload_n (pc := 71) dX8_placeSpace_71 rfl rfl ?_
      obtain ⟨o27, h⟩ := h
      refine r_iadd (pc := 72) dX8_placeSpace_72 o27 ?_
      refine r_iload_n (pc := 73) dX8_placeSpace_73 rfl rfl ?_
      refine r_iload_n (pc := 74) dX8_placeSpace_74 rfl rfl ?_
      refine r_icmp_ne (pc := 75) (tgt := 82) dX8_placeSpace_75 (by decide) (fun c9 => ?_) (fun c9 => ?_)
      · replace h := h.1 c9
        refine r_iconst (pc := 82) dX8_placeSpace_82 (inRk rfl) ?_
        obtain ⟨o28, h⟩ := h
        refine r_iastore (pc := 83) dX8_placeSpace_83 (okB_of (c := 20) (n := 24) (hL.sh (i := 38) rfl q26.1 q26.2) (Nat.le_trans (by decide) q26.1) o28) ?_
        refine nmS (fun τ29 e29 => ?_)
        replace h := h τ29 e29
        have hL := hL.wI e29 (Nat.le_trans (by decide) q26.1) (.inl ⟨Nat.le_trans (by decide) q26.1, Nat.lt_of_lt_of_le q26.2 (by decide)⟩)
        obtain ⟨o30, h⟩ := h
        refine r_iinc (pc := 84) dX8_placeSpace_84 rfl (by decide) o30 (l2 := [some (vr 54), some (vi x1), some (vi x2), some (vi (x3 + 1))]) rfl ?_
        refine r_goto (pc := 87) (tgt := 12) dX8_placeSpace_87 (by decide) ?_
        exact (h hL)
      · replace h := h.2 c9
        refine r_iconst (pc := 78) dX8_placeSpace_78 (inRk rfl) ?_
        refine r_goto (pc := 79) (tgt := 83) dX8_placeSpace_79 (by decide) ?_
        obtain ⟨o31, h⟩ := h
        refine r_iastore (pc := 83) dX8_placeSpace_83 (okB_of (c := 20) (n := 24) (hL.sh (i := 38) rfl q26.1 q26.2) (Nat.le_trans (by decide) q26.1) o31) ?_
        refine nmS (fun τ32 e32 => ?_)
        replace h := h τ32 e32
        have hL := hL.wI e32 (Nat.le_trans (by decide) q26.1) (.inl ⟨Nat.le_trans (by decide) q26.1, Nat.lt_of_lt_of_le q26.2 (by decide)⟩)
        obtain ⟨o33, h⟩ := h
        refine r_iinc (pc := 84) dX8_placeSpace_84 rfl (by decide) o33 (l2 := [some (vr 54), some (vi x1), some (vi x2), some (vi (x3 + 1))]) rfl ?_
        refine r_goto (pc := 87) (tgt := 12) dX8_placeSpace_87 (by decide) ?_
        exact (h hL)
theorem B_X8_placeSpace_119 {g : Sg} {c t : Nat} (hL : Lay LC g c t σ) {x2 : Int} {x3 : Int} (h : (((gI σ 54 13) ≤ x3 → (Lay LC g c t σ → GG E mX8_placeSpace 188 [some (vr 54), none, some (vi x2), none] [] σ rc rs Q)) ∧ (¬ ((gI σ 54 13) ≤ x3) → (((gI σ 54 13) ≤ (gI σ 54 14) → (Lay LC g c t σ → GG E mX8_placeSpace 188 [some (vr 54), none, some (vi x2), none] [] σ rc rs Q)) ∧ (¬ ((gI σ 54 13) ≤ (gI σ 54 14)) → (0 ≤ x3 ∧ x3 < 12) ∧ ∀ b2 : Nat, b2 = gR σ 108 x3.toNat → (109 ≤ b2 ∧ b2 < 121) → (0 ≤ (gI σ 54 14) ∧ (gI σ 54 14) < 12) ∧ ∀ b5 : Nat, b5 = gR σ 69 (gI σ 54 14).toNat → (70 ≤ b5 ∧ b5 < 82) → (Lay LC g c t σ → CC E mX8_mixRows [vr 54, vr b2, vr b5] σ (KV (fun τ8 => Lay LC g c t τ8 ∧ inR ((gI τ8 54 12) + (gI τ8 54 14)) ∧ (0 ≤ ((gI τ8 54 12) + (gI τ8 54 14)) ∧ ((gI τ8 54 12) + (gI τ8 54 14)) < 12) ∧ ∀ τ11 : Sg, τ11 = sI τ8 124 ((gI τ8 54 12) + (gI τ8 54 14)).toNat 0 → inR ((gI τ11 54 14) + 1) ∧ ∀ τ13 : Sg, τ13 = sI τ11 54 14 ((gI τ11 54 14) + 1) → inR (x3 + 1) ∧ (Lay LC g c t τ13 → GG E mX8_placeSpace 119 [some (vr 54), none, some (vi x2), some (vi (x3 + 1))] [] τ13 rc rs Q)) (fun _ _ => False)))))))) : GG E mX8_placeSpace 119 [some (vr 54), none, some (vi x2), some (vi x3)] [] σ rc rs Q := by
  refine r_iload_n (pc := 119) dX8_placeSpace_119 rfl rfl ?_
  refine r_aload_n (pc := 120) dX8_placeSpace_120 rfl rfl ?_
  refine r_getI (pc := 121) dX8_placeSpace_121 (k9 := 13) CL_8 (by decide) (by decide) w_375 rfl (okO_of (N := 15) (hL.sh (i := 27) rfl (by decide) (by decide)) (by decide)) (fun _ => ?_)
  refine r_icmp_ge (pc := 124) (tgt := 188) dX8_placeSpace_124 (by decide) (fun c9 => ?_) (fun c9 => ?_)
  · replace h := h.1 c9
    exact GG.msk [true, false, true, false] (h hL)
  · replace h := h.2 c9
    refine r_aload_n (pc := 127) dX8_placeSpace_127 rfl rfl ?_
    refine r_getI (pc := 128) dX8_placeSpace_128 (k9 := 14) CL_8 (by decide) (by decide) w_376 rfl (okO_of (N := 15) (hL.sh (i := 27) rfl (by decide) (by decide)) (by decide)) (fun _ => ?_)
    refine r_aload_n (pc := 131) dX8_placeSpace_131 rfl rfl ?_
    refine r_getI (pc := 132) dX8_placeSpace_132 (k9 := 13) CL_8 (by decide) (by decide) w_375 rfl (okO_of (N := 15) (hL.sh (i := 27) rfl (by decide) (by decide)) (by decide)) (fun _ => ?_)
    refine r_icmp_ge (pc := 135) (tgt := 188) dX8_placeSpace_135 (by decide) (fun c9 => ?_) (fun c9 => ?_)
    · replace h := h.1 c9
      exact GG.msk [true, false, true, false] (h hL)
    · replace h := h.2 c9
      refine r_aload_n (pc := 138) dX8_placeSpace_138 rfl rfl ?_
      refine r_aload_n (pc := 139) dX8_placeSpace_139 rfl rfl ?_
      refine r_getR (pc := 140) dX8_placeSpace_140 (k9 := 5) CL_8 (by decide) (by decide) w_366 rfl (okO_of (N := 15) (hL.sh (i := 27) rfl (by decide) (by decide)) (by decide)) ?_
      refine eqR (y := 108) (hL.rf (i := 31) rfl) ?_
      refine r_iload_n (pc := 143) dX8_placeSpace_143 rfl rfl ?_
      obtain ⟨o1, h⟩ := h
      refine r_aaload (pc := 144) dX8_placeSpace_144 (okB_of (c := 24) (n := 12) (hL.sh (i := 37) rfl (by decide) (by decide)) (by decide) o1) ?_
      refine nmR (fun b2 e9 => ?_)
      have q3 : (109 ≤ b2 ∧ b2 < 121) := e9 ▸ hL.rsw (i := 2) rfl (rowC o1 (by decide))
      replace h := h b2 e9 q3
      refine r_aload_n (pc := 145) dX8_placeSpace_145 rfl rfl ?_
      refine r_getR (pc := 146) dX8_placeSpace_146 (k9 := 2) CL_8 (by decide) (by decide) w_363 rfl (okO_of (N := 15) (hL.sh (i := 27) rfl (by decide) (by decide)) (by decide)) ?_
      refine eqR (y := 69) (hL.rf (i := 28) rfl) ?_
      refine r_aload_n (pc := 149) dX8_placeSpace_149 rfl rfl ?_
      refine r_getI (pc := 150) dX8_placeSpace_150 (k9 := 14) CL_8 (by decide) (by decide) w_376 rfl (okO_of (N := 15) (hL.sh (i := 27) rfl (by decide) (by decide)) (by decide)) (fun _ => ?_)
      obtain ⟨o4, h⟩ := h
      refine r_aaload (pc := 153) dX8_placeSpace_153 (okB_of (c := 24) (n := 12) (hL.sh (i := 31) rfl (by decide) (by decide)) (by decide) o4) ?_
      refine nmR (fun b5 e9 => ?_)
      have q6 : (70 ≤ b5 ∧ b5 < 82) := e9 ▸ hL.rsw (i := 1) rfl (rowC o4 (by decide))
      replace h := h b5 e9 q6
      refine c_VV0N (M := mX8_placeSpace) (pc := 154) (As := [vr b2, vr b5]) dX8_placeSpace_154 K_X8_mixRows w_1063 ⟨by decide, by decide⟩ (Nat.le_of_ble_eq_true rfl) rfl rfl (ci := 8) rfl rfl (by decide) (okO_of (N := 15) (hL.sh (i := 27) rfl (by decide) (by decide)) (by decide)) (h hL) (fun τ8 h8 => ?_) rfl
      replace hL := h8.1
      replace h := h8.2
      refine r_aload_n (pc := 157) dX8_placeSpace_157 rfl rfl ?_
      refine r_getR (pc := 158) dX8_placeSpace_158 (k9 := 9) CL_8 (by decide) (by decide) w_370 rfl (okO_of (N := 15) (hL.sh (i := 27) rfl (by decide) (by decide)) (by decide)) ?_
      refine eqR (y := 124) (hL.rf (i := 35) rfl) ?_
      refine r_aload_n (pc := 161) dX8_placeSpace_161 rfl rfl ?_
      refine r_getI (pc := 162) dX8_placeSpace_162 (k9 := 12) CL_8 (by decide) (by decide) w_374 rfl (okO_of (N := 15) (hL.sh (i := 27) rfl (by decide) (by decide)) (by decide)) (fun _ => ?_)
      refine r_aload_n (pc := 165) dX8_placeSpace_165 rfl rfl ?_
      refine r_getI (pc := 166) dX8_placeSpace_166 (k9 := 14) CL_8 (by decide) (by decide) w_376 rfl (okO_of (N := 15) (hL.sh (i := 27) rfl (by decide) (by decide)) (by decide)) (fun _ => ?_)
      obtain ⟨o9, h⟩ := h
      refine r_iadd (pc := 169) dX8_placeSpace_169 o9 ?_
      refine r_iconst (pc := 170) dX8_placeSpace_170 (inRk rfl) ?_
      obtain ⟨o10, h⟩ := h
      refine r_iastore (pc := 171) dX8_placeSpace_171 (okB_of (c := 20) (n := 12) (hL.sh (i := 42) rfl (by decide) (by decide)) (by decide) o10) ?_
      refine nmS (fun τ11 e11 => ?_)
      replace h := h τ11 e11
      have hL := hL.wI e11 (by decide) (.inl (by decide))
      refine r_aload_n (pc := 172) dX8_placeSpace_172 rfl rfl ?_
      refine r_dup (pc := 173) dX8_placeSpace_173 (fun _ h9 => nomatch h9) ?_
      refine r_getI (pc := 174) dX8_placeSpace_174 (k9 := 14) CL_8 (by decide) (by decide) w_376 rfl (okO_of (N := 15) (hL.sh (i := 27) rfl (by decide) (by decide)) (by decide)) (fun _ => ?_)
      refine r_iconst (pc := 177) dX8_placeSpace_177 (inRk rfl) ?_
      obtain ⟨o12, h⟩ := h
      refine r_iadd (pc := 178) dX8_placeSpace_178 o12 ?_
      refine r_putI (pc := 179) dX8_placeSpace_179 (k9 := 14) CL_8 (by decide) (by decide) w_376 rfl rfl (fun h9 => absurd h9 (by decide +kernel)) (okO_of (N := 15) (hL.sh (i := 27) rfl (by decide) (by decide)) (by decide)) ?_
      refine nmS (fun τ13 e13 => ?_)
      replace h := h τ13 e13
      have hL := hL.wI e13 (by decide) (.inl (by decide))
      obtain ⟨o14, h⟩ := h
      refine r_iinc (pc := 182) dX8_placeSpace_182 rfl (by decide) o14 (l2 := [some (vr 54), none, some (vi x2), some (vi (x3 + 1))]) rfl ?_
      refine r_goto (pc := 185) (tgt := 119) dX8_placeSpace_185 (by decide) ?_
      exact (h hL)
theorem B_X8_placeSpace_188 {g : Sg} {c t : Nat} (hL : Lay LC g c t σ) {x2 : Int} (h : (Lay LC g c t σ → CC E mX8_clear [vr 54, vr 69, vi x2, vi (gI σ 54 14), vi (gI σ 54 11)] σ (KI (fun r1 τ2 => Lay LC g c t τ2 ∧ (inR r1 → (((gI τ2 54 14) ≤ x2 → (Lay LC g c t τ2 → Q (.inl none) τ2)) ∧ (¬ ((gI τ2 54 14) ≤ x2) → inR ((gI τ2 54 12) + x2) ∧ inR ((gI τ2 54 14) - x2) ∧ (0 ≤ ((gI τ2 54 12) + x2) ∧ ((gI τ2 54 12) + x2) < 12) ∧ ∀ τ6 : Sg, τ6 = sI τ2 124 ((gI τ2 54 12) + x2).toNat ((gI τ2 54 14) - x2) → (Lay LC g c t τ6 → Q (.inl none) τ6))))) (fun _ _ => False)))) : GG E mX8_placeSpace 188 [some (vr 54), none, some (vi x2), none] [] σ rc rs Q := by
  refine r_aload_n (pc := 188) dX8_placeSpace_188 rfl rfl ?_
  refine r_aload_n (pc := 189) dX8_placeSpace_189 rfl rfl ?_
  refine r_getR (pc := 190) dX8_placeSpace_190 (k9 := 2) CL_8 (by decide) (by decide) w_363 rfl (okO_of (N := 15) (hL.sh (i := 27) rfl (by decide) (by decide)) (by decide)) ?_
  refine eqR (y := 69) (hL.rf (i := 28) rfl) ?_
  refine r_iload_n (pc := 193) dX8_placeSpace_193 rfl rfl ?_
  refine r_aload_n (pc := 194) dX8_placeSpace_194 rfl rfl ?_
  refine r_getI (pc := 195) dX8_placeSpace_195 (k9 := 14) CL_8 (by decide) (by decide) w_376 rfl (okO_of (N := 15) (hL.sh (i := 27) rfl (by decide) (by decide)) (by decide)) (fun _ => ?_)
  refine r_aload_n (pc := 198) dX8_placeSpace_198 rfl rfl ?_
  refine r_getI (pc := 199) dX8_placeSpace_199 (k9 := 11) CL_8 (by decide) (by decide) w_372 rfl (okO_of (N := 15) (hL.sh (i := 27) rfl (by decide) (by decide)) (by decide)) (fun _ => ?_)
  refine c_VI0N (M := mX8_placeSpace) (pc := 202) (As := [vr 69, vi x2, vi (gI σ 54 14), vi (gI σ 54 11)]) dX8_placeSpace_202 K_X8_clear w_1051 ⟨by decide, by decide⟩ (Nat.le_of_ble_eq_true rfl) rfl rfl (ci := 8) rfl rfl (by decide) (okO_of (N := 15) (hL.sh (i := 27) rfl (by decide) (by decide)) (by decide)) (h hL) (fun r1 τ2 h8 hr9 => ?_) rfl
  replace hL := h8.1
  replace h := h8.2 hr9
  refine r_pop (pc := 205) dX8_placeSpace_205 (fun _ h9 => nomatch h9) ?_
  refine r_iload_n (pc := 206) dX8_placeSpace_206 rfl rfl ?_
  refine r_aload_n (pc := 207) dX8_placeSpace_207 rfl rfl ?_
  refine r_getI (pc := 208) dX8_placeSpace_208 (k9 := 14) CL_8 (by decide) (by decide) w_376 rfl (okO_of (N := 15) (hL.sh (i := 27) rfl (by decide) (by decide)) (by decide)) (fun _ => ?_)
  refine r_icmp_ge (pc := 211) (tgt := 231) dX8_placeSpace_211 (by decide) (fun c9 => ?_) (fun c9 => ?_)
  · replace h := h.1 c9
    exact r_return (pc := 231) dX8_placeSpace_231 (by decide +kernel) rfl (h hL)
  · replace h := h.2 c9
    refine r_aload_n (pc := 214) dX8_placeSpace_214 rfl rfl ?_
    refine r_getR (pc := 215) dX8_placeSpace_215 (k9 := 9) CL_8 (by decide) (by decide) w_370 rfl (okO_of (N := 15) (hL.sh (i := 27) rfl (by decide) (by decide)) (by decide)) ?_
    refine eqR (y := 124) (hL.rf (i := 35) rfl) ?_
    refine r_aload_n (pc := 218) dX8_placeSpace_218 rfl rfl ?_
    refine r_getI (pc := 219) dX8_placeSpace_219 (k9 := 12) CL_8 (by decide) (by decide) w_374 rfl (okO_of (N := 15) (hL.sh (i := 27) rfl (by decide) (by decide)) (by decide)) (fun _ => ?_)
    refine r_iload_n (pc := 222) dX8_placeSpace_222 rfl rfl ?_
    obtain ⟨o3, h⟩ := h
    refine r_iadd (pc := 223) dX8_placeSpace_223 o3 ?_
    refine r_aload_n (pc := 224) dX8_placeSpace_224 rfl rfl ?_
    refine r_getI (pc := 225) dX8_placeSpace_225 (k9 := 14) CL_8 (by decide) (by decide) w_376 rfl (okO_of (N := 15) (hL.sh (i := 27) rfl (by decide) (by decide)) (by decide)) (fun _ => ?_)
    refine r_iload_n (pc := 228) dX8_placeSpace_228 rfl rfl ?_
    obtain ⟨o4, h⟩ := h
    refine r_isub (pc := 229) dX8_placeSpace_229 o4 ?_
    obtain ⟨o5, h⟩ := h
    refine r_iastore (pc := 230) dX8_placeSpace_230 (okB_of (c := 20) (n := 12) (hL.sh (i := 42) rfl (by decide) (by decide)) (by decide) o5) ?_
    refine nmS (fun τ6 e6 => ?_)
    replace h := h τ6 e6
    have hL := hL.wI e6 (by decide) (.inl (by decide))
    exact r_return (pc := 231) dX8_placeSpace_231 (by decide +kernel) rfl (h hL)
theorem C_X8_placeSpace {a0 : Nat} {x1 : Int} (h : GG E mX8_placeSpace 0 [some (vr a0), some (vi x1), none, none] [] σ 0 0 Q) : CC E mX8_placeSpace [vr a0, vi x1] σ Q := CC.of (by decide +kernel) rfl (by decide +kernel) (fun h9 => nomatch h9) (Nat.le_of_ble_eq_true rfl) h
theorem dX8_solves_0 : decode cX8_solves 0 = .ok (.iconst 0, 1) := by decide +kernel
theorem dX8_solves_1 : decode cX8_solves 1 = .ok (.istore_n 2, 1) := by decide +kernel
theorem dX8_solves_2 : decode cX8_solves 2 = .ok (.aload_n 0, 1) := by decide +kernel
theorem dX8_solves_3 : decode cX8_solves 3 = .ok (.getfield 87, 3) := by decide +kernel
theorem dX8_solves_6 : decode cX8_solves 6 = .ok (.istore_n 3, 1) := by decide +kernel
theorem dX8_solves_7 : decode cX8_solves 7 = .ok (.iload_n 3, 1) := by decide +kernel
theorem dX8_solves_8 : decode cX8_solves 8 = .ok (.ifCond .lt 27, 3) := by decide +kernel
theorem dX8_solves_11 : decode cX8_solves 11 = .ok (.aload_n 0, 1) := by decide +kernel
theorem dX8_solves_12 : decode cX8_solves 12 = .ok (.getfield 44, 3) := by decide +kernel
theorem dX8_solves_15 : decode cX8_solves 15 = .ok (.iload_n 2, 1) := by decide +kernel
theorem dX8_solves_16 : decode cX8_solves 16 = .ok (.iload_n 1, 1) := by decide +kernel
theorem dX8_solves_17 : decode cX8_solves 17 = .ok (.imul, 1) := by decide +kernel
theorem dX8_solves_18 : decode cX8_solves 18 = .ok (.aload_n 0, 1) := by decide +kernel
theorem dX8_solves_19 : decode cX8_solves 19 = .ok (.getfield 38, 3) := by decide +kernel
theorem dX8_solves_22 : decode cX8_solves 22 = .ok (.iload_n 3, 1) := by decide +kernel
theorem dX8_solves_23 : decode cX8_solves 23 = .ok (.iaload, 1) := by decide +kernel
theorem dX8_solves_24 : decode cX8_solves 24 = .ok (.iadd, 1) := by decide +kernel
theorem dX8_solves_25 : decode cX8_solves 25 = .ok (.invokevirtual 119, 3) := by decide +kernel
theorem dX8_solves_28 : decode cX8_solves 28 = .ok (.istore_n 2, 1) := by decide +kernel
theorem dX8_solves_29 : decode cX8_solves 29 = .ok (.iinc 3 (-1), 3) := by decide +kernel
theorem dX8_solves_32 : decode cX8_solves 32 = .ok (.goto (-25), 3) := by decide +kernel
theorem dX8_solves_35 : decode cX8_solves 35 = .ok (.iload_n 2, 1) := by decide +kernel
theorem dX8_solves_36 : decode cX8_solves 36 = .ok (.ifCond .ne 7, 3) := by decide +kernel
theorem dX8_solves_39 : decode cX8_solves 39 = .ok (.iconst 1, 1) := by decide +kernel
theorem dX8_solves_40 : decode cX8_solves 40 = .ok (.goto 4, 3) := by decide +kernel
theorem dX8_solves_43 : decode cX8_solves 43 = .ok (.iconst 0, 1) := by decide +kernel
theorem dX8_solves_44 : decode cX8_solves 44 = .ok (.ireturn, 1) := by decide +kernel
theorem B_X8_solves_0 {g : Sg} {c t : Nat} (hL : Lay LC g c t σ) {x1 : Int} (h : (Lay LC g c t σ → GG E mX8_solves 7 [some (vr 54), some (vi x1), some (vi 0), some (vi (gI σ 54 13))] [] σ rc rs Q)) : GG E mX8_solves 0 [some (vr 54), some (vi x1), none, none] [] σ rc rs Q := by
  refine r_iconst (pc := 0) dX8_solves_0 (inRk rfl) ?_
  refine r_istore_n (pc := 1) dX8_solves_1 rfl (by decide) (l2 := [some (vr 54), some (vi x1), some (vi 0), none]) rfl ?_
  refine r_aload_n (pc := 2) dX8_solves_2 rfl rfl ?_
  refine r_getI (pc := 3) dX8_solves_3 (k9 := 13) CL_8 (by decide) (by decide) w_375 rfl (okO_of (N := 15) (hL.sh (i := 27) rfl (by decide) (by decide)) (by decide)) (fun _ => ?_)
  refine r_istore_n (pc := 6) dX8_solves_6 rfl (by decide) (l2 := [some (vr 54), some (vi x1), some (vi 0), some (vi (gI σ 54 13))]) rfl ?_
  exact (h hL)
theorem B_X8_solves_7 {g : Sg} {c t : Nat} (hL : Lay LC g c t σ) {x1 : Int} {x2 : Int} {x3 : Int} (h : ((x3 < 0 → ((x2 ≠ 0 → (Lay LC g c t σ → Q (.inl (some (vi 0))) σ)) ∧ (x2 = 0 → (Lay LC g c t σ → Q (.inl (some (vi 1))) σ)))) ∧ (¬ (x3 < 0) → inR (x2 * x1) ∧ (0 ≤ x3 ∧ x3 < 13) ∧ inR ((x2 * x1) + (gI σ 123 x3.toNat)) ∧ (Lay LC g c t σ → CC E mX2_mod [vr 35, vi ((x2 * x1) + (gI σ 123 x3.toNat))] σ (KI (fun r4 τ5 => Lay LC g c t τ5 ∧ (inR r4 → inR (x3 + (-1)) ∧ (Lay LC g c t τ5 → GG E mX8_solves 7 [some (vr 54), some (vi x1), some (vi r4), some (vi (x3 + (-1)))] [] τ5 rc rs Q))) (fun _ _ => False)))))) : GG E mX8_solves 7 [some (vr 54), some (vi x1), some (vi x2), some (vi x3)] [] σ rc rs Q := by
  refine r_iload_n (pc := 7) dX8_solves_7 rfl rfl ?_
  refine r_if_lt (pc := 8) (tgt := 35) dX8_solves_8 (by decide) (fun c9 => ?_) (fun c9 => ?_)
  · replace h := h.1 c9
    refine r_iload_n (pc := 35) dX8_solves_35 rfl rfl ?_
    refine r_if_ne (pc := 36) (tgt := 43) dX8_solves_36 (by decide) (fun c9 => ?_) (fun c9 => ?_)
    · replace h := h.1 c9
      refine r_iconst (pc := 43) dX8_solves_43 (inRk rfl) ?_
      exact r_ireturn (pc := 44) (ty := .boolean) dX8_solves_44 (by decide +kernel) rfl (nar_bool (by decide)) (h hL)
    · replace h := h.2 c9
      refine r_iconst (pc := 39) dX8_solves_39 (inRk rfl) ?_
      refine r_goto (pc := 40) (tgt := 44) dX8_solves_40 (by decide) ?_
      exact r_ireturn (pc := 44) (ty := .boolean) dX8_solves_44 (by decide +kernel) rfl (nar_bool (by decide)) (h hL)
  · replace h := h.2 c9
    refine r_aload_n (pc := 11) dX8_solves_11 rfl rfl ?_
    refine r_getR (pc := 12) dX8_solves_12 (k9 := 10) CL_8 (by decide) (by decide) w_371 rfl (okO_of (N := 15) (hL.sh (i := 27) rfl (by decide) (by decide)) (by decide)) ?_
    refine eqR (y := 35) (hL.rf (i := 36) rfl) ?_
    refine r_iload_n (pc := 15) dX8_solves_15 rfl rfl ?_
    refine r_iload_n (pc := 16) dX8_solves_16 rfl rfl ?_
    obtain ⟨o1, h⟩ := h
    refine r_imul (pc := 17) dX8_solves_17 o1 ?_
    refine r_aload_n (pc := 18) dX8_solves_18 rfl rfl ?_
    refine r_getR (pc := 19) dX8_solves_19 (k9 := 8) CL_8 (by decide) (by decide) w_369 rfl (okO_of (N := 15) (hL.sh (i := 27) rfl (by decide) (by decide)) (by decide)) ?_
    refine eqR (y := 123) (hL.rf (i := 34) rfl) ?_
    refine r_iload_n (pc := 22) dX8_solves_22 rfl rfl ?_
    obtain ⟨o2, h⟩ := h
    refine r_iaload (pc := 23) dX8_solves_23 (okA_of (c := 20) (n := 13) (hL.sh (i := 41) rfl (by decide) (by decide)) (by decide) o2) ?_
    obtain ⟨o3, h⟩ := h
    refine r_iadd (pc := 24) dX8_solves_24 o3 ?_
    refine c_VI0N (M := mX8_solves) (pc := 25) (As := [vi ((x2 * x1) + (gI σ 123 x3.toNat))]) dX8_solves_25 K_X2_mod w_1032 ⟨by decide, by decide⟩ (Nat.le_of_ble_eq_true rfl) rfl rfl (ci := 2) rfl rfl (by decide) (okO_of (N := 2) (hL.sh (i := 19) rfl (by decide) (by decide)) (by decide)) (h hL) (fun r4 τ5 h8 hr9 => ?_) rfl
    replace hL := h8.1
    replace h := h8.2 hr9
    refine r_istore_n (pc := 28) dX8_solves_28 rfl (by decide) (l2 := [some (vr 54), some (vi x1), some (vi r4), some (vi x3)]) rfl ?_
    obtain ⟨o6, h⟩ := h
    refine r_iinc (pc := 29) dX8_solves_29 rfl (by decide) o6 (l2 := [some (vr 54), some (vi x1), some (vi r4), some (vi (x3 + (-1)))]) rfl ?_
    refine r_goto (pc := 32) (tgt := 7) dX8_solves_32 (by decide) ?_
    exact (h hL)
theorem C_X8_solves {a0 : Nat} {x1 : Int} (h : GG E mX8_solves 0 [some (vr a0), some (vi x1), none, none] [] σ 0 0 Q) : CC E mX8_solves [vr a0, vi x1] σ Q := CC.of (by decide +kernel) rfl (by decide +kernel) (fun h9 => nomatch h9) (Nat.le_of_ble_eq_true rfl) h
theorem dX8_splitBy_0 : decode cX8_splitBy 0 = .ok (.aload_n 0, 1) := by decide +kernel
theorem dX8_splitBy_1 : decode cX8_splitBy 1 = .ok (.getfield 60, 3) := by decide +kernel
theorem dX8_splitBy_4 : decode cX8_splitBy 4 = .ok (.iconst 1, 1) := by decide +kernel
theorem dX8_splitBy_5 : decode cX8_splitBy 5 = .ok (.isub, 1) := by decide +kernel
theorem dX8_splitBy_6 : decode cX8_splitBy 6 = .ok (.istore_n 2, 1) := by decide +kernel
theorem dX8_splitBy_7 : decode cX8_splitBy 7 = .ok (.iload_n 2, 1) := by decide +kernel
theorem dX8_splitBy_8 : decode cX8_splitBy 8 = .ok (.ifCond .lt 110, 3) := by decide +kernel
theorem dX8_splitBy_11 : decode cX8_splitBy 11 = .ok (.aload_n 0, 1) := by decide +kernel
theorem dX8_splitBy_12 : decode cX8_splitBy 12 = .ok (.getfield 41, 3) := by decide +kernel
theorem dX8_splitBy_15 : decode cX8_splitBy 15 = .ok (.iload_n 2, 1) := by decide +kernel
theorem dX8_splitBy_16 : decode cX8_splitBy 16 = .ok (.iaload, 1) := by decide +kernel
theorem dX8_splitBy_17 : decode cX8_splitBy 17 = .ok (.iconst 1, 1) := by decide +kernel
theorem dX8_splitBy_18 : decode cX8_splitBy 18 = .ok (.if_icmp .le 94, 3) := by decide +kernel
theorem dX8_splitBy_21 : decode cX8_splitBy 21 = .ok (.iload_n 2, 1) := by decide +kernel
theorem dX8_splitBy_22 : decode cX8_splitBy 22 = .ok (.aload_n 0, 1) := by decide +kernel
theorem dX8_splitBy_23 : decode cX8_splitBy 23 = .ok (.getfield 41, 3) := by decide +kernel
theorem dX8_splitBy_26 : decode cX8_splitBy 26 = .ok (.iload_n 2, 1) := by decide +kernel
theorem dX8_splitBy_27 : decode cX8_splitBy 27 = .ok (.iaload, 1) := by decide +kernel
theorem dX8_splitBy_28 : decode cX8_splitBy 28 = .ok (.iadd, 1) := by decide +kernel
theorem dX8_splitBy_29 : decode cX8_splitBy 29 = .ok (.aload_n 0, 1) := by decide +kernel
theorem dX8_splitBy_30 : decode cX8_splitBy 30 = .ok (.getfield 60, 3) := by decide +kernel
theorem dX8_splitBy_33 : decode cX8_splitBy 33 = .ok (.if_icmp .gt 79, 3) := by decide +kernel
theorem dX8_splitBy_36 : decode cX8_splitBy 36 = .ok (.aload_n 0, 1) := by decide +kernel
theorem dX8_splitBy_37 : decode cX8_splitBy 37 = .ok (.iload_n 2, 1) := by decide +kernel
theorem dX8_splitBy_38 : decode cX8_splitBy 38 = .ok (.putfield 84, 3) := by decide +kernel
theorem dX8_splitBy_41 : decode cX8_splitBy 41 = .ok (.aload_n 0, 1) := by decide +kernel
theorem dX8_splitBy_42 : decode cX8_splitBy 42 = .ok (.aload_n 0, 1) := by decide +kernel
theorem dX8_splitBy_43 : decode cX8_splitBy 43 = .ok (.getfield 41, 3) := by decide +kernel
theorem dX8_splitBy_46 : decode cX8_splitBy 46 = .ok (.iload_n 2, 1) := by decide +kernel
theorem dX8_splitBy_47 : decode cX8_splitBy 47 = .ok (.iaload, 1) := by decide +kernel
theorem dX8_splitBy_48 : decode cX8_splitBy 48 = .ok (.putfield 87, 3) := by decide +kernel
theorem dX8_splitBy_51 : decode cX8_splitBy 51 = .ok (.aload_n 0, 1) := by decide +kernel
theorem dX8_splitBy_52 : decode cX8_splitBy 52 = .ok (.iconst 0, 1) := by decide +kernel
theorem dX8_splitBy_53 : decode cX8_splitBy 53 = .ok (.putfield 90, 3) := by decide +kernel
theorem dX8_splitBy_56 : decode cX8_splitBy 56 = .ok (.aload_n 0, 1) := by decide +kernel
theorem dX8_splitBy_57 : decode cX8_splitBy 57 = .ok (.iload_n 1, 1) := by decide +kernel
theorem dX8_splitBy_58 : decode cX8_splitBy 58 = .ok (.invokevirtual 93, 3) := by decide +kernel
theorem dX8_splitBy_61 : decode cX8_splitBy 61 = .ok (.aload_n 0, 1) := by decide +kernel
theorem dX8_splitBy_62 : decode cX8_splitBy 62 = .ok (.invokevirtual 97, 3) := by decide +kernel
theorem dX8_splitBy_65 : decode cX8_splitBy 65 = .ok (.iconst 0, 1) := by decide +kernel
theorem dX8_splitBy_66 : decode cX8_splitBy 66 = .ok (.istore_n 3, 1) := by decide +kernel
theorem dX8_splitBy_67 : decode cX8_splitBy 67 = .ok (.iload_n 3, 1) := by decide +kernel
theorem dX8_splitBy_68 : decode cX8_splitBy 68 = .ok (.aload_n 0, 1) := by decide +kernel
theorem dX8_splitBy_69 : decode cX8_splitBy 69 = .ok (.getfield 44, 3) := by decide +kernel
theorem dX8_splitBy_72 : decode cX8_splitBy 72 = .ok (.getfield 100, 3) := by decide +kernel
theorem dX8_splitBy_75 : decode cX8_splitBy 75 = .ok (.if_icmp .ge 33, 3) := by decide +kernel
theorem dX8_splitBy_78 : decode cX8_splitBy 78 = .ok (.aload_n 0, 1) := by decide +kernel
theorem dX8_splitBy_79 : decode cX8_splitBy 79 = .ok (.getfield 90, 3) := by decide +kernel
theorem dX8_splitBy_82 : decode cX8_splitBy 82 = .ok (.aload_n 0, 1) := by decide +kernel
theorem dX8_splitBy_83 : decode cX8_splitBy 83 = .ok (.getfield 87, 3) := by decide +kernel
theorem dX8_splitBy_86 : decode cX8_splitBy 86 = .ok (.if_icmp .ge 22, 3) := by decide +kernel
theorem dX8_splitBy_89 : decode cX8_splitBy 89 = .ok (.aload_n 0, 1) := by decide +kernel
theorem dX8_splitBy_90 : decode cX8_splitBy 90 = .ok (.iload_n 3, 1) := by decide +kernel
theorem dX8_splitBy_91 : decode cX8_splitBy 91 = .ok (.invokevirtual 105, 3) := by decide +kernel
theorem dX8_splitBy_94 : decode cX8_splitBy 94 = .ok (.ifCond .eq 8, 3) := by decide +kernel
theorem dX8_splitBy_97 : decode cX8_splitBy 97 = .ok (.aload_n 0, 1) := by decide +kernel
theorem dX8_splitBy_98 : decode cX8_splitBy 98 = .ok (.iload_n 3, 1) := by decide +kernel
theorem dX8_splitBy_99 : decode cX8_splitBy 99 = .ok (.invokevirtual 109, 3) := by decide +kernel
theorem dX8_splitBy_102 : decode cX8_splitBy 102 = .ok (.iinc 3 1, 3) := by decide +kernel
theorem dX8_splitBy_105 : decode cX8_splitBy 105 = .ok (.goto (-38), 3) := by decide +kernel
theorem dX8_splitBy_108 : decode cX8_splitBy 108 = .ok (.aload_n 0, 1) := by decide +kernel
theorem dX8_splitBy_109 : decode cX8_splitBy 109 = .ok (.invokevirtual 112, 3) := by decide +kernel
theorem dX8_splitBy_112 : decode cX8_splitBy 112 = .ok (.iinc 2 (-1), 3) := by decide +kernel
theorem dX8_splitBy_115 : decode cX8_splitBy 115 = .ok (.goto (-108), 3) := by decide +kernel
theorem dX8_splitBy_118 : decode cX8_splitBy 118 = .ok (.return_, 1) := by decide +kernel
theorem B_X8_splitBy_0 {g : Sg} {c t : Nat} (hL : Lay LC g c t σ) {x1 : Int} (h : inR ((gI σ 54 11) - 1) ∧ (Lay LC g c t σ → GG E mX8_splitBy 7 [some (vr 54), some (vi x1), some (vi ((gI σ 54 11) - 1)), none] [] σ rc rs Q)) : GG E mX8_splitBy 0 [some (vr 54), some (vi x1), none, none] [] σ rc rs Q := by
  refine r_aload_n (pc := 0) dX8_splitBy_0 rfl rfl ?_
  refine r_getI (pc := 1) dX8_splitBy_1 (k9 := 11) CL_8 (by decide) (by decide) w_372 rfl (okO_of (N := 15) (hL.sh (i := 27) rfl (by decide) (by decide)) (by decide)) (fun _ => ?_)
  refine r_iconst (pc := 4) dX8_splitBy_4 (inRk rfl) ?_
  obtain ⟨o1, h⟩ := h
  refine r_isub (pc := 5) dX8_splitBy_5 o1 ?_
  refine r_istore_n (pc := 6) dX8_splitBy_6 rfl (by decide) (l2 := [some (vr 54), some (vi x1), some (vi ((gI σ 54 11) - 1)), none]) rfl ?_
  exact (h hL)
theorem B_X8_splitBy_7 {g : Sg} {c t : Nat} (hL : Lay LC g c t σ) {x1 : Int} {x2 : Int} (h : ((x2 < 0 → (Lay LC g c t σ → Q (.inl none) σ)) ∧ (¬ (x2 < 0) → (0 ≤ x2 ∧ x2 < 12) ∧ (((gI σ 124 x2.toNat) ≤ 1 → inR (x2 + (-1)) ∧ (Lay LC g c t σ → GG E mX8_splitBy 7 [some (vr 54), some (vi x1), some (vi (x2 + (-1))), none] [] σ rc rs Q)) ∧ (¬ ((gI σ 124 x2.toNat) ≤ 1) → inR (x2 + (gI σ 124 x2.toNat)) ∧ (((gI σ 54 11) < (x2 + (gI σ 124 x2.toNat)) → inR (x2 + (-1)) ∧ (Lay LC g c t σ → GG E mX8_splitBy 7 [some (vr 54), some (vi x1), some (vi (x2 + (-1))), none] [] σ rc rs Q)) ∧ (¬ ((gI σ 54 11) < (x2 + (gI σ 124 x2.toNat))) → ∀ τ5 : Sg, τ5 = sI σ 54 12 x2 → ∀ τ6 : Sg, τ6 = sI τ5 54 13 (gI τ5 124 x2.toNat) → ∀ τ7 : Sg, τ7 = sI τ6 54 14 0 → (Lay LC g c t τ7 → CC E mX8_fillTable [vr 54, vi x1] τ7 (KV (fun τ9 => Lay LC g c t τ9 ∧ (Lay LC g c t τ9 → CC E mX8_fillEquation [vr 54] τ9 (KV (fun τ11 => Lay LC g c t τ11 ∧ (Lay LC g c t τ11 → GG E mX8_splitBy 67 [some (vr 54), some (vi x1), some (vi x2), some (vi 0)] [] τ11 rc rs Q)) (fun _ _ => False)))) (fun _ _ => False)))))))))) : GG E mX8_splitBy 7 [some (vr 54), some (vi x1), some (vi x2), none] [] σ rc rs Q := by
  refine r_iload_n (pc := 7) dX8_splitBy_7 rfl rfl ?_
  refine r_if_lt (pc := 8) (tgt := 118) dX8_splitBy_8 (by decide) (fun c9 => ?_) (fun c9 => ?_)
  · replace h := h.1 c9
    exact r_return (pc := 118) dX8_splitBy_118 (by decide +kernel) rfl (h hL)
  · replace h := h.2 c9
    refine r_aload_n (pc := 11) dX8_splitBy_11 rfl rfl ?_
    refine r_getR (pc := 12) dX8_splitBy_12 (k9 := 9) CL_8 (by decide) (by decide) w_370 rfl (okO_of (N := 15) (hL.sh (i := 27) rfl (by decide) (by decide)) (by decide)) ?_
    refine eqR (y := 124) (hL.rf (i := 35) rfl) ?_
    refine r_iload_n (pc := 15) dX8_splitBy_15 rfl rfl ?_
    obtain ⟨o1, h⟩ := h
    refine r_iaload (pc := 16) dX8_splitBy_16 (okA_of (c := 20) (n := 12) (hL.sh (i := 42) rfl (by decide) (by decide)) (by decide) o1) ?_
    refine r_iconst (pc := 17) dX8_splitBy_17 (inRk rfl) ?_
    refine r_icmp_le (pc := 18) (tgt := 112) dX8_splitBy_18 (by decide) (fun c9 => ?_) (fun c9 => ?_)
    · replace h := h.1 c9
      obtain ⟨o2, h⟩ := h
      refine r_iinc (pc := 112) dX8_splitBy_112 rfl (by decide) o2 (l2 := [some (vr 54), some (vi x1), some (vi (x2 + (-1))), none]) rfl ?_
      refine r_goto (pc := 115) (tgt := 7) dX8_splitBy_115 (by decide) ?_
      exact (h hL)
    · replace h := h.2 c9
      refine r_iload_n (pc := 21) dX8_splitBy_21 rfl rfl ?_
      refine r_aload_n (pc := 22) dX8_splitBy_22 rfl rfl ?_
      refine r_getR (pc := 23) dX8_splitBy_23 (k9 := 9) CL_8 (by decide) (by decide) w_370 rfl (okO_of (N := 15) (hL.sh (i := 27) rfl (by decide) (by decide)) (by decide)) ?_
      refine eqR (y := 124) (hL.rf (i := 35) rfl) ?_
      refine r_iload_n (pc := 26) dX8_splitBy_26 rfl rfl ?_
      refine r_iaload (pc := 27) dX8_splitBy_27 (okA_of (c := 20) (n := 12) (hL.sh (i := 42) rfl (by decide) (by decide)) (by decide) o1) ?_
      obtain ⟨o3, h⟩ := h
      refine r_iadd (pc := 28) dX8_splitBy_28 o3 ?_
      refine r_aload_n (pc := 29) dX8_splitBy_29 rfl rfl ?_
      refine r_getI (pc := 30) dX8_splitBy_30 (k9 := 11) CL_8 (by decide) (by decide) w_372 rfl (okO_of (N := 15) (hL.sh (i := 27) rfl (by decide) (by decide)) (by decide)) (fun _ => ?_)
      refine r_icmp_gt (pc := 33) (tgt := 112) dX8_splitBy_33 (by decide) (fun c9 => ?_) (fun c9 => ?_)
      · replace h := h.1 c9
        obtain ⟨o4, h⟩ := h
        refine r_iinc (pc := 112) dX8_splitBy_112 rfl (by decide) o4 (l2 := [some (vr 54), some (vi x1), some (vi (x2 + (-1))), none]) rfl ?_
        refine r_goto (pc := 115) (tgt := 7) dX8_splitBy_115 (by decide) ?_
        exact (h hL)
      · replace h := h.2 c9
        refine r_aload_n (pc := 36) dX8_splitBy_36 rfl rfl ?_
        refine r_iload_n (pc := 37) dX8_splitBy_37 rfl rfl ?_
        refine r_putI (pc := 38) dX8_splitBy_38 (k9 := 12) CL_8 (by decide) (by decide) w_374 rfl rfl (fun h9 => absurd h9 (by decide +kernel)) (okO_of (N := 15) (hL.sh (i := 27) rfl (by decide) (by decide)) (by decide)) ?_
        refine nmS (fun τ5 e5 => ?_)
        replace h := h τ5 e5
        have hL := hL.wI e5 (by decide) (.inl (by decide))
        refine r_aload_n (pc := 41) dX8_splitBy_41 rfl rfl ?_
        refine r_aload_n (pc := 42) dX8_splitBy_42 rfl rfl ?_
        refine r_getR (pc := 43) dX8_splitBy_43 (k9 := 9) CL_8 (by decide) (by decide) w_370 rfl (okO_of (N := 15) (hL.sh (i := 27) rfl (by decide) (by decide)) (by decide)) ?_
        refine eqR (y := 124) (hL.rf (i := 35) rfl) ?_
        refine r_iload_n (pc := 46) dX8_splitBy_46 rfl rfl ?_
        refine r_iaload (pc := 47) dX8_splitBy_47 (okA_of (c := 20) (n := 12) (hL.sh (i := 42) rfl (by decide) (by decide)) (by decide) o1) ?_
        refine r_putI (pc := 48) dX8_splitBy_48 (k9 := 13) CL_8 (by decide) (by decide) w_375 rfl rfl (fun h9 => absurd h9 (by decide +kernel)) (okO_of (N := 15) (hL.sh (i := 27) rfl (by decide) (by decide)) (by decide)) ?_
        refine nmS (fun τ6 e6 => ?_)
        replace h := h τ6 e6
        have hL := hL.wI e6 (by decide) (.inl (by decide))
        refine r_aload_n (pc := 51) dX8_splitBy_51 rfl rfl ?_
        refine r_iconst (pc := 52) dX8_splitBy_52 (inRk rfl) ?_
        refine r_putI (pc := 53) dX8_splitBy_53 (k9 := 14) CL_8 (by decide) (by decide) w_376 rfl rfl (fun h9 => absurd h9 (by decide +kernel)) (okO_of (N := 15) (hL.sh (i := 27) rfl (by decide) (by decide)) (by decide)) ?_
        refine nmS (fun τ7 e7 => ?_)
        replace h := h τ7 e7
        have hL := hL.wI e7 (by decide) (.inl (by decide))
        refine r_aload_n (pc := 56) dX8_splitBy_56 rfl rfl ?_
        refine r_iload_n (pc := 57) dX8_splitBy_57 rfl rfl ?_
        refine c_VV0N (M := mX8_splitBy) (pc := 58) (As := [vi x1]) dX8_splitBy_58 K_X8_fillTable w_1024 ⟨by decide, by decide⟩ (Nat.le_of_ble_eq_true rfl) rfl rfl (ci := 8) rfl rfl (by decide) (okO_of (N := 15) (hL.sh (i := 27) rfl (by decide) (by decide)) (by decide)) (h hL) (fun τ9 h8 => ?_) rfl
        replace hL := h8.1
        replace h := h8.2
        refine r_aload_n (pc := 61) dX8_splitBy_61 rfl rfl ?_
        refine c_VV0N (M := mX8_splitBy) (pc := 62) (As := []) dX8_splitBy_62 K_X8_fillEquation w_1033 ⟨by decide, by decide⟩ (Nat.le_of_ble_eq_true rfl) rfl rfl (ci := 8) rfl rfl (by decide) (okO_of (N := 15) (hL.sh (i := 27) rfl (by decide) (by decide)) (by decide)) (h hL) (fun τ11 h8 => ?_) rfl
        replace hL := h8.1
        replace h := h8.2
        refine r_iconst (pc := 65) dX8_splitBy_65 (inRk rfl) ?_
        refine r_istore_n (pc := 66) dX8_splitBy_66 rfl (by decide) (l2 := [some (vr 54), some (vi x1), some (vi x2), some (vi 0)]) rfl ?_
        exact (h hL)
theorem B_X8_splitBy_67 {g : Sg} {c t : Nat} (hL : Lay LC g c t σ) {x1 : Int} {x2 : Int} {x3 : Int} (h : (((gI σ 35 0) ≤ x3 → (Lay LC g c t σ → CC E mX8_takeParts [vr 54] σ (KV (fun τ2 => Lay LC g c t τ2 ∧ inR (x2 + (-1)) ∧ (Lay LC g c t τ2 → GG E mX8_splitBy 7 [some (vr 54), some (vi x1), some (vi (x2 + (-1))), none] [] τ2 rc rs Q)) (fun _ _ => False)))) ∧ (¬ ((gI σ 35 0) ≤ x3) → (((gI σ 54 13) ≤ (gI σ 54 14) → (Lay LC g c t σ → CC E mX8_takeParts [vr 54] σ (KV (fun τ5 => Lay LC g c t τ5 ∧ inR (x2 + (-1)) ∧ (Lay LC g c t τ5 → GG E mX8_splitBy 7 [some (vr 54), some (vi x1), some (vi (x2 + (-1))), none] [] τ5 rc rs Q)) (fun _ _ => False)))) ∧ (¬ ((gI σ 54 13) ≤ (gI σ 54 14)) → (Lay LC g c t σ → CC E mX8_solves [vr 54, vi x3] σ (KI (fun r7 τ8 => Lay LC g c t τ8 ∧ (inR r7 → ((r7 = 0 → inR (x3 + 1) ∧ (Lay LC g c t τ8 → GG E mX8_splitBy 67 [some (vr 54), some (vi x1), some (vi x2), some (vi (x3 + 1))] [] τ8 rc rs Q)) ∧ (¬ (r7 = 0) → (Lay LC g c t τ8 → CC E mX8_placeSpace [vr 54, vi x3] τ8 (KV (fun τ11 => Lay LC g c t τ11 ∧ inR (x3 + 1) ∧ (Lay LC g c t τ11 → GG E mX8_splitBy 67 [some (vr 54), some (vi x1), some (vi x2), some (vi (x3 + 1))] [] τ11 rc rs Q)) (fun _ _ => False))))))) (fun _ _ => False)))))))) : GG E mX8_splitBy 67 [some (vr 54), some (vi x1), some (vi x2), some (vi x3)] [] σ rc rs Q := by
  refine r_iload_n (pc := 67) dX8_splitBy_67 rfl rfl ?_
  refine r_aload_n (pc := 68) dX8_splitBy_68 rfl rfl ?_
  refine r_getR (pc := 69) dX8_splitBy_69 (k9 := 10) CL_8 (by decide) (by decide) w_371 rfl (okO_of (N := 15) (hL.sh (i := 27) rfl (by decide) (by decide)) (by decide)) ?_
  refine eqR (y := 35) (hL.rf (i := 36) rfl) ?_
  refine r_getI (pc := 72) dX8_splitBy_72 (k9 := 0) CL_2 (by decide) (by decide) w_299 rfl (okO_of (N := 2) (hL.sh (i := 19) rfl (by decide) (by decide)) (by decide)) (fun _ => ?_)
  refine r_icmp_ge (pc := 75) (tgt := 108) dX8_splitBy_75 (by decide) (fun c9 => ?_) (fun c9 => ?_)
  · replace h := h.1 c9
    refine r_aload_n (pc := 108) dX8_splitBy_108 rfl rfl ?_
    refine c_VV0N (M := mX8_splitBy) (pc := 109) (As := []) dX8_splitBy_109 K_X8_takeParts w_1067 ⟨by decide, by decide⟩ (Nat.le_of_ble_eq_true rfl) rfl rfl (ci := 8) rfl rfl (by decide) (okO_of (N := 15) (hL.sh (i := 27) rfl (by decide) (by decide)) (by decide)) (h hL) (fun τ2 h8 => ?_) rfl
    replace hL := h8.1
    replace h := h8.2
    obtain ⟨o3, h⟩ := h
    refine r_iinc (pc := 112) dX8_splitBy_112 rfl (by decide) o3 (l2 := [some (vr 54), some (vi x1), some (vi (x2 + (-1))), some (vi x3)]) rfl ?_
    refine r_goto (pc := 115) (tgt := 7) dX8_splitBy_115 (by decide) ?_
    exact GG.msk [true, true, true, false] (h hL)
  · replace h := h.2 c9
    refine r_aload_n (pc := 78) dX8_splitBy_78 rfl rfl ?_
    refine r_getI (pc := 79) dX8_splitBy_79 (k9 := 14) CL_8 (by decide) (by decide) w_376 rfl (okO_of (N := 15) (hL.sh (i := 27) rfl (by decide) (by decide)) (by decide)) (fun _ => ?_)
    refine r_aload_n (pc := 82) dX8_splitBy_82 rfl rfl ?_
    refine r_getI (pc := 83) dX8_splitBy_83 (k9 := 13) CL_8 (by decide) (by decide) w_375 rfl (okO_of (N := 15) (hL.sh (i := 27) rfl (by decide) (by decide)) (by decide)) (fun _ => ?_)
    refine r_icmp_ge (pc := 86) (tgt := 108) dX8_splitBy_86 (by decide) (fun c9 => ?_) (fun c9 => ?_)
    · replace h := h.1 c9
      refine r_aload_n (pc := 108) dX8_splitBy_108 rfl rfl ?_
      refine c_VV0N (M := mX8_splitBy) (pc := 109) (As := []) dX8_splitBy_109 K_X8_takeParts w_1067 ⟨by decide, by decide⟩ (Nat.le_of_ble_eq_true rfl) rfl rfl (ci := 8) rfl rfl (by decide) (okO_of (N := 15) (hL.sh (i := 27) rfl (by decide) (by decide)) (by decide)) (h hL) (fun τ5 h8 => ?_) rfl
      replace hL := h8.1
      replace h := h8.2
      obtain ⟨o6, h⟩ := h
      refine r_iinc (pc := 112) dX8_splitBy_112 rfl (by decide) o6 (l2 := [some (vr 54), some (vi x1), some (vi (x2 + (-1))), some (vi x3)]) rfl ?_
      refine r_goto (pc := 115) (tgt := 7) dX8_splitBy_115 (by decide) ?_
      exact GG.msk [true, true, true, false] (h hL)
    · replace h := h.2 c9
      refine r_aload_n (pc := 89) dX8_splitBy_89 rfl rfl ?_
      refine r_iload_n (pc := 90) dX8_splitBy_90 rfl rfl ?_
      refine c_VI0N (M := mX8_splitBy) (pc := 91) (As := [vi x3]) dX8_splitBy_91 K_X8_solves w_1043 ⟨by decide, by decide⟩ (Nat.le_of_ble_eq_true rfl) rfl rfl (ci := 8) rfl rfl (by decide) (okO_of (N := 15) (hL.sh (i := 27) rfl (by decide) (by decide)) (by decide)) (h hL) (fun r7 τ8 h8 hr9 => ?_) rfl
      replace hL := h8.1
      replace h := h8.2 hr9
      refine r_if_eq (pc := 94) (tgt := 102) dX8_splitBy_94 (by decide) (fun c9 => ?_) (fun c9 => ?_)
      · replace h := h.1 c9
        obtain ⟨o9, h⟩ := h
        refine r_iinc (pc := 102) dX8_splitBy_102 rfl (by decide) o9 (l2 := [some (vr 54), some (vi x1), some (vi x2), some (vi (x3 + 1))]) rfl ?_
        refine r_goto (pc := 105) (tgt := 67) dX8_splitBy_105 (by decide) ?_
        exact (h hL)
      · replace h := h.2 c9
        refine r_aload_n (pc := 97) dX8_splitBy_97 rfl rfl ?_
        refine r_iload_n (pc := 98) dX8_splitBy_98 rfl rfl ?_
        refine c_VV0N (M := mX8_splitBy) (pc := 99) (As := [vi x3]) dX8_splitBy_99 K_X8_placeSpace w_1047 ⟨by decide, by decide⟩ (Nat.le_of_ble_eq_true rfl) rfl rfl (ci := 8) rfl rfl (by decide) (okO_of (N := 15) (hL.sh (i := 27) rfl (by decide) (by decide)) (by decide)) (h hL) (fun τ11 h8 => ?_) rfl
        replace hL := h8.1
        replace h := h8.2
        obtain ⟨o12, h⟩ := h
        refine r_iinc (pc := 102) dX8_splitBy_102 rfl (by decide) o12 (l2 := [some (vr 54), some (vi x1), some (vi x2), some (vi (x3 + 1))]) rfl ?_
        refine r_goto (pc := 105) (tgt := 67) dX8_splitBy_105 (by decide) ?_
        exact (h hL)
theorem C_X8_splitBy {a0 : Nat} {x1 : Int} (h : GG E mX8_splitBy 0 [some (vr a0), some (vi x1), none, none] [] σ 0 0 Q) : CC E mX8_splitBy [vr a0, vi x1] σ Q := CC.of (by decide +kernel) rfl (by decide +kernel) (fun h9 => nomatch h9) (Nat.le_of_ble_eq_true rfl) h
theorem dX8_stretchRow_0 : decode cX8_stretchRow 0 = .ok (.iconst 0, 1) := by decide +kernel
theorem dX8_stretchRow_1 : decode cX8_stretchRow 1 = .ok (.istore_n 3, 1) := by decide +kernel
theorem dX8_stretchRow_2 : decode cX8_stretchRow 2 = .ok (.iload_n 3, 1) := by decide +kernel
theorem dX8_stretchRow_3 : decode cX8_stretchRow 3 = .ok (.aload_n 1, 1) := by decide +kernel
theorem dX8_stretchRow_4 : decode cX8_stretchRow 4 = .ok (.arraylength, 1) := by decide +kernel
theorem dX8_stretchRow_5 : decode cX8_stretchRow 5 = .ok (.if_icmp .ge 24, 3) := by decide +kernel
theorem dX8_stretchRow_8 : decode cX8_stretchRow 8 = .ok (.aload_n 1, 1) := by decide +kernel
theorem dX8_stretchRow_9 : decode cX8_stretchRow 9 = .ok (.iload_n 3, 1) := by decide +kernel
theorem dX8_stretchRow_10 : decode cX8_stretchRow 10 = .ok (.aload_n 0, 1) := by decide +kernel
theorem dX8_stretchRow_11 : decode cX8_stretchRow 11 = .ok (.getfield 44, 3) := by decide +kernel
theorem dX8_stretchRow_14 : decode cX8_stretchRow 14 = .ok (.aload_n 1, 1) := by decide +kernel
theorem dX8_stretchRow_15 : decode cX8_stretchRow 15 = .ok (.iload_n 3, 1) := by decide +kernel
theorem dX8_stretchRow_16 : decode cX8_stretchRow 16 = .ok (.iaload, 1) := by decide +kernel
theorem dX8_stretchRow_17 : decode cX8_stretchRow 17 = .ok (.iload_n 2, 1) := by decide +kernel
theorem dX8_stretchRow_18 : decode cX8_stretchRow 18 = .ok (.imul, 1) := by decide +kernel
theorem dX8_stretchRow_19 : decode cX8_stretchRow 19 = .ok (.invokevirtual 119, 3) := by decide +kernel
theorem dX8_stretchRow_22 : decode cX8_stretchRow 22 = .ok (.iastore, 1) := by decide +kernel
theorem dX8_stretchRow_23 : decode cX8_stretchRow 23 = .ok (.iinc 3 1, 3) := by decide +kernel
theorem dX8_stretchRow_26 : decode cX8_stretchRow 26 = .ok (.goto (-24), 3) := by decide +kernel
theorem dX8_stretchRow_29 : decode cX8_stretchRow 29 = .ok (.return_, 1) := by decide +kernel
theorem B_X8_stretchRow_0 {g : Sg} {c t : Nat} (hL : Lay LC g c t σ) {a1 : Nat} {n1 : Nat} (p1 : PA LC a1 n1) {x2 : Int} (h : (Lay LC g c t σ → GG E mX8_stretchRow 2 [some (vr 54), some (vr a1), some (vi x2), some (vi 0)] [] σ rc rs Q)) : GG E mX8_stretchRow 0 [some (vr 54), some (vr a1), some (vi x2), none] [] σ rc rs Q := by
  refine r_iconst (pc := 0) dX8_stretchRow_0 (inRk rfl) ?_
  refine r_istore_n (pc := 1) dX8_stretchRow_1 rfl (by decide) (l2 := [some (vr 54), some (vr a1), some (vi x2), some (vi 0)]) rfl ?_
  exact (h hL)
theorem B_X8_stretchRow_2 {g : Sg} {c t : Nat} (hL : Lay LC g c t σ) {a1 : Nat} {n1 : Nat} (p1 : PA LC a1 n1) {x2 : Int} {x3 : Int} (h : n1 ≤ 2147483647 ∧ (((n1 : Int) ≤ x3 → (Lay LC g c t σ → Q (.inl none) σ)) ∧ (¬ ((n1 : Int) ≤ x3) → (0 ≤ x3 ∧ x3 < (n1 : Int)) ∧ inR ((gI σ a1 x3.toNat) * x2) ∧ (Lay LC g c t σ → CC E mX2_mod [vr 35, vi ((gI σ a1 x3.toNat) * x2)] σ (KI (fun r3 τ4 => Lay LC g c t τ4 ∧ (inR r3 → ∀ τ5 : Sg, τ5 = sI τ4 a1 x3.toNat r3 → inR (x3 + 1) ∧ (Lay LC g c t τ5 → GG E mX8_stretchRow 2 [some (vr 54), some (vr a1), some (vi x2), some (vi (x3 + 1))] [] τ5 rc rs Q))) (fun _ _ => False)))))) : GG E mX8_stretchRow 2 [some (vr 54), some (vr a1), some (vi x2), some (vi x3)] [] σ rc rs Q := by
  refine r_iload_n (pc := 2) dX8_stretchRow_2 rfl rfl ?_
  refine r_aload_n (pc := 3) dX8_stretchRow_3 rfl rfl ?_
  obtain ⟨o7, h⟩ := h
  have o8 : okN σ a1 := okN_of (p1.sh hL) p1.2.2.1 (by decide) o7
  refine r_alen (pc := 4) dX8_stretchRow_4 o8.1 o8.2 ?_
  refine eqI (y := (n1 : Int)) (by rw [(p1.sh hL)] <;> rfl) ?_
  refine r_icmp_ge (pc := 5) (tgt := 29) dX8_stretchRow_5 (by decide) (fun c9 => ?_) (fun c9 => ?_)
  · replace h := h.1 c9
    exact r_return (pc := 29) dX8_stretchRow_29 (by decide +kernel) rfl (h hL)
  · replace h := h.2 c9
    refine r_aload_n (pc := 8) dX8_stretchRow_8 rfl rfl ?_
    refine r_iload_n (pc := 9) dX8_stretchRow_9 rfl rfl ?_
    refine r_aload_n (pc := 10) dX8_stretchRow_10 rfl rfl ?_
    refine r_getR (pc := 11) dX8_stretchRow_11 (k9 := 10) CL_8 (by decide) (by decide) w_371 rfl (okO_of (N := 15) (hL.sh (i := 27) rfl (by decide) (by decide)) (by decide)) ?_
    refine eqR (y := 35) (hL.rf (i := 36) rfl) ?_
    refine r_aload_n (pc := 14) dX8_stretchRow_14 rfl rfl ?_
    refine r_iload_n (pc := 15) dX8_stretchRow_15 rfl rfl ?_
    obtain ⟨o1, h⟩ := h
    refine r_iaload (pc := 16) dX8_stretchRow_16 (okA_of (c := 20) (n := n1) (p1.sh hL) p1.2.2.1 o1) ?_
    refine r_iload_n (pc := 17) dX8_stretchRow_17 rfl rfl ?_
    obtain ⟨o2, h⟩ := h
    refine r_imul (pc := 18) dX8_stretchRow_18 o2 ?_
    refine c_VI0N (M := mX8_stretchRow) (pc := 19) (As := [vi ((gI σ a1 x3.toNat) * x2)]) dX8_stretchRow_19 K_X2_mod w_1032 ⟨by decide, by decide⟩ (Nat.le_of_ble_eq_true rfl) rfl rfl (ci := 2) rfl rfl (by decide) (okO_of (N := 2) (hL.sh (i := 19) rfl (by decide) (by decide)) (by decide)) (h hL) (fun r3 τ4 h8 hr9 => ?_) rfl
    replace hL := h8.1
    replace h := h8.2 hr9
    refine r_iastore (pc := 22) dX8_stretchRow_22 (okB_of (c := 20) (n := n1) (p1.sh hL) p1.2.2.1 o1) ?_
    refine nmS (fun τ5 e5 => ?_)
    replace h := h τ5 e5
    have hL := hL.wI e5 p1.2.2.1 (.inl ⟨p1.1, p1.2.1⟩)
    obtain ⟨o6, h⟩ := h
    refine r_iinc (pc := 23) dX8_stretchRow_23 rfl (by decide) o6 (l2 := [some (vr 54), some (vr a1), some (vi x2), some (vi (x3 + 1))]) rfl ?_
    refine r_goto (pc := 26) (tgt := 2) dX8_stretchRow_26 (by decide) ?_
    exact (h hL)
theorem C_X8_stretchRow {a0 : Nat} {a1 : Nat} {x2 : Int} (h : GG E mX8_stretchRow 0 [some (vr a0), some (vr a1), some (vi x2), none] [] σ 0 0 Q) : CC E mX8_stretchRow [vr a0, vr a1, vi x2] σ Q := CC.of (by decide +kernel) rfl (by decide +kernel) (fun h9 => nomatch h9) (Nat.le_of_ble_eq_true rfl) h
theorem dX8_takeAway_0 : decode cX8_takeAway 0 = .ok (.iconst 0, 1) := by decide +kernel
theorem dX8_takeAway_1 : decode cX8_takeAway 1 = .ok (.istore 4, 2) := by decide +kernel
theorem dX8_takeAway_3 : decode cX8_takeAway 3 = .ok (.iload_n 3, 1) := by decide +kernel
theorem dX8_takeAway_4 : decode cX8_takeAway 4 = .ok (.ifCond .eq 45, 3) := by decide +kernel
theorem dX8_takeAway_7 : decode cX8_takeAway 7 = .ok (.iload 4, 2) := by decide +kernel
theorem dX8_takeAway_9 : decode cX8_takeAway 9 = .ok (.aload_n 1, 1) := by decide +kernel
theorem dX8_takeAway_10 : decode cX8_takeAway 10 = .ok (.arraylength, 1) := by decide +kernel
theorem dX8_takeAway_11 : decode cX8_takeAway 11 = .ok (.if_icmp .ge 38, 3) := by decide +kernel
theorem dX8_takeAway_14 : decode cX8_takeAway 14 = .ok (.iload 4, 2) := by decide +kernel
theorem dX8_takeAway_16 : decode cX8_takeAway 16 = .ok (.aload_n 2, 1) := by decide +kernel
theorem dX8_takeAway_17 : decode cX8_takeAway 17 = .ok (.arraylength, 1) := by decide +kernel
theorem dX8_takeAway_18 : decode cX8_takeAway 18 = .ok (.if_icmp .ge 31, 3) := by decide +kernel
theorem dX8_takeAway_21 : decode cX8_takeAway 21 = .ok (.aload_n 1, 1) := by decide +kernel
theorem dX8_takeAway_22 : decode cX8_takeAway 22 = .ok (.iload 4, 2) := by decide +kernel
theorem dX8_takeAway_24 : decode cX8_takeAway 24 = .ok (.aload_n 0, 1) := by decide +kernel
theorem dX8_takeAway_25 : decode cX8_takeAway 25 = .ok (.getfield 44, 3) := by decide +kernel
theorem dX8_takeAway_28 : decode cX8_takeAway 28 = .ok (.aload_n 1, 1) := by decide +kernel
theorem dX8_takeAway_29 : decode cX8_takeAway 29 = .ok (.iload 4, 2) := by decide +kernel
theorem dX8_takeAway_31 : decode cX8_takeAway 31 = .ok (.iaload, 1) := by decide +kernel
theorem dX8_takeAway_32 : decode cX8_takeAway 32 = .ok (.iload_n 3, 1) := by decide +kernel
theorem dX8_takeAway_33 : decode cX8_takeAway 33 = .ok (.aload_n 2, 1) := by decide +kernel
theorem dX8_takeAway_34 : decode cX8_takeAway 34 = .ok (.iload 4, 2) := by decide +kernel
theorem dX8_takeAway_36 : decode cX8_takeAway 36 = .ok (.iaload, 1) := by decide +kernel
theorem dX8_takeAway_37 : decode cX8_takeAway 37 = .ok (.imul, 1) := by decide +kernel
theorem dX8_takeAway_38 : decode cX8_takeAway 38 = .ok (.isub, 1) := by decide +kernel
theorem dX8_takeAway_39 : decode cX8_takeAway 39 = .ok (.invokevirtual 119, 3) := by decide +kernel
theorem dX8_takeAway_42 : decode cX8_takeAway 42 = .ok (.iastore, 1) := by decide +kernel
theorem dX8_takeAway_43 : decode cX8_takeAway 43 = .ok (.iinc 4 1, 3) := by decide +kernel
theorem dX8_takeAway_46 : decode cX8_takeAway 46 = .ok (.goto (-43), 3) := by decide +kernel
theorem dX8_takeAway_49 : decode cX8_takeAway 49 = .ok (.return_, 1) := by decide +kernel
theorem B_X8_takeAway_0 {g : Sg} {c t : Nat} (hL : Lay LC g c t σ) {a1 : Nat} {n1 : Nat} (p1 : PA LC a1 n1) {a2 : Nat} {n2 : Nat} (p2 : PA LC a2 n2) {x3 : Int} (h : (Lay LC g c t σ → GG E mX8_takeAway 3 [some (vr 54), some (vr a1), some (vr a2), some (vi x3), some (vi 0)] [] σ rc rs Q)) : GG E mX8_takeAway 0 [some (vr 54), some (vr a1), some (vr a2), some (vi x3), none] [] σ rc rs Q := by
  refine r_iconst (pc := 0) dX8_takeAway_0 (inRk rfl) ?_
  refine r_istore (pc := 1) dX8_takeAway_1 (by decide) (l2 := [some (vr 54), some (vr a1), some (vr a2), some (vi x3), some (vi 0)]) rfl ?_
  exact (h hL)
theorem B_X8_takeAway_3 {g : Sg} {c t : Nat} (hL : Lay LC g c t σ) {a1 : Nat} {n1 : Nat} (p1 : PA LC a1 n1) {a2 : Nat} {n2 : Nat} (p2 : PA LC a2 n2) {x3 : Int} {x4 : Int} (h : ((x3 = 0 → (Lay LC g c t σ → Q (.inl none) σ)) ∧ (¬ (x3 = 0) → n1 ≤ 2147483647 ∧ (((n1 : Int) ≤ x4 → (Lay LC g c t σ → Q (.inl none) σ)) ∧ (¬ ((n1 : Int) ≤ x4) → n2 ≤ 2147483647 ∧ (((n2 : Int) ≤ x4 → (Lay LC g c t σ → Q (.inl none) σ)) ∧ (¬ ((n2 : Int) ≤ x4) → (0 ≤ x4 ∧ x4 < (n1 : Int)) ∧ (0 ≤ x4 ∧ x4 < (n2 : Int)) ∧ inR (x3 * (gI σ a2 x4.toNat)) ∧ inR ((gI σ a1 x4.toNat) - (x3 * (gI σ a2 x4.toNat))) ∧ ∀ v5 : Int, v5 = (gI σ a1 x4.toNat) - (x3 * (gI σ a2 x4.toNat)) → (Lay LC g c t σ → CC E mX2_mod [vr 35, vi v5] σ (KI (fun r6 τ7 => Lay LC g c t τ7 ∧ (inR r6 → ∀ τ8 : Sg, τ8 = sI τ7 a1 x4.toNat r6 → inR (x4 + 1) ∧ (Lay LC g c t τ8 → GG E mX8_takeAway 3 [some (vr 54), some (vr a1), some (vr a2), some (vi x3), some (vi (x4 + 1))] [] τ8 rc rs Q))) (fun _ _ => False)))))))))) : GG E mX8_takeAway 3 [some (vr 54), some (vr a1), some (vr a2), some (vi x3), some (vi x4)] [] σ rc rs Q := by
  refine r_iload_n (pc := 3) dX8_takeAway_3 rfl rfl ?_
  refine r_if_eq (pc := 4) (tgt := 49) dX8_takeAway_4 (by decide) (fun c9 => ?_) (fun c9 => ?_)
  · replace h := h.1 c9
    exact r_return (pc := 49) dX8_takeAway_49 (by decide +kernel) rfl (h hL)
  · replace h := h.2 c9
    refine r_iload (pc := 7) dX8_takeAway_7 rfl ?_
    refine r_aload_n (pc := 9) dX8_takeAway_9 rfl rfl ?_
    obtain ⟨o12, h⟩ := h
    have o13 : okN σ a1 := okN_of (p1.sh hL) p1.2.2.1 (by decide) o12
    refine r_alen (pc := 10) dX8_takeAway_10 o13.1 o13.2 ?_
    refine eqI (y := (n1 : Int)) (by rw [(p1.sh hL)] <;> rfl) ?_
    refine r_icmp_ge (pc := 11) (tgt := 49) dX8_takeAway_11 (by decide) (fun c9 => ?_) (fun c9 => ?_)
    · replace h := h.1 c9
      exact r_return (pc := 49) dX8_takeAway_49 (by decide +kernel) rfl (h hL)
    · replace h := h.2 c9
      refine r_iload (pc := 14) dX8_takeAway_14 rfl ?_
      refine r_aload_n (pc := 16) dX8_takeAway_16 rfl rfl ?_
      obtain ⟨o10, h⟩ := h
      have o11 : okN σ a2 := okN_of (p2.sh hL) p2.2.2.1 (by decide) o10
      refine r_alen (pc := 17) dX8_takeAway_17 o11.1 o11.2 ?_
      refine eqI (y := (n2 : Int)) (by rw [(p2.sh hL)] <;> rfl) ?_
      refine r_icmp_ge (pc := 18) (tgt := 49) dX8_takeAway_18 (by decide) (fun c9 => ?_) (fun c9 => ?_)
      · replace h := h.1 c9
        exact r_return (pc := 49) dX8_takeAway_49 (by decide +kernel) rfl (h hL)
      · replace h := h.2 c9
        refine r_aload_n (pc := 21) dX8_takeAway_21 rfl rfl ?_
        refine r_iload (pc := 22) dX8_takeAway_22 rfl ?_
        refine r_aload_n (pc := 24) dX8_takeAway_24 rfl rfl ?_
        refine r_getR (pc := 25) dX8_takeAway_25 (k9 := 10) CL_8 (by decide) (by decide) w_371 rfl (okO_of (N := 15) (hL.sh (i := 27) rfl (by decide) (by decide)) (by decide)) ?_
        refine eqR (y := 35) (hL.rf (i := 36) rfl) ?_
        refine r_aload_n (pc := 28) dX8_takeAway_28 rfl rfl ?_
        refine r_iload (pc := 29) dX8_takeAway_29 rfl ?_
        obtain ⟨o1, h⟩ := h
        refine r_iaload (pc := 31) dX8_takeAway_31 (okA_of (c := 20) (n := n1) (p1.sh hL) p1.2.2.1 o1) ?_
        refine r_iload_n (pc := 32) dX8_takeAway_32 rfl rfl ?_
        refine r_aload_n (pc := 33) dX8_takeAway_33 rfl rfl ?_
        refine r_iload (pc := 34) dX8_takeAway_34 rfl ?_
        obtain ⟨o2, h⟩ := h
        refine r_iaload (pc := 36) dX8_takeAway_36 (okA_of (c := 20) (n := n2) (p2.sh hL) p2.2.2.1 o2) ?_
        obtain ⟨o3, h⟩ := h
        refine r_imul (pc := 37) dX8_takeAway_37 o3 ?_
        obtain ⟨o4, h⟩ := h
        refine r_isub (pc := 38) dX8_takeAway_38 o4 ?_
        refine nmI (fun v5 e9 => ?_)
        replace h := h v5 e9
        refine c_VI0N (M := mX8_takeAway) (pc := 39) (As := [vi v5]) dX8_takeAway_39 K_X2_mod w_1032 ⟨by decide, by decide⟩ (Nat.le_of_ble_eq_true rfl) rfl rfl (ci := 2) rfl rfl (by decide) (okO_of (N := 2) (hL.sh (i := 19) rfl (by decide) (by decide)) (by decide)) (h hL) (fun r6 τ7 h8 hr9 => ?_) rfl
        replace hL := h8.1
        replace h := h8.2 hr9
        refine r_iastore (pc := 42) dX8_takeAway_42 (okB_of (c := 20) (n := n1) (p1.sh hL) p1.2.2.1 o1) ?_
        refine nmS (fun τ8 e8 => ?_)
        replace h := h τ8 e8
        have hL := hL.wI e8 p1.2.2.1 (.inl ⟨p1.1, p1.2.1⟩)
        obtain ⟨o9, h⟩ := h
        refine r_iinc (pc := 43) dX8_takeAway_43 rfl (by decide) o9 (l2 := [some (vr 54), some (vr a1), some (vr a2), some (vi x3), some (vi (x4 + 1))]) rfl ?_
        refine r_goto (pc := 46) (tgt := 3) dX8_takeAway_46 (by decide) ?_
        exact (h hL)
theorem C_X8_takeAway {a0 : Nat} {a1 : Nat} {a2 : Nat} {x3 : Int} (h : GG E mX8_takeAway 0 [some (vr a0), some (vr a1), some (vr a2), some (vi x3), none] [] σ 0 0 Q) : CC E mX8_takeAway [vr a0, vr a1, vr a2, vi x3] σ Q := CC.of (by decide +kernel) rfl (by decide +kernel) (fun h9 => nomatch h9) (Nat.le_of_ble_eq_true rfl) h
theorem dX8_takeParts_0 : decode cX8_takeParts 0 = .ok (.iconst 0, 1) := by decide +kernel
theorem dX8_takeParts_1 : decode cX8_takeParts 1 = .ok (.istore_n 1, 1) := by decide +kernel
theorem dX8_takeParts_2 : decode cX8_takeParts 2 = .ok (.iload_n 1, 1) := by decide +kernel
theorem dX8_takeParts_3 : decode cX8_takeParts 3 = .ok (.aload_n 0, 1) := by decide +kernel
theorem dX8_takeParts_4 : decode cX8_takeParts 4 = .ok (.getfield 90, 3) := by decide +kernel
theorem dX8_takeParts_7 : decode cX8_takeParts 7 = .ok (.if_icmp .ge 35, 3) := by decide +kernel
theorem dX8_takeParts_10 : decode cX8_takeParts 10 = .ok (.aload_n 0, 1) := by decide +kernel
theorem dX8_takeParts_11 : decode cX8_takeParts 11 = .ok (.getfield 20, 3) := by decide +kernel
theorem dX8_takeParts_14 : decode cX8_takeParts 14 = .ok (.iload_n 1, 1) := by decide +kernel
theorem dX8_takeParts_15 : decode cX8_takeParts 15 = .ok (.aaload, 1) := by decide +kernel
theorem dX8_takeParts_16 : decode cX8_takeParts 16 = .ok (.iconst 0, 1) := by decide +kernel
theorem dX8_takeParts_17 : decode cX8_takeParts 17 = .ok (.aload_n 0, 1) := by decide +kernel
theorem dX8_takeParts_18 : decode cX8_takeParts 18 = .ok (.getfield 17, 3) := by decide +kernel
theorem dX8_takeParts_21 : decode cX8_takeParts 21 = .ok (.aload_n 0, 1) := by decide +kernel
theorem dX8_takeParts_22 : decode cX8_takeParts 22 = .ok (.getfield 84, 3) := by decide +kernel
theorem dX8_takeParts_25 : decode cX8_takeParts 25 = .ok (.iload_n 1, 1) := by decide +kernel
theorem dX8_takeParts_26 : decode cX8_takeParts 26 = .ok (.iadd, 1) := by decide +kernel
theorem dX8_takeParts_27 : decode cX8_takeParts 27 = .ok (.aaload, 1) := by decide +kernel
theorem dX8_takeParts_28 : decode cX8_takeParts 28 = .ok (.iconst 0, 1) := by decide +kernel
theorem dX8_takeParts_29 : decode cX8_takeParts 29 = .ok (.aload_n 0, 1) := by decide +kernel
theorem dX8_takeParts_30 : decode cX8_takeParts 30 = .ok (.getfield 60, 3) := by decide +kernel
theorem dX8_takeParts_33 : decode cX8_takeParts 33 = .ok (.invokestatic 138, 3) := by decide +kernel
theorem dX8_takeParts_36 : decode cX8_takeParts 36 = .ok (.iinc 1 1, 3) := by decide +kernel
theorem dX8_takeParts_39 : decode cX8_takeParts 39 = .ok (.goto (-37), 3) := by decide +kernel
theorem dX8_takeParts_42 : decode cX8_takeParts 42 = .ok (.return_, 1) := by decide +kernel
theorem B_X8_takeParts_0 {g : Sg} {c t : Nat} (hL : Lay LC g c t σ)  (h : (Lay LC g c t σ → GG E mX8_takeParts 2 [some (vr 54), some (vi 0)] [] σ rc rs Q)) : GG E mX8_takeParts 0 [some (vr 54), none] [] σ rc rs Q := by
  refine r_iconst (pc := 0) dX8_takeParts_0 (inRk rfl) ?_
  refine r_istore_n (pc := 1) dX8_takeParts_1 rfl (by decide) (l2 := [some (vr 54), some (vi 0)]) rfl ?_
  exact (h hL)
theorem B_X8_takeParts_2 {g : Sg} {c t : Nat} (hL : Lay LC g c t σ) {x1 : Int} (h : (((gI σ 54 14) ≤ x1 → (Lay LC g c t σ → Q (.inl none) σ)) ∧ (¬ ((gI σ 54 14) ≤ x1) → (0 ≤ x1 ∧ x1 < 12) ∧ ∀ b2 : Nat, b2 = gR σ 69 x1.toNat → (70 ≤ b2 ∧ b2 < 82) → inR ((gI σ 54 12) + x1) ∧ (0 ≤ ((gI σ 54 12) + x1) ∧ ((gI σ 54 12) + x1) < 12) ∧ (0 ≤ (0 : Int) ∧ (0 : Int) + (gI σ 54 11) ≤ 12) ∧ 0 ≤ (gI σ 54 11) ∧ ∀ τ9 : Sg, τ9 = cpI σ b2 0 (57 + ((gI σ 54 12) + x1).toNat) 0 (gI σ 54 11).toNat → inR (x1 + 1) ∧ (Lay LC g c t τ9 → GG E mX8_takeParts 2 [some (vr 54), some (vi (x1 + 1))] [] τ9 rc rs Q)))) : GG E mX8_takeParts 2 [some (vr 54), some (vi x1)] [] σ rc rs Q := by
  refine r_iload_n (pc := 2) dX8_takeParts_2 rfl rfl ?_
  refine r_aload_n (pc := 3) dX8_takeParts_3 rfl rfl ?_
  refine r_getI (pc := 4) dX8_takeParts_4 (k9 := 14) CL_8 (by decide) (by decide) w_376 rfl (okO_of (N := 15) (hL.sh (i := 27) rfl (by decide) (by decide)) (by decide)) (fun _ => ?_)
  refine r_icmp_ge (pc := 7) (tgt := 42) dX8_takeParts_7 (by decide) (fun c9 => ?_) (fun c9 => ?_)
  · replace h := h.1 c9
    exact r_return (pc := 42) dX8_takeParts_42 (by decide +kernel) rfl (h hL)
  · replace h := h.2 c9
    refine r_aload_n (pc := 10) dX8_takeParts_10 rfl rfl ?_
    refine r_getR (pc := 11) dX8_takeParts_11 (k9 := 2) CL_8 (by decide) (by decide) w_363 rfl (okO_of (N := 15) (hL.sh (i := 27) rfl (by decide) (by decide)) (by decide)) ?_
    refine eqR (y := 69) (hL.rf (i := 28) rfl) ?_
    refine r_iload_n (pc := 14) dX8_takeParts_14 rfl rfl ?_
    obtain ⟨o1, h⟩ := h
    refine r_aaload (pc := 15) dX8_takeParts_15 (okB_of (c := 24) (n := 12) (hL.sh (i := 31) rfl (by decide) (by decide)) (by decide) o1) ?_
    refine nmR (fun b2 e9 => ?_)
    have q3 : (70 ≤ b2 ∧ b2 < 82) := e9 ▸ hL.rsw (i := 1) rfl (rowC o1 (by decide))
    replace h := h b2 e9 q3
    refine r_iconst (pc := 16) dX8_takeParts_16 (inRk rfl) ?_
    refine r_aload_n (pc := 17) dX8_takeParts_17 rfl rfl ?_
    refine r_getR (pc := 18) dX8_takeParts_18 (k9 := 1) CL_8 (by decide) (by decide) w_361 rfl (okO_of (N := 15) (hL.sh (i := 27) rfl (by decide) (by decide)) (by decide)) ?_
    refine eqR (y := 56) (hL.rf (i := 27) rfl) ?_
    refine r_aload_n (pc := 21) dX8_takeParts_21 rfl rfl ?_
    refine r_getI (pc := 22) dX8_takeParts_22 (k9 := 12) CL_8 (by decide) (by decide) w_374 rfl (okO_of (N := 15) (hL.sh (i := 27) rfl (by decide) (by decide)) (by decide)) (fun _ => ?_)
    refine r_iload_n (pc := 25) dX8_takeParts_25 rfl rfl ?_
    obtain ⟨o4, h⟩ := h
    refine r_iadd (pc := 26) dX8_takeParts_26 o4 ?_
    obtain ⟨o5, h⟩ := h
    refine r_aaload (pc := 27) dX8_takeParts_27 (okB_of (c := 24) (n := 12) (hL.sh (i := 29) rfl (by decide) (by decide)) (by decide) o5) ?_
    have q6 : 57 ≤ 57 + ((gI σ 54 12) + x1).toNat ∧ 57 + ((gI σ 54 12) + x1).toNat < 69 := ⟨Nat.le_add_right _ _, rowB o5 (by decide)⟩
    refine eqR (y := 57 + ((gI σ 54 12) + x1).toNat) (hL.rx (i := 0) rfl (rowC o5 (by decide))) ?_
    refine r_iconst (pc := 28) dX8_takeParts_28 (inRk rfl) ?_
    refine r_aload_n (pc := 29) dX8_takeParts_29 rfl rfl ?_
    refine r_getI (pc := 30) dX8_takeParts_30 (k9 := 11) CL_8 (by decide) (by decide) w_372 rfl (okO_of (N := 15) (hL.sh (i := 27) rfl (by decide) (by decide)) (by decide)) (fun _ => ?_)
    obtain ⟨o7, h⟩ := h
    obtain ⟨o8, h⟩ := h
    refine r_copy (pc := 33) dX8_takeParts_33 w_1071 w_543 w_542 w_110 (by decide) (by decide +kernel) ⟨(Nat.le_trans (by decide) q3.1), by rw [(hL.sh (i := 32) rfl q3.1 q3.2)]⟩ ⟨(Nat.le_trans (by decide) q6.1), by rw [(hL.sh (i := 30) rfl q6.1 q6.2)]⟩ o8 (cpl (N := 12) (hL.sh (i := 32) rfl q3.1 q3.2) o7 (by first | rfl | decide)) (cpl (N := 12) (hL.sh (i := 30) rfl q6.1 q6.2) o7 (by first | rfl | decide)) ?_
    refine nmS (fun τ9 e9 => ?_)
    replace h := h τ9 e9
    have hL := hL.wC e9 (Nat.le_trans (by decide) q6.1) (.inl ⟨Nat.le_trans (by decide) q6.1, Nat.lt_of_lt_of_le q6.2 (by decide)⟩)
    obtain ⟨o10, h⟩ := h
    refine r_iinc (pc := 36) dX8_takeParts_36 rfl (by decide) o10 (l2 := [some (vr 54), some (vi (x1 + 1))]) rfl ?_
    refine r_goto (pc := 39) (tgt := 2) dX8_takeParts_39 (by decide) ?_
    exact (h hL)
theorem C_X8_takeParts {a0 : Nat} (h : GG E mX8_takeParts 0 [some (vr a0), none] [] σ 0 0 Q) : CC E mX8_takeParts [vr a0] σ Q := CC.of (by decide +kernel) rfl (by decide +kernel) (fun h9 => nomatch h9) (Nat.le_of_ble_eq_true rfl) h
end G26
