/-! ===== trees of add, drop, undo, text: behind takeTrial the closings have changed places ===== -/
section G70
variable {E : Ev} {σ : Sg} {rc rs : Nat} {Q : NO → Sg → Prop}
theorem W_X11_add_0 {g : Sg} {c t : Nat} (hL : Lay LC g c t σ) {x1 : Int} {x2 : Int} {x3 : Int} {x4 : Int} {x5 : Int} {x6 : Int} {x7 : Int} {x8 : Int} (h : (Lay LC g c t σ → CC E mX11_forgetReasons [vr 16] σ (KV (fun τ2 => Lay LC g c t τ2 ∧ (Lay LC g c t τ2 → CC E mX11_askHalf [vr 16, vi 0, vi x1, vi x2, vi x3, vi x4] τ2 (KV (fun τ4 => Lay LC g c t τ4 ∧ (Lay LC g c t τ4 → CC E mX11_askHalf [vr 16, vi 4, vi x5, vi x6, vi x7, vi x8] τ4 (KV (fun τ6 => Lay LC g c t τ6 ∧ (Lay LC g c t τ6 → CC E mX11_canBeTold [vr 155] τ6 (KI (fun r7 τ8 => Lay LC g c t τ8 ∧ (inR r7 → ((r7 = 0 → inR ((gI τ8 157 1) + 1) ∧ ∀ τ10 : Sg, τ10 = sI τ8 157 1 ((gI τ8 157 1) + 1) → (Lay LC g c t τ10 → 1 ≤ rc ∧ 6 ≤ rs ∧ ∀ d9, Q (.inr 1) (jk τ10 d9))) ∧ (¬ (r7 = 0) → (Lay LC g c t τ8 → CC E mX11_isTurn [vr 155, vi (gI τ8 c 6)] τ8 (KI (fun r11 τ12 => Lay LC g c t τ12 ∧ (inR r11 → ((r11 ≠ 0 → (((gI τ12 c 7) < 4 → (Lay LC g c t τ12 → CC E mX1_copyTold [vr t, vr c] τ12 (KV (fun τ14 => Lay LC g c t τ14 ∧ (Lay LC g c t τ14 → CC E mX1_tell [vr t, vr 155, vi 0] τ14 (KV (fun τ16 => Lay LC g c t τ16 ∧ (Lay LC g c t τ16 → CC E mX1_close [vr t] τ16 (KI (fun r17 τ18 => Lay LC g c t τ18 ∧ (inR r17 → ((r17 ≠ 0 → (Lay LC g c t τ18 → CC E mX5_keep [vr 21, vr c] τ18 (KV (fun τ20 => Lay LC g c t τ20 ∧ (Lay LC g c t τ20 → CC E mX11_takeTrial [vr 16] τ20 (KV (fun τ22 => Lay LC g t c τ22 ∧ (Lay LC g t c τ22 → Q (.inl (some (vi (gI τ22 t 8)))) τ22)) (fun _ _ => False)))) (fun _ _ => False)))) ∧ (r17 = 0 → (Lay LC g c t τ18 → CC E mX11_keepReasons [vr 16] τ18 (KV (fun τ24 => Lay LC g c t τ24 ∧ inR ((gI τ24 157 2) + 1) ∧ ∀ τ26 : Sg, τ26 = sI τ24 157 2 ((gI τ24 157 2) + 1) → (Lay LC g c t τ26 → 1 ≤ rc ∧ 6 ≤ rs ∧ ∀ d9, Q (.inr 2) (jk τ26 d9))) (fun _ _ => False))))))) (fun _ _ => False)))) (fun _ _ => False)))) (fun _ _ => False)))) ∧ (¬ ((gI τ12 c 7) < 4) → inR ((gI τ12 157 2) + 1) ∧ ∀ τ28 : Sg, τ28 = sI τ12 157 2 ((gI τ12 157 2) + 1) → (Lay LC g c t τ28 → 1 ≤ rc ∧ 6 ≤ rs ∧ ∀ d9, Q (.inr 2) (jk τ28 d9))))) ∧ (r11 = 0 → inR ((gI τ12 157 1) + 1) ∧ ∀ τ30 : Sg, τ30 = sI τ12 157 1 ((gI τ12 157 1) + 1) → (Lay LC g c t τ30 → 1 ≤ rc ∧ 6 ≤ rs ∧ ∀ d9, Q (.inr 1) (jk τ30 d9)))))) (fun _ _ => False))))))) (fun _ _ => False)))) (fun _ _ => False)))) (fun _ _ => False)))) (fun _ _ => False)))) : GG E mX11_add 0 [some (vr 16), some (vi x1), some (vi x2), some (vi x3), some (vi x4), some (vi x5), some (vi x6), some (vi x7), some (vi x8)] [] σ rc rs Q := by
  refine r_aload_n (pc := 0) dX11_add_0 rfl rfl ?_
  refine c_VV0N (M := mX11_add) (pc := 1) (As := []) dX11_add_1 K_X11_forgetReasons w_703 ⟨by decide, by decide⟩ (Nat.le_of_ble_eq_true rfl) rfl rfl (ci := 11) rfl rfl (by decide) (okO_of (N := 17) (hL.sh (i := 0) rfl (by decide) (by decide)) (by decide)) (h hL) (fun τ2 h8 => ?_) rfl
  replace hL := h8.1
  replace h := h8.2
  refine r_aload_n (pc := 4) dX11_add_4 rfl rfl ?_
  refine r_iconst (pc := 5) dX11_add_5 (inRk rfl) ?_
  refine r_iload_n (pc := 6) dX11_add_6 rfl rfl ?_
  refine r_iload_n (pc := 7) dX11_add_7 rfl rfl ?_
  refine r_iload_n (pc := 8) dX11_add_8 rfl rfl ?_
  refine r_iload (pc := 9) dX11_add_9 rfl ?_
  refine c_VV0N (M := mX11_add) (pc := 11) (As := [vi 0, vi x1, vi x2, vi x3, vi x4]) dX11_add_11 K_X11_askHalf w_680 ⟨by decide, by decide⟩ (Nat.le_of_ble_eq_true rfl) rfl rfl (ci := 11) rfl rfl (by decide) (okO_of (N := 17) (hL.sh (i := 0) rfl (by decide) (by decide)) (by decide)) (h hL) (fun τ4 h8 => ?_) rfl
  replace hL := h8.1
  replace h := h8.2
  refine r_aload_n (pc := 14) dX11_add_14 rfl rfl ?_
  refine r_iconst (pc := 15) dX11_add_15 (inRk rfl) ?_
  refine r_iload (pc := 16) dX11_add_16 rfl ?_
  refine r_iload (pc := 18) dX11_add_18 rfl ?_
  refine r_iload (pc := 20) dX11_add_20 rfl ?_
  refine r_iload (pc := 22) dX11_add_22 rfl ?_
  refine c_VV0N (M := mX11_add) (pc := 24) (As := [vi 4, vi x5, vi x6, vi x7, vi x8]) dX11_add_24 K_X11_askHalf w_680 ⟨by decide, by decide⟩ (Nat.le_of_ble_eq_true rfl) rfl rfl (ci := 11) rfl rfl (by decide) (okO_of (N := 17) (hL.sh (i := 0) rfl (by decide) (by decide)) (by decide)) (h hL) (fun τ6 h8 => ?_) rfl
  replace hL := h8.1
  replace h := h8.2
  refine r_aload_n (pc := 27) dX11_add_27 rfl rfl ?_
  refine r_getR (pc := 28) dX11_add_28 (k9 := 9) CL_11 (by decide) (by decide) w_597 rfl (okO_of (N := 17) (hL.sh (i := 0) rfl (by decide) (by decide)) (by decide)) ?_
  refine eqR (y := 155) (hL.rf (i := 44) rfl) ?_
  refine c_SI0N (M := mX11_add) (pc := 31) (As := [vr 155]) dX11_add_31 K_X11_canBeTold w_900 ⟨by decide, by decide⟩ (Nat.le_of_ble_eq_true rfl) rfl rfl (h hL) (fun r7 τ8 h8 hr9 => ?_) rfl
  replace hL := h8.1
  replace h := h8.2 hr9
  refine r_if_eq (pc := 34) (tgt := 54) dX11_add_34 (by decide) (fun c9 => ?_) (fun c9 => ?_)
  · replace h := h.1 c9
    refine r_aload_n (pc := 54) dX11_add_54 rfl rfl ?_
    refine r_getR (pc := 55) dX11_add_55 (k9 := 11) CL_11 (by decide) (by decide) w_599 rfl (okO_of (N := 17) (hL.sh (i := 0) rfl (by decide) (by decide)) (by decide)) ?_
    refine eqR (y := 157) (hL.rf (i := 46) rfl) ?_
    refine r_iconst (pc := 58) dX11_add_58 (inRk rfl) ?_
    refine r_dup2_11 (pc := 59) dX11_add_59 (fun _ h9 => nomatch h9) (fun _ h9 => nomatch h9) ?_
    refine r_iaload (pc := 60) dX11_add_60 (okA_of (c := 20) (n := 3) (hL.sh (i := 53) rfl (by decide) (by decide)) (by decide) (by decide)) ?_
    refine r_iconst (pc := 61) dX11_add_61 (inRk rfl) ?_
    obtain ⟨o9, h⟩ := h
    refine r_iadd (pc := 62) dX11_add_62 o9 ?_
    refine r_iastore (pc := 63) dX11_add_63 (okB_of (c := 20) (n := 3) (hL.sh (i := 53) rfl (by decide) (by decide)) (by decide) (by decide)) ?_
    refine nmS (fun τ10 e10 => ?_)
    replace h := h τ10 e10
    have hL := hL.wI e10 (by decide) (.inl (by decide))
    replace h := h hL
    exact r_throw (pc := 64) (x := 1) (names := ["java/lang/RuntimeException", "java/lang/Exception"]) (by decide +kernel) rfl (by decide) rfl dX11_add_64 dX11_add_67 dX11_add_68 dX11_add_70 dX11_add_73 (by decide +kernel) (by decide +kernel) w_711 w_116 (List.mem_of_getElem? (i := 2) rfl) at_170 (by decide) (Nat.le_of_ble_eq_true rfl) h.1 h.2.1 h.2.2
  · replace h := h.2 c9
    refine r_aload_n (pc := 37) dX11_add_37 rfl rfl ?_
    refine r_getR (pc := 38) dX11_add_38 (k9 := 9) CL_11 (by decide) (by decide) w_597 rfl (okO_of (N := 17) (hL.sh (i := 0) rfl (by decide) (by decide)) (by decide)) ?_
    refine eqR (y := 155) (hL.rf (i := 44) rfl) ?_
    refine r_aload_n (pc := 41) dX11_add_41 rfl rfl ?_
    refine r_getR (pc := 42) dX11_add_42 (k9 := 12) CL_11 (by decide) (by decide) w_600 rfl (okO_of (N := 17) (hL.sh (i := 0) rfl (by decide) (by decide)) (by decide)) ?_
    refine eqR (y := c) hL.cl.1 ?_
    refine r_getI (pc := 45) dX11_add_45 (k9 := 6) CL_1 (by decide) (by decide) w_465 rfl (okO_of (ci := 1) (N := 12) (hL.isc.r hL).1 (hL.isc.r hL).2.1) (fun _ => ?_)
    refine c_SI0N (M := mX11_add) (pc := 48) (As := [vr 155, vi (gI τ8 c 6)]) dX11_add_48 K_X11_isTurn w_903 ⟨by decide, by decide⟩ (Nat.le_of_ble_eq_true rfl) rfl rfl (h hL) (fun r11 τ12 h8 hr9 => ?_) rfl
    replace hL := h8.1
    replace h := h8.2 hr9
    refine r_if_ne (pc := 51) (tgt := 74) dX11_add_51 (by decide) (fun c9 => ?_) (fun c9 => ?_)
    · replace h := h.1 c9
      refine r_aload_n (pc := 74) dX11_add_74 rfl rfl ?_
      refine r_getR (pc := 75) dX11_add_75 (k9 := 12) CL_11 (by decide) (by decide) w_600 rfl (okO_of (N := 17) (hL.sh (i := 0) rfl (by decide) (by decide)) (by decide)) ?_
      refine eqR (y := c) hL.cl.1 ?_
      refine r_getI (pc := 78) dX11_add_78 (k9 := 7) CL_1 (by decide) (by decide) w_469 rfl (okO_of (ci := 1) (N := 12) (hL.isc.r hL).1 (hL.isc.r hL).2.1) (fun _ => ?_)
      refine r_iconst (pc := 81) dX11_add_81 (inRk rfl) ?_
      refine r_icmp_lt (pc := 82) (tgt := 105) dX11_add_82 (by decide) (fun c9 => ?_) (fun c9 => ?_)
      · replace h := h.1 c9
        refine r_aload_n (pc := 105) dX11_add_105 rfl rfl ?_
        refine r_getR (pc := 106) dX11_add_106 (k9 := 13) CL_11 (by decide) (by decide) w_601 rfl (okO_of (N := 17) (hL.sh (i := 0) rfl (by decide) (by decide)) (by decide)) ?_
        refine eqR (y := t) hL.cl.2 ?_
        refine r_aload_n (pc := 109) dX11_add_109 rfl rfl ?_
        refine r_getR (pc := 110) dX11_add_110 (k9 := 12) CL_11 (by decide) (by decide) w_600 rfl (okO_of (N := 17) (hL.sh (i := 0) rfl (by decide) (by decide)) (by decide)) ?_
        refine eqR (y := c) hL.cl.1 ?_
        refine c_VV0N (M := mX11_add) (pc := 113) (As := [vr c]) dX11_add_113 K_X1_copyTold w_921 ⟨by decide, by decide⟩ (Nat.le_of_ble_eq_true rfl) rfl rfl (ci := 1) rfl rfl (by decide) (okO_of (ci := 1) (N := 12) (hL.ist.r hL).1 (hL.ist.r hL).2.1) (h hL) (fun τ14 h8 => ?_) rfl
        replace hL := h8.1
        replace h := h8.2
        refine r_aload_n (pc := 116) dX11_add_116 rfl rfl ?_
        refine r_getR (pc := 117) dX11_add_117 (k9 := 13) CL_11 (by decide) (by decide) w_601 rfl (okO_of (N := 17) (hL.sh (i := 0) rfl (by decide) (by decide)) (by decide)) ?_
        refine eqR (y := t) hL.cl.2 ?_
        refine r_aload_n (pc := 120) dX11_add_120 rfl rfl ?_
        refine r_getR (pc := 121) dX11_add_121 (k9 := 9) CL_11 (by decide) (by decide) w_597 rfl (okO_of (N := 17) (hL.sh (i := 0) rfl (by decide) (by decide)) (by decide)) ?_
        refine eqR (y := 155) (hL.rf (i := 44) rfl) ?_
        refine r_iconst (pc := 124) dX11_add_124 (inRk rfl) ?_
        refine c_VV0N (M := mX11_add) (pc := 125) (As := [vr 155, vi 0]) dX11_add_125 K_X1_tell w_927 ⟨by decide, by decide⟩ (Nat.le_of_ble_eq_true rfl) rfl rfl (ci := 1) rfl rfl (by decide) (okO_of (ci := 1) (N := 12) (hL.ist.r hL).1 (hL.ist.r hL).2.1) (h hL) (fun τ16 h8 => ?_) rfl
        replace hL := h8.1
        replace h := h8.2
        refine r_aload_n (pc := 128) dX11_add_128 rfl rfl ?_
        refine r_getR (pc := 129) dX11_add_129 (k9 := 13) CL_11 (by decide) (by decide) w_601 rfl (okO_of (N := 17) (hL.sh (i := 0) rfl (by decide) (by decide)) (by decide)) ?_
        refine eqR (y := t) hL.cl.2 ?_
        refine c_VI0N (M := mX11_add) (pc := 132) (As := []) dX11_add_132 K_X1_close w_508 ⟨by decide, by decide⟩ (Nat.le_of_ble_eq_true rfl) rfl rfl (ci := 1) rfl rfl (by decide) (okO_of (ci := 1) (N := 12) (hL.ist.r hL).1 (hL.ist.r hL).2.1) (h hL) (fun r17 τ18 h8 hr9 => ?_) rfl
        replace hL := h8.1
        replace h := h8.2 hr9
        refine r_if_ne (pc := 135) (tgt := 162) dX11_add_135 (by decide) (fun c9 => ?_) (fun c9 => ?_)
        · replace h := h.1 c9
          refine r_aload_n (pc := 162) dX11_add_162 rfl rfl ?_
          refine r_getR (pc := 163) dX11_add_163 (k9 := 2) CL_11 (by decide) (by decide) w_590 rfl (okO_of (N := 17) (hL.sh (i := 0) rfl (by decide) (by decide)) (by decide)) ?_
          refine eqR (y := 21) (hL.rf (i := 7) rfl) ?_
          refine r_aload_n (pc := 166) dX11_add_166 rfl rfl ?_
          refine r_getR (pc := 167) dX11_add_167 (k9 := 12) CL_11 (by decide) (by decide) w_600 rfl (okO_of (N := 17) (hL.sh (i := 0) rfl (by decide) (by decide)) (by decide)) ?_
          refine eqR (y := c) hL.cl.1 ?_
          refine c_VV0N (M := mX11_add) (pc := 170) (As := [vr c]) dX11_add_170 K_X5_keep w_929 ⟨by decide, by decide⟩ (Nat.le_of_ble_eq_true rfl) rfl rfl (ci := 5) rfl rfl (by decide) (okO_of (N := 3) (hL.sh (i := 5) rfl (by decide) (by decide)) (by decide)) (h hL) (fun τ20 h8 => ?_) rfl
          replace hL := h8.1
          replace h := h8.2
          refine r_aload_n (pc := 173) dX11_add_173 rfl rfl ?_
          refine c_VV0N (M := mX11_add) (pc := 174) (As := []) dX11_add_174 K_X11_takeTrial w_668 ⟨by decide, by decide⟩ (Nat.le_of_ble_eq_true rfl) rfl rfl (ci := 11) rfl rfl (by decide) (okO_of (N := 17) (hL.sh (i := 0) rfl (by decide) (by decide)) (by decide)) (h hL) (fun τ22 h8 => ?_) rfl
          replace hL := h8.1
          replace h := h8.2
          refine r_aload_n (pc := 177) dX11_add_177 rfl rfl ?_
          refine r_getR (pc := 178) dX11_add_178 (k9 := 12) CL_11 (by decide) (by decide) w_600 rfl (okO_of (N := 17) (hL.sh (i := 0) rfl (by decide) (by decide)) (by decide)) ?_
          refine eqR (y := t) hL.cl.1 ?_
          refine r_getI (pc := 181) dX11_add_181 (k9 := 8) CL_1 (by decide) (by decide) w_471 rfl (okO_of (ci := 1) (N := 12) (hL.isc.r hL).1 (hL.isc.r hL).2.1) (fun _ => ?_)
          exact r_ireturn (pc := 184) (ty := .int) dX11_add_184 (by decide +kernel) rfl (nar_i _) (h hL)
        · replace h := h.2 c9
          refine r_aload_n (pc := 138) dX11_add_138 rfl rfl ?_
          refine c_VV0N (M := mX11_add) (pc := 139) (As := []) dX11_add_139 K_X11_keepReasons w_884 ⟨by decide, by decide⟩ (Nat.le_of_ble_eq_true rfl) rfl rfl (ci := 11) rfl rfl (by decide) (okO_of (N := 17) (hL.sh (i := 0) rfl (by decide) (by decide)) (by decide)) (h hL) (fun τ24 h8 => ?_) rfl
          replace hL := h8.1
          replace h := h8.2
          refine r_aload_n (pc := 142) dX11_add_142 rfl rfl ?_
          refine r_getR (pc := 143) dX11_add_143 (k9 := 11) CL_11 (by decide) (by decide) w_599 rfl (okO_of (N := 17) (hL.sh (i := 0) rfl (by decide) (by decide)) (by decide)) ?_
          refine eqR (y := 157) (hL.rf (i := 46) rfl) ?_
          refine r_iconst (pc := 146) dX11_add_146 (inRk rfl) ?_
          refine r_dup2_11 (pc := 147) dX11_add_147 (fun _ h9 => nomatch h9) (fun _ h9 => nomatch h9) ?_
          refine r_iaload (pc := 148) dX11_add_148 (okA_of (c := 20) (n := 3) (hL.sh (i := 53) rfl (by decide) (by decide)) (by decide) (by decide)) ?_
          refine r_iconst (pc := 149) dX11_add_149 (inRk rfl) ?_
          obtain ⟨o25, h⟩ := h
          refine r_iadd (pc := 150) dX11_add_150 o25 ?_
          refine r_iastore (pc := 151) dX11_add_151 (okB_of (c := 20) (n := 3) (hL.sh (i := 53) rfl (by decide) (by decide)) (by decide) (by decide)) ?_
          refine nmS (fun τ26 e26 => ?_)
          replace h := h τ26 e26
          have hL := hL.wI e26 (by decide) (.inl (by decide))
          replace h := h hL
          exact r_throw (pc := 152) (x := 2) (names := ["java/lang/RuntimeException", "java/lang/Exception"]) (by decide +kernel) rfl (by decide) rfl dX11_add_152 dX11_add_155 dX11_add_156 dX11_add_158 dX11_add_161 (by decide +kernel) (by decide +kernel) w_905 w_121 (List.mem_of_getElem? (i := 4) rfl) at_180 (by decide) (Nat.le_of_ble_eq_true rfl) h.1 h.2.1 h.2.2
      · replace h := h.2 c9
        refine r_aload_n (pc := 85) dX11_add_85 rfl rfl ?_
        refine r_getR (pc := 86) dX11_add_86 (k9 := 11) CL_11 (by decide) (by decide) w_599 rfl (okO_of (N := 17) (hL.sh (i := 0) rfl (by decide) (by decide)) (by decide)) ?_
        refine eqR (y := 157) (hL.rf (i := 46) rfl) ?_
        refine r_iconst (pc := 89) dX11_add_89 (inRk rfl) ?_
        refine r_dup2_11 (pc := 90) dX11_add_90 (fun _ h9 => nomatch h9) (fun _ h9 => nomatch h9) ?_
        refine r_iaload (pc := 91) dX11_add_91 (okA_of (c := 20) (n := 3) (hL.sh (i := 53) rfl (by decide) (by decide)) (by decide) (by decide)) ?_
        refine r_iconst (pc := 92) dX11_add_92 (inRk rfl) ?_
        obtain ⟨o27, h⟩ := h
        refine r_iadd (pc := 93) dX11_add_93 o27 ?_
        refine r_iastore (pc := 94) dX11_add_94 (okB_of (c := 20) (n := 3) (hL.sh (i := 53) rfl (by decide) (by decide)) (by decide) (by decide)) ?_
        refine nmS (fun τ28 e28 => ?_)
        replace h := h τ28 e28
        have hL := hL.wI e28 (by decide) (.inl (by decide))
        replace h := h hL
        exact r_throw (pc := 95) (x := 2) (names := ["java/lang/RuntimeException", "java/lang/Exception"]) (by decide +kernel) rfl (by decide) rfl dX11_add_95 dX11_add_98 dX11_add_99 dX11_add_101 dX11_add_104 (by decide +kernel) (by decide +kernel) w_905 w_121 (List.mem_of_getElem? (i := 3) rfl) at_180 (by decide) (Nat.le_of_ble_eq_true rfl) h.1 h.2.1 h.2.2
    · replace h := h.2 c9
      refine r_aload_n (pc := 54) dX11_add_54 rfl rfl ?_
      refine r_getR (pc := 55) dX11_add_55 (k9 := 11) CL_11 (by decide) (by decide) w_599 rfl (okO_of (N := 17) (hL.sh (i := 0) rfl (by decide) (by decide)) (by decide)) ?_
      refine eqR (y := 157) (hL.rf (i := 46) rfl) ?_
      refine r_iconst (pc := 58) dX11_add_58 (inRk rfl) ?_
      refine r_dup2_11 (pc := 59) dX11_add_59 (fun _ h9 => nomatch h9) (fun _ h9 => nomatch h9) ?_
      refine r_iaload (pc := 60) dX11_add_60 (okA_of (c := 20) (n := 3) (hL.sh (i := 53) rfl (by decide) (by decide)) (by decide) (by decide)) ?_
      refine r_iconst (pc := 61) dX11_add_61 (inRk rfl) ?_
      obtain ⟨o29, h⟩ := h
      refine r_iadd (pc := 62) dX11_add_62 o29 ?_
      refine r_iastore (pc := 63) dX11_add_63 (okB_of (c := 20) (n := 3) (hL.sh (i := 53) rfl (by decide) (by decide)) (by decide) (by decide)) ?_
      refine nmS (fun τ30 e30 => ?_)
      replace h := h τ30 e30
      have hL := hL.wI e30 (by decide) (.inl (by decide))
      replace h := h hL
      exact r_throw (pc := 64) (x := 1) (names := ["java/lang/RuntimeException", "java/lang/Exception"]) (by decide +kernel) rfl (by decide) rfl dX11_add_64 dX11_add_67 dX11_add_68 dX11_add_70 dX11_add_73 (by decide +kernel) (by decide +kernel) w_711 w_116 (List.mem_of_getElem? (i := 2) rfl) at_170 (by decide) (Nat.le_of_ble_eq_true rfl) h.1 h.2.1 h.2.2
theorem W_X11_drop_0 {g : Sg} {c t : Nat} (hL : Lay LC g c t σ) {x1 : Int} (h : 1 ≤ rc ∧ 6 ≤ rs ∧ (Lay LC g c t σ → CC E mX11_needIndex [vr 16, vi x1, vi (gI σ c 7)] σ (KV (fun τ4 => Lay LC g c t τ4 ∧ (Lay LC g c t τ4 → CC E mX5_keep [vr 21, vr c] τ4 (KV (fun τ6 => Lay LC g c t τ6 ∧ (Lay LC g c t τ6 → CC E mX1_begin [vr t, vi (gI τ6 c 6)] τ6 (KV (fun τ8 => Lay LC g c t τ8 ∧ (Lay LC g c t τ8 → GG E mX11_drop 39 [some (vr 16), some (vi x1), some (vi 0)] [] τ8 (rc - 1) (rs - 6) Q)) (fun _ _ => False)))) (fun _ _ => False)))) (fun k9 τ9 => Q (.inr k9) τ9)))) : GG E mX11_drop 0 [some (vr 16), some (vi x1), none] [] σ rc rs Q := by
  refine r_aload_n (pc := 0) dX11_drop_0 rfl rfl ?_
  refine r_iload_n (pc := 1) dX11_drop_1 rfl rfl ?_
  refine r_aload_n (pc := 2) dX11_drop_2 rfl rfl ?_
  refine r_getR (pc := 3) dX11_drop_3 (k9 := 12) CL_11 (by decide) (by decide) w_600 rfl (okO_of (N := 17) (hL.sh (i := 0) rfl (by decide) (by decide)) (by decide)) ?_
  refine eqR (y := c) hL.cl.1 ?_
  refine r_getI (pc := 6) dX11_drop_6 (k9 := 7) CL_1 (by decide) (by decide) w_469 rfl (okO_of (ci := 1) (N := 12) (hL.isc.r hL).1 (hL.isc.r hL).2.1) (fun _ => ?_)
  obtain ⟨o1, h⟩ := h
  obtain ⟨o2, h⟩ := h
  refine c_VVAX (M := mX11_drop) (pc := 9) (As := [vi x1, vi (gI σ c 7)]) dX11_drop_9 K_X11_needIndex w_946 ⟨by decide, by decide⟩ (Nat.le_of_ble_eq_true rfl) o1 o2 (ci := 11) rfl rfl (by decide) (okO_of (N := 17) (hL.sh (i := 0) rfl (by decide) (by decide)) (by decide)) (h hL) (fun τ4 h8 => ?_) (fun k9 τ9 hk9 h8 => ?_) rfl
  · replace hL := h8.1
    replace h := h8.2
    refine r_aload_n (pc := 12) dX11_drop_12 rfl rfl ?_
    refine r_getR (pc := 13) dX11_drop_13 (k9 := 2) CL_11 (by decide) (by decide) w_590 rfl (okO_of (N := 17) (hL.sh (i := 0) rfl (by decide) (by decide)) (by decide)) ?_
    refine eqR (y := 21) (hL.rf (i := 7) rfl) ?_
    refine r_aload_n (pc := 16) dX11_drop_16 rfl rfl ?_
    refine r_getR (pc := 17) dX11_drop_17 (k9 := 12) CL_11 (by decide) (by decide) w_600 rfl (okO_of (N := 17) (hL.sh (i := 0) rfl (by decide) (by decide)) (by decide)) ?_
    refine eqR (y := c) hL.cl.1 ?_
    refine c_VV0N (M := mX11_drop) (pc := 20) (As := [vr c]) dX11_drop_20 K_X5_keep w_929 ⟨by decide, by decide⟩ (Nat.le_of_ble_eq_true rfl) rfl rfl (ci := 5) rfl rfl (by decide) (okO_of (N := 3) (hL.sh (i := 5) rfl (by decide) (by decide)) (by decide)) (h hL) (fun τ6 h8 => ?_) rfl
    replace hL := h8.1
    replace h := h8.2
    refine r_aload_n (pc := 23) dX11_drop_23 rfl rfl ?_
    refine r_getR (pc := 24) dX11_drop_24 (k9 := 13) CL_11 (by decide) (by decide) w_601 rfl (okO_of (N := 17) (hL.sh (i := 0) rfl (by decide) (by decide)) (by decide)) ?_
    refine eqR (y := t) hL.cl.2 ?_
    refine r_aload_n (pc := 27) dX11_drop_27 rfl rfl ?_
    refine r_getR (pc := 28) dX11_drop_28 (k9 := 12) CL_11 (by decide) (by decide) w_600 rfl (okO_of (N := 17) (hL.sh (i := 0) rfl (by decide) (by decide)) (by decide)) ?_
    refine eqR (y := c) hL.cl.1 ?_
    refine r_getI (pc := 31) dX11_drop_31 (k9 := 6) CL_1 (by decide) (by decide) w_465 rfl (okO_of (ci := 1) (N := 12) (hL.isc.r hL).1 (hL.isc.r hL).2.1) (fun _ => ?_)
    refine c_VV0N (M := mX11_drop) (pc := 34) (As := [vi (gI τ6 c 6)]) dX11_drop_34 K_X1_begin w_504 ⟨by decide, by decide⟩ (Nat.le_of_ble_eq_true rfl) rfl rfl (ci := 1) rfl rfl (by decide) (okO_of (ci := 1) (N := 12) (hL.ist.r hL).1 (hL.ist.r hL).2.1) (h hL) (fun τ8 h8 => ?_) rfl
    replace hL := h8.1
    replace h := h8.2
    refine r_iconst (pc := 37) dX11_drop_37 (inRk rfl) ?_
    refine r_istore_n (pc := 38) dX11_drop_38 rfl (by decide) (l2 := [some (vr 16), some (vi x1), some (vi 0)]) rfl ?_
    exact (h hL)
  · exact TT.out (by decide +kernel) rfl h8
theorem W_X11_drop_39 {g : Sg} {c t : Nat} (hL : Lay LC g c t σ) {x1 : Int} {x2 : Int} (h : (((gI σ c 7) ≤ x2 → (Lay LC g c t σ → CC E mX1_close [vr t] σ (KI (fun r1 τ2 => Lay LC g c t τ2 ∧ (inR r1 → (Lay LC g c t τ2 → CC E mX11_takeTrial [vr 16] τ2 (KV (fun τ4 => Lay LC g t c τ4 ∧ (Lay LC g t c τ4 → Q (.inl (some (vi (gI τ4 t 8)))) τ4)) (fun _ _ => False))))) (fun _ _ => False)))) ∧ (¬ ((gI σ c 7) ≤ x2) → ((4 ≤ x2 → (Lay LC g c t σ → CC E mX1_close [vr t] σ (KI (fun r5 τ6 => Lay LC g c t τ6 ∧ (inR r5 → (Lay LC g c t τ6 → CC E mX11_takeTrial [vr 16] τ6 (KV (fun τ8 => Lay LC g t c τ8 ∧ (Lay LC g t c τ8 → Q (.inl (some (vi (gI τ8 t 8)))) τ8)) (fun _ _ => False))))) (fun _ _ => False)))) ∧ (¬ (4 ≤ x2) → ((x2 = x1 → inR (x2 + 1) ∧ (Lay LC g c t σ → GG E mX11_drop 39 [some (vr 16), some (vi x1), some (vi (x2 + 1))] [] σ rc rs Q)) ∧ (¬ (x2 = x1) → inR (x2 * 8) ∧ (Lay LC g c t σ → CC E mX1_tell [vr t, vr (c + 1), vi (x2 * 8)] σ (KV (fun τ12 => Lay LC g c t τ12 ∧ inR (x2 + 1) ∧ (Lay LC g c t τ12 → GG E mX11_drop 39 [some (vr 16), some (vi x1), some (vi (x2 + 1))] [] τ12 rc rs Q)) (fun _ _ => False)))))))))) : GG E mX11_drop 39 [some (vr 16), some (vi x1), some (vi x2)] [] σ rc rs Q := by
  refine r_iload_n (pc := 39) dX11_drop_39 rfl rfl ?_
  refine r_aload_n (pc := 40) dX11_drop_40 rfl rfl ?_
  refine r_getR (pc := 41) dX11_drop_41 (k9 := 12) CL_11 (by decide) (by decide) w_600 rfl (okO_of (N := 17) (hL.sh (i := 0) rfl (by decide) (by decide)) (by decide)) ?_
  refine eqR (y := c) hL.cl.1 ?_
  refine r_getI (pc := 44) dX11_drop_44 (k9 := 7) CL_1 (by decide) (by decide) w_469 rfl (okO_of (ci := 1) (N := 12) (hL.isc.r hL).1 (hL.isc.r hL).2.1) (fun _ => ?_)
  refine r_icmp_ge (pc := 47) (tgt := 84) dX11_drop_47 (by decide) (fun c9 => ?_) (fun c9 => ?_)
  · replace h := h.1 c9
    refine r_aload_n (pc := 84) dX11_drop_84 rfl rfl ?_
    refine r_getR (pc := 85) dX11_drop_85 (k9 := 13) CL_11 (by decide) (by decide) w_601 rfl (okO_of (N := 17) (hL.sh (i := 0) rfl (by decide) (by decide)) (by decide)) ?_
    refine eqR (y := t) hL.cl.2 ?_
    refine c_VI0N (M := mX11_drop) (pc := 88) (As := []) dX11_drop_88 K_X1_close w_508 ⟨by decide, by decide⟩ (Nat.le_of_ble_eq_true rfl) rfl rfl (ci := 1) rfl rfl (by decide) (okO_of (ci := 1) (N := 12) (hL.ist.r hL).1 (hL.ist.r hL).2.1) (h hL) (fun r1 τ2 h8 hr9 => ?_) rfl
    replace hL := h8.1
    replace h := h8.2 hr9
    refine r_pop (pc := 91) dX11_drop_91 (fun _ h9 => nomatch h9) ?_
    refine r_aload_n (pc := 92) dX11_drop_92 rfl rfl ?_
    refine c_VV0N (M := mX11_drop) (pc := 93) (As := []) dX11_drop_93 K_X11_takeTrial w_668 ⟨by decide, by decide⟩ (Nat.le_of_ble_eq_true rfl) rfl rfl (ci := 11) rfl rfl (by decide) (okO_of (N := 17) (hL.sh (i := 0) rfl (by decide) (by decide)) (by decide)) (h hL) (fun τ4 h8 => ?_) rfl
    replace hL := h8.1
    replace h := h8.2
    refine r_aload_n (pc := 96) dX11_drop_96 rfl rfl ?_
    refine r_getR (pc := 97) dX11_drop_97 (k9 := 12) CL_11 (by decide) (by decide) w_600 rfl (okO_of (N := 17) (hL.sh (i := 0) rfl (by decide) (by decide)) (by decide)) ?_
    refine eqR (y := t) hL.cl.1 ?_
    refine r_getI (pc := 100) dX11_drop_100 (k9 := 8) CL_1 (by decide) (by decide) w_471 rfl (okO_of (ci := 1) (N := 12) (hL.isc.r hL).1 (hL.isc.r hL).2.1) (fun _ => ?_)
    exact r_ireturn (pc := 103) (ty := .int) dX11_drop_103 (by decide +kernel) rfl (nar_i _) (h hL)
  · replace h := h.2 c9
    refine r_iload_n (pc := 50) dX11_drop_50 rfl rfl ?_
    refine r_iconst (pc := 51) dX11_drop_51 (inRk rfl) ?_
    refine r_icmp_ge (pc := 52) (tgt := 84) dX11_drop_52 (by decide) (fun c9 => ?_) (fun c9 => ?_)
    · replace h := h.1 c9
      refine r_aload_n (pc := 84) dX11_drop_84 rfl rfl ?_
      refine r_getR (pc := 85) dX11_drop_85 (k9 := 13) CL_11 (by decide) (by decide) w_601 rfl (okO_of (N := 17) (hL.sh (i := 0) rfl (by decide) (by decide)) (by decide)) ?_
      refine eqR (y := t) hL.cl.2 ?_
      refine c_VI0N (M := mX11_drop) (pc := 88) (As := []) dX11_drop_88 K_X1_close w_508 ⟨by decide, by decide⟩ (Nat.le_of_ble_eq_true rfl) rfl rfl (ci := 1) rfl rfl (by decide) (okO_of (ci := 1) (N := 12) (hL.ist.r hL).1 (hL.ist.r hL).2.1) (h hL) (fun r5 τ6 h8 hr9 => ?_) rfl
      replace hL := h8.1
      replace h := h8.2 hr9
      refine r_pop (pc := 91) dX11_drop_91 (fun _ h9 => nomatch h9) ?_
      refine r_aload_n (pc := 92) dX11_drop_92 rfl rfl ?_
      refine c_VV0N (M := mX11_drop) (pc := 93) (As := []) dX11_drop_93 K_X11_takeTrial w_668 ⟨by decide, by decide⟩ (Nat.le_of_ble_eq_true rfl) rfl rfl (ci := 11) rfl rfl (by decide) (okO_of (N := 17) (hL.sh (i := 0) rfl (by decide) (by decide)) (by decide)) (h hL) (fun τ8 h8 => ?_) rfl
      replace hL := h8.1
      replace h := h8.2
      refine r_aload_n (pc := 96) dX11_drop_96 rfl rfl ?_
      refine r_getR (pc := 97) dX11_drop_97 (k9 := 12) CL_11 (by decide) (by decide) w_600 rfl (okO_of (N := 17) (hL.sh (i := 0) rfl (by decide) (by decide)) (by decide)) ?_
      refine eqR (y := t) hL.cl.1 ?_
      refine r_getI (pc := 100) dX11_drop_100 (k9 := 8) CL_1 (by decide) (by decide) w_471 rfl (okO_of (ci := 1) (N := 12) (hL.isc.r hL).1 (hL.isc.r hL).2.1) (fun _ => ?_)
      exact r_ireturn (pc := 103) (ty := .int) dX11_drop_103 (by decide +kernel) rfl (nar_i _) (h hL)
    · replace h := h.2 c9
      refine r_iload_n (pc := 55) dX11_drop_55 rfl rfl ?_
      refine r_iload_n (pc := 56) dX11_drop_56 rfl rfl ?_
      refine r_icmp_eq (pc := 57) (tgt := 78) dX11_drop_57 (by decide) (fun c9 => ?_) (fun c9 => ?_)
      · replace h := h.1 c9
        obtain ⟨o9, h⟩ := h
        refine r_iinc (pc := 78) dX11_drop_78 rfl (by decide) o9 (l2 := [some (vr 16), some (vi x1), some (vi (x2 + 1))]) rfl ?_
        refine r_goto (pc := 81) (tgt := 39) dX11_drop_81 (by decide) ?_
        exact (h hL)
      · replace h := h.2 c9
        refine r_aload_n (pc := 60) dX11_drop_60 rfl rfl ?_
        refine r_getR (pc := 61) dX11_drop_61 (k9 := 13) CL_11 (by decide) (by decide) w_601 rfl (okO_of (N := 17) (hL.sh (i := 0) rfl (by decide) (by decide)) (by decide)) ?_
        refine eqR (y := t) hL.cl.2 ?_
        refine r_aload_n (pc := 64) dX11_drop_64 rfl rfl ?_
        refine r_getR (pc := 65) dX11_drop_65 (k9 := 12) CL_11 (by decide) (by decide) w_600 rfl (okO_of (N := 17) (hL.sh (i := 0) rfl (by decide) (by decide)) (by decide)) ?_
        refine eqR (y := c) hL.cl.1 ?_
        refine r_getR (pc := 68) dX11_drop_68 (k9 := 0) CL_1 (by decide) (by decide) w_449 rfl (okO_of (ci := 1) (N := 12) (hL.isc.r hL).1 (hL.isc.r hL).2.1) ?_
        refine eqR (y := c + 1) (hL.isc.f hL (k := 0) (by decide)) ?_
        refine r_iload_n (pc := 71) dX11_drop_71 rfl rfl ?_
        refine r_bipush (pc := 72) dX11_drop_72 (by decide) ?_
        obtain ⟨o10, h⟩ := h
        refine r_imul (pc := 74) dX11_drop_74 o10 ?_
        refine c_VV0N (M := mX11_drop) (pc := 75) (As := [vr (c + 1), vi (x2 * 8)]) dX11_drop_75 K_X1_tell w_927 ⟨by decide, by decide⟩ (Nat.le_of_ble_eq_true rfl) rfl rfl (ci := 1) rfl rfl (by decide) (okO_of (ci := 1) (N := 12) (hL.ist.r hL).1 (hL.ist.r hL).2.1) (h hL) (fun τ12 h8 => ?_) rfl
        replace hL := h8.1
        replace h := h8.2
        obtain ⟨o13, h⟩ := h
        refine r_iinc (pc := 78) dX11_drop_78 rfl (by decide) o13 (l2 := [some (vr 16), some (vi x1), some (vi (x2 + 1))]) rfl ?_
        refine r_goto (pc := 81) (tgt := 39) dX11_drop_81 (by decide) ?_
        exact (h hL)
theorem W_X11_undo_0 {g : Sg} {c t : Nat} (hL : Lay LC g c t σ)  (h : ((1 ≤ (gI σ 21 2) → (Lay LC g c t σ → CC E mX1_begin [vr t, vi (gI σ c 6)] σ (KV (fun τ2 => Lay LC g c t τ2 ∧ (Lay LC g c t τ2 → CC E mX5_giveBack [vr 21, vr t] τ2 (KV (fun τ4 => Lay LC g c t τ4 ∧ (Lay LC g c t τ4 → CC E mX1_close [vr t] τ4 (KI (fun r5 τ6 => Lay LC g c t τ6 ∧ (inR r5 → (Lay LC g c t τ6 → CC E mX11_takeTrial [vr 16] τ6 (KV (fun τ8 => Lay LC g t c τ8 ∧ (Lay LC g t c τ8 → Q (.inl (some (vi (gI τ8 21 2)))) τ8)) (fun _ _ => False))))) (fun _ _ => False)))) (fun _ _ => False)))) (fun _ _ => False)))) ∧ (¬ (1 ≤ (gI σ 21 2)) → (Lay LC g c t σ → Q (.inl (some (vi (-1)))) σ)))) : GG E mX11_undo 0 [some (vr 16)] [] σ rc rs Q := by
  refine r_aload_n (pc := 0) dX11_undo_0 rfl rfl ?_
  refine r_getR (pc := 1) dX11_undo_1 (k9 := 2) CL_11 (by decide) (by decide) w_590 rfl (okO_of (N := 17) (hL.sh (i := 0) rfl (by decide) (by decide)) (by decide)) ?_
  refine eqR (y := 21) (hL.rf (i := 7) rfl) ?_
  refine r_getI (pc := 4) dX11_undo_4 (k9 := 2) CL_5 (by decide) (by decide) w_185 rfl (okO_of (N := 3) (hL.sh (i := 5) rfl (by decide) (by decide)) (by decide)) (fun _ => ?_)
  refine r_iconst (pc := 7) dX11_undo_7 (inRk rfl) ?_
  refine r_icmp_ge (pc := 8) (tgt := 13) dX11_undo_8 (by decide) (fun c9 => ?_) (fun c9 => ?_)
  · replace h := h.1 c9
    refine r_aload_n (pc := 13) dX11_undo_13 rfl rfl ?_
    refine r_getR (pc := 14) dX11_undo_14 (k9 := 13) CL_11 (by decide) (by decide) w_601 rfl (okO_of (N := 17) (hL.sh (i := 0) rfl (by decide) (by decide)) (by decide)) ?_
    refine eqR (y := t) hL.cl.2 ?_
    refine r_aload_n (pc := 17) dX11_undo_17 rfl rfl ?_
    refine r_getR (pc := 18) dX11_undo_18 (k9 := 12) CL_11 (by decide) (by decide) w_600 rfl (okO_of (N := 17) (hL.sh (i := 0) rfl (by decide) (by decide)) (by decide)) ?_
    refine eqR (y := c) hL.cl.1 ?_
    refine r_getI (pc := 21) dX11_undo_21 (k9 := 6) CL_1 (by decide) (by decide) w_465 rfl (okO_of (ci := 1) (N := 12) (hL.isc.r hL).1 (hL.isc.r hL).2.1) (fun _ => ?_)
    refine c_VV0N (M := mX11_undo) (pc := 24) (As := [vi (gI σ c 6)]) dX11_undo_24 K_X1_begin w_504 ⟨by decide, by decide⟩ (Nat.le_of_ble_eq_true rfl) rfl rfl (ci := 1) rfl rfl (by decide) (okO_of (ci := 1) (N := 12) (hL.ist.r hL).1 (hL.ist.r hL).2.1) (h hL) (fun τ2 h8 => ?_) rfl
    replace hL := h8.1
    replace h := h8.2
    refine r_aload_n (pc := 27) dX11_undo_27 rfl rfl ?_
    refine r_getR (pc := 28) dX11_undo_28 (k9 := 2) CL_11 (by decide) (by decide) w_590 rfl (okO_of (N := 17) (hL.sh (i := 0) rfl (by decide) (by decide)) (by decide)) ?_
    refine eqR (y := 21) (hL.rf (i := 7) rfl) ?_
    refine r_aload_n (pc := 31) dX11_undo_31 rfl rfl ?_
    refine r_getR (pc := 32) dX11_undo_32 (k9 := 13) CL_11 (by decide) (by decide) w_601 rfl (okO_of (N := 17) (hL.sh (i := 0) rfl (by decide) (by decide)) (by decide)) ?_
    refine eqR (y := t) hL.cl.2 ?_
    refine c_VV0N (M := mX11_undo) (pc := 35) (As := [vr t]) dX11_undo_35 K_X5_giveBack w_660 ⟨by decide, by decide⟩ (Nat.le_of_ble_eq_true rfl) rfl rfl (ci := 5) rfl rfl (by decide) (okO_of (N := 3) (hL.sh (i := 5) rfl (by decide) (by decide)) (by decide)) (h hL) (fun τ4 h8 => ?_) rfl
    replace hL := h8.1
    replace h := h8.2
    refine r_aload_n (pc := 38) dX11_undo_38 rfl rfl ?_
    refine r_getR (pc := 39) dX11_undo_39 (k9 := 13) CL_11 (by decide) (by decide) w_601 rfl (okO_of (N := 17) (hL.sh (i := 0) rfl (by decide) (by decide)) (by decide)) ?_
    refine eqR (y := t) hL.cl.2 ?_
    refine c_VI0N (M := mX11_undo) (pc := 42) (As := []) dX11_undo_42 K_X1_close w_508 ⟨by decide, by decide⟩ (Nat.le_of_ble_eq_true rfl) rfl rfl (ci := 1) rfl rfl (by decide) (okO_of (ci := 1) (N := 12) (hL.ist.r hL).1 (hL.ist.r hL).2.1) (h hL) (fun r5 τ6 h8 hr9 => ?_) rfl
    replace hL := h8.1
    replace h := h8.2 hr9
    refine r_pop (pc := 45) dX11_undo_45 (fun _ h9 => nomatch h9) ?_
    refine r_aload_n (pc := 46) dX11_undo_46 rfl rfl ?_
    refine c_VV0N (M := mX11_undo) (pc := 47) (As := []) dX11_undo_47 K_X11_takeTrial w_668 ⟨by decide, by decide⟩ (Nat.le_of_ble_eq_true rfl) rfl rfl (ci := 11) rfl rfl (by decide) (okO_of (N := 17) (hL.sh (i := 0) rfl (by decide) (by decide)) (by decide)) (h hL) (fun τ8 h8 => ?_) rfl
    replace hL := h8.1
    replace h := h8.2
    refine r_aload_n (pc := 50) dX11_undo_50 rfl rfl ?_
    refine r_getR (pc := 51) dX11_undo_51 (k9 := 2) CL_11 (by decide) (by decide) w_590 rfl (okO_of (N := 17) (hL.sh (i := 0) rfl (by decide) (by decide)) (by decide)) ?_
    refine eqR (y := 21) (hL.rf (i := 7) rfl) ?_
    refine r_getI (pc := 54) dX11_undo_54 (k9 := 2) CL_5 (by decide) (by decide) w_185 rfl (okO_of (N := 3) (hL.sh (i := 5) rfl (by decide) (by decide)) (by decide)) (fun _ => ?_)
    exact r_ireturn (pc := 57) (ty := .int) dX11_undo_57 (by decide +kernel) rfl (nar_i _) (h hL)
  · replace h := h.2 c9
    refine r_iconst (pc := 11) dX11_undo_11 (inRk rfl) ?_
    exact r_ireturn (pc := 12) (ty := .int) dX11_undo_12 (by decide +kernel) rfl (nar_i _) (h hL)
theorem W_X11_text_0 {g : Sg} {c t : Nat} (hL : Lay LC g c t σ) {x1 : Int} (h : (Lay LC g c t σ → CC E mX11_forgetReasons [vr 16] σ (KV (fun τ2 => Lay LC g c t τ2 ∧ 1 ≤ rc ∧ 6 ≤ rs ∧ (Lay LC g c t τ2 → CC E mX11_needBetween [vr 16, vi x1, vi 0, vi (gI τ2 17 1)] τ2 (KV (fun τ6 => Lay LC g c t τ6 ∧ (Lay LC g c t τ6 → CC E mX7_read [vr 19, vi x1, vr t] τ6 (KI (fun r7 τ8 => Lay LC g c t τ8 ∧ (inR r7 → (Lay LC g c t τ8 → CC E mX10_clear [vr 17] τ8 (KV (fun τ10 => Lay LC g c t τ10 ∧ ∀ τ11 : Sg, τ11 = sI τ10 16 16 (gI τ10 19 5) → ((r7 ≠ 0 → (Lay LC g c t τ11 → CC E mX5_clear [vr 21] τ11 (KV (fun τ13 => Lay LC g c t τ13 ∧ (Lay LC g c t τ13 → CC E mX11_takeTrial [vr 16] τ13 (KV (fun τ15 => Lay LC g t c τ15 ∧ (Lay LC g t c τ15 → Q (.inl (some (vi (gI τ15 t 8)))) τ15)) (fun _ _ => False)))) (fun _ _ => False)))) ∧ (r7 = 0 → (((gI τ11 19 4) ≠ 5 → inR ((gI τ11 19 4) - 10) ∧ (Lay LC g c t τ11 → Q (.inl (some (vi ((gI τ11 19 4) - 10)))) τ11)) ∧ ((gI τ11 19 4) = 5 → (Lay LC g c t τ11 → CC E mX11_keepReasons [vr 16] τ11 (KV (fun τ18 => Lay LC g c t τ18 ∧ inR ((gI τ18 19 4) - 10) ∧ (Lay LC g c t τ18 → Q (.inl (some (vi ((gI τ18 19 4) - 10)))) τ18)) (fun _ _ => False)))))))) (fun _ _ => False))))) (fun _ _ => False)))) (fun k9 τ9 => Q (.inr k9) τ9)))) (fun _ _ => False)))) : GG E mX11_text 0 [some (vr 16), some (vi x1), none] [] σ rc rs Q := by
  refine r_aload_n (pc := 0) dX11_text_0 rfl rfl ?_
  refine c_VV0N (M := mX11_text) (pc := 1) (As := []) dX11_text_1 K_X11_forgetReasons w_703 ⟨by decide, by decide⟩ (Nat.le_of_ble_eq_true rfl) rfl rfl (ci := 11) rfl rfl (by decide) (okO_of (N := 17) (hL.sh (i := 0) rfl (by decide) (by decide)) (by decide)) (h hL) (fun τ2 h8 => ?_) rfl
  replace hL := h8.1
  replace h := h8.2
  refine r_aload_n (pc := 4) dX11_text_4 rfl rfl ?_
  refine r_iload_n (pc := 5) dX11_text_5 rfl rfl ?_
  refine r_iconst (pc := 6) dX11_text_6 (inRk rfl) ?_
  refine r_aload_n (pc := 7) dX11_text_7 rfl rfl ?_
  refine r_getR (pc := 8) dX11_text_8 (k9 := 0) CL_11 (by decide) (by decide) w_588 rfl (okO_of (N := 17) (hL.sh (i := 0) rfl (by decide) (by decide)) (by decide)) ?_
  refine eqR (y := 17) (hL.rf (i := 1) rfl) ?_
  refine r_getI (pc := 11) dX11_text_11 (k9 := 1) CL_10 (by decide) (by decide) w_140 rfl (okO_of (N := 2) (hL.sh (i := 1) rfl (by decide) (by decide)) (by decide)) (fun _ => ?_)
  obtain ⟨o3, h⟩ := h
  obtain ⟨o4, h⟩ := h
  refine c_VVAX (M := mX11_text) (pc := 14) (As := [vi x1, vi 0, vi (gI τ2 17 1)]) dX11_text_14 K_X11_needBetween w_707 ⟨by decide, by decide⟩ (Nat.le_of_ble_eq_true rfl) o3 o4 (ci := 11) rfl rfl (by decide) (okO_of (N := 17) (hL.sh (i := 0) rfl (by decide) (by decide)) (by decide)) (h hL) (fun τ6 h8 => ?_) (fun k9 τ9 hk9 h8 => ?_) rfl
  · replace hL := h8.1
    replace h := h8.2
    refine r_aload_n (pc := 17) dX11_text_17 rfl rfl ?_
    refine r_getR (pc := 18) dX11_text_18 (k9 := 1) CL_11 (by decide) (by decide) w_589 rfl (okO_of (N := 17) (hL.sh (i := 0) rfl (by decide) (by decide)) (by decide)) ?_
    refine eqR (y := 19) (hL.rf (i := 4) rfl) ?_
    refine r_iload_n (pc := 21) dX11_text_21 rfl rfl ?_
    refine r_aload_n (pc := 22) dX11_text_22 rfl rfl ?_
    refine r_getR (pc := 23) dX11_text_23 (k9 := 13) CL_11 (by decide) (by decide) w_601 rfl (okO_of (N := 17) (hL.sh (i := 0) rfl (by decide) (by decide)) (by decide)) ?_
    refine eqR (y := t) hL.cl.2 ?_
    refine c_VI0N (M := mX11_text) (pc := 26) (As := [vi x1, vr t]) dX11_text_26 K_X7_read w_778 ⟨by decide, by decide⟩ (Nat.le_of_ble_eq_true rfl) rfl rfl (ci := 7) rfl rfl (by decide) (okO_of (N := 6) (hL.sh (i := 3) rfl (by decide) (by decide)) (by decide)) (h hL) (fun r7 τ8 h8 hr9 => ?_) rfl
    replace hL := h8.1
    replace h := h8.2 hr9
    refine r_istore_n (pc := 29) dX11_text_29 rfl (by decide) (l2 := [some (vr 16), some (vi x1), some (vi r7)]) rfl ?_
    refine r_aload_n (pc := 30) dX11_text_30 rfl rfl ?_
    refine r_getR (pc := 31) dX11_text_31 (k9 := 0) CL_11 (by decide) (by decide) w_588 rfl (okO_of (N := 17) (hL.sh (i := 0) rfl (by decide) (by decide)) (by decide)) ?_
    refine eqR (y := 17) (hL.rf (i := 1) rfl) ?_
    refine c_VV0N (M := mX11_text) (pc := 34) (As := []) dX11_text_34 K_X10_clear w_880 ⟨by decide, by decide⟩ (Nat.le_of_ble_eq_true rfl) rfl rfl (ci := 10) rfl rfl (by decide) (okO_of (N := 2) (hL.sh (i := 1) rfl (by decide) (by decide)) (by decide)) (h hL) (fun τ10 h8 => ?_) rfl
    replace hL := h8.1
    replace h := h8.2
    refine r_aload_n (pc := 37) dX11_text_37 rfl rfl ?_
    refine r_aload_n (pc := 38) dX11_text_38 rfl rfl ?_
    refine r_getR (pc := 39) dX11_text_39 (k9 := 1) CL_11 (by decide) (by decide) w_589 rfl (okO_of (N := 17) (hL.sh (i := 0) rfl (by decide) (by decide)) (by decide)) ?_
    refine eqR (y := 19) (hL.rf (i := 4) rfl) ?_
    refine r_getI (pc := 42) dX11_text_42 (k9 := 5) CL_7 (by decide) (by decide) w_161 rfl (okO_of (N := 6) (hL.sh (i := 3) rfl (by decide) (by decide)) (by decide)) (fun _ => ?_)
    refine r_putI (pc := 45) dX11_text_45 (k9 := 16) CL_11 (by decide) (by decide) w_604 rfl rfl (fun h9 => absurd h9 (by decide +kernel)) (okO_of (N := 17) (hL.sh (i := 0) rfl (by decide) (by decide)) (by decide)) ?_
    refine nmS (fun τ11 e11 => ?_)
    replace h := h τ11 e11
    have hL := hL.wI e11 (by decide) (.inl (by decide))
    refine r_iload_n (pc := 48) dX11_text_48 rfl rfl ?_
    refine r_if_ne (pc := 49) (tgt := 78) dX11_text_49 (by decide) (fun c9 => ?_) (fun c9 => ?_)
    · replace h := h.1 c9
      refine r_aload_n (pc := 78) dX11_text_78 rfl rfl ?_
      refine r_getR (pc := 79) dX11_text_79 (k9 := 2) CL_11 (by decide) (by decide) w_590 rfl (okO_of (N := 17) (hL.sh (i := 0) rfl (by decide) (by decide)) (by decide)) ?_
      refine eqR (y := 21) (hL.rf (i := 7) rfl) ?_
      refine c_VV0N (M := mX11_text) (pc := 82) (As := []) dX11_text_82 K_X5_clear w_888 ⟨by decide, by decide⟩ (Nat.le_of_ble_eq_true rfl) rfl rfl (ci := 5) rfl rfl (by decide) (okO_of (N := 3) (hL.sh (i := 5) rfl (by decide) (by decide)) (by decide)) (h hL) (fun τ13 h8 => ?_) rfl
      replace hL := h8.1
      replace h := h8.2
      refine r_aload_n (pc := 85) dX11_text_85 rfl rfl ?_
      refine c_VV0N (M := mX11_text) (pc := 86) (As := []) dX11_text_86 K_X11_takeTrial w_668 ⟨by decide, by decide⟩ (Nat.le_of_ble_eq_true rfl) rfl rfl (ci := 11) rfl rfl (by decide) (okO_of (N := 17) (hL.sh (i := 0) rfl (by decide) (by decide)) (by decide)) (h hL) (fun τ15 h8 => ?_) rfl
      replace hL := h8.1
      replace h := h8.2
      refine r_aload_n (pc := 89) dX11_text_89 rfl rfl ?_
      refine r_getR (pc := 90) dX11_text_90 (k9 := 12) CL_11 (by decide) (by decide) w_600 rfl (okO_of (N := 17) (hL.sh (i := 0) rfl (by decide) (by decide)) (by decide)) ?_
      refine eqR (y := t) hL.cl.1 ?_
      refine r_getI (pc := 93) dX11_text_93 (k9 := 8) CL_1 (by decide) (by decide) w_471 rfl (okO_of (ci := 1) (N := 12) (hL.isc.r hL).1 (hL.isc.r hL).2.1) (fun _ => ?_)
      exact r_ireturn (pc := 96) (ty := .int) dX11_text_96 (by decide +kernel) rfl (nar_i _) (h hL)
    · replace h := h.2 c9
      refine r_aload_n (pc := 52) dX11_text_52 rfl rfl ?_
      refine r_getR (pc := 53) dX11_text_53 (k9 := 1) CL_11 (by decide) (by decide) w_589 rfl (okO_of (N := 17) (hL.sh (i := 0) rfl (by decide) (by decide)) (by decide)) ?_
      refine eqR (y := 19) (hL.rf (i := 4) rfl) ?_
      refine r_getI (pc := 56) dX11_text_56 (k9 := 4) CL_7 (by decide) (by decide) w_159 rfl (okO_of (N := 6) (hL.sh (i := 3) rfl (by decide) (by decide)) (by decide)) (fun _ => ?_)
      refine r_iconst (pc := 59) dX11_text_59 (inRk rfl) ?_
      refine r_icmp_ne (pc := 60) (tgt := 67) dX11_text_60 (by decide) (fun c9 => ?_) (fun c9 => ?_)
      · replace h := h.1 c9
        refine r_aload_n (pc := 67) dX11_text_67 rfl rfl ?_
        refine r_getR (pc := 68) dX11_text_68 (k9 := 1) CL_11 (by decide) (by decide) w_589 rfl (okO_of (N := 17) (hL.sh (i := 0) rfl (by decide) (by decide)) (by decide)) ?_
        refine eqR (y := 19) (hL.rf (i := 4) rfl) ?_
        refine r_getI (pc := 71) dX11_text_71 (k9 := 4) CL_7 (by decide) (by decide) w_159 rfl (okO_of (N := 6) (hL.sh (i := 3) rfl (by decide) (by decide)) (by decide)) (fun _ => ?_)
        refine r_bipush (pc := 74) dX11_text_74 (by decide) ?_
        obtain ⟨o16, h⟩ := h
        refine r_isub (pc := 76) dX11_text_76 o16 ?_
        exact r_ireturn (pc := 77) (ty := .int) dX11_text_77 (by decide +kernel) rfl (nar_i _) (h hL)
      · replace h := h.2 c9
        refine r_aload_n (pc := 63) dX11_text_63 rfl rfl ?_
        refine c_VV0N (M := mX11_text) (pc := 64) (As := []) dX11_text_64 K_X11_keepReasons w_884 ⟨by decide, by decide⟩ (Nat.le_of_ble_eq_true rfl) rfl rfl (ci := 11) rfl rfl (by decide) (okO_of (N := 17) (hL.sh (i := 0) rfl (by decide) (by decide)) (by decide)) (h hL) (fun τ18 h8 => ?_) rfl
        replace hL := h8.1
        replace h := h8.2
        refine r_aload_n (pc := 67) dX11_text_67 rfl rfl ?_
        refine r_getR (pc := 68) dX11_text_68 (k9 := 1) CL_11 (by decide) (by decide) w_589 rfl (okO_of (N := 17) (hL.sh (i := 0) rfl (by decide) (by decide)) (by decide)) ?_
        refine eqR (y := 19) (hL.rf (i := 4) rfl) ?_
        refine r_getI (pc := 71) dX11_text_71 (k9 := 4) CL_7 (by decide) (by decide) w_159 rfl (okO_of (N := 6) (hL.sh (i := 3) rfl (by decide) (by decide)) (by decide)) (fun _ => ?_)
        refine r_bipush (pc := 74) dX11_text_74 (by decide) ?_
        obtain ⟨o19, h⟩ := h
        refine r_isub (pc := 76) dX11_text_76 o19 ?_
        exact r_ireturn (pc := 77) (ty := .int) dX11_text_77 (by decide +kernel) rfl (nar_i _) (h hL)
  · exact TT.out (by decide +kernel) rfl h8
end G70
