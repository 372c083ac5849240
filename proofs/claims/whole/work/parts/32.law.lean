/-! ===== trees: the law ===== -/
section G32
variable {E : Ev} {σ : Sg} {rc rs : Nat} {Q : NO → Sg → Prop}
theorem B_L_law_0 {a0 : Nat} (h : 1 ≤ rc ∧ 17 ≤ rs ∧ ∀ b1 : Nat, b1 = gz σ → 155 ≤ rc - 1 ∧ 22704 ≤ rs - 17 ∧ 16 ≤ b1 ∧ CC E mX11_init [vr b1] (nw σ (12, 17)) (KV (fun τ3 => 1 ≤ rc - 1 - 155 ∧ 42 ≤ rs - 17 - 22704 ∧ ∀ b4 : Nat, b4 = gz τ3 → 2795 ≤ rc - 1 - 155 - 1 ∧ 136109 ≤ rs - 17 - 22704 - 42 ∧ 16 ≤ b4 ∧ CC E mX12_init [vr b4] (nw τ3 (13, 42)) (KV (fun τ6 => 1 ≤ rc - 1 - 155 - 1 - 2795 ∧ 1 ≤ rs - 17 - 22704 - 42 - 136109 ∧ ∀ b7 : Nat, b7 = gz τ6 → GG E mL_law 23 [some (vr a0), some (vr b1), some (vr b4), some (vr b7), some (vi 0), none, none] [] (nw τ6 (23, 1)) (rc - 1 - 155 - 1 - 2795 - 1) (rs - 17 - 22704 - 42 - 136109 - 1) Q) (fun _ _ => False))) (fun _ _ => False))) : GG E mL_law 0 [some (vr a0), none, none, none, none, none, none] [] σ rc rs Q := by
  refine r_new (pc := 0) dL_law_0 CL_11 (by decide) w_123 h.1 h.2.1 ?_
  replace h := h.2.2
  refine nmR (fun b1 e9 => ?_)
  replace h := h b1 e9
  refine r_dup (pc := 3) dL_law_3 (fun _ h9 => nomatch h9) ?_
  refine c_IVAN (M := mL_law) (M2 := mX11_init) (pc := 4) (As := []) dL_law_4 K_X11_init w_125 ⟨by decide, by decide⟩ (Nat.le_of_ble_eq_true rfl) h.1 h.2.1 h.2.2.1 h.2.2.2 (fun τ3 h8 => ?_) rfl
  replace h := h8
  refine r_astore_n (pc := 7) dL_law_7 rfl (by decide) (l2 := [some (vr a0), some (vr b1), none, none, none, none, none]) rfl ?_
  refine r_new (pc := 8) dL_law_8 CL_12 (by decide) w_1366 h.1 h.2.1 ?_
  replace h := h.2.2
  refine nmR (fun b4 e9 => ?_)
  replace h := h b4 e9
  refine r_dup (pc := 11) dL_law_11 (fun _ h9 => nomatch h9) ?_
  refine c_IVAN (M := mL_law) (M2 := mX12_init) (pc := 12) (As := []) dL_law_12 K_X12_init w_1368 ⟨by decide, by decide⟩ (Nat.le_of_ble_eq_true rfl) h.1 h.2.1 h.2.2.1 h.2.2.2 (fun τ6 h8 => ?_) rfl
  replace h := h8
  refine r_astore_n (pc := 15) dL_law_15 rfl (by decide) (l2 := [some (vr a0), some (vr b1), some (vr b4), none, none, none, none]) rfl ?_
  refine r_iconst (pc := 16) dL_law_16 (inRk rfl) ?_
  refine r_newarray (pc := 17) dL_law_17 (cc := 23) rfl (by decide) (by decide) w_1868 (by decide) (by decide) h.1 h.2.1 ?_
  replace h := h.2.2
  change GG _ _ _ _ (vr _ :: _) (nw _ (23, 1)) (_ - 1) (_ - 1) _
  refine nmR (fun b7 e9 => ?_)
  replace h := h b7 e9
  refine r_astore_n (pc := 19) dL_law_19 rfl (by decide) (l2 := [some (vr a0), some (vr b1), some (vr b4), some (vr b7), none, none, none]) rfl ?_
  refine r_iconst (pc := 20) dL_law_20 (inRk rfl) ?_
  refine r_istore (pc := 21) dL_law_21 (by decide) (l2 := [some (vr a0), some (vr b1), some (vr b4), some (vr b7), some (vi 0), none, none]) rfl ?_
  exact h
theorem B_L_law_23 {a0 : Nat} {a1 : Nat} {a2 : Nat} {a3 : Nat} {x4 : Int} (h : okN σ a0 ∧ inR (((gS σ a0).2 : Int) - 9) ∧ (((((gS σ a0).2 : Int) - 9) < x4 → (1 : Int) = 1) ∧ (¬ ((((gS σ a0).2 : Int) - 9) < x4) → okA 20 σ a0 x4 ∧ (((b_iandq (gI σ a0 x4.toNat) 31) = 0 → GG E mL_law 184 [some (vr a0), some (vr a1), some (vr a2), some (vr a3), some (vi x4), none, none] [] σ rc rs Q) ∧ ((b_iandq (gI σ a0 x4.toNat) 31) = 1 → GG E mL_law 257 [some (vr a0), some (vr a1), some (vr a2), some (vr a3), some (vi x4), none, none] [] σ rc rs Q) ∧ ((b_iandq (gI σ a0 x4.toNat) 31) = 2 → GG E mL_law 313 [some (vr a0), some (vr a1), some (vr a2), some (vr a3), some (vi x4), none, none] [] σ rc rs Q) ∧ ((b_iandq (gI σ a0 x4.toNat) 31) = 3 → GG E mL_law 326 [some (vr a0), some (vr a1), some (vr a2), some (vr a3), some (vi x4), none, none] [] σ rc rs Q) ∧ ((b_iandq (gI σ a0 x4.toNat) 31) = 4 → GG E mL_law 472 [some (vr a0), some (vr a1), some (vr a2), some (vr a3), some (vi x4), none, none] [] σ rc rs Q) ∧ ((b_iandq (gI σ a0 x4.toNat) 31) = 5 → GG E mL_law 528 [some (vr a0), some (vr a1), some (vr a2), some (vr a3), some (vi x4), none, none] [] σ rc rs Q) ∧ ((b_iandq (gI σ a0 x4.toNat) 31) = 6 → GG E mL_law 541 [some (vr a0), some (vr a1), some (vr a2), some (vr a3), some (vi x4), none, none] [] σ rc rs Q) ∧ ((b_iandq (gI σ a0 x4.toNat) 31) = 7 → GG E mL_law 566 [some (vr a0), some (vr a1), some (vr a2), some (vr a3), some (vi x4), none, none] [] σ rc rs Q) ∧ ((b_iandq (gI σ a0 x4.toNat) 31) = 8 → GG E mL_law 622 [some (vr a0), some (vr a1), some (vr a2), some (vr a3), some (vi x4), none, none] [] σ rc rs Q) ∧ ((b_iandq (gI σ a0 x4.toNat) 31) = 9 → GG E mL_law 690 [some (vr a0), some (vr a1), some (vr a2), some (vr a3), some (vi x4), none, none] [] σ rc rs Q) ∧ ((b_iandq (gI σ a0 x4.toNat) 31) = 10 → GG E mL_law 805 [some (vr a0), some (vr a1), some (vr a2), some (vr a3), some (vi x4), none, none] [] σ rc rs Q) ∧ ((b_iandq (gI σ a0 x4.toNat) 31) = 11 → GG E mL_law 873 [some (vr a0), some (vr a1), some (vr a2), some (vr a3), some (vi x4), none, none] [] σ rc rs Q) ∧ ((b_iandq (gI σ a0 x4.toNat) 31) = 12 → GG E mL_law 941 [some (vr a0), some (vr a1), some (vr a2), some (vr a3), some (vi x4), none, none] [] σ rc rs Q) ∧ ((b_iandq (gI σ a0 x4.toNat) 31) = 13 → GG E mL_law 1009 [some (vr a0), some (vr a1), some (vr a2), some (vr a3), some (vi x4), none, none] [] σ rc rs Q) ∧ ((b_iandq (gI σ a0 x4.toNat) 31) = 14 → GG E mL_law 1089 [some (vr a0), some (vr a1), some (vr a2), some (vr a3), some (vi x4), none, none] [] σ rc rs Q) ∧ ((b_iandq (gI σ a0 x4.toNat) 31) = 15 → GG E mL_law 1145 [some (vr a0), some (vr a1), some (vr a2), some (vr a3), some (vi x4), none, none] [] σ rc rs Q) ∧ ((b_iandq (gI σ a0 x4.toNat) 31) = 16 → GG E mL_law 1201 [some (vr a0), some (vr a1), some (vr a2), some (vr a3), some (vi x4), none, none] [] σ rc rs Q) ∧ ((b_iandq (gI σ a0 x4.toNat) 31) = 17 → GG E mL_law 1269 [some (vr a0), some (vr a1), some (vr a2), some (vr a3), some (vi x4), none, none] [] σ rc rs Q) ∧ ((b_iandq (gI σ a0 x4.toNat) 31) = 18 → GG E mL_law 1349 [some (vr a0), some (vr a1), some (vr a2), some (vr a3), some (vi x4), none, none] [] σ rc rs Q) ∧ ((b_iandq (gI σ a0 x4.toNat) 31) = 19 → GG E mL_law 1405 [some (vr a0), some (vr a1), some (vr a2), some (vr a3), some (vi x4), none, none] [] σ rc rs Q) ∧ ((b_iandq (gI σ a0 x4.toNat) 31) = 20 → GG E mL_law 1473 [some (vr a0), some (vr a1), some (vr a2), some (vr a3), some (vi x4), none, none] [] σ rc rs Q) ∧ ((b_iandq (gI σ a0 x4.toNat) 31) = 21 → GG E mL_law 1541 [some (vr a0), some (vr a1), some (vr a2), some (vr a3), some (vi x4), none, none] [] σ rc rs Q) ∧ ((b_iandq (gI σ a0 x4.toNat) 31) = 22 → GG E mL_law 1597 [some (vr a0), some (vr a1), some (vr a2), some (vr a3), some (vi x4), none, none] [] σ rc rs Q) ∧ ((b_iandq (gI σ a0 x4.toNat) 31) = 23 → GG E mL_law 1653 [some (vr a0), some (vr a1), some (vr a2), some (vr a3), some (vi x4), none, none] [] σ rc rs Q) ∧ ((b_iandq (gI σ a0 x4.toNat) 31) = 24 → GG E mL_law 1721 [some (vr a0), some (vr a1), some (vr a2), some (vr a3), some (vi x4), none, none] [] σ rc rs Q) ∧ ((b_iandq (gI σ a0 x4.toNat) 31) = 25 → GG E mL_law 1789 [some (vr a0), some (vr a1), some (vr a2), some (vr a3), some (vi x4), none, none] [] σ rc rs Q) ∧ ((b_iandq (gI σ a0 x4.toNat) 31) = 26 → GG E mL_law 1869 [some (vr a0), some (vr a1), some (vr a2), some (vr a3), some (vi x4), none, none] [] σ rc rs Q) ∧ ((b_iandq (gI σ a0 x4.toNat) 31) = 27 → GG E mL_law 1956 [some (vr a0), some (vr a1), some (vr a2), some (vr a3), some (vi x4), none, none] [] σ rc rs Q) ∧ ((b_iandq (gI σ a0 x4.toNat) 31) = 28 → GG E mL_law 2031 [some (vr a0), some (vr a1), some (vr a2), some (vr a3), some (vi x4), none, none] [] σ rc rs Q) ∧ ((b_iandq (gI σ a0 x4.toNat) 31) = 29 → GG E mL_law 2099 [some (vr a0), some (vr a1), some (vr a2), some (vr a3), some (vi x4), none, none] [] σ rc rs Q) ∧ ((b_iandq (gI σ a0 x4.toNat) 31) = 30 → GG E mL_law 2155 [some (vr a0), some (vr a1), some (vr a2), some (vr a3), some (vi x4), none, none] [] σ rc rs Q) ∧ ((b_iandq (gI σ a0 x4.toNat) 31) = 31 → GG E mL_law 2169 [some (vr a0), some (vr a1), some (vr a2), some (vr a3), some (vi x4), none, none] [] σ rc rs Q) ∧ (((b_iandq (gI σ a0 x4.toNat) 31) < 0 ∨ 31 < (b_iandq (gI σ a0 x4.toNat) 31)) → GG E mL_law 2194 [some (vr a0), some (vr a1), some (vr a2), some (vr a3), some (vi x4), none, none] [] σ rc rs Q))))) : GG E mL_law 23 [some (vr a0), some (vr a1), some (vr a2), some (vr a3), some (vi x4), none, none] [] σ rc rs Q := by
  refine r_iload (pc := 23) dL_law_23 rfl ?_
  refine r_aload_n (pc := 25) dL_law_25 rfl rfl ?_
  obtain ⟨o1, h⟩ := h
  refine r_alen (pc := 26) dL_law_26 o1.1 o1.2 ?_
  refine r_bipush (pc := 27) dL_law_27 (by decide) ?_
  obtain ⟨o2, h⟩ := h
  refine r_isub (pc := 29) dL_law_29 o2 ?_
  refine r_icmp_gt (pc := 30) (tgt := 2200) dL_law_30 (by decide) (fun c9 => ?_) (fun c9 => ?_)
  · replace h := h.1 c9
    refine r_iconst (pc := 2200) dL_law_2200 (inRk rfl) ?_
    exact r_lawret0 (pc := 2201) dL_law_2201 rfl rfl rfl rfl h
  · replace h := h.2 c9
    refine r_aload_n (pc := 33) dL_law_33 rfl rfl ?_
    refine r_iload (pc := 34) dL_law_34 rfl ?_
    obtain ⟨o3, h⟩ := h
    refine r_iaload (pc := 36) dL_law_36 o3 ?_
    refine r_bipush (pc := 37) dL_law_37 (by decide) ?_
    refine r_iand (pc := 39) dL_law_39 ?_
    have c8 : (b_iandq (gI σ a0 x4.toNat) 31) = 0 ∨ (b_iandq (gI σ a0 x4.toNat) 31) = 1 ∨ (b_iandq (gI σ a0 x4.toNat) 31) = 2 ∨ (b_iandq (gI σ a0 x4.toNat) 31) = 3 ∨ (b_iandq (gI σ a0 x4.toNat) 31) = 4 ∨ (b_iandq (gI σ a0 x4.toNat) 31) = 5 ∨ (b_iandq (gI σ a0 x4.toNat) 31) = 6 ∨ (b_iandq (gI σ a0 x4.toNat) 31) = 7 ∨ (b_iandq (gI σ a0 x4.toNat) 31) = 8 ∨ (b_iandq (gI σ a0 x4.toNat) 31) = 9 ∨ (b_iandq (gI σ a0 x4.toNat) 31) = 10 ∨ (b_iandq (gI σ a0 x4.toNat) 31) = 11 ∨ (b_iandq (gI σ a0 x4.toNat) 31) = 12 ∨ (b_iandq (gI σ a0 x4.toNat) 31) = 13 ∨ (b_iandq (gI σ a0 x4.toNat) 31) = 14 ∨ (b_iandq (gI σ a0 x4.toNat) 31) = 15 ∨ (b_iandq (gI σ a0 x4.toNat) 31) = 16 ∨ (b_iandq (gI σ a0 x4.toNat) 31) = 17 ∨ (b_iandq (gI σ a0 x4.toNat) 31) = 18 ∨ (b_iandq (gI σ a0 x4.toNat) 31) = 19 ∨ (b_iandq (gI σ a0 x4.toNat) 31) = 20 ∨ (b_iandq (gI σ a0 x4.toNat) 31) = 21 ∨ (b_iandq (gI σ a0 x4.toNat) 31) = 22 ∨ (b_iandq (gI σ a0 x4.toNat) 31) = 23 ∨ (b_iandq (gI σ a0 x4.toNat) 31) = 24 ∨ (b_iandq (gI σ a0 x4.toNat) 31) = 25 ∨ (b_iandq (gI σ a0 x4.toNat) 31) = 26 ∨ (b_iandq (gI σ a0 x4.toNat) 31) = 27 ∨ (b_iandq (gI σ a0 x4.toNat) 31) = 28 ∨ (b_iandq (gI σ a0 x4.toNat) 31) = 29 ∨ (b_iandq (gI σ a0 x4.toNat) 31) = 30 ∨ (b_iandq (gI σ a0 x4.toNat) 31) = 31 ∨ ((b_iandq (gI σ a0 x4.toNat) 31) < 0 ∨ 31 < (b_iandq (gI σ a0 x4.toNat) 31)) := by omega
    rcases c8 with c9 | c9 | c9 | c9 | c9 | c9 | c9 | c9 | c9 | c9 | c9 | c9 | c9 | c9 | c9 | c9 | c9 | c9 | c9 | c9 | c9 | c9 | c9 | c9 | c9 | c9 | c9 | c9 | c9 | c9 | c9 | c9 | c9
    · replace h := h.1 c9
      refine r_tabE (pc := 40) (tgt := 184) dL_law_40 c9 (by decide) (by decide) rfl (by decide) ?_
      exact h
    · replace h := h.2.1 c9
      refine r_tabE (pc := 40) (tgt := 257) dL_law_40 c9 (by decide) (by decide) rfl (by decide) ?_
      exact h
    · replace h := h.2.2.1 c9
      refine r_tabE (pc := 40) (tgt := 313) dL_law_40 c9 (by decide) (by decide) rfl (by decide) ?_
      exact h
    · replace h := h.2.2.2.1 c9
      refine r_tabE (pc := 40) (tgt := 326) dL_law_40 c9 (by decide) (by decide) rfl (by decide) ?_
      exact h
    · replace h := h.2.2.2.2.1 c9
      refine r_tabE (pc := 40) (tgt := 472) dL_law_40 c9 (by decide) (by decide) rfl (by decide) ?_
      exact h
    · replace h := h.2.2.2.2.2.1 c9
      refine r_tabE (pc := 40) (tgt := 528) dL_law_40 c9 (by decide) (by decide) rfl (by decide) ?_
      exact h
    · replace h := h.2.2.2.2.2.2.1 c9
      refine r_tabE (pc := 40) (tgt := 541) dL_law_40 c9 (by decide) (by decide) rfl (by decide) ?_
      exact h
    · replace h := h.2.2.2.2.2.2.2.1 c9
      refine r_tabE (pc := 40) (tgt := 566) dL_law_40 c9 (by decide) (by decide) rfl (by decide) ?_
      exact h
    · replace h := h.2.2.2.2.2.2.2.2.1 c9
      refine r_tabE (pc := 40) (tgt := 622) dL_law_40 c9 (by decide) (by decide) rfl (by decide) ?_
      exact h
    · replace h := h.2.2.2.2.2.2.2.2.2.1 c9
      refine r_tabE (pc := 40) (tgt := 690) dL_law_40 c9 (by decide) (by decide) rfl (by decide) ?_
      exact h
    · replace h := h.2.2.2.2.2.2.2.2.2.2.1 c9
      refine r_tabE (pc := 40) (tgt := 805) dL_law_40 c9 (by decide) (by decide) rfl (by decide) ?_
      exact h
    · replace h := h.2.2.2.2.2.2.2.2.2.2.2.1 c9
      refine r_tabE (pc := 40) (tgt := 873) dL_law_40 c9 (by decide) (by decide) rfl (by decide) ?_
      exact h
    · replace h := h.2.2.2.2.2.2.2.2.2.2.2.2.1 c9
      refine r_tabE (pc := 40) (tgt := 941) dL_law_40 c9 (by decide) (by decide) rfl (by decide) ?_
      exact h
    · replace h := h.2.2.2.2.2.2.2.2.2.2.2.2.2.1 c9
      refine r_tabE (pc := 40) (tgt := 1009) dL_law_40 c9 (by decide) (by decide) rfl (by decide) ?_
      exact h
    · replace h := h.2.2.2.2.2.2.2.2.2.2.2.2.2.2.1 c9
      refine r_tabE (pc := 40) (tgt := 1089) dL_law_40 c9 (by decide) (by decide) rfl (by decide) ?_
      exact h
    · replace h := h.2.2.2.2.2.2.2.2.2.2.2.2.2.2.2.1 c9
      refine r_tabE (pc := 40) (tgt := 1145) dL_law_40 c9 (by decide) (by decide) rfl (by decide) ?_
      exact h
    · replace h := h.2.2.2.2.2.2.2.2.2.2.2.2.2.2.2.2.1 c9
      refine r_tabE (pc := 40) (tgt := 1201) dL_law_40 c9 (by decide) (by decide) rfl (by decide) ?_
      exact h
    · replace h := h.2.2.2.2.2.2.2.2.2.2.2.2.2.2.2.2.2.1 c9
      refine r_tabE (pc := 40) (tgt := 1269) dL_law_40 c9 (by decide) (by decide) rfl (by decide) ?_
      exact h
    · replace h := h.2.2.2.2.2.2.2.2.2.2.2.2.2.2.2.2.2.2.1 c9
      refine r_tabE (pc := 40) (tgt := 1349) dL_law_40 c9 (by decide) (by decide) rfl (by decide) ?_
      exact h
    · replace h := h.2.2.2.2.2.2.2.2.2.2.2.2.2.2.2.2.2.2.2.1 c9
      refine r_tabE (pc := 40) (tgt := 1405) dL_law_40 c9 (by decide) (by decide) rfl (by decide) ?_
      exact h
    · replace h := h.2.2.2.2.2.2.2.2.2.2.2.2.2.2.2.2.2.2.2.2.1 c9
      refine r_tabE (pc := 40) (tgt := 1473) dL_law_40 c9 (by decide) (by decide) rfl (by decide) ?_
      exact h
    · replace h := h.2.2.2.2.2.2.2.2.2.2.2.2.2.2.2.2.2.2.2.2.2.1 c9
      refine r_tabE (pc := 40) (tgt := 1541) dL_law_40 c9 (by decide) (by decide) rfl (by decide) ?_
      exact h
    · replace h := h.2.2.2.2.2.2.2.2.2.2.2.2.2.2.2.2.2.2.2.2.2.2.1 c9
      refine r_tabE (pc := 40) (tgt := 1597) dL_law_40 c9 (by decide) (by decide) rfl (by decide) ?_
      exact h
    · replace h := h.2.2.2.2.2.2.2.2.2.2.2.2.2.2.2.2.2.2.2.2.2.2.2.1 c9
      refine r_tabE (pc := 40) (tgt := 1653) dL_law_40 c9 (by decide) (by decide) rfl (by decide) ?_
      exact h
    · replace h := h.2.2.2.2.2.2.2.2.2.2.2.2.2.2.2.2.2.2.2.2.2.2.2.2.1 c9
      refine r_tabE (pc := 40) (tgt := 1721) dL_law_40 c9 (by decide) (by decide) rfl (by decide) ?_
      exact h
    · replace h := h.2.2.2.2.2.2.2.2.2.2.2.2.2.2.2.2.2.2.2.2.2.2.2.2.2.1 c9
      refine r_tabE (pc := 40) (tgt := 1789) dL_law_40 c9 (by decide) (by decide) rfl (by decide) ?_
      exact h
    · replace h := h.2.2.2.2.2.2.2.2.2.2.2.2.2.2.2.2.2.2.2.2.2.2.2.2.2.2.1 c9
      refine r_tabE (pc := 40) (tgt := 1869) dL_law_40 c9 (by decide) (by decide) rfl (by decide) ?_
      exact h
    · replace h := h.2.2.2.2.2.2.2.2.2.2.2.2.2.2.2.2.2.2.2.2.2.2.2.2.2.2.2.1 c9
      refine r_tabE (pc := 40) (tgt := 1956) dL_law_40 c9 (by decide) (by decide) rfl (by decide) ?_
      exact h
    · replace h := h.2.2.2.2.2.2.2.2.2.2.2.2.2.2.2.2.2.2.2.2.2.2.2.2.2.2.2.2.1 c9
      refine r_tabE (pc := 40) (tgt := 2031) dL_law_40 c9 (by decide) (by decide) rfl (by decide) ?_
      exact h
    · replace h := h.2.2.2.2.2.2.2.2.2.2.2.2.2.2.2.2.2.2.2.2.2.2.2.2.2.2.2.2.2.1 c9
      refine r_tabE (pc := 40) (tgt := 2099) dL_law_40 c9 (by decide) (by decide) rfl (by decide) ?_
      exact h
    · replace h := h.2.2.2.2.2.2.2.2.2.2.2.2.2.2.2.2.2.2.2.2.2.2.2.2.2.2.2.2.2.2.1 c9
      refine r_tabE (pc := 40) (tgt := 2155) dL_law_40 c9 (by decide) (by decide) rfl (by decide) ?_
      exact h
    · replace h := h.2.2.2.2.2.2.2.2.2.2.2.2.2.2.2.2.2.2.2.2.2.2.2.2.2.2.2.2.2.2.2.1 c9
      refine r_tabE (pc := 40) (tgt := 2169) dL_law_40 c9 (by decide) (by decide) rfl (by decide) ?_
      exact h
    · replace h := h.2.2.2.2.2.2.2.2.2.2.2.2.2.2.2.2.2.2.2.2.2.2.2.2.2.2.2.2.2.2.2.2 c9
      refine r_tabOut (pc := 40) (tgt := 2194) dL_law_40 c9 (by decide) ?_
      exact h
theorem B_L_law_184 {a0 : Nat} {a1 : Nat} {a2 : Nat} {a3 : Nat} {x4 : Int} (h : inR (x4 + 1) ∧ okA 20 σ a0 (x4 + 1) ∧ inR (x4 + 2) ∧ okA 20 σ a0 (x4 + 2) ∧ inR (x4 + 3) ∧ okA 20 σ a0 (x4 + 3) ∧ inR (x4 + 4) ∧ okA 20 σ a0 (x4 + 4) ∧ inR (x4 + 5) ∧ okA 20 σ a0 (x4 + 5) ∧ okO σ a1 11 ∧ CC E mX11_feed [vr a1, vi (gI σ a0 (x4 + 1).toNat), vi (gI σ a0 (x4 + 2).toNat), vi (gI σ a0 (x4 + 3).toNat), vi (gI σ a0 (x4 + 4).toNat), vi (gI σ a0 (x4 + 5).toNat)] σ (KI (fun r11 τ12 => inR r11 → okA 20 τ12 a0 (x4 + 1) ∧ okA 20 τ12 a0 (x4 + 2) ∧ okA 20 τ12 a0 (x4 + 3) ∧ okA 20 τ12 a0 (x4 + 4) ∧ okA 20 τ12 a0 (x4 + 5) ∧ okO τ12 a2 12 ∧ CC E mX12_feed [vr a2, vi (gI τ12 a0 (x4 + 1).toNat), vi (gI τ12 a0 (x4 + 2).toNat), vi (gI τ12 a0 (x4 + 3).toNat), vi (gI τ12 a0 (x4 + 4).toNat), vi (gI τ12 a0 (x4 + 5).toNat)] τ12 (KI (fun r18 τ19 => inR r18 → ((r11 = r18 → GG E mL_law 2194 [some (vr a0), some (vr a1), some (vr a2), some (vr a3), some (vi x4), none, none] [] τ19 rc rs Q) ∧ (¬ (r11 = r18) → (0 : Int) = 1))) (fun _ _ => False))) (fun _ _ => False))) : GG E mL_law 184 [some (vr a0), some (vr a1), some (vr a2), some (vr a3), some (vi x4), none, none] [] σ rc rs Q := by
  refine r_aload_n (pc := 184) dL_law_184 rfl rfl ?_
  refine r_aload_n (pc := 185) dL_law_185 rfl rfl ?_
  refine r_iload (pc := 186) dL_law_186 rfl ?_
  refine r_iconst (pc := 188) dL_law_188 (inRk rfl) ?_
  obtain ⟨o1, h⟩ := h
  refine r_iadd (pc := 189) dL_law_189 o1 ?_
  obtain ⟨o2, h⟩ := h
  refine r_iaload (pc := 190) dL_law_190 o2 ?_
  refine r_aload_n (pc := 191) dL_law_191 rfl rfl ?_
  refine r_iload (pc := 192) dL_law_192 rfl ?_
  refine r_iconst (pc := 194) dL_law_194 (inRk rfl) ?_
  obtain ⟨o3, h⟩ := h
  refine r_iadd (pc := 195) dL_law_195 o3 ?_
  obtain ⟨o4, h⟩ := h
  refine r_iaload (pc := 196) dL_law_196 o4 ?_
  refine r_aload_n (pc := 197) dL_law_197 rfl rfl ?_
  refine r_iload (pc := 198) dL_law_198 rfl ?_
  refine r_iconst (pc := 200) dL_law_200 (inRk rfl) ?_
  obtain ⟨o5, h⟩ := h
  refine r_iadd (pc := 201) dL_law_201 o5 ?_
  obtain ⟨o6, h⟩ := h
  refine r_iaload (pc := 202) dL_law_202 o6 ?_
  refine r_aload_n (pc := 203) dL_law_203 rfl rfl ?_
  refine r_iload (pc := 204) dL_law_204 rfl ?_
  refine r_iconst (pc := 206) dL_law_206 (inRk rfl) ?_
  obtain ⟨o7, h⟩ := h
  refine r_iadd (pc := 207) dL_law_207 o7 ?_
  obtain ⟨o8, h⟩ := h
  refine r_iaload (pc := 208) dL_law_208 o8 ?_
  refine r_aload_n (pc := 209) dL_law_209 rfl rfl ?_
  refine r_iload (pc := 210) dL_law_210 rfl ?_
  refine r_iconst (pc := 212) dL_law_212 (inRk rfl) ?_
  obtain ⟨o9, h⟩ := h
  refine r_iadd (pc := 213) dL_law_213 o9 ?_
  obtain ⟨o10, h⟩ := h
  refine r_iaload (pc := 214) dL_law_214 o10 ?_
  refine c_VI0N (M := mL_law) (M2 := mX11_feed) (pc := 215) (As := [vi (gI σ a0 (x4 + 1).toNat), vi (gI σ a0 (x4 + 2).toNat), vi (gI σ a0 (x4 + 3).toNat), vi (gI σ a0 (x4 + 4).toNat), vi (gI σ a0 (x4 + 5).toNat)]) dL_law_215 K_X11_feed w_640 ⟨by decide, by decide⟩ (Nat.le_of_ble_eq_true rfl) rfl rfl (ci := 11) rfl rfl (by decide) h.1 h.2 (fun r11 τ12 h8 hr9 => ?_) rfl
  replace h := h8 hr9
  refine r_aload_n (pc := 218) dL_law_218 rfl rfl ?_
  refine r_aload_n (pc := 219) dL_law_219 rfl rfl ?_
  refine r_iload (pc := 220) dL_law_220 rfl ?_
  refine r_iconst (pc := 222) dL_law_222 (inRk rfl) ?_
  refine r_iadd (pc := 223) dL_law_223 o1 ?_
  obtain ⟨o13, h⟩ := h
  refine r_iaload (pc := 224) dL_law_224 o13 ?_
  refine r_aload_n (pc := 225) dL_law_225 rfl rfl ?_
  refine r_iload (pc := 226) dL_law_226 rfl ?_
  refine r_iconst (pc := 228) dL_law_228 (inRk rfl) ?_
  refine r_iadd (pc := 229) dL_law_229 o3 ?_
  obtain ⟨o14, h⟩ := h
  refine r_iaload (pc := 230) dL_law_230 o14 ?_
  refine r_aload_n (pc := 231) dL_law_231 rfl rfl ?_
  refine r_iload (pc := 232) dL_law_232 rfl ?_
  refine r_iconst (pc := 234) dL_law_234 (inRk rfl) ?_
  refine r_iadd (pc := 235) dL_law_235 o5 ?_
  obtain ⟨o15, h⟩ := h
  refine r_iaload (pc := 236) dL_law_236 o15 ?_
  refine r_aload_n (pc := 237) dL_law_237 rfl rfl ?_
  refine r_iload (pc := 238) dL_law_238 rfl ?_
  refine r_iconst (pc := 240) dL_law_240 (inRk rfl) ?_
  refine r_iadd (pc := 241) dL_law_241 o7 ?_
  obtain ⟨o16, h⟩ := h
  refine r_iaload (pc := 242) dL_law_242 o16 ?_
  refine r_aload_n (pc := 243) dL_law_243 rfl rfl ?_
  refine r_iload (pc := 244) dL_law_244 rfl ?_
  refine r_iconst (pc := 246) dL_law_246 (inRk rfl) ?_
  refine r_iadd (pc := 247) dL_law_247 o9 ?_
  obtain ⟨o17, h⟩ := h
  refine r_iaload (pc := 248) dL_law_248 o17 ?_
  refine c_VI0N (M := mL_law) (M2 := mX12_feed) (pc := 249) (As := [vi (gI τ12 a0 (x4 + 1).toNat), vi (gI τ12 a0 (x4 + 2).toNat), vi (gI τ12 a0 (x4 + 3).toNat), vi (gI τ12 a0 (x4 + 4).toNat), vi (gI τ12 a0 (x4 + 5).toNat)]) dL_law_249 K_X12_feed w_1547 ⟨by decide, by decide⟩ (Nat.le_of_ble_eq_true rfl) rfl rfl (ci := 12) rfl rfl (by decide) h.1 h.2 (fun r18 τ19 h8 hr9 => ?_) rfl
  replace h := h8 hr9
  refine r_icmp_eq (pc := 252) (tgt := 2194) dL_law_252 (by decide) (fun c9 => ?_) (fun c9 => ?_)
  · replace h := h.1 c9
    exact h
  · replace h := h.2 c9
    refine r_iconst (pc := 255) dL_law_255 (inRk rfl) ?_
    exact r_lawret0 (pc := 256) dL_law_256 rfl rfl rfl rfl h
theorem B_L_law_257 {a0 : Nat} {a1 : Nat} {a2 : Nat} {a3 : Nat} {x4 : Int} (h : inR (x4 + 1) ∧ okA 20 σ a0 (x4 + 1) ∧ 1 ≤ rc ∧ 6 ≤ rs ∧ CC E mL_text [vr a1, vi (gI σ a0 (x4 + 1).toNat), vr a3] σ (KI (fun r3 τ4 => inR r3 → okA 20 τ4 a0 (x4 + 1) ∧ okO τ4 a2 12 ∧ CC E mX12_text [vr a2, vi (gI τ4 a0 (x4 + 1).toNat)] τ4 (KI (fun r6 τ7 => inR r6 → okO τ7 a2 12 ∧ CC E mX12_thrown [vr a2] τ7 (KI (fun r8 τ9 => inR r8 → ((r8 = r3 → ((r3 ≠ 0 → GG E mL_law 2194 [some (vr a0), some (vr a1), some (vr a2), some (vr a3), some (vi x4), none, none] [] τ9 (rc - 1) (rs - 6) Q) ∧ (r3 = 0 → okB 23 τ9 a3 0 ∧ (((gI τ9 a3 0) = r6 → GG E mL_law 2194 [some (vr a0), some (vr a1), some (vr a2), some (vr a3), some (vi x4), none, none] [] τ9 (rc - 1) (rs - 6) Q) ∧ (¬ ((gI τ9 a3 0) = r6) → (0 : Int) = 1))))) ∧ (¬ (r8 = r3) → (0 : Int) = 1))) (fun _ _ => False))) (fun _ _ => False))) (fun _ _ => False))) : GG E mL_law 257 [some (vr a0), some (vr a1), some (vr a2), some (vr a3), some (vi x4), none, none] [] σ rc rs Q := by
  refine r_aload_n (pc := 257) dL_law_257 rfl rfl ?_
  refine r_aload_n (pc := 258) dL_law_258 rfl rfl ?_
  refine r_iload (pc := 259) dL_law_259 rfl ?_
  refine r_iconst (pc := 261) dL_law_261 (inRk rfl) ?_
  obtain ⟨o1, h⟩ := h
  refine r_iadd (pc := 262) dL_law_262 o1 ?_
  obtain ⟨o2, h⟩ := h
  refine r_iaload (pc := 263) dL_law_263 o2 ?_
  refine r_aload_n (pc := 264) dL_law_264 rfl rfl ?_
  refine c_SWIAN (M := mL_law) (M2 := mL_text) (pc := 265) (As := [vr a1, vi (gI σ a0 (x4 + 1).toNat), vr a3]) dL_law_265 rfl w_697 w_97 w_696 ⟨by decide +kernel, by decide +kernel, by show _ = some 3; decide +kernel⟩ w_695 ⟨by decide, by decide⟩ (Nat.le_of_ble_eq_true rfl) h.1 h.2.1 h.2.2 (fun r3 τ4 h8 hr9 => ?_) rfl
  replace h := h8 hr9
  refine r_istore (pc := 268) dL_law_268 (by decide) (l2 := [some (vr a0), some (vr a1), some (vr a2), some (vr a3), some (vi x4), some (vi r3), none]) rfl ?_
  refine r_aload_n (pc := 270) dL_law_270 rfl rfl ?_
  refine r_aload_n (pc := 271) dL_law_271 rfl rfl ?_
  refine r_iload (pc := 272) dL_law_272 rfl ?_
  refine r_iconst (pc := 274) dL_law_274 (inRk rfl) ?_
  refine r_iadd (pc := 275) dL_law_275 o1 ?_
  obtain ⟨o5, h⟩ := h
  refine r_iaload (pc := 276) dL_law_276 o5 ?_
  refine c_VI0N (M := mL_law) (M2 := mX12_text) (pc := 277) (As := [vi (gI τ4 a0 (x4 + 1).toNat)]) dL_law_277 K_X12_text w_1551 ⟨by decide, by decide⟩ (Nat.le_of_ble_eq_true rfl) rfl rfl (ci := 12) rfl rfl (by decide) h.1 h.2 (fun r6 τ7 h8 hr9 => ?_) rfl
  replace h := h8 hr9
  refine r_istore (pc := 280) dL_law_280 (by decide) (l2 := [some (vr a0), some (vr a1), some (vr a2), some (vr a3), some (vi x4), some (vi r3), some (vi r6)]) rfl ?_
  refine r_aload_n (pc := 282) dL_law_282 rfl rfl ?_
  refine c_VI0N (M := mL_law) (M2 := mX12_thrown) (pc := 283) (As := []) dL_law_283 K_X12_thrown w_1543 ⟨by decide, by decide⟩ (Nat.le_of_ble_eq_true rfl) rfl rfl (ci := 12) rfl rfl (by decide) h.1 h.2 (fun r8 τ9 h8 hr9 => ?_) rfl
  replace h := h8 hr9
  refine r_iload (pc := 286) dL_law_286 rfl ?_
  refine r_icmp_eq (pc := 288) (tgt := 293) dL_law_288 (by decide) (fun c9 => ?_) (fun c9 => ?_)
  · replace h := h.1 c9
    refine r_iload (pc := 293) dL_law_293 rfl ?_
    refine r_if_ne (pc := 295) (tgt := 310) dL_law_295 (by decide) (fun c9 => ?_) (fun c9 => ?_)
    · replace h := h.1 c9
      refine r_goto (pc := 310) (tgt := 2194) dL_law_310 (by decide) ?_
      exact GG.msk [true, true, true, true, true, false, false] h
    · replace h := h.2 c9
      refine r_aload_n (pc := 298) dL_law_298 rfl rfl ?_
      refine r_iconst (pc := 299) dL_law_299 (inRk rfl) ?_
      obtain ⟨o10, h⟩ := h
      refine r_laload (pc := 300) dL_law_300 o10 ?_
      refine r_iload (pc := 301) dL_law_301 rfl ?_
      refine r_i2l (pc := 303) dL_law_303 ?_
      refine r_lcmp_ifeq (pc := 304) (tgt := 310) dL_law_304 dL_law_305 (by decide) (fun c9 => ?_) (fun c9 => ?_)
      · replace h := h.1 c9
        refine r_goto (pc := 310) (tgt := 2194) dL_law_310 (by decide) ?_
        exact GG.msk [true, true, true, true, true, false, false] h
      · replace h := h.2 c9
        refine r_iconst (pc := 308) dL_law_308 (inRk rfl) ?_
        exact r_lawret0 (pc := 309) dL_law_309 rfl rfl rfl rfl h
  · replace h := h.2 c9
    refine r_iconst (pc := 291) dL_law_291 (inRk rfl) ?_
    exact r_lawret0 (pc := 292) dL_law_292 rfl rfl rfl rfl h
theorem B_L_law_313 {a0 : Nat} {a1 : Nat} {a2 : Nat} {a3 : Nat} {x4 : Int} (h : okO σ a1 11 ∧ CC E mX11_fault [vr a1] σ (KI (fun r1 τ2 => inR r1 → okO τ2 a2 12 ∧ CC E mX12_fault [vr a2] τ2 (KI (fun r3 τ4 => inR r3 → ((r1 = r3 → GG E mL_law 2194 [some (vr a0), some (vr a1), some (vr a2), some (vr a3), some (vi x4), none, none] [] τ4 rc rs Q) ∧ (¬ (r1 = r3) → (0 : Int) = 1))) (fun _ _ => False))) (fun _ _ => False))) : GG E mL_law 313 [some (vr a0), some (vr a1), some (vr a2), some (vr a3), some (vi x4), none, none] [] σ rc rs Q := by
  refine r_aload_n (pc := 313) dL_law_313 rfl rfl ?_
  refine c_VI0N (M := mL_law) (M2 := mX11_fault) (pc := 314) (As := []) dL_law_314 K_X11_fault w_652 ⟨by decide, by decide⟩ (Nat.le_of_ble_eq_true rfl) rfl rfl (ci := 11) rfl rfl (by decide) h.1 h.2 (fun r1 τ2 h8 hr9 => ?_) rfl
  replace h := h8 hr9
  refine r_aload_n (pc := 317) dL_law_317 rfl rfl ?_
  refine c_VI0N (M := mL_law) (M2 := mX12_fault) (pc := 318) (As := []) dL_law_318 K_X12_fault w_1620 ⟨by decide, by decide⟩ (Nat.le_of_ble_eq_true rfl) rfl rfl (ci := 12) rfl rfl (by decide) h.1 h.2 (fun r3 τ4 h8 hr9 => ?_) rfl
  replace h := h8 hr9
  refine r_icmp_eq (pc := 321) (tgt := 2194) dL_law_321 (by decide) (fun c9 => ?_) (fun c9 => ?_)
  · replace h := h.1 c9
    exact h
  · replace h := h.2 c9
    refine r_iconst (pc := 324) dL_law_324 (inRk rfl) ?_
    exact r_lawret0 (pc := 325) dL_law_325 rfl rfl rfl rfl h
theorem B_L_law_326 {a0 : Nat} {a1 : Nat} {a2 : Nat} {a3 : Nat} {x4 : Int} (h : inR (x4 + 1) ∧ okA 20 σ a0 (x4 + 1) ∧ inR (x4 + 2) ∧ okA 20 σ a0 (x4 + 2) ∧ inR (x4 + 3) ∧ okA 20 σ a0 (x4 + 3) ∧ inR (x4 + 4) ∧ okA 20 σ a0 (x4 + 4) ∧ inR (x4 + 5) ∧ okA 20 σ a0 (x4 + 5) ∧ inR (x4 + 6) ∧ okA 20 σ a0 (x4 + 6) ∧ inR (x4 + 7) ∧ okA 20 σ a0 (x4 + 7) ∧ inR (x4 + 8) ∧ okA 20 σ a0 (x4 + 8) ∧ 3 ≤ rc ∧ 18 ≤ rs ∧ CC E mL_add [vr a1, vi (gI σ a0 (x4 + 1).toNat), vi (gI σ a0 (x4 + 2).toNat), vi (gI σ a0 (x4 + 3).toNat), vi (gI σ a0 (x4 + 4).toNat), vi (gI σ a0 (x4 + 5).toNat), vi (gI σ a0 (x4 + 6).toNat), vi (gI σ a0 (x4 + 7).toNat), vi (gI σ a0 (x4 + 8).toNat), vr a3] σ (KI (fun r17 τ18 => inR r17 → okA 20 τ18 a0 (x4 + 1) ∧ okA 20 τ18 a0 (x4 + 2) ∧ okA 20 τ18 a0 (x4 + 3) ∧ okA 20 τ18 a0 (x4 + 4) ∧ okA 20 τ18 a0 (x4 + 5) ∧ okA 20 τ18 a0 (x4 + 6) ∧ okA 20 τ18 a0 (x4 + 7) ∧ okA 20 τ18 a0 (x4 + 8) ∧ 1 ≤ rc - 3 ∧ 8 ≤ rs - 18 ∧ okO τ18 a2 12 ∧ CC E mX12_add [vr a2, vi (gI τ18 a0 (x4 + 1).toNat), vi (gI τ18 a0 (x4 + 2).toNat), vi (gI τ18 a0 (x4 + 3).toNat), vi (gI τ18 a0 (x4 + 4).toNat), vi (gI τ18 a0 (x4 + 5).toNat), vi (gI τ18 a0 (x4 + 6).toNat), vi (gI τ18 a0 (x4 + 7).toNat), vi (gI τ18 a0 (x4 + 8).toNat)] τ18 (KI (fun r27 τ28 => inR r27 → okO τ28 a2 12 ∧ CC E mX12_thrown [vr a2] τ28 (KI (fun r29 τ30 => inR r29 → ((r29 = r17 → ((r17 ≠ 0 → GG E mL_law 2194 [some (vr a0), some (vr a1), some (vr a2), some (vr a3), some (vi x4), none, none] [] τ30 (rc - 3 - 1) (rs - 18 - 8) Q) ∧ (r17 = 0 → okB 23 τ30 a3 0 ∧ (((gI τ30 a3 0) = r27 → GG E mL_law 2194 [some (vr a0), some (vr a1), some (vr a2), some (vr a3), some (vi x4), none, none] [] τ30 (rc - 3 - 1) (rs - 18 - 8) Q) ∧ (¬ ((gI τ30 a3 0) = r27) → (0 : Int) = 1))))) ∧ (¬ (r29 = r17) → (0 : Int) = 1))) (fun _ _ => False))) (fun _ _ => False))) (fun _ _ => False))) : GG E mL_law 326 [some (vr a0), some (vr a1), some (vr a2), some (vr a3), some (vi x4), none, none] [] σ rc rs Q := by
  refine r_aload_n (pc := 326) dL_law_326 rfl rfl ?_
  refine r_aload_n (pc := 327) dL_law_327 rfl rfl ?_
  refine r_iload (pc := 328) dL_law_328 rfl ?_
  refine r_iconst (pc := 330) dL_law_330 (inRk rfl) ?_
  obtain ⟨o1, h⟩ := h
  refine r_iadd (pc := 331) dL_law_331 o1 ?_
  obtain ⟨o2, h⟩ := h
  refine r_iaload (pc := 332) dL_law_332 o2 ?_
  refine r_aload_n (pc := 333) dL_law_333 rfl rfl ?_
  refine r_iload (pc := 334) dL_law_334 rfl ?_
  refine r_iconst (pc := 336) dL_law_336 (inRk rfl) ?_
  obtain ⟨o3, h⟩ := h
  refine r_iadd (pc := 337) dL_law_337 o3 ?_
  obtain ⟨o4, h⟩ := h
  refine r_iaload (pc := 338) dL_law_338 o4 ?_
  refine r_aload_n (pc := 339) dL_law_339 rfl rfl ?_
  refine r_iload (pc := 340) dL_law_340 rfl ?_
  refine r_iconst (pc := 342) dL_law_342 (inRk rfl) ?_
  obtain ⟨o5, h⟩ := h
  refine r_iadd (pc := 343) dL_law_343 o5 ?_
  obtain ⟨o6, h⟩ := h
  refine r_iaload (pc := 344) dL_law_344 o6 ?_
  refine r_aload_n (pc := 345) dL_law_345 rfl rfl ?_
  refine r_iload (pc := 346) dL_law_346 rfl ?_
  refine r_iconst (pc := 348) dL_law_348 (inRk rfl) ?_
  obtain ⟨o7, h⟩ := h
  refine r_iadd (pc := 349) dL_law_349 o7 ?_
  obtain ⟨o8, h⟩ := h
  refine r_iaload (pc := 350) dL_law_350 o8 ?_
  refine r_aload_n (pc := 351) dL_law_351 rfl rfl ?_
  refine r_iload (pc := 352) dL_law_352 rfl ?_
  refine r_iconst (pc := 354) dL_law_354 (inRk rfl) ?_
  obtain ⟨o9, h⟩ := h
  refine r_iadd (pc := 355) dL_law_355 o9 ?_
  obtain ⟨o10, h⟩ := h
  refine r_iaload (pc := 356) dL_law_356 o10 ?_
  refine r_aload_n (pc := 357) dL_law_357 rfl rfl ?_
  refine r_iload (pc := 358) dL_law_358 rfl ?_
  refine r_bipush (pc := 360) dL_law_360 (by decide) ?_
  obtain ⟨o11, h⟩ := h
  refine r_iadd (pc := 362) dL_law_362 o11 ?_
  obtain ⟨o12, h⟩ := h
  refine r_iaload (pc := 363) dL_law_363 o12 ?_
  refine r_aload_n (pc := 364) dL_law_364 rfl rfl ?_
  refine r_iload (pc := 365) dL_law_365 rfl ?_
  refine r_bipush (pc := 367) dL_law_367 (by decide) ?_
  obtain ⟨o13, h⟩ := h
  refine r_iadd (pc := 369) dL_law_369 o13 ?_
  obtain ⟨o14, h⟩ := h
  refine r_iaload (pc := 370) dL_law_370 o14 ?_
  refine r_aload_n (pc := 371) dL_law_371 rfl rfl ?_
  refine r_iload (pc := 372) dL_law_372 rfl ?_
  refine r_bipush (pc := 374) dL_law_374 (by decide) ?_
  obtain ⟨o15, h⟩ := h
  refine r_iadd (pc := 376) dL_law_376 o15 ?_
  obtain ⟨o16, h⟩ := h
  refine r_iaload (pc := 377) dL_law_377 o16 ?_
  refine r_aload_n (pc := 378) dL_law_378 rfl rfl ?_
  refine c_SWIAN (M := mL_law) (M2 := mL_add) (pc := 379) (As := [vr a1, vi (gI σ a0 (x4 + 1).toNat), vi (gI σ a0 (x4 + 2).toNat), vi (gI σ a0 (x4 + 3).toNat), vi (gI σ a0 (x4 + 4).toNat), vi (gI σ a0 (x4 + 5).toNat), vi (gI σ a0 (x4 + 6).toNat), vi (gI σ a0 (x4 + 7).toNat), vi (gI σ a0 (x4 + 8).toNat), vr a3]) dL_law_379 rfl w_894 w_97 w_893 ⟨by decide +kernel, by decide +kernel, by show _ = some 10; decide +kernel⟩ w_892 ⟨by decide, by decide⟩ (Nat.le_of_ble_eq_true rfl) h.1 h.2.1 h.2.2 (fun r17 τ18 h8 hr9 => ?_) rfl
  replace h := h8 hr9
  refine r_istore (pc := 382) dL_law_382 (by decide) (l2 := [some (vr a0), some (vr a1), some (vr a2), some (vr a3), some (vi x4), some (vi r17), none]) rfl ?_
  refine r_aload_n (pc := 384) dL_law_384 rfl rfl ?_
  refine r_aload_n (pc := 385) dL_law_385 rfl rfl ?_
  refine r_iload (pc := 386) dL_law_386 rfl ?_
  refine r_iconst (pc := 388) dL_law_388 (inRk rfl) ?_
  refine r_iadd (pc := 389) dL_law_389 o1 ?_
  obtain ⟨o19, h⟩ := h
  refine r_iaload (pc := 390) dL_law_390 o19 ?_
  refine r_aload_n (pc := 391) dL_law_391 rfl rfl ?_
  refine r_iload (pc := 392) dL_law_392 rfl ?_
  refine r_iconst (pc := 394) dL_law_394 (inRk rfl) ?_
  refine r_iadd (pc := 395) dL_law_395 o3 ?_
  obtain ⟨o20, h⟩ := h
  refine r_iaload (pc := 396) dL_law_396 o20 ?_
  refine r_aload_n (pc := 397) dL_law_397 rfl rfl ?_
  refine r_iload (pc := 398) dL_law_398 rfl ?_
  refine r_iconst (pc := 400) dL_law_400 (inRk rfl) ?_
  refine r_iadd (pc := 401) dL_law_401 o5 ?_
  obtain ⟨o21, h⟩ := h
  refine r_iaload (pc := 402) dL_law_402 o21 ?_
  refine r_aload_n (pc := 403) dL_law_403 rfl rfl ?_
  refine r_iload (pc := 404) dL_law_404 rfl ?_
  refine r_iconst (pc := 406) dL_law_406 (inRk rfl) ?_
  refine r_iadd (pc := 407) dL_law_407 o7 ?_
  obtain ⟨o22, h⟩ := h
  refine r_iaload (pc := 408) dL_law_408 o22 ?_
  refine r_aload_n (pc := 409) dL_law_409 rfl rfl ?_
  refine r_iload (pc := 410) dL_law_410 rfl ?_
  refine r_iconst (pc := 412) dL_law_412 (inRk rfl) ?_
  refine r_iadd (pc := 413) dL_law_413 o9 ?_
  obtain ⟨o23, h⟩ := h
  refine r_iaload (pc := 414) dL_law_414 o23 ?_
  refine r_aload_n (pc := 415) dL_law_415 rfl rfl ?_
  refine r_iload (pc := 416) dL_law_416 rfl ?_
  refine r_bipush (pc := 418) dL_law_418 (by decide) ?_
  refine r_iadd (pc := 420) dL_law_420 o11 ?_
  obtain ⟨o24, h⟩ := h
  refine r_iaload (pc := 421) dL_law_421 o24 ?_
  refine r_aload_n (pc := 422) dL_law_422 rfl rfl ?_
  refine r_iload (pc := 423) dL_law_423 rfl ?_
  refine r_bipush (pc := 425) dL_law_425 (by decide) ?_
  refine r_iadd (pc := 427) dL_law_427 o13 ?_
  obtain ⟨o25, h⟩ := h
  refine r_iaload (pc := 428) dL_law_428 o25 ?_
  refine r_aload_n (pc := 429) dL_law_429 rfl rfl ?_
  refine r_iload (pc := 430) dL_law_430 rfl ?_
  refine r_bipush (pc := 432) dL_law_432 (by decide) ?_
  refine r_iadd (pc := 434) dL_law_434 o15 ?_
  obtain ⟨o26, h⟩ := h
  refine r_iaload (pc := 435) dL_law_435 o26 ?_
  refine c_VIAN (M := mL_law) (M2 := mX12_add) (pc := 436) (As := [vi (gI τ18 a0 (x4 + 1).toNat), vi (gI τ18 a0 (x4 + 2).toNat), vi (gI τ18 a0 (x4 + 3).toNat), vi (gI τ18 a0 (x4 + 4).toNat), vi (gI τ18 a0 (x4 + 5).toNat), vi (gI τ18 a0 (x4 + 6).toNat), vi (gI τ18 a0 (x4 + 7).toNat), vi (gI τ18 a0 (x4 + 8).toNat)]) dL_law_436 K_X12_add w_1624 ⟨by decide, by decide⟩ (Nat.le_of_ble_eq_true rfl) h.1 h.2.1 (ci := 12) rfl rfl (by decide) h.2.2.1 h.2.2.2 (fun r27 τ28 h8 hr9 => ?_) rfl
  replace h := h8 hr9
  refine r_istore (pc := 439) dL_law_439 (by decide) (l2 := [some (vr a0), some (vr a1), some (vr a2), some (vr a3), some (vi x4), some (vi r17), some (vi r27)]) rfl ?_
  refine r_aload_n (pc := 441) dL_law_441 rfl rfl ?_
  refine c_VI0N (M := mL_law) (M2 := mX12_thrown) (pc := 442) (As := []) dL_law_442 K_X12_thrown w_1543 ⟨by decide, by decide⟩ (Nat.le_of_ble_eq_true rfl) rfl rfl (ci := 12) rfl rfl (by decide) h.1 h.2 (fun r29 τ30 h8 hr9 => ?_) rfl
  replace h := h8 hr9
  refine r_iload (pc := 445) dL_law_445 rfl ?_
  refine r_icmp_eq (pc := 447) (tgt := 452) dL_law_447 (by decide) (fun c9 => ?_) (fun c9 => ?_)
  · replace h := h.1 c9
    refine r_iload (pc := 452) dL_law_452 rfl ?_
    refine r_if_ne (pc := 454) (tgt := 469) dL_law_454 (by decide) (fun c9 => ?_) (fun c9 => ?_)
    · replace h := h.1 c9
      refine r_goto (pc := 469) (tgt := 2194) dL_law_469 (by decide) ?_
      exact GG.msk [true, true, true, true, true, false, false] h
    · replace h := h.2 c9
      refine r_aload_n (pc := 457) dL_law_457 rfl rfl ?_
      refine r_iconst (pc := 458) dL_law_458 (inRk rfl) ?_
      obtain ⟨o31, h⟩ := h
      refine r_laload (pc := 459) dL_law_459 o31 ?_
      refine r_iload (pc := 460) dL_law_460 rfl ?_
      refine r_i2l (pc := 462) dL_law_462 ?_
      refine r_lcmp_ifeq (pc := 463) (tgt := 469) dL_law_463 dL_law_464 (by decide) (fun c9 => ?_) (fun c9 => ?_)
      · replace h := h.1 c9
        refine r_goto (pc := 469) (tgt := 2194) dL_law_469 (by decide) ?_
        exact GG.msk [true, true, true, true, true, false, false] h
      · replace h := h.2 c9
        refine r_iconst (pc := 467) dL_law_467 (inRk rfl) ?_
        exact r_lawret0 (pc := 468) dL_law_468 rfl rfl rfl rfl h
  · replace h := h.2 c9
    refine r_iconst (pc := 450) dL_law_450 (inRk rfl) ?_
    exact r_lawret0 (pc := 451) dL_law_451 rfl rfl rfl rfl h
theorem B_L_law_472 {a0 : Nat} {a1 : Nat} {a2 : Nat} {a3 : Nat} {x4 : Int} (h : inR (x4 + 1) ∧ okA 20 σ a0 (x4 + 1) ∧ 1 ≤ rc ∧ 6 ≤ rs ∧ CC E mL_drop [vr a1, vi (gI σ a0 (x4 + 1).toNat), vr a3] σ (KI (fun r3 τ4 => inR r3 → okA 20 τ4 a0 (x4 + 1) ∧ okO τ4 a2 12 ∧ CC E mX12_drop [vr a2, vi (gI τ4 a0 (x4 + 1).toNat)] τ4 (KI (fun r6 τ7 => inR r6 → okO τ7 a2 12 ∧ CC E mX12_thrown [vr a2] τ7 (KI (fun r8 τ9 => inR r8 → ((r8 = r3 → ((r3 ≠ 0 → GG E mL_law 2194 [some (vr a0), some (vr a1), some (vr a2), some (vr a3), some (vi x4), none, none] [] τ9 (rc - 1) (rs - 6) Q) ∧ (r3 = 0 → okB 23 τ9 a3 0 ∧ (((gI τ9 a3 0) = r6 → GG E mL_law 2194 [some (vr a0), some (vr a1), some (vr a2), some (vr a3), some (vi x4), none, none] [] τ9 (rc - 1) (rs - 6) Q) ∧ (¬ ((gI τ9 a3 0) = r6) → (0 : Int) = 1))))) ∧ (¬ (r8 = r3) → (0 : Int) = 1))) (fun _ _ => False))) (fun _ _ => False))) (fun _ _ => False))) : GG E mL_law 472 [some (vr a0), some (vr a1), some (vr a2), some (vr a3), some (vi x4), none, none] [] σ rc rs Q := by
  refine r_aload_n (pc := 472) dL_law_472 rfl rfl ?_
  refine r_aload_n (pc := 473) dL_law_473 rfl rfl ?_
  refine r_iload (pc := 474) dL_law_474 rfl ?_
  refine r_iconst (pc := 476) dL_law_476 (inRk rfl) ?_
  obtain ⟨o1, h⟩ := h
  refine r_iadd (pc := 477) dL_law_477 o1 ?_
  obtain ⟨o2, h⟩ := h
  refine r_iaload (pc := 478) dL_law_478 o2 ?_
  refine r_aload_n (pc := 479) dL_law_479 rfl rfl ?_
  refine c_SWIAN (M := mL_law) (M2 := mL_drop) (pc := 480) (As := [vr a1, vi (gI σ a0 (x4 + 1).toNat), vr a3]) dL_law_480 rfl w_940 w_97 w_939 ⟨by decide +kernel, by decide +kernel, by show _ = some 3; decide +kernel⟩ w_938 ⟨by decide, by decide⟩ (Nat.le_of_ble_eq_true rfl) h.1 h.2.1 h.2.2 (fun r3 τ4 h8 hr9 => ?_) rfl
  replace h := h8 hr9
  refine r_istore (pc := 483) dL_law_483 (by decide) (l2 := [some (vr a0), some (vr a1), some (vr a2), some (vr a3), some (vi x4), some (vi r3), none]) rfl ?_
  refine r_aload_n (pc := 485) dL_law_485 rfl rfl ?_
  refine r_aload_n (pc := 486) dL_law_486 rfl rfl ?_
  refine r_iload (pc := 487) dL_law_487 rfl ?_
  refine r_iconst (pc := 489) dL_law_489 (inRk rfl) ?_
  refine r_iadd (pc := 490) dL_law_490 o1 ?_
  obtain ⟨o5, h⟩ := h
  refine r_iaload (pc := 491) dL_law_491 o5 ?_
  refine c_VI0N (M := mL_law) (M2 := mX12_drop) (pc := 492) (As := [vi (gI τ4 a0 (x4 + 1).toNat)]) dL_law_492 K_X12_drop w_1632 ⟨by decide, by decide⟩ (Nat.le_of_ble_eq_true rfl) rfl rfl (ci := 12) rfl rfl (by decide) h.1 h.2 (fun r6 τ7 h8 hr9 => ?_) rfl
  replace h := h8 hr9
  refine r_istore (pc := 495) dL_law_495 (by decide) (l2 := [some (vr a0), some (vr a1), some (vr a2), some (vr a3), some (vi x4), some (vi r3), some (vi r6)]) rfl ?_
  refine r_aload_n (pc := 497) dL_law_497 rfl rfl ?_
  refine c_VI0N (M := mL_law) (M2 := mX12_thrown) (pc := 498) (As := []) dL_law_498 K_X12_thrown w_1543 ⟨by decide, by decide⟩ (Nat.le_of_ble_eq_true rfl) rfl rfl (ci := 12) rfl rfl (by decide) h.1 h.2 (fun r8 τ9 h8 hr9 => ?_) rfl
  replace h := h8 hr9
  refine r_iload (pc := 501) dL_law_501 rfl ?_
  refine r_icmp_eq (pc := 503) (tgt := 508) dL_law_503 (by decide) (fun c9 => ?_) (fun c9 => ?_)
  · replace h := h.1 c9
    refine r_iload (pc := 508) dL_law_508 rfl ?_
    refine r_if_ne (pc := 510) (tgt := 525) dL_law_510 (by decide) (fun c9 => ?_) (fun c9 => ?_)
    · replace h := h.1 c9
      refine r_goto (pc := 525) (tgt := 2194) dL_law_525 (by decide) ?_
      exact GG.msk [true, true, true, true, true, false, false] h
    · replace h := h.2 c9
      refine r_aload_n (pc := 513) dL_law_513 rfl rfl ?_
      refine r_iconst (pc := 514) dL_law_514 (inRk rfl) ?_
      obtain ⟨o10, h⟩ := h
      refine r_laload (pc := 515) dL_law_515 o10 ?_
      refine r_iload (pc := 516) dL_law_516 rfl ?_
      refine r_i2l (pc := 518) dL_law_518 ?_
      refine r_lcmp_ifeq (pc := 519) (tgt := 525) dL_law_519 dL_law_520 (by decide) (fun c9 => ?_) (fun c9 => ?_)
      · replace h := h.1 c9
        refine r_goto (pc := 525) (tgt := 2194) dL_law_525 (by decide) ?_
        exact GG.msk [true, true, true, true, true, false, false] h
      · replace h := h.2 c9
        refine r_iconst (pc := 523) dL_law_523 (inRk rfl) ?_
        exact r_lawret0 (pc := 524) dL_law_524 rfl rfl rfl rfl h
  · replace h := h.2 c9
    refine r_iconst (pc := 506) dL_law_506 (inRk rfl) ?_
    exact r_lawret0 (pc := 507) dL_law_507 rfl rfl rfl rfl h
theorem B_L_law_528 {a0 : Nat} {a1 : Nat} {a2 : Nat} {a3 : Nat} {x4 : Int} (h : okO σ a1 11 ∧ CC E mX11_undo [vr a1] σ (KI (fun r1 τ2 => inR r1 → okO τ2 a2 12 ∧ CC E mX12_undo [vr a2] τ2 (KI (fun r3 τ4 => inR r3 → ((r1 = r3 → GG E mL_law 2194 [some (vr a0), some (vr a1), some (vr a2), some (vr a3), some (vi x4), none, none] [] τ4 rc rs Q) ∧ (¬ (r1 = r3) → (0 : Int) = 1))) (fun _ _ => False))) (fun _ _ => False))) : GG E mL_law 528 [some (vr a0), some (vr a1), some (vr a2), some (vr a3), some (vi x4), none, none] [] σ rc rs Q := by
  refine r_aload_n (pc := 528) dL_law_528 rfl rfl ?_
  refine c_VI0N (M := mL_law) (M2 := mX11_undo) (pc := 529) (As := []) dL_law_529 K_X11_undo w_656 ⟨by decide, by decide⟩ (Nat.le_of_ble_eq_true rfl) rfl rfl (ci := 11) rfl rfl (by decide) h.1 h.2 (fun r1 τ2 h8 hr9 => ?_) rfl
  replace h := h8 hr9
  refine r_aload_n (pc := 532) dL_law_532 rfl rfl ?_
  refine c_VI0N (M := mL_law) (M2 := mX12_undo) (pc := 533) (As := []) dL_law_533 K_X12_undo w_1640 ⟨by decide, by decide⟩ (Nat.le_of_ble_eq_true rfl) rfl rfl (ci := 12) rfl rfl (by decide) h.1 h.2 (fun r3 τ4 h8 hr9 => ?_) rfl
  replace h := h8 hr9
  refine r_icmp_eq (pc := 536) (tgt := 2194) dL_law_536 (by decide) (fun c9 => ?_) (fun c9 => ?_)
  · replace h := h.1 c9
    exact h
  · replace h := h.2 c9
    refine r_iconst (pc := 539) dL_law_539 (inRk rfl) ?_
    exact r_lawret0 (pc := 540) dL_law_540 rfl rfl rfl rfl h
theorem B_L_law_541 {a0 : Nat} {a1 : Nat} {a2 : Nat} {a3 : Nat} {x4 : Int} (h : inR (x4 + 1) ∧ okA 20 σ a0 (x4 + 1) ∧ okO σ a1 11 ∧ CC E mX11_why [vr a1, vi (gI σ a0 (x4 + 1).toNat)] σ (KI (fun r3 τ4 => inR r3 → okA 20 τ4 a0 (x4 + 1) ∧ okO τ4 a2 12 ∧ CC E mX12_why [vr a2, vi (gI τ4 a0 (x4 + 1).toNat)] τ4 (KI (fun r6 τ7 => inR r6 → ((r3 = r6 → GG E mL_law 2194 [some (vr a0), some (vr a1), some (vr a2), some (vr a3), some (vi x4), none, none] [] τ7 rc rs Q) ∧ (¬ (r3 = r6) → (0 : Int) = 1))) (fun _ _ => False))) (fun _ _ => False))) : GG E mL_law 541 [some (vr a0), some (vr a1), some (vr a2), some (vr a3), some (vi x4), none, none] [] σ rc rs Q := by
  refine r_aload_n (pc := 541) dL_law_541 rfl rfl ?_
  refine r_aload_n (pc := 542) dL_law_542 rfl rfl ?_
  refine r_iload (pc := 543) dL_law_543 rfl ?_
  refine r_iconst (pc := 545) dL_law_545 (inRk rfl) ?_
  obtain ⟨o1, h⟩ := h
  refine r_iadd (pc := 546) dL_law_546 o1 ?_
  obtain ⟨o2, h⟩ := h
  refine r_iaload (pc := 547) dL_law_547 o2 ?_
  refine c_VI0N (M := mL_law) (M2 := mX11_why) (pc := 548) (As := [vi (gI σ a0 (x4 + 1).toNat)]) dL_law_548 K_X11_why w_672 ⟨by decide, by decide⟩ (Nat.le_of_ble_eq_true rfl) rfl rfl (ci := 11) rfl rfl (by decide) h.1 h.2 (fun r3 τ4 h8 hr9 => ?_) rfl
  replace h := h8 hr9
  refine r_aload_n (pc := 551) dL_law_551 rfl rfl ?_
  refine r_aload_n (pc := 552) dL_law_552 rfl rfl ?_
  refine r_iload (pc := 553) dL_law_553 rfl ?_
  refine r_iconst (pc := 555) dL_law_555 (inRk rfl) ?_
  refine r_iadd (pc := 556) dL_law_556 o1 ?_
  obtain ⟨o5, h⟩ := h
  refine r_iaload (pc := 557) dL_law_557 o5 ?_
  refine c_VI0N (M := mL_law) (M2 := mX12_why) (pc := 558) (As := [vi (gI τ4 a0 (x4 + 1).toNat)]) dL_law_558 K_X12_why w_1644 ⟨by decide, by decide⟩ (Nat.le_of_ble_eq_true rfl) rfl rfl (ci := 12) rfl rfl (by decide) h.1 h.2 (fun r6 τ7 h8 hr9 => ?_) rfl
  replace h := h8 hr9
  refine r_icmp_eq (pc := 561) (tgt := 2194) dL_law_561 (by decide) (fun c9 => ?_) (fun c9 => ?_)
  · replace h := h.1 c9
    exact h
  · replace h := h.2 c9
    refine r_iconst (pc := 564) dL_law_564 (inRk rfl) ?_
    exact r_lawret0 (pc := 565) dL_law_565 rfl rfl rfl rfl h
theorem B_L_law_566 {a0 : Nat} {a1 : Nat} {a2 : Nat} {a3 : Nat} {x4 : Int} (h : inR (x4 + 1) ∧ okA 20 σ a0 (x4 + 1) ∧ 1 ≤ rc ∧ 6 ≤ rs ∧ CC E mL_told [vr a1, vi (gI σ a0 (x4 + 1).toNat), vr a3] σ (KI (fun r3 τ4 => inR r3 → okA 20 τ4 a0 (x4 + 1) ∧ okO τ4 a2 12 ∧ CC E mX12_told [vr a2, vi (gI τ4 a0 (x4 + 1).toNat)] τ4 (KI (fun r6 τ7 => inR r6 → okO τ7 a2 12 ∧ CC E mX12_thrown [vr a2] τ7 (KI (fun r8 τ9 => inR r8 → ((r8 = r3 → ((r3 ≠ 0 → GG E mL_law 2194 [some (vr a0), some (vr a1), some (vr a2), some (vr a3), some (vi x4), none, none] [] τ9 (rc - 1) (rs - 6) Q) ∧ (r3 = 0 → okB 23 τ9 a3 0 ∧ (((gI τ9 a3 0) = r6 → GG E mL_law 2194 [some (vr a0), some (vr a1), some (vr a2), some (vr a3), some (vi x4), none, none] [] τ9 (rc - 1) (rs - 6) Q) ∧ (¬ ((gI τ9 a3 0) = r6) → (0 : Int) = 1))))) ∧ (¬ (r8 = r3) → (0 : Int) = 1))) (fun _ _ => False))) (fun _ _ => False))) (fun _ _ => False))) : GG E mL_law 566 [some (vr a0), some (vr a1), some (vr a2), some (vr a3), some (vi x4), none, none] [] σ rc rs Q := by
  refine r_aload_n (pc := 566) dL_law_566 rfl rfl ?_
  refine r_aload_n (pc := 567) dL_law_567 rfl rfl ?_
  refine r_iload (pc := 568) dL_law_568 rfl ?_
  refine r_iconst (pc := 570) dL_law_570 (inRk rfl) ?_
  obtain ⟨o1, h⟩ := h
  refine r_iadd (pc := 571) dL_law_571 o1 ?_
  obtain ⟨o2, h⟩ := h
  refine r_iaload (pc := 572) dL_law_572 o2 ?_
  refine r_aload_n (pc := 573) dL_law_573 rfl rfl ?_
  refine c_SWIAN (M := mL_law) (M2 := mL_told) (pc := 574) (As := [vr a1, vi (gI σ a0 (x4 + 1).toNat), vr a3]) dL_law_574 rfl w_968 w_97 w_967 ⟨by decide +kernel, by decide +kernel, by show _ = some 3; decide +kernel⟩ w_966 ⟨by decide, by decide⟩ (Nat.le_of_ble_eq_true rfl) h.1 h.2.1 h.2.2 (fun r3 τ4 h8 hr9 => ?_) rfl
  replace h := h8 hr9
  refine r_istore (pc := 577) dL_law_577 (by decide) (l2 := [some (vr a0), some (vr a1), some (vr a2), some (vr a3), some (vi x4), some (vi r3), none]) rfl ?_
  refine r_aload_n (pc := 579) dL_law_579 rfl rfl ?_
  refine r_aload_n (pc := 580) dL_law_580 rfl rfl ?_
  refine r_iload (pc := 581) dL_law_581 rfl ?_
  refine r_iconst (pc := 583) dL_law_583 (inRk rfl) ?_
  refine r_iadd (pc := 584) dL_law_584 o1 ?_
  obtain ⟨o5, h⟩ := h
  refine r_iaload (pc := 585) dL_law_585 o5 ?_
  refine c_VI0N (M := mL_law) (M2 := mX12_told) (pc := 586) (As := [vi (gI τ4 a0 (x4 + 1).toNat)]) dL_law_586 K_X12_told w_1648 ⟨by decide, by decide⟩ (Nat.le_of_ble_eq_true rfl) rfl rfl (ci := 12) rfl rfl (by decide) h.1 h.2 (fun r6 τ7 h8 hr9 => ?_) rfl
  replace h := h8 hr9
  refine r_istore (pc := 589) dL_law_589 (by decide) (l2 := [some (vr a0), some (vr a1), some (vr a2), some (vr a3), some (vi x4), some (vi r3), some (vi r6)]) rfl ?_
  refine r_aload_n (pc := 591) dL_law_591 rfl rfl ?_
  refine c_VI0N (M := mL_law) (M2 := mX12_thrown) (pc := 592) (As := []) dL_law_592 K_X12_thrown w_1543 ⟨by decide, by decide⟩ (Nat.le_of_ble_eq_true rfl) rfl rfl (ci := 12) rfl rfl (by decide) h.1 h.2 (fun r8 τ9 h8 hr9 => ?_) rfl
  replace h := h8 hr9
  refine r_iload (pc := 595) dL_law_595 rfl ?_
  refine r_icmp_eq (pc := 597) (tgt := 602) dL_law_597 (by decide) (fun c9 => ?_) (fun c9 => ?_)
  · replace h := h.1 c9
    refine r_iload (pc := 602) dL_law_602 rfl ?_
    refine r_if_ne (pc := 604) (tgt := 619) dL_law_604 (by decide) (fun c9 => ?_) (fun c9 => ?_)
    · replace h := h.1 c9
      refine r_goto (pc := 619) (tgt := 2194) dL_law_619 (by decide) ?_
      exact GG.msk [true, true, true, true, true, false, false] h
    · replace h := h.2 c9
      refine r_aload_n (pc := 607) dL_law_607 rfl rfl ?_
      refine r_iconst (pc := 608) dL_law_608 (inRk rfl) ?_
      obtain ⟨o10, h⟩ := h
      refine r_laload (pc := 609) dL_law_609 o10 ?_
      refine r_iload (pc := 610) dL_law_610 rfl ?_
      refine r_i2l (pc := 612) dL_law_612 ?_
      refine r_lcmp_ifeq (pc := 613) (tgt := 619) dL_law_613 dL_law_614 (by decide) (fun c9 => ?_) (fun c9 => ?_)
      · replace h := h.1 c9
        refine r_goto (pc := 619) (tgt := 2194) dL_law_619 (by decide) ?_
        exact GG.msk [true, true, true, true, true, false, false] h
      · replace h := h.2 c9
        refine r_iconst (pc := 617) dL_law_617 (inRk rfl) ?_
        exact r_lawret0 (pc := 618) dL_law_618 rfl rfl rfl rfl h
  · replace h := h.2 c9
    refine r_iconst (pc := 600) dL_law_600 (inRk rfl) ?_
    exact r_lawret0 (pc := 601) dL_law_601 rfl rfl rfl rfl h
theorem B_L_law_622 {a0 : Nat} {a1 : Nat} {a2 : Nat} {a3 : Nat} {x4 : Int} (h : inR (x4 + 1) ∧ okA 20 σ a0 (x4 + 1) ∧ inR (x4 + 2) ∧ okA 20 σ a0 (x4 + 2) ∧ 2 ≤ rc ∧ 12 ≤ rs ∧ CC E mL_element [vr a1, vi (gI σ a0 (x4 + 1).toNat), vi (gI σ a0 (x4 + 2).toNat), vr a3] σ (KI (fun r5 τ6 => inR r5 → okA 20 τ6 a0 (x4 + 1) ∧ okA 20 τ6 a0 (x4 + 2) ∧ okO τ6 a2 12 ∧ CC E mX12_element [vr a2, vi (gI τ6 a0 (x4 + 1).toNat), vi (gI τ6 a0 (x4 + 2).toNat)] τ6 (KI (fun r9 τ10 => inR r9 → okO τ10 a2 12 ∧ CC E mX12_thrown [vr a2] τ10 (KI (fun r11 τ12 => inR r11 → ((r11 = r5 → ((r5 ≠ 0 → GG E mL_law 2194 [some (vr a0), some (vr a1), some (vr a2), some (vr a3), some (vi x4), none, none] [] τ12 (rc - 2) (rs - 12) Q) ∧ (r5 = 0 → okB 23 τ12 a3 0 ∧ (((gI τ12 a3 0) = r9 → GG E mL_law 2194 [some (vr a0), some (vr a1), some (vr a2), some (vr a3), some (vi x4), none, none] [] τ12 (rc - 2) (rs - 12) Q) ∧ (¬ ((gI τ12 a3 0) = r9) → (0 : Int) = 1))))) ∧ (¬ (r11 = r5) → (0 : Int) = 1))) (fun _ _ => False))) (fun _ _ => False))) (fun _ _ => False))) : GG E mL_law 622 [some (vr a0), some (vr a1), some (vr a2), some (vr a3), some (vi x4), none, none] [] σ rc rs Q := by
  refine r_aload_n (pc := 622) dL_law_622 rfl rfl ?_
  refine r_aload_n (pc := 623) dL_law_623 rfl rfl ?_
  refine r_iload (pc := 624) dL_law_624 rfl ?_
  refine r_iconst (pc := 626) dL_law_626 (inRk rfl) ?_
  obtain ⟨o1, h⟩ := h
  refine r_iadd (pc := 627) dL_law_627 o1 ?_
  obtain ⟨o2, h⟩ := h
  refine r_iaload (pc := 628) dL_law_628 o2 ?_
  refine r_aload_n (pc := 629) dL_law_629 rfl rfl ?_
  refine r_iload (pc := 630) dL_law_630 rfl ?_
  refine r_iconst (pc := 632) dL_law_632 (inRk rfl) ?_
  obtain ⟨o3, h⟩ := h
  refine r_iadd (pc := 633) dL_law_633 o3 ?_
  obtain ⟨o4, h⟩ := h
  refine r_iaload (pc := 634) dL_law_634 o4 ?_
  refine r_aload_n (pc := 635) dL_law_635 rfl rfl ?_
  refine c_SWIAN (M := mL_law) (M2 := mL_element) (pc := 636) (As := [vr a1, vi (gI σ a0 (x4 + 1).toNat), vi (gI σ a0 (x4 + 2).toNat), vr a3]) dL_law_636 rfl w_1135 w_97 w_1134 ⟨by decide +kernel, by decide +kernel, by show _ = some 4; decide +kernel⟩ w_1133 ⟨by decide, by decide⟩ (Nat.le_of_ble_eq_true rfl) h.1 h.2.1 h.2.2 (fun r5 τ6 h8 hr9 => ?_) rfl
  replace h := h8 hr9
  refine r_istore (pc := 639) dL_law_639 (by decide) (l2 := [some (vr a0), some (vr a1), some (vr a2), some (vr a3), some (vi x4), some (vi r5), none]) rfl ?_
  refine r_aload_n (pc := 641) dL_law_641 rfl rfl ?_
  refine r_aload_n (pc := 642) dL_law_642 rfl rfl ?_
  refine r_iload (pc := 643) dL_law_643 rfl ?_
  refine r_iconst (pc := 645) dL_law_645 (inRk rfl) ?_
  refine r_iadd (pc := 646) dL_law_646 o1 ?_
  obtain ⟨o7, h⟩ := h
  refine r_iaload (pc := 647) dL_law_647 o7 ?_
  refine r_aload_n (pc := 648) dL_law_648 rfl rfl ?_
  refine r_iload (pc := 649) dL_law_649 rfl ?_
  refine r_iconst (pc := 651) dL_law_651 (inRk rfl) ?_
  refine r_iadd (pc := 652) dL_law_652 o3 ?_
  obtain ⟨o8, h⟩ := h
  refine r_iaload (pc := 653) dL_law_653 o8 ?_
  refine c_VI0N (M := mL_law) (M2 := mX12_element) (pc := 654) (As := [vi (gI τ6 a0 (x4 + 1).toNat), vi (gI τ6 a0 (x4 + 2).toNat)]) dL_law_654 K_X12_element w_1742 ⟨by decide, by decide⟩ (Nat.le_of_ble_eq_true rfl) rfl rfl (ci := 12) rfl rfl (by decide) h.1 h.2 (fun r9 τ10 h8 hr9 => ?_) rfl
  replace h := h8 hr9
  refine r_istore (pc := 657) dL_law_657 (by decide) (l2 := [some (vr a0), some (vr a1), some (vr a2), some (vr a3), some (vi x4), some (vi r5), some (vi r9)]) rfl ?_
  refine r_aload_n (pc := 659) dL_law_659 rfl rfl ?_
  refine c_VI0N (M := mL_law) (M2 := mX12_thrown) (pc := 660) (As := []) dL_law_660 K_X12_thrown w_1543 ⟨by decide, by decide⟩ (Nat.le_of_ble_eq_true rfl) rfl rfl (ci := 12) rfl rfl (by decide) h.1 h.2 (fun r11 τ12 h8 hr9 => ?_) rfl
  replace h := h8 hr9
  refine r_iload (pc := 663) dL_law_663 rfl ?_
  refine r_icmp_eq (pc := 665) (tgt := 670) dL_law_665 (by decide) (fun c9 => ?_) (fun c9 => ?_)
  · replace h := h.1 c9
    refine r_iload (pc := 670) dL_law_670 rfl ?_
    refine r_if_ne (pc := 672) (tgt := 687) dL_law_672 (by decide) (fun c9 => ?_) (fun c9 => ?_)
    · replace h := h.1 c9
      refine r_goto (pc := 687) (tgt := 2194) dL_law_687 (by decide) ?_
      exact GG.msk [true, true, true, true, true, false, false] h
    · replace h := h.2 c9
      refine r_aload_n (pc := 675) dL_law_675 rfl rfl ?_
      refine r_iconst (pc := 676) dL_law_676 (inRk rfl) ?_
      obtain ⟨o13, h⟩ := h
      refine r_laload (pc := 677) dL_law_677 o13 ?_
      refine r_iload (pc := 678) dL_law_678 rfl ?_
      refine r_i2l (pc := 680) dL_law_680 ?_
      refine r_lcmp_ifeq (pc := 681) (tgt := 687) dL_law_681 dL_law_682 (by decide) (fun c9 => ?_) (fun c9 => ?_)
      · replace h := h.1 c9
        refine r_goto (pc := 687) (tgt := 2194) dL_law_687 (by decide) ?_
        exact GG.msk [true, true, true, true, true, false, false] h
      · replace h := h.2 c9
        refine r_iconst (pc := 685) dL_law_685 (inRk rfl) ?_
        exact r_lawret0 (pc := 686) dL_law_686 rfl rfl rfl rfl h
  · replace h := h.2 c9
    refine r_iconst (pc := 668) dL_law_668 (inRk rfl) ?_
    exact r_lawret0 (pc := 669) dL_law_669 rfl rfl rfl rfl h
theorem B_L_law_690 {a0 : Nat} {a1 : Nat} {a2 : Nat} {a3 : Nat} {x4 : Int} (h : inR (x4 + 1) ∧ okA 20 σ a0 (x4 + 1) ∧ inR (x4 + 2) ∧ okA 20 σ a0 (x4 + 2) ∧ inR (x4 + 3) ∧ okA 20 σ a0 (x4 + 3) ∧ inR (x4 + 4) ∧ okA 20 σ a0 (x4 + 4) ∧ inR (x4 + 5) ∧ okA 20 σ a0 (x4 + 5) ∧ inR (x4 + 6) ∧ okA 20 σ a0 (x4 + 6) ∧ inR (x4 + 7) ∧ okA 20 σ a0 (x4 + 7) ∧ inR (x4 + 8) ∧ okA 20 σ a0 (x4 + 8) ∧ okO σ a1 11 ∧ CC E mX11_find [vr a1, vi (gI σ a0 (x4 + 1).toNat), vi (gI σ a0 (x4 + 2).toNat), vi (gI σ a0 (x4 + 3).toNat), vi (gI σ a0 (x4 + 4).toNat), vi (gI σ a0 (x4 + 5).toNat), vi (gI σ a0 (x4 + 6).toNat), vi (gI σ a0 (x4 + 7).toNat), vi (gI σ a0 (x4 + 8).toNat)] σ (KI (fun r17 τ18 => inR r17 → okA 20 τ18 a0 (x4 + 1) ∧ okA 20 τ18 a0 (x4 + 2) ∧ okA 20 τ18 a0 (x4 + 3) ∧ okA 20 τ18 a0 (x4 + 4) ∧ okA 20 τ18 a0 (x4 + 5) ∧ okA 20 τ18 a0 (x4 + 6) ∧ okA 20 τ18 a0 (x4 + 7) ∧ okA 20 τ18 a0 (x4 + 8) ∧ 1 ≤ rc ∧ 8 ≤ rs ∧ okO τ18 a2 12 ∧ CC E mX12_find [vr a2, vi (gI τ18 a0 (x4 + 1).toNat), vi (gI τ18 a0 (x4 + 2).toNat), vi (gI τ18 a0 (x4 + 3).toNat), vi (gI τ18 a0 (x4 + 4).toNat), vi (gI τ18 a0 (x4 + 5).toNat), vi (gI τ18 a0 (x4 + 6).toNat), vi (gI τ18 a0 (x4 + 7).toNat), vi (gI τ18 a0 (x4 + 8).toNat)] τ18 (KI (fun r27 τ28 => inR r27 → ((r17 = r27 → GG E mL_law 2194 [some (vr a0), some (vr a1), some (vr a2), some (vr a3), some (vi x4), none, none] [] τ28 (rc - 1) (rs - 8) Q) ∧ (¬ (r17 = r27) → (0 : Int) = 1))) (fun _ _ => False))) (fun _ _ => False))) : GG E mL_law 690 [some (vr a0), some (vr a1), some (vr a2), some (vr a3), some (vi x4), none, none] [] σ rc rs Q := by
  refine r_aload_n (pc := 690) dL_law_690 rfl rfl ?_
  refine r_aload_n (pc := 691) dL_law_691 rfl rfl ?_
  refine r_iload (pc := 692) dL_law_692 rfl ?_
  refine r_iconst (pc := 694) dL_law_694 (inRk rfl) ?_
  obtain ⟨o1, h⟩ := h
  refine r_iadd (pc := 695) dL_law_695 o1 ?_
  obtain ⟨o2, h⟩ := h
  refine r_iaload (pc := 696) dL_law_696 o2 ?_
  refine r_aload_n (pc := 697) dL_law_697 rfl rfl ?_
  refine r_iload (pc := 698) dL_law_698 rfl ?_
  refine r_iconst (pc := 700) dL_law_700 (inRk rfl) ?_
  obtain ⟨o3, h⟩ := h
  refine r_iadd (pc := 701) dL_law_701 o3 ?_
  obtain ⟨o4, h⟩ := h
  refine r_iaload (pc := 702) dL_law_702 o4 ?_
  refine r_aload_n (pc := 703) dL_law_703 rfl rfl ?_
  refine r_iload (pc := 704) dL_law_704 rfl ?_
  refine r_iconst (pc := 706) dL_law_706 (inRk rfl) ?_
  obtain ⟨o5, h⟩ := h
  refine r_iadd (pc := 707) dL_law_707 o5 ?_
  obtain ⟨o6, h⟩ := h
  refine r_iaload (pc := 708) dL_law_708 o6 ?_
  refine r_aload_n (pc := 709) dL_law_709 rfl rfl ?_
  refine r_iload (pc := 710) dL_law_710 rfl ?_
  refine r_iconst (pc := 712) dL_law_712 (inRk rfl) ?_
  obtain ⟨o7, h⟩ := h
  refine r_iadd (pc := 713) dL_law_713 o7 ?_
  obtain ⟨o8, h⟩ := h
  refine r_iaload (pc := 714) dL_law_714 o8 ?_
  refine r_aload_n (pc := 715) dL_law_715 rfl rfl ?_
  refine r_iload (pc := 716) dL_law_716 rfl ?_
  refine r_iconst (pc := 718) dL_law_718 (inRk rfl) ?_
  obtain ⟨o9, h⟩ := h
  refine r_iadd (pc := 719) dL_law_719 o9 ?_
  obtain ⟨o10, h⟩ := h
  refine r_iaload (pc := 720) dL_law_720 o10 ?_
  refine r_aload_n (pc := 721) dL_law_721 rfl rfl ?_
  refine r_iload (pc := 722) dL_law_722 rfl ?_
  refine r_bipush (pc := 724) dL_law_724 (by decide) ?_
  obtain ⟨o11, h⟩ := h
  refine r_iadd (pc := 726) dL_law_726 o11 ?_
  obtain ⟨o12, h⟩ := h
  refine r_iaload (pc := 727) dL_law_727 o12 ?_
  refine r_aload_n (pc := 728) dL_law_728 rfl rfl ?_
  refine r_iload (pc := 729) dL_law_729 rfl ?_
  refine r_bipush (pc := 731) dL_law_731 (by decide) ?_
  obtain ⟨o13, h⟩ := h
  refine r_iadd (pc := 733) dL_law_733 o13 ?_
  obtain ⟨o14, h⟩ := h
  refine r_iaload (pc := 734) dL_law_734 o14 ?_
  refine r_aload_n (pc := 735) dL_law_735 rfl rfl ?_
  refine r_iload (pc := 736) dL_law_736 rfl ?_
  refine r_bipush (pc := 738) dL_law_738 (by decide) ?_
  obtain ⟨o15, h⟩ := h
  refine r_iadd (pc := 740) dL_law_740 o15 ?_
  obtain ⟨o16, h⟩ := h
  refine r_iaload (pc := 741) dL_law_741 o16 ?_
  refine c_VI0N (M := mL_law) (M2 := mX11_find) (pc := 742) (As := [vi (gI σ a0 (x4 + 1).toNat), vi (gI σ a0 (x4 + 2).toNat), vi (gI σ a0 (x4 + 3).toNat), vi (gI σ a0 (x4 + 4).toNat), vi (gI σ a0 (x4 + 5).toNat), vi (gI σ a0 (x4 + 6).toNat), vi (gI σ a0 (x4 + 7).toNat), vi (gI σ a0 (x4 + 8).toNat)]) dL_law_742 K_X11_find w_676 ⟨by decide, by decide⟩ (Nat.le_of_ble_eq_true rfl) rfl rfl (ci := 11) rfl rfl (by decide) h.1 h.2 (fun r17 τ18 h8 hr9 => ?_) rfl
  replace h := h8 hr9
  refine r_aload_n (pc := 745) dL_law_745 rfl rfl ?_
  refine r_aload_n (pc := 746) dL_law_746 rfl rfl ?_
  refine r_iload (pc := 747) dL_law_747 rfl ?_
  refine r_iconst (pc := 749) dL_law_749 (inRk rfl) ?_
  refine r_iadd (pc := 750) dL_law_750 o1 ?_
  obtain ⟨o19, h⟩ := h
  refine r_iaload (pc := 751) dL_law_751 o19 ?_
  refine r_aload_n (pc := 752) dL_law_752 rfl rfl ?_
  refine r_iload (pc := 753) dL_law_753 rfl ?_
  refine r_iconst (pc := 755) dL_law_755 (inRk rfl) ?_
  refine r_iadd (pc := 756) dL_law_756 o3 ?_
  obtain ⟨o20, h⟩ := h
  refine r_iaload (pc := 757) dL_law_757 o20 ?_
  refine r_aload_n (pc := 758) dL_law_758 rfl rfl ?_
  refine r_iload (pc := 759) dL_law_759 rfl ?_
  refine r_iconst (pc := 761) dL_law_761 (inRk rfl) ?_
  refine r_iadd (pc := 762) dL_law_762 o5 ?_
  obtain ⟨o21, h⟩ := h
  refine r_iaload (pc := 763) dL_law_763 o21 ?_
  refine r_aload_n (pc := 764) dL_law_764 rfl rfl ?_
  refine r_iload (pc := 765) dL_law_765 rfl ?_
  refine r_iconst (pc := 767) dL_law_767 (inRk rfl) ?_
  refine r_iadd (pc := 768) dL_law_768 o7 ?_
  obtain ⟨o22, h⟩ := h
  refine r_iaload (pc := 769) dL_law_769 o22 ?_
  refine r_aload_n (pc := 770) dL_law_770 rfl rfl ?_
  refine r_iload (pc := 771) dL_law_771 rfl ?_
  refine r_iconst (pc := 773) dL_law_773 (inRk rfl) ?_
  refine r_iadd (pc := 774) dL_law_774 o9 ?_
  obtain ⟨o23, h⟩ := h
  refine r_iaload (pc := 775) dL_law_775 o23 ?_
  refine r_aload_n (pc := 776) dL_law_776 rfl rfl ?_
  refine r_iload (pc := 777) dL_law_777 rfl ?_
  refine r_bipush (pc := 779) dL_law_779 (by decide) ?_
  refine r_iadd (pc := 781) dL_law_781 o11 ?_
  obtain ⟨o24, h⟩ := h
  refine r_iaload (pc := 782) dL_law_782 o24 ?_
  refine r_aload_n (pc := 783) dL_law_783 rfl rfl ?_
  refine r_iload (pc := 784) dL_law_784 rfl ?_
  refine r_bipush (pc := 786) dL_law_786 (by decide) ?_
  refine r_iadd (pc := 788) dL_law_788 o13 ?_
  obtain ⟨o25, h⟩ := h
  refine r_iaload (pc := 789) dL_law_789 o25 ?_
  refine r_aload_n (pc := 790) dL_law_790 rfl rfl ?_
  refine r_iload (pc := 791) dL_law_791 rfl ?_
  refine r_bipush (pc := 793) dL_law_793 (by decide) ?_
  refine r_iadd (pc := 795) dL_law_795 o15 ?_
  obtain ⟨o26, h⟩ := h
  refine r_iaload (pc := 796) dL_law_796 o26 ?_
  refine c_VIAN (M := mL_law) (M2 := mX12_find) (pc := 797) (As := [vi (gI τ18 a0 (x4 + 1).toNat), vi (gI τ18 a0 (x4 + 2).toNat), vi (gI τ18 a0 (x4 + 3).toNat), vi (gI τ18 a0 (x4 + 4).toNat), vi (gI τ18 a0 (x4 + 5).toNat), vi (gI τ18 a0 (x4 + 6).toNat), vi (gI τ18 a0 (x4 + 7).toNat), vi (gI τ18 a0 (x4 + 8).toNat)]) dL_law_797 K_X12_find w_1750 ⟨by decide, by decide⟩ (Nat.le_of_ble_eq_true rfl) h.1 h.2.1 (ci := 12) rfl rfl (by decide) h.2.2.1 h.2.2.2 (fun r27 τ28 h8 hr9 => ?_) rfl
  replace h := h8 hr9
  refine r_icmp_eq (pc := 800) (tgt := 2194) dL_law_800 (by decide) (fun c9 => ?_) (fun c9 => ?_)
  · replace h := h.1 c9
    exact h
  · replace h := h.2 c9
    refine r_iconst (pc := 803) dL_law_803 (inRk rfl) ?_
    exact r_lawret0 (pc := 804) dL_law_804 rfl rfl rfl rfl h
theorem B_L_law_805 {a0 : Nat} {a1 : Nat} {a2 : Nat} {a3 : Nat} {x4 : Int} (h : inR (x4 + 1) ∧ okA 20 σ a0 (x4 + 1) ∧ inR (x4 + 2) ∧ okA 20 σ a0 (x4 + 2) ∧ 2 ≤ rc ∧ 12 ≤ rs ∧ CC E mL_product [vr a1, vi (gI σ a0 (x4 + 1).toNat), vi (gI σ a0 (x4 + 2).toNat), vr a3] σ (KI (fun r5 τ6 => inR r5 → okA 20 τ6 a0 (x4 + 1) ∧ okA 20 τ6 a0 (x4 + 2) ∧ okO τ6 a2 12 ∧ CC E mX12_product [vr a2, vi (gI τ6 a0 (x4 + 1).toNat), vi (gI τ6 a0 (x4 + 2).toNat)] τ6 (KI (fun r9 τ10 => inR r9 → okO τ10 a2 12 ∧ CC E mX12_thrown [vr a2] τ10 (KI (fun r11 τ12 => inR r11 → ((r11 = r5 → ((r5 ≠ 0 → GG E mL_law 2194 [some (vr a0), some (vr a1), some (vr a2), some (vr a3), some (vi x4), none, none] [] τ12 (rc - 2) (rs - 12) Q) ∧ (r5 = 0 → okB 23 τ12 a3 0 ∧ (((gI τ12 a3 0) = r9 → GG E mL_law 2194 [some (vr a0), some (vr a1), some (vr a2), some (vr a3), some (vi x4), none, none] [] τ12 (rc - 2) (rs - 12) Q) ∧ (¬ ((gI τ12 a3 0) = r9) → (0 : Int) = 1))))) ∧ (¬ (r11 = r5) → (0 : Int) = 1))) (fun _ _ => False))) (fun _ _ => False))) (fun _ _ => False))) : GG E mL_law 805 [some (vr a0), some (vr a1), some (vr a2), some (vr a3), some (vi x4), none, none] [] σ rc rs Q := by
  refine r_aload_n (pc := 805) dL_law_805 rfl rfl ?_
  refine r_aload_n (pc := 806) dL_law_806 rfl rfl ?_
  refine r_iload (pc := 807) dL_law_807 rfl ?_
  refine r_iconst (pc := 809) dL_law_809 (inRk rfl) ?_
  obtain ⟨o1, h⟩ := h
  refine r_iadd (pc := 810) dL_law_810 o1 ?_
  obtain ⟨o2, h⟩ := h
  refine r_iaload (pc := 811) dL_law_811 o2 ?_
  refine r_aload_n (pc := 812) dL_law_812 rfl rfl ?_
  refine r_iload (pc := 813) dL_law_813 rfl ?_
  refine r_iconst (pc := 815) dL_law_815 (inRk rfl) ?_
  obtain ⟨o3, h⟩ := h
  refine r_iadd (pc := 816) dL_law_816 o3 ?_
  obtain ⟨o4, h⟩ := h
  refine r_iaload (pc := 817) dL_law_817 o4 ?_
  refine r_aload_n (pc := 818) dL_law_818 rfl rfl ?_
  refine c_SWIAN (M := mL_law) (M2 := mL_product) (pc := 819) (As := [vr a1, vi (gI σ a0 (x4 + 1).toNat), vi (gI σ a0 (x4 + 2).toNat), vr a3]) dL_law_819 rfl w_1142 w_97 w_1141 ⟨by decide +kernel, by decide +kernel, by show _ = some 4; decide +kernel⟩ w_1140 ⟨by decide, by decide⟩ (Nat.le_of_ble_eq_true rfl) h.1 h.2.1 h.2.2 (fun r5 τ6 h8 hr9 => ?_) rfl
  replace h := h8 hr9
  refine r_istore (pc := 822) dL_law_822 (by decide) (l2 := [some (vr a0), some (vr a1), some (vr a2), some (vr a3), some (vi x4), some (vi r5), none]) rfl ?_
  refine r_aload_n (pc := 824) dL_law_824 rfl rfl ?_
  refine r_aload_n (pc := 825) dL_law_825 rfl rfl ?_
  refine r_iload (pc := 826) dL_law_826 rfl ?_
  refine r_iconst (pc := 828) dL_law_828 (inRk rfl) ?_
  refine r_iadd (pc := 829) dL_law_829 o1 ?_
  obtain ⟨o7, h⟩ := h
  refine r_iaload (pc := 830) dL_law_830 o7 ?_
  refine r_aload_n (pc := 831) dL_law_831 rfl rfl ?_
  refine r_iload (pc := 832) dL_law_832 rfl ?_
  refine r_iconst (pc := 834) dL_law_834 (inRk rfl) ?_
  refine r_iadd (pc := 835) dL_law_835 o3 ?_
  obtain ⟨o8, h⟩ := h
  refine r_iaload (pc := 836) dL_law_836 o8 ?_
  refine c_VI0N (M := mL_law) (M2 := mX12_product) (pc := 837) (As := [vi (gI τ6 a0 (x4 + 1).toNat), vi (gI τ6 a0 (x4 + 2).toNat)]) dL_law_837 K_X12_product w_1754 ⟨by decide, by decide⟩ (Nat.le_of_ble_eq_true rfl) rfl rfl (ci := 12) rfl rfl (by decide) h.1 h.2 (fun r9 τ10 h8 hr9 => ?_) rfl
  replace h := h8 hr9
  refine r_istore (pc := 840) dL_law_840 (by decide) (l2 := [some (vr a0), some (vr a1), some (vr a2), some (vr a3), some (vi x4), some (vi r5), some (vi r9)]) rfl ?_
  refine r_aload_n (pc := 842) dL_law_842 rfl rfl ?_
  refine c_VI0N (M := mL_law) (M2 := mX12_thrown) (pc := 843) (As := []) dL_law_843 K_X12_thrown w_1543 ⟨by decide, by decide⟩ (Nat.le_of_ble_eq_true rfl) rfl rfl (ci := 12) rfl rfl (by decide) h.1 h.2 (fun r11 τ12 h8 hr9 => ?_) rfl
  replace h := h8 hr9
  refine r_iload (pc := 846) dL_law_846 rfl ?_
  refine r_icmp_eq (pc := 848) (tgt := 853) dL_law_848 (by decide) (fun c9 => ?_) (fun c9 => ?_)
  · replace h := h.1 c9
    refine r_iload (pc := 853) dL_law_853 rfl ?_
    refine r_if_ne (pc := 855) (tgt := 870) dL_law_855 (by decide) (fun c9 => ?_) (fun c9 => ?_)
    · replace h := h.1 c9
      refine r_goto (pc := 870) (tgt := 2194) dL_law_870 (by decide) ?_
      exact GG.msk [true, true, true, true, true, false, false] h
    · replace h := h.2 c9
      refine r_aload_n (pc := 858) dL_law_858 rfl rfl ?_
      refine r_iconst (pc := 859) dL_law_859 (inRk rfl) ?_
      obtain ⟨o13, h⟩ := h
      refine r_laload (pc := 860) dL_law_860 o13 ?_
      refine r_iload (pc := 861) dL_law_861 rfl ?_
      refine r_i2l (pc := 863) dL_law_863 ?_
      refine r_lcmp_ifeq (pc := 864) (tgt := 870) dL_law_864 dL_law_865 (by decide) (fun c9 => ?_) (fun c9 => ?_)
      · replace h := h.1 c9
        refine r_goto (pc := 870) (tgt := 2194) dL_law_870 (by decide) ?_
        exact GG.msk [true, true, true, true, true, false, false] h
      · replace h := h.2 c9
        refine r_iconst (pc := 868) dL_law_868 (inRk rfl) ?_
        exact r_lawret0 (pc := 869) dL_law_869 rfl rfl rfl rfl h
  · replace h := h.2 c9
    refine r_iconst (pc := 851) dL_law_851 (inRk rfl) ?_
    exact r_lawret0 (pc := 852) dL_law_852 rfl rfl rfl rfl h
theorem B_L_law_873 {a0 : Nat} {a1 : Nat} {a2 : Nat} {a3 : Nat} {x4 : Int} (h : inR (x4 + 1) ∧ okA 20 σ a0 (x4 + 1) ∧ inR (x4 + 2) ∧ okA 20 σ a0 (x4 + 2) ∧ 1 ≤ rc ∧ 6 ≤ rs ∧ CC E mL_power [vr a1, vi (gI σ a0 (x4 + 1).toNat), vi (gI σ a0 (x4 + 2).toNat), vr a3] σ (KI (fun r5 τ6 => inR r5 → okA 20 τ6 a0 (x4 + 1) ∧ okA 20 τ6 a0 (x4 + 2) ∧ okO τ6 a2 12 ∧ CC E mX12_power [vr a2, vi (gI τ6 a0 (x4 + 1).toNat), vi (gI τ6 a0 (x4 + 2).toNat)] τ6 (KI (fun r9 τ10 => inR r9 → okO τ10 a2 12 ∧ CC E mX12_thrown [vr a2] τ10 (KI (fun r11 τ12 => inR r11 → ((r11 = r5 → ((r5 ≠ 0 → GG E mL_law 2194 [some (vr a0), some (vr a1), some (vr a2), some (vr a3), some (vi x4), none, none] [] τ12 (rc - 1) (rs - 6) Q) ∧ (r5 = 0 → okB 23 τ12 a3 0 ∧ (((gI τ12 a3 0) = r9 → GG E mL_law 2194 [some (vr a0), some (vr a1), some (vr a2), some (vr a3), some (vi x4), none, none] [] τ12 (rc - 1) (rs - 6) Q) ∧ (¬ ((gI τ12 a3 0) = r9) → (0 : Int) = 1))))) ∧ (¬ (r11 = r5) → (0 : Int) = 1))) (fun _ _ => False))) (fun _ _ => False))) (fun _ _ => False))) : GG E mL_law 873 [some (vr a0), some (vr a1), some (vr a2), some (vr a3), some (vi x4), none, none] [] σ rc rs Q := by
  refine r_aload_n (pc := 873) dL_law_873 rfl rfl ?_
  refine r_aload_n (pc := 874) dL_law_874 rfl rfl ?_
  refine r_iload (pc := 875) dL_law_875 rfl ?_
  refine r_iconst (pc := 877) dL_law_877 (inRk rfl) ?_
  obtain ⟨o1, h⟩ := h
  refine r_iadd (pc := 878) dL_law_878 o1 ?_
  obtain ⟨o2, h⟩ := h
  refine r_iaload (pc := 879) dL_law_879 o2 ?_
  refine r_aload_n (pc := 880) dL_law_880 rfl rfl ?_
  refine r_iload (pc := 881) dL_law_881 rfl ?_
  refine r_iconst (pc := 883) dL_law_883 (inRk rfl) ?_
  obtain ⟨o3, h⟩ := h
  refine r_iadd (pc := 884) dL_law_884 o3 ?_
  obtain ⟨o4, h⟩ := h
  refine r_iaload (pc := 885) dL_law_885 o4 ?_
  refine r_aload_n (pc := 886) dL_law_886 rfl rfl ?_
  refine c_SWIAN (M := mL_law) (M2 := mL_power) (pc := 887) (As := [vr a1, vi (gI σ a0 (x4 + 1).toNat), vi (gI σ a0 (x4 + 2).toNat), vr a3]) dL_law_887 rfl w_1150 w_97 w_1149 ⟨by decide +kernel, by decide +kernel, by show _ = some 4; decide +kernel⟩ w_1148 ⟨by decide, by decide⟩ (Nat.le_of_ble_eq_true rfl) h.1 h.2.1 h.2.2 (fun r5 τ6 h8 hr9 => ?_) rfl
  replace h := h8 hr9
  refine r_istore (pc := 890) dL_law_890 (by decide) (l2 := [some (vr a0), some (vr a1), some (vr a2), some (vr a3), some (vi x4), some (vi r5), none]) rfl ?_
  refine r_aload_n (pc := 892) dL_law_892 rfl rfl ?_
  refine r_aload_n (pc := 893) dL_law_893 rfl rfl ?_
  refine r_iload (pc := 894) dL_law_894 rfl ?_
  refine r_iconst (pc := 896) dL_law_896 (inRk rfl) ?_
  refine r_iadd (pc := 897) dL_law_897 o1 ?_
  obtain ⟨o7, h⟩ := h
  refine r_iaload (pc := 898) dL_law_898 o7 ?_
  refine r_aload_n (pc := 899) dL_law_899 rfl rfl ?_
  refine r_iload (pc := 900) dL_law_900 rfl ?_
  refine r_iconst (pc := 902) dL_law_902 (inRk rfl) ?_
  refine r_iadd (pc := 903) dL_law_903 o3 ?_
  obtain ⟨o8, h⟩ := h
  refine r_iaload (pc := 904) dL_law_904 o8 ?_
  refine c_VI0N (M := mL_law) (M2 := mX12_power) (pc := 905) (As := [vi (gI τ6 a0 (x4 + 1).toNat), vi (gI τ6 a0 (x4 + 2).toNat)]) dL_law_905 K_X12_power w_1758 ⟨by decide, by decide⟩ (Nat.le_of_ble_eq_true rfl) rfl rfl (ci := 12) rfl rfl (by decide) h.1 h.2 (fun r9 τ10 h8 hr9 => ?_) rfl
  replace h := h8 hr9
  refine r_istore (pc := 908) dL_law_908 (by decide) (l2 := [some (vr a0), some (vr a1), some (vr a2), some (vr a3), some (vi x4), some (vi r5), some (vi r9)]) rfl ?_
  refine r_aload_n (pc := 910) dL_law_910 rfl rfl ?_
  refine c_VI0N (M := mL_law) (M2 := mX12_thrown) (pc := 911) (As := []) dL_law_911 K_X12_thrown w_1543 ⟨by decide, by decide⟩ (Nat.le_of_ble_eq_true rfl) rfl rfl (ci := 12) rfl rfl (by decide) h.1 h.2 (fun r11 τ12 h8 hr9 => ?_) rfl
  replace h := h8 hr9
  refine r_iload (pc := 914) dL_law_914 rfl ?_
  refine r_icmp_eq (pc := 916) (tgt := 921) dL_law_916 (by decide) (fun c9 => ?_) (fun c9 => ?_)
  · replace h := h.1 c9
    refine r_iload (pc := 921) dL_law_921 rfl ?_
    refine r_if_ne (pc := 923) (tgt := 938) dL_law_923 (by decide) (fun c9 => ?_) (fun c9 => ?_)
    · replace h := h.1 c9
      refine r_goto (pc := 938) (tgt := 2194) dL_law_938 (by decide) ?_
      exact GG.msk [true, true, true, true, true, false, false] h
    · replace h := h.2 c9
      refine r_aload_n (pc := 926) dL_law_926 rfl rfl ?_
      refine r_iconst (pc := 927) dL_law_927 (inRk rfl) ?_
      obtain ⟨o13, h⟩ := h
      refine r_laload (pc := 928) dL_law_928 o13 ?_
      refine r_iload (pc := 929) dL_law_929 rfl ?_
      refine r_i2l (pc := 931) dL_law_931 ?_
      refine r_lcmp_ifeq (pc := 932) (tgt := 938) dL_law_932 dL_law_933 (by decide) (fun c9 => ?_) (fun c9 => ?_)
      · replace h := h.1 c9
        refine r_goto (pc := 938) (tgt := 2194) dL_law_938 (by decide) ?_
        exact GG.msk [true, true, true, true, true, false, false] h
      · replace h := h.2 c9
        refine r_iconst (pc := 936) dL_law_936 (inRk rfl) ?_
        exact r_lawret0 (pc := 937) dL_law_937 rfl rfl rfl rfl h
  · replace h := h.2 c9
    refine r_iconst (pc := 919) dL_law_919 (inRk rfl) ?_
    exact r_lawret0 (pc := 920) dL_law_920 rfl rfl rfl rfl h
theorem B_L_law_941 {a0 : Nat} {a1 : Nat} {a2 : Nat} {a3 : Nat} {x4 : Int} (h : inR (x4 + 1) ∧ okA 20 σ a0 (x4 + 1) ∧ inR (x4 + 2) ∧ okA 20 σ a0 (x4 + 2) ∧ 2 ≤ rc ∧ 12 ≤ rs ∧ CC E mL_of [vr a1, vi (gI σ a0 (x4 + 1).toNat), vi (gI σ a0 (x4 + 2).toNat), vr a3] σ (KI (fun r5 τ6 => inR r5 → okA 20 τ6 a0 (x4 + 1) ∧ okA 20 τ6 a0 (x4 + 2) ∧ okO τ6 a2 12 ∧ CC E mX12_of [vr a2, vi (gI τ6 a0 (x4 + 1).toNat), vi (gI τ6 a0 (x4 + 2).toNat)] τ6 (KI (fun r9 τ10 => inR r9 → okO τ10 a2 12 ∧ CC E mX12_thrown [vr a2] τ10 (KI (fun r11 τ12 => inR r11 → ((r11 = r5 → ((r5 ≠ 0 → GG E mL_law 2194 [some (vr a0), some (vr a1), some (vr a2), some (vr a3), some (vi x4), none, none] [] τ12 (rc - 2) (rs - 12) Q) ∧ (r5 = 0 → okB 23 τ12 a3 0 ∧ (((gI τ12 a3 0) = r9 → GG E mL_law 2194 [some (vr a0), some (vr a1), some (vr a2), some (vr a3), some (vi x4), none, none] [] τ12 (rc - 2) (rs - 12) Q) ∧ (¬ ((gI τ12 a3 0) = r9) → (0 : Int) = 1))))) ∧ (¬ (r11 = r5) → (0 : Int) = 1))) (fun _ _ => False))) (fun _ _ => False))) (fun _ _ => False))) : GG E mL_law 941 [some (vr a0), some (vr a1), some (vr a2), some (vr a3), some (vi x4), none, none] [] σ rc rs Q := by
  refine r_aload_n (pc := 941) dL_law_941 rfl rfl ?_
  refine r_aload_n (pc := 942) dL_law_942 rfl rfl ?_
  refine r_iload (pc := 943) dL_law_943 rfl ?_
  refine r_iconst (pc := 945) dL_law_945 (inRk rfl) ?_
  obtain ⟨o1, h⟩ := h
  refine r_iadd (pc := 946) dL_law_946 o1 ?_
  obtain ⟨o2, h⟩ := h
  refine r_iaload (pc := 947) dL_law_947 o2 ?_
  refine r_aload_n (pc := 948) dL_law_948 rfl rfl ?_
  refine r_iload (pc := 949) dL_law_949 rfl ?_
  refine r_iconst (pc := 951) dL_law_951 (inRk rfl) ?_
  obtain ⟨o3, h⟩ := h
  refine r_iadd (pc := 952) dL_law_952 o3 ?_
  obtain ⟨o4, h⟩ := h
  refine r_iaload (pc := 953) dL_law_953 o4 ?_
  refine r_aload_n (pc := 954) dL_law_954 rfl rfl ?_
  refine c_SWIAN (M := mL_law) (M2 := mL_of) (pc := 955) (As := [vr a1, vi (gI σ a0 (x4 + 1).toNat), vi (gI σ a0 (x4 + 2).toNat), vr a3]) dL_law_955 rfl w_1160 w_97 w_1159 ⟨by decide +kernel, by decide +kernel, by show _ = some 4; decide +kernel⟩ w_1158 ⟨by decide, by decide⟩ (Nat.le_of_ble_eq_true rfl) h.1 h.2.1 h.2.2 (fun r5 τ6 h8 hr9 => ?_) rfl
  replace h := h8 hr9
  refine r_istore (pc := 958) dL_law_958 (by decide) (l2 := [some (vr a0), some (vr a1), some (vr a2), some (vr a3), some (vi x4), some (vi r5), none]) rfl ?_
  refine r_aload_n (pc := 960) dL_law_960 rfl rfl ?_
  refine r_aload_n (pc := 961) dL_law_961 rfl rfl ?_
  refine r_iload (pc := 962) dL_law_962 rfl ?_
  refine r_iconst (pc := 964) dL_law_964 (inRk rfl) ?_
  refine r_iadd (pc := 965) dL_law_965 o1 ?_
  obtain ⟨o7, h⟩ := h
  refine r_iaload (pc := 966) dL_law_966 o7 ?_
  refine r_aload_n (pc := 967) dL_law_967 rfl rfl ?_
  refine r_iload (pc := 968) dL_law_968 rfl ?_
  refine r_iconst (pc := 970) dL_law_970 (inRk rfl) ?_
  refine r_iadd (pc := 971) dL_law_971 o3 ?_
  obtain ⟨o8, h⟩ := h
  refine r_iaload (pc := 972) dL_law_972 o8 ?_
  refine c_VI0N (M := mL_law) (M2 := mX12_of) (pc := 973) (As := [vi (gI τ6 a0 (x4 + 1).toNat), vi (gI τ6 a0 (x4 + 2).toNat)]) dL_law_973 K_X12_of w_1762 ⟨by decide, by decide⟩ (Nat.le_of_ble_eq_true rfl) rfl rfl (ci := 12) rfl rfl (by decide) h.1 h.2 (fun r9 τ10 h8 hr9 => ?_) rfl
  replace h := h8 hr9
  refine r_istore (pc := 976) dL_law_976 (by decide) (l2 := [some (vr a0), some (vr a1), some (vr a2), some (vr a3), some (vi x4), some (vi r5), some (vi r9)]) rfl ?_
  refine r_aload_n (pc := 978) dL_law_978 rfl rfl ?_
  refine c_VI0N (M := mL_law) (M2 := mX12_thrown) (pc := 979) (As := []) dL_law_979 K_X12_thrown w_1543 ⟨by decide, by decide⟩ (Nat.le_of_ble_eq_true rfl) rfl rfl (ci := 12) rfl rfl (by decide) h.1 h.2 (fun r11 τ12 h8 hr9 => ?_) rfl
  replace h := h8 hr9
  refine r_iload (pc := 982) dL_law_982 rfl ?_
  refine r_icmp_eq (pc := 984) (tgt := 989) dL_law_984 (by decide) (fun c9 => ?_) (fun c9 => ?_)
  · replace h := h.1 c9
    refine r_iload (pc := 989) dL_law_989 rfl ?_
    refine r_if_ne (pc := 991) (tgt := 1006) dL_law_991 (by decide) (fun c9 => ?_) (fun c9 => ?_)
    · replace h := h.1 c9
      refine r_goto (pc := 1006) (tgt := 2194) dL_law_1006 (by decide) ?_
      exact GG.msk [true, true, true, true, true, false, false] h
    · replace h := h.2 c9
      refine r_aload_n (pc := 994) dL_law_994 rfl rfl ?_
      refine r_iconst (pc := 995) dL_law_995 (inRk rfl) ?_
      obtain ⟨o13, h⟩ := h
      refine r_laload (pc := 996) dL_law_996 o13 ?_
      refine r_iload (pc := 997) dL_law_997 rfl ?_
      refine r_i2l (pc := 999) dL_law_999 ?_
      refine r_lcmp_ifeq (pc := 1000) (tgt := 1006) dL_law_1000 dL_law_1001 (by decide) (fun c9 => ?_) (fun c9 => ?_)
      · replace h := h.1 c9
        refine r_goto (pc := 1006) (tgt := 2194) dL_law_1006 (by decide) ?_
        exact GG.msk [true, true, true, true, true, false, false] h
      · replace h := h.2 c9
        refine r_iconst (pc := 1004) dL_law_1004 (inRk rfl) ?_
        exact r_lawret0 (pc := 1005) dL_law_1005 rfl rfl rfl rfl h
  · replace h := h.2 c9
    refine r_iconst (pc := 987) dL_law_987 (inRk rfl) ?_
    exact r_lawret0 (pc := 988) dL_law_988 rfl rfl rfl rfl h
theorem B_L_law_1009 {a0 : Nat} {a1 : Nat} {a2 : Nat} {a3 : Nat} {x4 : Int} (h : inR (x4 + 1) ∧ okA 20 σ a0 (x4 + 1) ∧ inR (x4 + 2) ∧ okA 20 σ a0 (x4 + 2) ∧ inR (x4 + 3) ∧ okA 20 σ a0 (x4 + 3) ∧ 3 ≤ rc ∧ 18 ≤ rs ∧ CC E mL_couples [vr a1, vi (gI σ a0 (x4 + 1).toNat), vi (gI σ a0 (x4 + 2).toNat), vi (gI σ a0 (x4 + 3).toNat), vr a3] σ (KI (fun r7 τ8 => inR r7 → okA 20 τ8 a0 (x4 + 1) ∧ okA 20 τ8 a0 (x4 + 2) ∧ okA 20 τ8 a0 (x4 + 3) ∧ okO τ8 a2 12 ∧ CC E mX12_couples [vr a2, vi (gI τ8 a0 (x4 + 1).toNat), vi (gI τ8 a0 (x4 + 2).toNat), vi (gI τ8 a0 (x4 + 3).toNat)] τ8 (KI (fun r12 τ13 => inR r12 → okO τ13 a2 12 ∧ CC E mX12_thrown [vr a2] τ13 (KI (fun r14 τ15 => inR r14 → ((r14 = r7 → ((r7 ≠ 0 → GG E mL_law 2194 [some (vr a0), some (vr a1), some (vr a2), some (vr a3), some (vi x4), none, none] [] τ15 (rc - 3) (rs - 18) Q) ∧ (r7 = 0 → okB 23 τ15 a3 0 ∧ (((gI τ15 a3 0) = r12 → GG E mL_law 2194 [some (vr a0), some (vr a1), some (vr a2), some (vr a3), some (vi x4), none, none] [] τ15 (rc - 3) (rs - 18) Q) ∧ (¬ ((gI τ15 a3 0) = r12) → (0 : Int) = 1))))) ∧ (¬ (r14 = r7) → (0 : Int) = 1))) (fun _ _ => False))) (fun _ _ => False))) (fun _ _ => False))) : GG E mL_law 1009 [some (vr a0), some (vr a1), some (vr a2), some (vr a3), some (vi x4), none, none] [] σ rc rs Q := by
  refine r_aload_n (pc := 1009) dL_law_1009 rfl rfl ?_
  refine r_aload_n (pc := 1010) dL_law_1010 rfl rfl ?_
  refine r_iload (pc := 1011) dL_law_1011 rfl ?_
  refine r_iconst (pc := 1013) dL_law_1013 (inRk rfl) ?_
  obtain ⟨o1, h⟩ := h
  refine r_iadd (pc := 1014) dL_law_1014 o1 ?_
  obtain ⟨o2, h⟩ := h
  refine r_iaload (pc := 1015) dL_law_1015 o2 ?_
  refine r_aload_n (pc := 1016) dL_law_1016 rfl rfl ?_
  refine r_iload (pc := 1017) dL_law_1017 rfl ?_
  refine r_iconst (pc := 1019) dL_law_1019 (inRk rfl) ?_
  obtain ⟨o3, h⟩ := h
  refine r_iadd (pc := 1020) dL_law_1020 o3 ?_
  obtain ⟨o4, h⟩ := h
  refine r_iaload (pc := 1021) dL_law_1021 o4 ?_
  refine r_aload_n (pc := 1022) dL_law_1022 rfl rfl ?_
  refine r_iload (pc := 1023) dL_law_1023 rfl ?_
  refine r_iconst (pc := 1025) dL_law_1025 (inRk rfl) ?_
  obtain ⟨o5, h⟩ := h
  refine r_iadd (pc := 1026) dL_law_1026 o5 ?_
  obtain ⟨o6, h⟩ := h
  refine r_iaload (pc := 1027) dL_law_1027 o6 ?_
  refine r_aload_n (pc := 1028) dL_law_1028 rfl rfl ?_
  refine c_SWIAN (M := mL_law) (M2 := mL_couples) (pc := 1029) (As := [vr a1, vi (gI σ a0 (x4 + 1).toNat), vi (gI σ a0 (x4 + 2).toNat), vi (gI σ a0 (x4 + 3).toNat), vr a3]) dL_law_1029 rfl w_1168 w_97 w_1167 ⟨by decide +kernel, by decide +kernel, by show _ = some 5; decide +kernel⟩ w_1166 ⟨by decide, by decide⟩ (Nat.le_of_ble_eq_true rfl) h.1 h.2.1 h.2.2 (fun r7 τ8 h8 hr9 => ?_) rfl
  replace h := h8 hr9
  refine r_istore (pc := 1032) dL_law_1032 (by decide) (l2 := [some (vr a0), some (vr a1), some (vr a2), some (vr a3), some (vi x4), some (vi r7), none]) rfl ?_
  refine r_aload_n (pc := 1034) dL_law_1034 rfl rfl ?_
  refine r_aload_n (pc := 1035) dL_law_1035 rfl rfl ?_
  refine r_iload (pc := 1036) dL_law_1036 rfl ?_
  refine r_iconst (pc := 1038) dL_law_1038 (inRk rfl) ?_
  refine r_iadd (pc := 1039) dL_law_1039 o1 ?_
  obtain ⟨o9, h⟩ := h
  refine r_iaload (pc := 1040) dL_law_1040 o9 ?_
  refine r_aload_n (pc := 1041) dL_law_1041 rfl rfl ?_
  refine r_iload (pc := 1042) dL_law_1042 rfl ?_
  refine r_iconst (pc := 1044) dL_law_1044 (inRk rfl) ?_
  refine r_iadd (pc := 1045) dL_law_1045 o3 ?_
  obtain ⟨o10, h⟩ := h
  refine r_iaload (pc := 1046) dL_law_1046 o10 ?_
  refine r_aload_n (pc := 1047) dL_law_1047 rfl rfl ?_
  refine r_iload (pc := 1048) dL_law_1048 rfl ?_
  refine r_iconst (pc := 1050) dL_law_1050 (inRk rfl) ?_
  refine r_iadd (pc := 1051) dL_law_1051 o5 ?_
  obtain ⟨o11, h⟩ := h
  refine r_iaload (pc := 1052) dL_law_1052 o11 ?_
  refine c_VI0N (M := mL_law) (M2 := mX12_couples) (pc := 1053) (As := [vi (gI τ8 a0 (x4 + 1).toNat), vi (gI τ8 a0 (x4 + 2).toNat), vi (gI τ8 a0 (x4 + 3).toNat)]) dL_law_1053 K_X12_couples w_1770 ⟨by decide, by decide⟩ (Nat.le_of_ble_eq_true rfl) rfl rfl (ci := 12) rfl rfl (by decide) h.1 h.2 (fun r12 τ13 h8 hr9 => ?_) rfl
  replace h := h8 hr9
  refine r_istore (pc := 1056) dL_law_1056 (by decide) (l2 := [some (vr a0), some (vr a1), some (vr a2), some (vr a3), some (vi x4), some (vi r7), some (vi r12)]) rfl ?_
  refine r_aload_n (pc := 1058) dL_law_1058 rfl rfl ?_
  refine c_VI0N (M := mL_law) (M2 := mX12_thrown) (pc := 1059) (As := []) dL_law_1059 K_X12_thrown w_1543 ⟨by decide, by decide⟩ (Nat.le_of_ble_eq_true rfl) rfl rfl (ci := 12) rfl rfl (by decide) h.1 h.2 (fun r14 τ15 h8 hr9 => ?_) rfl
  replace h := h8 hr9
  refine r_iload (pc := 1062) dL_law_1062 rfl ?_
  refine r_icmp_eq (pc := 1064) (tgt := 1069) dL_law_1064 (by decide) (fun c9 => ?_) (fun c9 => ?_)
  · replace h := h.1 c9
    refine r_iload (pc := 1069) dL_law_1069 rfl ?_
    refine r_if_ne (pc := 1071) (tgt := 1086) dL_law_1071 (by decide) (fun c9 => ?_) (fun c9 => ?_)
    · replace h := h.1 c9
      refine r_goto (pc := 1086) (tgt := 2194) dL_law_1086 (by decide) ?_
      exact GG.msk [true, true, true, true, true, false, false] h
    · replace h := h.2 c9
      refine r_aload_n (pc := 1074) dL_law_1074 rfl rfl ?_
      refine r_iconst (pc := 1075) dL_law_1075 (inRk rfl) ?_
      obtain ⟨o16, h⟩ := h
      refine r_laload (pc := 1076) dL_law_1076 o16 ?_
      refine r_iload (pc := 1077) dL_law_1077 rfl ?_
      refine r_i2l (pc := 1079) dL_law_1079 ?_
      refine r_lcmp_ifeq (pc := 1080) (tgt := 1086) dL_law_1080 dL_law_1081 (by decide) (fun c9 => ?_) (fun c9 => ?_)
      · replace h := h.1 c9
        refine r_goto (pc := 1086) (tgt := 2194) dL_law_1086 (by decide) ?_
        exact GG.msk [true, true, true, true, true, false, false] h
      · replace h := h.2 c9
        refine r_iconst (pc := 1084) dL_law_1084 (inRk rfl) ?_
        exact r_lawret0 (pc := 1085) dL_law_1085 rfl rfl rfl rfl h
  · replace h := h.2 c9
    refine r_iconst (pc := 1067) dL_law_1067 (inRk rfl) ?_
    exact r_lawret0 (pc := 1068) dL_law_1068 rfl rfl rfl rfl h
theorem B_L_law_1089 {a0 : Nat} {a1 : Nat} {a2 : Nat} {a3 : Nat} {x4 : Int} (h : inR (x4 + 1) ∧ okA 20 σ a0 (x4 + 1) ∧ 1 ≤ rc ∧ 6 ≤ rs ∧ CC E mL_axes [vr a1, vi (gI σ a0 (x4 + 1).toNat), vr a3] σ (KI (fun r3 τ4 => inR r3 → okA 20 τ4 a0 (x4 + 1) ∧ okO τ4 a2 12 ∧ CC E mX12_axes [vr a2, vi (gI τ4 a0 (x4 + 1).toNat)] τ4 (KI (fun r6 τ7 => inR r6 → okO τ7 a2 12 ∧ CC E mX12_thrown [vr a2] τ7 (KI (fun r8 τ9 => inR r8 → ((r8 = r3 → ((r3 ≠ 0 → GG E mL_law 2194 [some (vr a0), some (vr a1), some (vr a2), some (vr a3), some (vi x4), none, none] [] τ9 (rc - 1) (rs - 6) Q) ∧ (r3 = 0 → okB 23 τ9 a3 0 ∧ (((gI τ9 a3 0) = r6 → GG E mL_law 2194 [some (vr a0), some (vr a1), some (vr a2), some (vr a3), some (vi x4), none, none] [] τ9 (rc - 1) (rs - 6) Q) ∧ (¬ ((gI τ9 a3 0) = r6) → (0 : Int) = 1))))) ∧ (¬ (r8 = r3) → (0 : Int) = 1))) (fun _ _ => False))) (fun _ _ => False))) (fun _ _ => False))) : GG E mL_law 1089 [some (vr a0), some (vr a1), some (vr a2), some (vr a3), some (vi x4), none, none] [] σ rc rs Q := by
  refine r_aload_n (pc := 1089) dL_law_1089 rfl rfl ?_
  refine r_aload_n (pc := 1090) dL_law_1090 rfl rfl ?_
  refine r_iload (pc := 1091) dL_law_1091 rfl ?_
  refine r_iconst (pc := 1093) dL_law_1093 (inRk rfl) ?_
  obtain ⟨o1, h⟩ := h
  refine r_iadd (pc := 1094) dL_law_1094 o1 ?_
  obtain ⟨o2, h⟩ := h
  refine r_iaload (pc := 1095) dL_law_1095 o2 ?_
  refine r_aload_n (pc := 1096) dL_law_1096 rfl rfl ?_
  refine c_SWIAN (M := mL_law) (M2 := mL_axes) (pc := 1097) (As := [vr a1, vi (gI σ a0 (x4 + 1).toNat), vr a3]) dL_law_1097 rfl w_1179 w_97 w_1178 ⟨by decide +kernel, by decide +kernel, by show _ = some 3; decide +kernel⟩ w_1177 ⟨by decide, by decide⟩ (Nat.le_of_ble_eq_true rfl) h.1 h.2.1 h.2.2 (fun r3 τ4 h8 hr9 => ?_) rfl
  replace h := h8 hr9
  refine r_istore (pc := 1100) dL_law_1100 (by decide) (l2 := [some (vr a0), some (vr a1), some (vr a2), some (vr a3), some (vi x4), some (vi r3), none]) rfl ?_
  refine r_aload_n (pc := 1102) dL_law_1102 rfl rfl ?_
  refine r_aload_n (pc := 1103) dL_law_1103 rfl rfl ?_
  refine r_iload (pc := 1104) dL_law_1104 rfl ?_
  refine r_iconst (pc := 1106) dL_law_1106 (inRk rfl) ?_
  refine r_iadd (pc := 1107) dL_law_1107 o1 ?_
  obtain ⟨o5, h⟩ := h
  refine r_iaload (pc := 1108) dL_law_1108 o5 ?_
  refine c_VI0N (M := mL_law) (M2 := mX12_axes) (pc := 1109) (As := [vi (gI τ4 a0 (x4 + 1).toNat)]) dL_law_1109 K_X12_axes w_1774 ⟨by decide, by decide⟩ (Nat.le_of_ble_eq_true rfl) rfl rfl (ci := 12) rfl rfl (by decide) h.1 h.2 (fun r6 τ7 h8 hr9 => ?_) rfl
  replace h := h8 hr9
  refine r_istore (pc := 1112) dL_law_1112 (by decide) (l2 := [some (vr a0), some (vr a1), some (vr a2), some (vr a3), some (vi x4), some (vi r3), some (vi r6)]) rfl ?_
  refine r_aload_n (pc := 1114) dL_law_1114 rfl rfl ?_
  refine c_VI0N (M := mL_law) (M2 := mX12_thrown) (pc := 1115) (As := []) dL_law_1115 K_X12_thrown w_1543 ⟨by decide, by decide⟩ (Nat.le_of_ble_eq_true rfl) rfl rfl (ci := 12) rfl rfl (by decide) h.1 h.2 (fun r8 τ9 h8 hr9 => ?_) rfl
  replace h := h8 hr9
  refine r_iload (pc := 1118) dL_law_1118 rfl ?_
  refine r_icmp_eq (pc := 1120) (tgt := 1125) dL_law_1120 (by decide) (fun c9 => ?_) (fun c9 => ?_)
  · replace h := h.1 c9
    refine r_iload (pc := 1125) dL_law_1125 rfl ?_
    refine r_if_ne (pc := 1127) (tgt := 1142) dL_law_1127 (by decide) (fun c9 => ?_) (fun c9 => ?_)
    · replace h := h.1 c9
      refine r_goto (pc := 1142) (tgt := 2194) dL_law_1142 (by decide) ?_
      exact GG.msk [true, true, true, true, true, false, false] h
    · replace h := h.2 c9
      refine r_aload_n (pc := 1130) dL_law_1130 rfl rfl ?_
      refine r_iconst (pc := 1131) dL_law_1131 (inRk rfl) ?_
      obtain ⟨o10, h⟩ := h
      refine r_laload (pc := 1132) dL_law_1132 o10 ?_
      refine r_iload (pc := 1133) dL_law_1133 rfl ?_
      refine r_i2l (pc := 1135) dL_law_1135 ?_
      refine r_lcmp_ifeq (pc := 1136) (tgt := 1142) dL_law_1136 dL_law_1137 (by decide) (fun c9 => ?_) (fun c9 => ?_)
      · replace h := h.1 c9
        refine r_goto (pc := 1142) (tgt := 2194) dL_law_1142 (by decide) ?_
        exact GG.msk [true, true, true, true, true, false, false] h
      · replace h := h.2 c9
        refine r_iconst (pc := 1140) dL_law_1140 (inRk rfl) ?_
        exact r_lawret0 (pc := 1141) dL_law_1141 rfl rfl rfl rfl h
  · replace h := h.2 c9
    refine r_iconst (pc := 1123) dL_law_1123 (inRk rfl) ?_
    exact r_lawret0 (pc := 1124) dL_law_1124 rfl rfl rfl rfl h
theorem B_L_law_1145 {a0 : Nat} {a1 : Nat} {a2 : Nat} {a3 : Nat} {x4 : Int} (h : inR (x4 + 1) ∧ okA 20 σ a0 (x4 + 1) ∧ 1 ≤ rc ∧ 6 ≤ rs ∧ CC E mL_degree [vr a1, vi (gI σ a0 (x4 + 1).toNat), vr a3] σ (KI (fun r3 τ4 => inR r3 → okA 20 τ4 a0 (x4 + 1) ∧ okO τ4 a2 12 ∧ CC E mX12_degree [vr a2, vi (gI τ4 a0 (x4 + 1).toNat)] τ4 (KI (fun r6 τ7 => inR r6 → okO τ7 a2 12 ∧ CC E mX12_thrown [vr a2] τ7 (KI (fun r8 τ9 => inR r8 → ((r8 = r3 → ((r3 ≠ 0 → GG E mL_law 2194 [some (vr a0), some (vr a1), some (vr a2), some (vr a3), some (vi x4), none, none] [] τ9 (rc - 1) (rs - 6) Q) ∧ (r3 = 0 → okB 23 τ9 a3 0 ∧ (((gI τ9 a3 0) = r6 → GG E mL_law 2194 [some (vr a0), some (vr a1), some (vr a2), some (vr a3), some (vi x4), none, none] [] τ9 (rc - 1) (rs - 6) Q) ∧ (¬ ((gI τ9 a3 0) = r6) → (0 : Int) = 1))))) ∧ (¬ (r8 = r3) → (0 : Int) = 1))) (fun _ _ => False))) (fun _ _ => False))) (fun _ _ => False))) : GG E mL_law 1145 [some (vr a0), some (vr a1), some (vr a2), some (vr a3), some (vi x4), none, none] [] σ rc rs Q := by
  refine r_aload_n (pc := 1145) dL_law_1145 rfl rfl ?_
  refine r_aload_n (pc := 1146) dL_law_1146 rfl rfl ?_
  refine r_iload (pc := 1147) dL_law_1147 rfl ?_
  refine r_iconst (pc := 1149) dL_law_1149 (inRk rfl) ?_
  obtain ⟨o1, h⟩ := h
  refine r_iadd (pc := 1150) dL_law_1150 o1 ?_
  obtain ⟨o2, h⟩ := h
  refine r_iaload (pc := 1151) dL_law_1151 o2 ?_
  refine r_aload_n (pc := 1152) dL_law_1152 rfl rfl ?_
  refine c_SWIAN (M := mL_law) (M2 := mL_degree) (pc := 1153) (As := [vr a1, vi (gI σ a0 (x4 + 1).toNat), vr a3]) dL_law_1153 rfl w_1191 w_97 w_1190 ⟨by decide +kernel, by decide +kernel, by show _ = some 3; decide +kernel⟩ w_1189 ⟨by decide, by decide⟩ (Nat.le_of_ble_eq_true rfl) h.1 h.2.1 h.2.2 (fun r3 τ4 h8 hr9 => ?_) rfl
  replace h := h8 hr9
  refine r_istore (pc := 1156) dL_law_1156 (by decide) (l2 := [some (vr a0), some (vr a1), some (vr a2), some (vr a3), some (vi x4), some (vi r3), none]) rfl ?_
  refine r_aload_n (pc := 1158) dL_law_1158 rfl rfl ?_
  refine r_aload_n (pc := 1159) dL_law_1159 rfl rfl ?_
  refine r_iload (pc := 1160) dL_law_1160 rfl ?_
  refine r_iconst (pc := 1162) dL_law_1162 (inRk rfl) ?_
  refine r_iadd (pc := 1163) dL_law_1163 o1 ?_
  obtain ⟨o5, h⟩ := h
  refine r_iaload (pc := 1164) dL_law_1164 o5 ?_
  refine c_VI0N (M := mL_law) (M2 := mX12_degree) (pc := 1165) (As := [vi (gI τ4 a0 (x4 + 1).toNat)]) dL_law_1165 K_X12_degree w_1786 ⟨by decide, by decide⟩ (Nat.le_of_ble_eq_true rfl) rfl rfl (ci := 12) rfl rfl (by decide) h.1 h.2 (fun r6 τ7 h8 hr9 => ?_) rfl
  replace h := h8 hr9
  refine r_istore (pc := 1168) dL_law_1168 (by decide) (l2 := [some (vr a0), some (vr a1), some (vr a2), some (vr a3), some (vi x4), some (vi r3), some (vi r6)]) rfl ?_
  refine r_aload_n (pc := 1170) dL_law_1170 rfl rfl ?_
  refine c_VI0N (M := mL_law) (M2 := mX12_thrown) (pc := 1171) (As := []) dL_law_1171 K_X12_thrown w_1543 ⟨by decide, by decide⟩ (Nat.le_of_ble_eq_true rfl) rfl rfl (ci := 12) rfl rfl (by decide) h.1 h.2 (fun r8 τ9 h8 hr9 => ?_) rfl
  replace h := h8 hr9
  refine r_iload (pc := 1174) dL_law_1174 rfl ?_
  refine r_icmp_eq (pc := 1176) (tgt := 1181) dL_law_1176 (by decide) (fun c9 => ?_) (fun c9 => ?_)
  · replace h := h.1 c9
    refine r_iload (pc := 1181) dL_law_1181 rfl ?_
    refine r_if_ne (pc := 1183) (tgt := 1198) dL_law_1183 (by decide) (fun c9 => ?_) (fun c9 => ?_)
    · replace h := h.1 c9
      refine r_goto (pc := 1198) (tgt := 2194) dL_law_1198 (by decide) ?_
      exact GG.msk [true, true, true, true, true, false, false] h
    · replace h := h.2 c9
      refine r_aload_n (pc := 1186) dL_law_1186 rfl rfl ?_
      refine r_iconst (pc := 1187) dL_law_1187 (inRk rfl) ?_
      obtain ⟨o10, h⟩ := h
      refine r_laload (pc := 1188) dL_law_1188 o10 ?_
      refine r_iload (pc := 1189) dL_law_1189 rfl ?_
      refine r_i2l (pc := 1191) dL_law_1191 ?_
      refine r_lcmp_ifeq (pc := 1192) (tgt := 1198) dL_law_1192 dL_law_1193 (by decide) (fun c9 => ?_) (fun c9 => ?_)
      · replace h := h.1 c9
        refine r_goto (pc := 1198) (tgt := 2194) dL_law_1198 (by decide) ?_
        exact GG.msk [true, true, true, true, true, false, false] h
      · replace h := h.2 c9
        refine r_iconst (pc := 1196) dL_law_1196 (inRk rfl) ?_
        exact r_lawret0 (pc := 1197) dL_law_1197 rfl rfl rfl rfl h
  · replace h := h.2 c9
    refine r_iconst (pc := 1179) dL_law_1179 (inRk rfl) ?_
    exact r_lawret0 (pc := 1180) dL_law_1180 rfl rfl rfl rfl h
theorem B_L_law_1201 {a0 : Nat} {a1 : Nat} {a2 : Nat} {a3 : Nat} {x4 : Int} (h : inR (x4 + 1) ∧ okA 20 σ a0 (x4 + 1) ∧ inR (x4 + 2) ∧ okA 20 σ a0 (x4 + 2) ∧ 2 ≤ rc ∧ 12 ≤ rs ∧ CC E mL_value [vr a1, vi (gI σ a0 (x4 + 1).toNat), vi (gI σ a0 (x4 + 2).toNat), vr a3] σ (KI (fun r5 τ6 => inR r5 → okA 20 τ6 a0 (x4 + 1) ∧ okA 20 τ6 a0 (x4 + 2) ∧ okO τ6 a2 12 ∧ CC E mX12_value [vr a2, vi (gI τ6 a0 (x4 + 1).toNat), vi (gI τ6 a0 (x4 + 2).toNat)] τ6 (KI (fun r9 τ10 => inR r9 → okO τ10 a2 12 ∧ CC E mX12_thrown [vr a2] τ10 (KI (fun r11 τ12 => inR r11 → ((r11 = r5 → ((r5 ≠ 0 → GG E mL_law 2194 [some (vr a0), some (vr a1), some (vr a2), some (vr a3), some (vi x4), none, none] [] τ12 (rc - 2) (rs - 12) Q) ∧ (r5 = 0 → okB 23 τ12 a3 0 ∧ (((gI τ12 a3 0) = r9 → GG E mL_law 2194 [some (vr a0), some (vr a1), some (vr a2), some (vr a3), some (vi x4), none, none] [] τ12 (rc - 2) (rs - 12) Q) ∧ (¬ ((gI τ12 a3 0) = r9) → (0 : Int) = 1))))) ∧ (¬ (r11 = r5) → (0 : Int) = 1))) (fun _ _ => False))) (fun _ _ => False))) (fun _ _ => False))) : GG E mL_law 1201 [some (vr a0), some (vr a1), some (vr a2), some (vr a3), some (vi x4), none, none] [] σ rc rs Q := by
  refine r_aload_n (pc := 1201) dL_law_1201 rfl rfl ?_
  refine r_aload_n (pc := 1202) dL_law_1202 rfl rfl ?_
  refine r_iload (pc := 1203) dL_law_1203 rfl ?_
  refine r_iconst (pc := 1205) dL_law_1205 (inRk rfl) ?_
  obtain ⟨o1, h⟩ := h
  refine r_iadd (pc := 1206) dL_law_1206 o1 ?_
  obtain ⟨o2, h⟩ := h
  refine r_iaload (pc := 1207) dL_law_1207 o2 ?_
  refine r_aload_n (pc := 1208) dL_law_1208 rfl rfl ?_
  refine r_iload (pc := 1209) dL_law_1209 rfl ?_
  refine r_iconst (pc := 1211) dL_law_1211 (inRk rfl) ?_
  obtain ⟨o3, h⟩ := h
  refine r_iadd (pc := 1212) dL_law_1212 o3 ?_
  obtain ⟨o4, h⟩ := h
  refine r_iaload (pc := 1213) dL_law_1213 o4 ?_
  refine r_aload_n (pc := 1214) dL_law_1214 rfl rfl ?_
  refine c_SWIAN (M := mL_law) (M2 := mL_value) (pc := 1215) (As := [vr a1, vi (gI σ a0 (x4 + 1).toNat), vi (gI σ a0 (x4 + 2).toNat), vr a3]) dL_law_1215 rfl w_1198 w_97 w_1197 ⟨by decide +kernel, by decide +kernel, by show _ = some 4; decide +kernel⟩ w_1196 ⟨by decide, by decide⟩ (Nat.le_of_ble_eq_true rfl) h.1 h.2.1 h.2.2 (fun r5 τ6 h8 hr9 => ?_) rfl
  replace h := h8 hr9
  refine r_istore (pc := 1218) dL_law_1218 (by decide) (l2 := [some (vr a0), some (vr a1), some (vr a2), some (vr a3), some (vi x4), some (vi r5), none]) rfl ?_
  refine r_aload_n (pc := 1220) dL_law_1220 rfl rfl ?_
  refine r_aload_n (pc := 1221) dL_law_1221 rfl rfl ?_
  refine r_iload (pc := 1222) dL_law_1222 rfl ?_
  refine r_iconst (pc := 1224) dL_law_1224 (inRk rfl) ?_
  refine r_iadd (pc := 1225) dL_law_1225 o1 ?_
  obtain ⟨o7, h⟩ := h
  refine r_iaload (pc := 1226) dL_law_1226 o7 ?_
  refine r_aload_n (pc := 1227) dL_law_1227 rfl rfl ?_
  refine r_iload (pc := 1228) dL_law_1228 rfl ?_
  refine r_iconst (pc := 1230) dL_law_1230 (inRk rfl) ?_
  refine r_iadd (pc := 1231) dL_law_1231 o3 ?_
  obtain ⟨o8, h⟩ := h
  refine r_iaload (pc := 1232) dL_law_1232 o8 ?_
  refine c_VI0N (M := mL_law) (M2 := mX12_value) (pc := 1233) (As := [vi (gI τ6 a0 (x4 + 1).toNat), vi (gI τ6 a0 (x4 + 2).toNat)]) dL_law_1233 K_X12_value w_1790 ⟨by decide, by decide⟩ (Nat.le_of_ble_eq_true rfl) rfl rfl (ci := 12) rfl rfl (by decide) h.1 h.2 (fun r9 τ10 h8 hr9 => ?_) rfl
  replace h := h8 hr9
  refine r_istore (pc := 1236) dL_law_1236 (by decide) (l2 := [some (vr a0), some (vr a1), some (vr a2), some (vr a3), some (vi x4), some (vi r5), some (vi r9)]) rfl ?_
  refine r_aload_n (pc := 1238) dL_law_1238 rfl rfl ?_
  refine c_VI0N (M := mL_law) (M2 := mX12_thrown) (pc := 1239) (As := []) dL_law_1239 K_X12_thrown w_1543 ⟨by decide, by decide⟩ (Nat.le_of_ble_eq_true rfl) rfl rfl (ci := 12) rfl rfl (by decide) h.1 h.2 (fun r11 τ12 h8 hr9 => ?_) rfl
  replace h := h8 hr9
  refine r_iload (pc := 1242) dL_law_1242 rfl ?_
  refine r_icmp_eq (pc := 1244) (tgt := 1249) dL_law_1244 (by decide) (fun c9 => ?_) (fun c9 => ?_)
  · replace h := h.1 c9
    refine r_iload (pc := 1249) dL_law_1249 rfl ?_
    refine r_if_ne (pc := 1251) (tgt := 1266) dL_law_1251 (by decide) (fun c9 => ?_) (fun c9 => ?_)
    · replace h := h.1 c9
      refine r_goto (pc := 1266) (tgt := 2194) dL_law_1266 (by decide) ?_
      exact GG.msk [true, true, true, true, true, false, false] h
    · replace h := h.2 c9
      refine r_aload_n (pc := 1254) dL_law_1254 rfl rfl ?_
      refine r_iconst (pc := 1255) dL_law_1255 (inRk rfl) ?_
      obtain ⟨o13, h⟩ := h
      refine r_laload (pc := 1256) dL_law_1256 o13 ?_
      refine r_iload (pc := 1257) dL_law_1257 rfl ?_
      refine r_i2l (pc := 1259) dL_law_1259 ?_
      refine r_lcmp_ifeq (pc := 1260) (tgt := 1266) dL_law_1260 dL_law_1261 (by decide) (fun c9 => ?_) (fun c9 => ?_)
      · replace h := h.1 c9
        refine r_goto (pc := 1266) (tgt := 2194) dL_law_1266 (by decide) ?_
        exact GG.msk [true, true, true, true, true, false, false] h
      · replace h := h.2 c9
        refine r_iconst (pc := 1264) dL_law_1264 (inRk rfl) ?_
        exact r_lawret0 (pc := 1265) dL_law_1265 rfl rfl rfl rfl h
  · replace h := h.2 c9
    refine r_iconst (pc := 1247) dL_law_1247 (inRk rfl) ?_
    exact r_lawret0 (pc := 1248) dL_law_1248 rfl rfl rfl rfl h
theorem B_L_law_1269 {a0 : Nat} {a1 : Nat} {a2 : Nat} {a3 : Nat} {x4 : Int} (h : inR (x4 + 1) ∧ okA 20 σ a0 (x4 + 1) ∧ inR (x4 + 2) ∧ okA 20 σ a0 (x4 + 2) ∧ inR (x4 + 3) ∧ okA 20 σ a0 (x4 + 3) ∧ 3 ≤ rc ∧ 18 ≤ rs ∧ CC E mL_often [vr a1, vi (gI σ a0 (x4 + 1).toNat), vi (gI σ a0 (x4 + 2).toNat), vi (gI σ a0 (x4 + 3).toNat), vr a3] σ (KI (fun r7 τ8 => inR r7 → okA 20 τ8 a0 (x4 + 1) ∧ okA 20 τ8 a0 (x4 + 2) ∧ okA 20 τ8 a0 (x4 + 3) ∧ okO τ8 a2 12 ∧ CC E mX12_often [vr a2, vi (gI τ8 a0 (x4 + 1).toNat), vi (gI τ8 a0 (x4 + 2).toNat), vi (gI τ8 a0 (x4 + 3).toNat)] τ8 (KI (fun r12 τ13 => inR r12 → okO τ13 a2 12 ∧ CC E mX12_thrown [vr a2] τ13 (KI (fun r14 τ15 => inR r14 → ((r14 = r7 → ((r7 ≠ 0 → GG E mL_law 2194 [some (vr a0), some (vr a1), some (vr a2), some (vr a3), some (vi x4), none, none] [] τ15 (rc - 3) (rs - 18) Q) ∧ (r7 = 0 → okB 23 τ15 a3 0 ∧ (((gI τ15 a3 0) = r12 → GG E mL_law 2194 [some (vr a0), some (vr a1), some (vr a2), some (vr a3), some (vi x4), none, none] [] τ15 (rc - 3) (rs - 18) Q) ∧ (¬ ((gI τ15 a3 0) = r12) → (0 : Int) = 1))))) ∧ (¬ (r14 = r7) → (0 : Int) = 1))) (fun _ _ => False))) (fun _ _ => False))) (fun _ _ => False))) : GG E mL_law 1269 [some (vr a0), some (vr a1), some (vr a2), some (vr a3), some (vi x4), none, none] [] σ rc rs Q := by
  refine r_aload_n (pc := 1269) dL_law_1269 rfl rfl ?_
  refine r_aload_n (pc := 1270) dL_law_1270 rfl rfl ?_
  refine r_iload (pc := 1271) dL_law_1271 rfl ?_
  refine r_iconst (pc := 1273) dL_law_1273 (inRk rfl) ?_
  obtain ⟨o1, h⟩ := h
  refine r_iadd (pc := 1274) dL_law_1274 o1 ?_
  obtain ⟨o2, h⟩ := h
  refine r_iaload (pc := 1275) dL_law_1275 o2 ?_
  refine r_aload_n (pc := 1276) dL_law_1276 rfl rfl ?_
  refine r_iload (pc := 1277) dL_law_1277 rfl ?_
  refine r_iconst (pc := 1279) dL_law_1279 (inRk rfl) ?_
  obtain ⟨o3, h⟩ := h
  refine r_iadd (pc := 1280) dL_law_1280 o3 ?_
  obtain ⟨o4, h⟩ := h
  refine r_iaload (pc := 1281) dL_law_1281 o4 ?_
  refine r_aload_n (pc := 1282) dL_law_1282 rfl rfl ?_
  refine r_iload (pc := 1283) dL_law_1283 rfl ?_
  refine r_iconst (pc := 1285) dL_law_1285 (inRk rfl) ?_
  obtain ⟨o5, h⟩ := h
  refine r_iadd (pc := 1286) dL_law_1286 o5 ?_
  obtain ⟨o6, h⟩ := h
  refine r_iaload (pc := 1287) dL_law_1287 o6 ?_
  refine r_aload_n (pc := 1288) dL_law_1288 rfl rfl ?_
  refine c_SWIAN (M := mL_law) (M2 := mL_often) (pc := 1289) (As := [vr a1, vi (gI σ a0 (x4 + 1).toNat), vi (gI σ a0 (x4 + 2).toNat), vi (gI σ a0 (x4 + 3).toNat), vr a3]) dL_law_1289 rfl w_1205 w_97 w_1204 ⟨by decide +kernel, by decide +kernel, by show _ = some 5; decide +kernel⟩ w_1203 ⟨by decide, by decide⟩ (Nat.le_of_ble_eq_true rfl) h.1 h.2.1 h.2.2 (fun r7 τ8 h8 hr9 => ?_) rfl
  replace h := h8 hr9
  refine r_istore (pc := 1292) dL_law_1292 (by decide) (l2 := [some (vr a0), some (vr a1), some (vr a2), some (vr a3), some (vi x4), some (vi r7), none]) rfl ?_
  refine r_aload_n (pc := 1294) dL_law_1294 rfl rfl ?_
  refine r_aload_n (pc := 1295) dL_law_1295 rfl rfl ?_
  refine r_iload (pc := 1296) dL_law_1296 rfl ?_
  refine r_iconst (pc := 1298) dL_law_1298 (inRk rfl) ?_
  refine r_iadd (pc := 1299) dL_law_1299 o1 ?_
  obtain ⟨o9, h⟩ := h
  refine r_iaload (pc := 1300) dL_law_1300 o9 ?_
  refine r_aload_n (pc := 1301) dL_law_1301 rfl rfl ?_
  refine r_iload (pc := 1302) dL_law_1302 rfl ?_
  refine r_iconst (pc := 1304) dL_law_1304 (inRk rfl) ?_
  refine r_iadd (pc := 1305) dL_law_1305 o3 ?_
  obtain ⟨o10, h⟩ := h
  refine r_iaload (pc := 1306) dL_law_1306 o10 ?_
  refine r_aload_n (pc := 1307) dL_law_1307 rfl rfl ?_
  refine r_iload (pc := 1308) dL_law_1308 rfl ?_
  refine r_iconst (pc := 1310) dL_law_1310 (inRk rfl) ?_
  refine r_iadd (pc := 1311) dL_law_1311 o5 ?_
  obtain ⟨o11, h⟩ := h
  refine r_iaload (pc := 1312) dL_law_1312 o11 ?_
  refine c_VI0N (M := mL_law) (M2 := mX12_often) (pc := 1313) (As := [vi (gI τ8 a0 (x4 + 1).toNat), vi (gI τ8 a0 (x4 + 2).toNat), vi (gI τ8 a0 (x4 + 3).toNat)]) dL_law_1313 K_X12_often w_1794 ⟨by decide, by decide⟩ (Nat.le_of_ble_eq_true rfl) rfl rfl (ci := 12) rfl rfl (by decide) h.1 h.2 (fun r12 τ13 h8 hr9 => ?_) rfl
  replace h := h8 hr9
  refine r_istore (pc := 1316) dL_law_1316 (by decide) (l2 := [some (vr a0), some (vr a1), some (vr a2), some (vr a3), some (vi x4), some (vi r7), some (vi r12)]) rfl ?_
  refine r_aload_n (pc := 1318) dL_law_1318 rfl rfl ?_
  refine c_VI0N (M := mL_law) (M2 := mX12_thrown) (pc := 1319) (As := []) dL_law_1319 K_X12_thrown w_1543 ⟨by decide, by decide⟩ (Nat.le_of_ble_eq_true rfl) rfl rfl (ci := 12) rfl rfl (by decide) h.1 h.2 (fun r14 τ15 h8 hr9 => ?_) rfl
  replace h := h8 hr9
  refine r_iload (pc := 1322) dL_law_1322 rfl ?_
  refine r_icmp_eq (pc := 1324) (tgt := 1329) dL_law_1324 (by decide) (fun c9 => ?_) (fun c9 => ?_)
  · replace h := h.1 c9
    refine r_iload (pc := 1329) dL_law_1329 rfl ?_
    refine r_if_ne (pc := 1331) (tgt := 1346) dL_law_1331 (by decide) (fun c9 => ?_) (fun c9 => ?_)
    · replace h := h.1 c9
      refine r_goto (pc := 1346) (tgt := 2194) dL_law_1346 (by decide) ?_
      exact GG.msk [true, true, true, true, true, false, false] h
    · replace h := h.2 c9
      refine r_aload_n (pc := 1334) dL_law_1334 rfl rfl ?_
      refine r_iconst (pc := 1335) dL_law_1335 (inRk rfl) ?_
      obtain ⟨o16, h⟩ := h
      refine r_laload (pc := 1336) dL_law_1336 o16 ?_
      refine r_iload (pc := 1337) dL_law_1337 rfl ?_
      refine r_i2l (pc := 1339) dL_law_1339 ?_
      refine r_lcmp_ifeq (pc := 1340) (tgt := 1346) dL_law_1340 dL_law_1341 (by decide) (fun c9 => ?_) (fun c9 => ?_)
      · replace h := h.1 c9
        refine r_goto (pc := 1346) (tgt := 2194) dL_law_1346 (by decide) ?_
        exact GG.msk [true, true, true, true, true, false, false] h
      · replace h := h.2 c9
        refine r_iconst (pc := 1344) dL_law_1344 (inRk rfl) ?_
        exact r_lawret0 (pc := 1345) dL_law_1345 rfl rfl rfl rfl h
  · replace h := h.2 c9
    refine r_iconst (pc := 1327) dL_law_1327 (inRk rfl) ?_
    exact r_lawret0 (pc := 1328) dL_law_1328 rfl rfl rfl rfl h
theorem B_L_law_1349 {a0 : Nat} {a1 : Nat} {a2 : Nat} {a3 : Nat} {x4 : Int} (h : inR (x4 + 1) ∧ okA 20 σ a0 (x4 + 1) ∧ 1 ≤ rc ∧ 6 ≤ rs ∧ CC E mL_opposite [vr a1, vi (gI σ a0 (x4 + 1).toNat), vr a3] σ (KI (fun r3 τ4 => inR r3 → okA 20 τ4 a0 (x4 + 1) ∧ okO τ4 a2 12 ∧ CC E mX12_opposite [vr a2, vi (gI τ4 a0 (x4 + 1).toNat)] τ4 (KI (fun r6 τ7 => inR r6 → okO τ7 a2 12 ∧ CC E mX12_thrown [vr a2] τ7 (KI (fun r8 τ9 => inR r8 → ((r8 = r3 → ((r3 ≠ 0 → GG E mL_law 2194 [some (vr a0), some (vr a1), some (vr a2), some (vr a3), some (vi x4), none, none] [] τ9 (rc - 1) (rs - 6) Q) ∧ (r3 = 0 → okB 23 τ9 a3 0 ∧ (((gI τ9 a3 0) = r6 → GG E mL_law 2194 [some (vr a0), some (vr a1), some (vr a2), some (vr a3), some (vi x4), none, none] [] τ9 (rc - 1) (rs - 6) Q) ∧ (¬ ((gI τ9 a3 0) = r6) → (0 : Int) = 1))))) ∧ (¬ (r8 = r3) → (0 : Int) = 1))) (fun _ _ => False))) (fun _ _ => False))) (fun _ _ => False))) : GG E mL_law 1349 [some (vr a0), some (vr a1), some (vr a2), some (vr a3), some (vi x4), none, none] [] σ rc rs Q := by
  refine r_aload_n (pc := 1349) dL_law_1349 rfl rfl ?_
  refine r_aload_n (pc := 1350) dL_law_1350 rfl rfl ?_
  refine r_iload (pc := 1351) dL_law_1351 rfl ?_
  refine r_iconst (pc := 1353) dL_law_1353 (inRk rfl) ?_
  obtain ⟨o1, h⟩ := h
  refine r_iadd (pc := 1354) dL_law_1354 o1 ?_
  obtain ⟨o2, h⟩ := h
  refine r_iaload (pc := 1355) dL_law_1355 o2 ?_
  refine r_aload_n (pc := 1356) dL_law_1356 rfl rfl ?_
  refine c_SWIAN (M := mL_law) (M2 := mL_opposite) (pc := 1357) (As := [vr a1, vi (gI σ a0 (x4 + 1).toNat), vr a3]) dL_law_1357 rfl w_1213 w_97 w_1212 ⟨by decide +kernel, by decide +kernel, by show _ = some 3; decide +kernel⟩ w_1211 ⟨by decide, by decide⟩ (Nat.le_of_ble_eq_true rfl) h.1 h.2.1 h.2.2 (fun r3 τ4 h8 hr9 => ?_) rfl
  replace h := h8 hr9
  refine r_istore (pc := 1360) dL_law_1360 (by decide) (l2 := [some (vr a0), some (vr a1), some (vr a2), some (vr a3), some (vi x4), some (vi r3), none]) rfl ?_
  refine r_aload_n (pc := 1362) dL_law_1362 rfl rfl ?_
  refine r_aload_n (pc := 1363) dL_law_1363 rfl rfl ?_
  refine r_iload (pc := 1364) dL_law_1364 rfl ?_
  refine r_iconst (pc := 1366) dL_law_1366 (inRk rfl) ?_
  refine r_iadd (pc := 1367) dL_law_1367 o1 ?_
  obtain ⟨o5, h⟩ := h
  refine r_iaload (pc := 1368) dL_law_1368 o5 ?_
  refine c_VI0N (M := mL_law) (M2 := mX12_opposite) (pc := 1369) (As := [vi (gI τ4 a0 (x4 + 1).toNat)]) dL_law_1369 K_X12_opposite w_1802 ⟨by decide, by decide⟩ (Nat.le_of_ble_eq_true rfl) rfl rfl (ci := 12) rfl rfl (by decide) h.1 h.2 (fun r6 τ7 h8 hr9 => ?_) rfl
  replace h := h8 hr9
  refine r_istore (pc := 1372) dL_law_1372 (by decide) (l2 := [some (vr a0), some (vr a1), some (vr a2), some (vr a3), some (vi x4), some (vi r3), some (vi r6)]) rfl ?_
  refine r_aload_n (pc := 1374) dL_law_1374 rfl rfl ?_
  refine c_VI0N (M := mL_law) (M2 := mX12_thrown) (pc := 1375) (As := []) dL_law_1375 K_X12_thrown w_1543 ⟨by decide, by decide⟩ (Nat.le_of_ble_eq_true rfl) rfl rfl (ci := 12) rfl rfl (by decide) h.1 h.2 (fun r8 τ9 h8 hr9 => ?_) rfl
  replace h := h8 hr9
  refine r_iload (pc := 1378) dL_law_1378 rfl ?_
  refine r_icmp_eq (pc := 1380) (tgt := 1385) dL_law_1380 (by decide) (fun c9 => ?_) (fun c9 => ?_)
  · replace h := h.1 c9
    refine r_iload (pc := 1385) dL_law_1385 rfl ?_
    refine r_if_ne (pc := 1387) (tgt := 1402) dL_law_1387 (by decide) (fun c9 => ?_) (fun c9 => ?_)
    · replace h := h.1 c9
      refine r_goto (pc := 1402) (tgt := 2194) dL_law_1402 (by decide) ?_
      exact GG.msk [true, true, true, true, true, false, false] h
    · replace h := h.2 c9
      refine r_aload_n (pc := 1390) dL_law_1390 rfl rfl ?_
      refine r_iconst (pc := 1391) dL_law_1391 (inRk rfl) ?_
      obtain ⟨o10, h⟩ := h
      refine r_laload (pc := 1392) dL_law_1392 o10 ?_
      refine r_iload (pc := 1393) dL_law_1393 rfl ?_
      refine r_i2l (pc := 1395) dL_law_1395 ?_
      refine r_lcmp_ifeq (pc := 1396) (tgt := 1402) dL_law_1396 dL_law_1397 (by decide) (fun c9 => ?_) (fun c9 => ?_)
      · replace h := h.1 c9
        refine r_goto (pc := 1402) (tgt := 2194) dL_law_1402 (by decide) ?_
        exact GG.msk [true, true, true, true, true, false, false] h
      · replace h := h.2 c9
        refine r_iconst (pc := 1400) dL_law_1400 (inRk rfl) ?_
        exact r_lawret0 (pc := 1401) dL_law_1401 rfl rfl rfl rfl h
  · replace h := h.2 c9
    refine r_iconst (pc := 1383) dL_law_1383 (inRk rfl) ?_
    exact r_lawret0 (pc := 1384) dL_law_1384 rfl rfl rfl rfl h
theorem B_L_law_1405 {a0 : Nat} {a1 : Nat} {a2 : Nat} {a3 : Nat} {x4 : Int} (h : inR (x4 + 1) ∧ okA 20 σ a0 (x4 + 1) ∧ inR (x4 + 2) ∧ okA 20 σ a0 (x4 + 2) ∧ 2 ≤ rc ∧ 12 ≤ rs ∧ CC E mL_ways [vr a1, vi (gI σ a0 (x4 + 1).toNat), vi (gI σ a0 (x4 + 2).toNat), vr a3] σ (KI (fun r5 τ6 => inR r5 → okA 20 τ6 a0 (x4 + 1) ∧ okA 20 τ6 a0 (x4 + 2) ∧ okO τ6 a2 12 ∧ CC E mX12_ways [vr a2, vi (gI τ6 a0 (x4 + 1).toNat), vi (gI τ6 a0 (x4 + 2).toNat)] τ6 (KI (fun r9 τ10 => inR r9 → okO τ10 a2 12 ∧ CC E mX12_thrown [vr a2] τ10 (KI (fun r11 τ12 => inR r11 → ((r11 = r5 → ((r5 ≠ 0 → GG E mL_law 2194 [some (vr a0), some (vr a1), some (vr a2), some (vr a3), some (vi x4), none, none] [] τ12 (rc - 2) (rs - 12) Q) ∧ (r5 = 0 → okB 23 τ12 a3 0 ∧ (((gI τ12 a3 0) = r9 → GG E mL_law 2194 [some (vr a0), some (vr a1), some (vr a2), some (vr a3), some (vi x4), none, none] [] τ12 (rc - 2) (rs - 12) Q) ∧ (¬ ((gI τ12 a3 0) = r9) → (0 : Int) = 1))))) ∧ (¬ (r11 = r5) → (0 : Int) = 1))) (fun _ _ => False))) (fun _ _ => False))) (fun _ _ => False))) : GG E mL_law 1405 [some (vr a0), some (vr a1), some (vr a2), some (vr a3), some (vi x4), none, none] [] σ rc rs Q := by
  refine r_aload_n (pc := 1405) dL_law_1405 rfl rfl ?_
  refine r_aload_n (pc := 1406) dL_law_1406 rfl rfl ?_
  refine r_iload (pc := 1407) dL_law_1407 rfl ?_
  refine r_iconst (pc := 1409) dL_law_1409 (inRk rfl) ?_
  obtain ⟨o1, h⟩ := h
  refine r_iadd (pc := 1410) dL_law_1410 o1 ?_
  obtain ⟨o2, h⟩ := h
  refine r_iaload (pc := 1411) dL_law_1411 o2 ?_
  refine r_aload_n (pc := 1412) dL_law_1412 rfl rfl ?_
  refine r_iload (pc := 1413) dL_law_1413 rfl ?_
  refine r_iconst (pc := 1415) dL_law_1415 (inRk rfl) ?_
  obtain ⟨o3, h⟩ := h
  refine r_iadd (pc := 1416) dL_law_1416 o3 ?_
  obtain ⟨o4, h⟩ := h
  refine r_iaload (pc := 1417) dL_law_1417 o4 ?_
  refine r_aload_n (pc := 1418) dL_law_1418 rfl rfl ?_
  refine c_SWIAN (M := mL_law) (M2 := mL_ways) (pc := 1419) (As := [vr a1, vi (gI σ a0 (x4 + 1).toNat), vi (gI σ a0 (x4 + 2).toNat), vr a3]) dL_law_1419 rfl w_1224 w_97 w_1223 ⟨by decide +kernel, by decide +kernel, by show _ = some 4; decide +kernel⟩ w_1222 ⟨by decide, by decide⟩ (Nat.le_of_ble_eq_true rfl) h.1 h.2.1 h.2.2 (fun r5 τ6 h8 hr9 => ?_) rfl
  replace h := h8 hr9
  refine r_istore (pc := 1422) dL_law_1422 (by decide) (l2 := [some (vr a0), some (vr a1), some (vr a2), some (vr a3), some (vi x4), some (vi r5), none]) rfl ?_
  refine r_aload_n (pc := 1424) dL_law_1424 rfl rfl ?_
  refine r_aload_n (pc := 1425) dL_law_1425 rfl rfl ?_
  refine r_iload (pc := 1426) dL_law_1426 rfl ?_
  refine r_iconst (pc := 1428) dL_law_1428 (inRk rfl) ?_
  refine r_iadd (pc := 1429) dL_law_1429 o1 ?_
  obtain ⟨o7, h⟩ := h
  refine r_iaload (pc := 1430) dL_law_1430 o7 ?_
  refine r_aload_n (pc := 1431) dL_law_1431 rfl rfl ?_
  refine r_iload (pc := 1432) dL_law_1432 rfl ?_
  refine r_iconst (pc := 1434) dL_law_1434 (inRk rfl) ?_
  refine r_iadd (pc := 1435) dL_law_1435 o3 ?_
  obtain ⟨o8, h⟩ := h
  refine r_iaload (pc := 1436) dL_law_1436 o8 ?_
  refine c_VI0N (M := mL_law) (M2 := mX12_ways) (pc := 1437) (As := [vi (gI τ6 a0 (x4 + 1).toNat), vi (gI τ6 a0 (x4 + 2).toNat)]) dL_law_1437 K_X12_ways w_1806 ⟨by decide, by decide⟩ (Nat.le_of_ble_eq_true rfl) rfl rfl (ci := 12) rfl rfl (by decide) h.1 h.2 (fun r9 τ10 h8 hr9 => ?_) rfl
  replace h := h8 hr9
  refine r_istore (pc := 1440) dL_law_1440 (by decide) (l2 := [some (vr a0), some (vr a1), some (vr a2), some (vr a3), some (vi x4), some (vi r5), some (vi r9)]) rfl ?_
  refine r_aload_n (pc := 1442) dL_law_1442 rfl rfl ?_
  refine c_VI0N (M := mL_law) (M2 := mX12_thrown) (pc := 1443) (As := []) dL_law_1443 K_X12_thrown w_1543 ⟨by decide, by decide⟩ (Nat.le_of_ble_eq_true rfl) rfl rfl (ci := 12) rfl rfl (by decide) h.1 h.2 (fun r11 τ12 h8 hr9 => ?_) rfl
  replace h := h8 hr9
  refine r_iload (pc := 1446) dL_law_1446 rfl ?_
  refine r_icmp_eq (pc := 1448) (tgt := 1453) dL_law_1448 (by decide) (fun c9 => ?_) (fun c9 => ?_)
  · replace h := h.1 c9
    refine r_iload (pc := 1453) dL_law_1453 rfl ?_
    refine r_if_ne (pc := 1455) (tgt := 1470) dL_law_1455 (by decide) (fun c9 => ?_) (fun c9 => ?_)
    · replace h := h.1 c9
      refine r_goto (pc := 1470) (tgt := 2194) dL_law_1470 (by decide) ?_
      exact GG.msk [true, true, true, true, true, false, false] h
    · replace h := h.2 c9
      refine r_aload_n (pc := 1458) dL_law_1458 rfl rfl ?_
      refine r_iconst (pc := 1459) dL_law_1459 (inRk rfl) ?_
      obtain ⟨o13, h⟩ := h
      refine r_laload (pc := 1460) dL_law_1460 o13 ?_
      refine r_iload (pc := 1461) dL_law_1461 rfl ?_
      refine r_i2l (pc := 1463) dL_law_1463 ?_
      refine r_lcmp_ifeq (pc := 1464) (tgt := 1470) dL_law_1464 dL_law_1465 (by decide) (fun c9 => ?_) (fun c9 => ?_)
      · replace h := h.1 c9
        refine r_goto (pc := 1470) (tgt := 2194) dL_law_1470 (by decide) ?_
        exact GG.msk [true, true, true, true, true, false, false] h
      · replace h := h.2 c9
        refine r_iconst (pc := 1468) dL_law_1468 (inRk rfl) ?_
        exact r_lawret0 (pc := 1469) dL_law_1469 rfl rfl rfl rfl h
  · replace h := h.2 c9
    refine r_iconst (pc := 1451) dL_law_1451 (inRk rfl) ?_
    exact r_lawret0 (pc := 1452) dL_law_1452 rfl rfl rfl rfl h
theorem B_L_law_1473 {a0 : Nat} {a1 : Nat} {a2 : Nat} {a3 : Nat} {x4 : Int} (h : inR (x4 + 1) ∧ okA 20 σ a0 (x4 + 1) ∧ inR (x4 + 2) ∧ okA 20 σ a0 (x4 + 2) ∧ 2 ≤ rc ∧ 12 ≤ rs ∧ CC E mL_far [vr a1, vi (gI σ a0 (x4 + 1).toNat), vi (gI σ a0 (x4 + 2).toNat), vr a3] σ (KI (fun r5 τ6 => inR r5 → okA 20 τ6 a0 (x4 + 1) ∧ okA 20 τ6 a0 (x4 + 2) ∧ okO τ6 a2 12 ∧ CC E mX12_far [vr a2, vi (gI τ6 a0 (x4 + 1).toNat), vi (gI τ6 a0 (x4 + 2).toNat)] τ6 (KI (fun r9 τ10 => inR r9 → okO τ10 a2 12 ∧ CC E mX12_thrown [vr a2] τ10 (KI (fun r11 τ12 => inR r11 → ((r11 = r5 → ((r5 ≠ 0 → GG E mL_law 2194 [some (vr a0), some (vr a1), some (vr a2), some (vr a3), some (vi x4), none, none] [] τ12 (rc - 2) (rs - 12) Q) ∧ (r5 = 0 → okB 23 τ12 a3 0 ∧ (((gI τ12 a3 0) = r9 → GG E mL_law 2194 [some (vr a0), some (vr a1), some (vr a2), some (vr a3), some (vi x4), none, none] [] τ12 (rc - 2) (rs - 12) Q) ∧ (¬ ((gI τ12 a3 0) = r9) → (0 : Int) = 1))))) ∧ (¬ (r11 = r5) → (0 : Int) = 1))) (fun _ _ => False))) (fun _ _ => False))) (fun _ _ => False))) : GG E mL_law 1473 [some (vr a0), some (vr a1), some (vr a2), some (vr a3), some (vi x4), none, none] [] σ rc rs Q := by
  refine r_aload_n (pc := 1473) dL_law_1473 rfl rfl ?_
  refine r_aload_n (pc := 1474) dL_law_1474 rfl rfl ?_
  refine r_iload (pc := 1475) dL_law_1475 rfl ?_
  refine r_iconst (pc := 1477) dL_law_1477 (inRk rfl) ?_
  obtain ⟨o1, h⟩ := h
  refine r_iadd (pc := 1478) dL_law_1478 o1 ?_
  obtain ⟨o2, h⟩ := h
  refine r_iaload (pc := 1479) dL_law_1479 o2 ?_
  refine r_aload_n (pc := 1480) dL_law_1480 rfl rfl ?_
  refine r_iload (pc := 1481) dL_law_1481 rfl ?_
  refine r_iconst (pc := 1483) dL_law_1483 (inRk rfl) ?_
  obtain ⟨o3, h⟩ := h
  refine r_iadd (pc := 1484) dL_law_1484 o3 ?_
  obtain ⟨o4, h⟩ := h
  refine r_iaload (pc := 1485) dL_law_1485 o4 ?_
  refine r_aload_n (pc := 1486) dL_law_1486 rfl rfl ?_
  refine c_SWIAN (M := mL_law) (M2 := mL_far) (pc := 1487) (As := [vr a1, vi (gI σ a0 (x4 + 1).toNat), vi (gI σ a0 (x4 + 2).toNat), vr a3]) dL_law_1487 rfl w_1231 w_97 w_1230 ⟨by decide +kernel, by decide +kernel, by show _ = some 4; decide +kernel⟩ w_1229 ⟨by decide, by decide⟩ (Nat.le_of_ble_eq_true rfl) h.1 h.2.1 h.2.2 (fun r5 τ6 h8 hr9 => ?_) rfl
  replace h := h8 hr9
  refine r_istore (pc := 1490) dL_law_1490 (by decide) (l2 := [some (vr a0), some (vr a1), some (vr a2), some (vr a3), some (vi x4), some (vi r5), none]) rfl ?_
  refine r_aload_n (pc := 1492) dL_law_1492 rfl rfl ?_
  refine r_aload_n (pc := 1493) dL_law_1493 rfl rfl ?_
  refine r_iload (pc := 1494) dL_law_1494 rfl ?_
  refine r_iconst (pc := 1496) dL_law_1496 (inRk rfl) ?_
  refine r_iadd (pc := 1497) dL_law_1497 o1 ?_
  obtain ⟨o7, h⟩ := h
  refine r_iaload (pc := 1498) dL_law_1498 o7 ?_
  refine r_aload_n (pc := 1499) dL_law_1499 rfl rfl ?_
  refine r_iload (pc := 1500) dL_law_1500 rfl ?_
  refine r_iconst (pc := 1502) dL_law_1502 (inRk rfl) ?_
  refine r_iadd (pc := 1503) dL_law_1503 o3 ?_
  obtain ⟨o8, h⟩ := h
  refine r_iaload (pc := 1504) dL_law_1504 o8 ?_
  refine c_VI0N (M := mL_law) (M2 := mX12_far) (pc := 1505) (As := [vi (gI τ6 a0 (x4 + 1).toNat), vi (gI τ6 a0 (x4 + 2).toNat)]) dL_law_1505 K_X12_far w_1810 ⟨by decide, by decide⟩ (Nat.le_of_ble_eq_true rfl) rfl rfl (ci := 12) rfl rfl (by decide) h.1 h.2 (fun r9 τ10 h8 hr9 => ?_) rfl
  replace h := h8 hr9
  refine r_istore (pc := 1508) dL_law_1508 (by decide) (l2 := [some (vr a0), some (vr a1), some (vr a2), some (vr a3), some (vi x4), some (vi r5), some (vi r9)]) rfl ?_
  refine r_aload_n (pc := 1510) dL_law_1510 rfl rfl ?_
  refine c_VI0N (M := mL_law) (M2 := mX12_thrown) (pc := 1511) (As := []) dL_law_1511 K_X12_thrown w_1543 ⟨by decide, by decide⟩ (Nat.le_of_ble_eq_true rfl) rfl rfl (ci := 12) rfl rfl (by decide) h.1 h.2 (fun r11 τ12 h8 hr9 => ?_) rfl
  replace h := h8 hr9
  refine r_iload (pc := 1514) dL_law_1514 rfl ?_
  refine r_icmp_eq (pc := 1516) (tgt := 1521) dL_law_1516 (by decide) (fun c9 => ?_) (fun c9 => ?_)
  · replace h := h.1 c9
    refine r_iload (pc := 1521) dL_law_1521 rfl ?_
    refine r_if_ne (pc := 1523) (tgt := 1538) dL_law_1523 (by decide) (fun c9 => ?_) (fun c9 => ?_)
    · replace h := h.1 c9
      refine r_goto (pc := 1538) (tgt := 2194) dL_law_1538 (by decide) ?_
      exact GG.msk [true, true, true, true, true, false, false] h
    · replace h := h.2 c9
      refine r_aload_n (pc := 1526) dL_law_1526 rfl rfl ?_
      refine r_iconst (pc := 1527) dL_law_1527 (inRk rfl) ?_
      obtain ⟨o13, h⟩ := h
      refine r_laload (pc := 1528) dL_law_1528 o13 ?_
      refine r_iload (pc := 1529) dL_law_1529 rfl ?_
      refine r_i2l (pc := 1531) dL_law_1531 ?_
      refine r_lcmp_ifeq (pc := 1532) (tgt := 1538) dL_law_1532 dL_law_1533 (by decide) (fun c9 => ?_) (fun c9 => ?_)
      · replace h := h.1 c9
        refine r_goto (pc := 1538) (tgt := 2194) dL_law_1538 (by decide) ?_
        exact GG.msk [true, true, true, true, true, false, false] h
      · replace h := h.2 c9
        refine r_iconst (pc := 1536) dL_law_1536 (inRk rfl) ?_
        exact r_lawret0 (pc := 1537) dL_law_1537 rfl rfl rfl rfl h
  · replace h := h.2 c9
    refine r_iconst (pc := 1519) dL_law_1519 (inRk rfl) ?_
    exact r_lawret0 (pc := 1520) dL_law_1520 rfl rfl rfl rfl h
theorem B_L_law_1541 {a0 : Nat} {a1 : Nat} {a2 : Nat} {a3 : Nat} {x4 : Int} (h : inR (x4 + 1) ∧ okA 20 σ a0 (x4 + 1) ∧ 1 ≤ rc ∧ 6 ≤ rs ∧ CC E mL_withWays [vr a1, vi (gI σ a0 (x4 + 1).toNat), vr a3] σ (KI (fun r3 τ4 => inR r3 → okA 20 τ4 a0 (x4 + 1) ∧ okO τ4 a2 12 ∧ CC E mX12_withWays [vr a2, vi (gI τ4 a0 (x4 + 1).toNat)] τ4 (KI (fun r6 τ7 => inR r6 → okO τ7 a2 12 ∧ CC E mX12_thrown [vr a2] τ7 (KI (fun r8 τ9 => inR r8 → ((r8 = r3 → ((r3 ≠ 0 → GG E mL_law 2194 [some (vr a0), some (vr a1), some (vr a2), some (vr a3), some (vi x4), none, none] [] τ9 (rc - 1) (rs - 6) Q) ∧ (r3 = 0 → okB 23 τ9 a3 0 ∧ (((gI τ9 a3 0) = r6 → GG E mL_law 2194 [some (vr a0), some (vr a1), some (vr a2), some (vr a3), some (vi x4), none, none] [] τ9 (rc - 1) (rs - 6) Q) ∧ (¬ ((gI τ9 a3 0) = r6) → (0 : Int) = 1))))) ∧ (¬ (r8 = r3) → (0 : Int) = 1))) (fun _ _ => False))) (fun _ _ => False))) (fun _ _ => False))) : GG E mL_law 1541 [some (vr a0), some (vr a1), some (vr a2), some (vr a3), some (vi x4), none, none] [] σ rc rs Q := by
  refine r_aload_n (pc := 1541) dL_law_1541 rfl rfl ?_
  refine r_aload_n (pc := 1542) dL_law_1542 rfl rfl ?_
  refine r_iload (pc := 1543) dL_law_1543 rfl ?_
  refine r_iconst (pc := 1545) dL_law_1545 (inRk rfl) ?_
  obtain ⟨o1, h⟩ := h
  refine r_iadd (pc := 1546) dL_law_1546 o1 ?_
  obtain ⟨o2, h⟩ := h
  refine r_iaload (pc := 1547) dL_law_1547 o2 ?_
  refine r_aload_n (pc := 1548) dL_law_1548 rfl rfl ?_
  refine c_SWIAN (M := mL_law) (M2 := mL_withWays) (pc := 1549) (As := [vr a1, vi (gI σ a0 (x4 + 1).toNat), vr a3]) dL_law_1549 rfl w_1238 w_97 w_1237 ⟨by decide +kernel, by decide +kernel, by show _ = some 3; decide +kernel⟩ w_1236 ⟨by decide, by decide⟩ (Nat.le_of_ble_eq_true rfl) h.1 h.2.1 h.2.2 (fun r3 τ4 h8 hr9 => ?_) rfl
  replace h := h8 hr9
  refine r_istore (pc := 1552) dL_law_1552 (by decide) (l2 := [some (vr a0), some (vr a1), some (vr a2), some (vr a3), some (vi x4), some (vi r3), none]) rfl ?_
  refine r_aload_n (pc := 1554) dL_law_1554 rfl rfl ?_
  refine r_aload_n (pc := 1555) dL_law_1555 rfl rfl ?_
  refine r_iload (pc := 1556) dL_law_1556 rfl ?_
  refine r_iconst (pc := 1558) dL_law_1558 (inRk rfl) ?_
  refine r_iadd (pc := 1559) dL_law_1559 o1 ?_
  obtain ⟨o5, h⟩ := h
  refine r_iaload (pc := 1560) dL_law_1560 o5 ?_
  refine c_VI0N (M := mL_law) (M2 := mX12_withWays) (pc := 1561) (As := [vi (gI τ4 a0 (x4 + 1).toNat)]) dL_law_1561 K_X12_withWays w_1814 ⟨by decide, by decide⟩ (Nat.le_of_ble_eq_true rfl) rfl rfl (ci := 12) rfl rfl (by decide) h.1 h.2 (fun r6 τ7 h8 hr9 => ?_) rfl
  replace h := h8 hr9
  refine r_istore (pc := 1564) dL_law_1564 (by decide) (l2 := [some (vr a0), some (vr a1), some (vr a2), some (vr a3), some (vi x4), some (vi r3), some (vi r6)]) rfl ?_
  refine r_aload_n (pc := 1566) dL_law_1566 rfl rfl ?_
  refine c_VI0N (M := mL_law) (M2 := mX12_thrown) (pc := 1567) (As := []) dL_law_1567 K_X12_thrown w_1543 ⟨by decide, by decide⟩ (Nat.le_of_ble_eq_true rfl) rfl rfl (ci := 12) rfl rfl (by decide) h.1 h.2 (fun r8 τ9 h8 hr9 => ?_) rfl
  replace h := h8 hr9
  refine r_iload (pc := 1570) dL_law_1570 rfl ?_
  refine r_icmp_eq (pc := 1572) (tgt := 1577) dL_law_1572 (by decide) (fun c9 => ?_) (fun c9 => ?_)
  · replace h := h.1 c9
    refine r_iload (pc := 1577) dL_law_1577 rfl ?_
    refine r_if_ne (pc := 1579) (tgt := 1594) dL_law_1579 (by decide) (fun c9 => ?_) (fun c9 => ?_)
    · replace h := h.1 c9
      refine r_goto (pc := 1594) (tgt := 2194) dL_law_1594 (by decide) ?_
      exact GG.msk [true, true, true, true, true, false, false] h
    · replace h := h.2 c9
      refine r_aload_n (pc := 1582) dL_law_1582 rfl rfl ?_
      refine r_iconst (pc := 1583) dL_law_1583 (inRk rfl) ?_
      obtain ⟨o10, h⟩ := h
      refine r_laload (pc := 1584) dL_law_1584 o10 ?_
      refine r_iload (pc := 1585) dL_law_1585 rfl ?_
      refine r_i2l (pc := 1587) dL_law_1587 ?_
      refine r_lcmp_ifeq (pc := 1588) (tgt := 1594) dL_law_1588 dL_law_1589 (by decide) (fun c9 => ?_) (fun c9 => ?_)
      · replace h := h.1 c9
        refine r_goto (pc := 1594) (tgt := 2194) dL_law_1594 (by decide) ?_
        exact GG.msk [true, true, true, true, true, false, false] h
      · replace h := h.2 c9
        refine r_iconst (pc := 1592) dL_law_1592 (inRk rfl) ?_
        exact r_lawret0 (pc := 1593) dL_law_1593 rfl rfl rfl rfl h
  · replace h := h.2 c9
    refine r_iconst (pc := 1575) dL_law_1575 (inRk rfl) ?_
    exact r_lawret0 (pc := 1576) dL_law_1576 rfl rfl rfl rfl h
theorem B_L_law_1597 {a0 : Nat} {a1 : Nat} {a2 : Nat} {a3 : Nat} {x4 : Int} (h : inR (x4 + 1) ∧ okA 20 σ a0 (x4 + 1) ∧ 1 ≤ rc ∧ 6 ≤ rs ∧ CC E mL_invariants [vr a1, vi (gI σ a0 (x4 + 1).toNat), vr a3] σ (KI (fun r3 τ4 => inR r3 → okA 20 τ4 a0 (x4 + 1) ∧ okO τ4 a2 12 ∧ CC E mX12_invariants [vr a2, vi (gI τ4 a0 (x4 + 1).toNat)] τ4 (KI (fun r6 τ7 => inR r6 → okO τ7 a2 12 ∧ CC E mX12_thrown [vr a2] τ7 (KI (fun r8 τ9 => inR r8 → ((r8 = r3 → ((r3 ≠ 0 → GG E mL_law 2194 [some (vr a0), some (vr a1), some (vr a2), some (vr a3), some (vi x4), none, none] [] τ9 (rc - 1) (rs - 6) Q) ∧ (r3 = 0 → okB 23 τ9 a3 0 ∧ (((gI τ9 a3 0) = r6 → GG E mL_law 2194 [some (vr a0), some (vr a1), some (vr a2), some (vr a3), some (vi x4), none, none] [] τ9 (rc - 1) (rs - 6) Q) ∧ (¬ ((gI τ9 a3 0) = r6) → (0 : Int) = 1))))) ∧ (¬ (r8 = r3) → (0 : Int) = 1))) (fun _ _ => False))) (fun _ _ => False))) (fun _ _ => False))) : GG E mL_law 1597 [some (vr a0), some (vr a1), some (vr a2), some (vr a3), some (vi x4), none, none] [] σ rc rs Q := by
  refine r_aload_n (pc := 1597) dL_law_1597 rfl rfl ?_
  refine r_aload_n (pc := 1598) dL_law_1598 rfl rfl ?_
  refine r_iload (pc := 1599) dL_law_1599 rfl ?_
  refine r_iconst (pc := 1601) dL_law_1601 (inRk rfl) ?_
  obtain ⟨o1, h⟩ := h
  refine r_iadd (pc := 1602) dL_law_1602 o1 ?_
  obtain ⟨o2, h⟩ := h
  refine r_iaload (pc := 1603) dL_law_1603 o2 ?_
  refine r_aload_n (pc := 1604) dL_law_1604 rfl rfl ?_
  refine c_SWIAN (M := mL_law) (M2 := mL_invariants) (pc := 1605) (As := [vr a1, vi (gI σ a0 (x4 + 1).toNat), vr a3]) dL_law_1605 rfl w_1246 w_97 w_1245 ⟨by decide +kernel, by decide +kernel, by show _ = some 3; decide +kernel⟩ w_1244 ⟨by decide, by decide⟩ (Nat.le_of_ble_eq_true rfl) h.1 h.2.1 h.2.2 (fun r3 τ4 h8 hr9 => ?_) rfl
  replace h := h8 hr9
  refine r_istore (pc := 1608) dL_law_1608 (by decide) (l2 := [some (vr a0), some (vr a1), some (vr a2), some (vr a3), some (vi x4), some (vi r3), none]) rfl ?_
  refine r_aload_n (pc := 1610) dL_law_1610 rfl rfl ?_
  refine r_aload_n (pc := 1611) dL_law_1611 rfl rfl ?_
  refine r_iload (pc := 1612) dL_law_1612 rfl ?_
  refine r_iconst (pc := 1614) dL_law_1614 (inRk rfl) ?_
  refine r_iadd (pc := 1615) dL_law_1615 o1 ?_
  obtain ⟨o5, h⟩ := h
  refine r_iaload (pc := 1616) dL_law_1616 o5 ?_
  refine c_VI0N (M := mL_law) (M2 := mX12_invariants) (pc := 1617) (As := [vi (gI τ4 a0 (x4 + 1).toNat)]) dL_law_1617 K_X12_invariants w_1818 ⟨by decide, by decide⟩ (Nat.le_of_ble_eq_true rfl) rfl rfl (ci := 12) rfl rfl (by decide) h.1 h.2 (fun r6 τ7 h8 hr9 => ?_) rfl
  replace h := h8 hr9
  refine r_istore (pc := 1620) dL_law_1620 (by decide) (l2 := [some (vr a0), some (vr a1), some (vr a2), some (vr a3), some (vi x4), some (vi r3), some (vi r6)]) rfl ?_
  refine r_aload_n (pc := 1622) dL_law_1622 rfl rfl ?_
  refine c_VI0N (M := mL_law) (M2 := mX12_thrown) (pc := 1623) (As := []) dL_law_1623 K_X12_thrown w_1543 ⟨by decide, by decide⟩ (Nat.le_of_ble_eq_true rfl) rfl rfl (ci := 12) rfl rfl (by decide) h.1 h.2 (fun r8 τ9 h8 hr9 => ?_) rfl
  replace h := h8 hr9
  refine r_iload (pc := 1626) dL_law_1626 rfl ?_
  refine r_icmp_eq (pc := 1628) (tgt := 1633) dL_law_1628 (by decide) (fun c9 => ?_) (fun c9 => ?_)
  · replace h := h.1 c9
    refine r_iload (pc := 1633) dL_law_1633 rfl ?_
    refine r_if_ne (pc := 1635) (tgt := 1650) dL_law_1635 (by decide) (fun c9 => ?_) (fun c9 => ?_)
    · replace h := h.1 c9
      refine r_goto (pc := 1650) (tgt := 2194) dL_law_1650 (by decide) ?_
      exact GG.msk [true, true, true, true, true, false, false] h
    · replace h := h.2 c9
      refine r_aload_n (pc := 1638) dL_law_1638 rfl rfl ?_
      refine r_iconst (pc := 1639) dL_law_1639 (inRk rfl) ?_
      obtain ⟨o10, h⟩ := h
      refine r_laload (pc := 1640) dL_law_1640 o10 ?_
      refine r_iload (pc := 1641) dL_law_1641 rfl ?_
      refine r_i2l (pc := 1643) dL_law_1643 ?_
      refine r_lcmp_ifeq (pc := 1644) (tgt := 1650) dL_law_1644 dL_law_1645 (by decide) (fun c9 => ?_) (fun c9 => ?_)
      · replace h := h.1 c9
        refine r_goto (pc := 1650) (tgt := 2194) dL_law_1650 (by decide) ?_
        exact GG.msk [true, true, true, true, true, false, false] h
      · replace h := h.2 c9
        refine r_iconst (pc := 1648) dL_law_1648 (inRk rfl) ?_
        exact r_lawret0 (pc := 1649) dL_law_1649 rfl rfl rfl rfl h
  · replace h := h.2 c9
    refine r_iconst (pc := 1631) dL_law_1631 (inRk rfl) ?_
    exact r_lawret0 (pc := 1632) dL_law_1632 rfl rfl rfl rfl h
theorem B_L_law_1653 {a0 : Nat} {a1 : Nat} {a2 : Nat} {a3 : Nat} {x4 : Int} (h : inR (x4 + 1) ∧ okA 20 σ a0 (x4 + 1) ∧ inR (x4 + 2) ∧ okA 20 σ a0 (x4 + 2) ∧ 2 ≤ rc ∧ 12 ≤ rs ∧ CC E mL_inRow [vr a1, vi (gI σ a0 (x4 + 1).toNat), vi (gI σ a0 (x4 + 2).toNat), vr a3] σ (KI (fun r5 τ6 => inR r5 → okA 20 τ6 a0 (x4 + 1) ∧ okA 20 τ6 a0 (x4 + 2) ∧ okO τ6 a2 12 ∧ CC E mX12_inRow [vr a2, vi (gI τ6 a0 (x4 + 1).toNat), vi (gI τ6 a0 (x4 + 2).toNat)] τ6 (KI (fun r9 τ10 => inR r9 → okO τ10 a2 12 ∧ CC E mX12_thrown [vr a2] τ10 (KI (fun r11 τ12 => inR r11 → ((r11 = r5 → ((r5 ≠ 0 → GG E mL_law 2194 [some (vr a0), some (vr a1), some (vr a2), some (vr a3), some (vi x4), none, none] [] τ12 (rc - 2) (rs - 12) Q) ∧ (r5 = 0 → okB 23 τ12 a3 0 ∧ (((gI τ12 a3 0) = r9 → GG E mL_law 2194 [some (vr a0), some (vr a1), some (vr a2), some (vr a3), some (vi x4), none, none] [] τ12 (rc - 2) (rs - 12) Q) ∧ (¬ ((gI τ12 a3 0) = r9) → (0 : Int) = 1))))) ∧ (¬ (r11 = r5) → (0 : Int) = 1))) (fun _ _ => False))) (fun _ _ => False))) (fun _ _ => False))) : GG E mL_law 1653 [some (vr a0), some (vr a1), some (vr a2), some (vr a3), some (vi x4), none, none] [] σ rc rs Q := by
  refine r_aload_n (pc := 1653) dL_law_1653 rfl rfl ?_
  refine r_aload_n (pc := 1654) dL_law_1654 rfl rfl ?_
  refine r_iload (pc := 1655) dL_law_1655 rfl ?_
  refine r_iconst (pc := 1657) dL_law_1657 (inRk rfl) ?_
  obtain ⟨o1, h⟩ := h
  refine r_iadd (pc := 1658) dL_law_1658 o1 ?_
  obtain ⟨o2, h⟩ := h
  refine r_iaload (pc := 1659) dL_law_1659 o2 ?_
  refine r_aload_n (pc := 1660) dL_law_1660 rfl rfl ?_
  refine r_iload (pc := 1661) dL_law_1661 rfl ?_
  refine r_iconst (pc := 1663) dL_law_1663 (inRk rfl) ?_
  obtain ⟨o3, h⟩ := h
  refine r_iadd (pc := 1664) dL_law_1664 o3 ?_
  obtain ⟨o4, h⟩ := h
  refine r_iaload (pc := 1665) dL_law_1665 o4 ?_
  refine r_aload_n (pc := 1666) dL_law_1666 rfl rfl ?_
  refine c_SWIAN (M := mL_law) (M2 := mL_inRow) (pc := 1667) (As := [vr a1, vi (gI σ a0 (x4 + 1).toNat), vi (gI σ a0 (x4 + 2).toNat), vr a3]) dL_law_1667 rfl w_1261 w_97 w_1260 ⟨by decide +kernel, by decide +kernel, by show _ = some 4; decide +kernel⟩ w_1259 ⟨by decide, by decide⟩ (Nat.le_of_ble_eq_true rfl) h.1 h.2.1 h.2.2 (fun r5 τ6 h8 hr9 => ?_) rfl
  replace h := h8 hr9
  refine r_istore (pc := 1670) dL_law_1670 (by decide) (l2 := [some (vr a0), some (vr a1), some (vr a2), some (vr a3), some (vi x4), some (vi r5), none]) rfl ?_
  refine r_aload_n (pc := 1672) dL_law_1672 rfl rfl ?_
  refine r_aload_n (pc := 1673) dL_law_1673 rfl rfl ?_
  refine r_iload (pc := 1674) dL_law_1674 rfl ?_
  refine r_iconst (pc := 1676) dL_law_1676 (inRk rfl) ?_
  refine r_iadd (pc := 1677) dL_law_1677 o1 ?_
  obtain ⟨o7, h⟩ := h
  refine r_iaload (pc := 1678) dL_law_1678 o7 ?_
  refine r_aload_n (pc := 1679) dL_law_1679 rfl rfl ?_
  refine r_iload (pc := 1680) dL_law_1680 rfl ?_
  refine r_iconst (pc := 1682) dL_law_1682 (inRk rfl) ?_
  refine r_iadd (pc := 1683) dL_law_1683 o3 ?_
  obtain ⟨o8, h⟩ := h
  refine r_iaload (pc := 1684) dL_law_1684 o8 ?_
  refine c_VI0N (M := mL_law) (M2 := mX12_inRow) (pc := 1685) (As := [vi (gI τ6 a0 (x4 + 1).toNat), vi (gI τ6 a0 (x4 + 2).toNat)]) dL_law_1685 K_X12_inRow w_1823 ⟨by decide, by decide⟩ (Nat.le_of_ble_eq_true rfl) rfl rfl (ci := 12) rfl rfl (by decide) h.1 h.2 (fun r9 τ10 h8 hr9 => ?_) rfl
  replace h := h8 hr9
  refine r_istore (pc := 1688) dL_law_1688 (by decide) (l2 := [some (vr a0), some (vr a1), some (vr a2), some (vr a3), some (vi x4), some (vi r5), some (vi r9)]) rfl ?_
  refine r_aload_n (pc := 1690) dL_law_1690 rfl rfl ?_
  refine c_VI0N (M := mL_law) (M2 := mX12_thrown) (pc := 1691) (As := []) dL_law_1691 K_X12_thrown w_1543 ⟨by decide, by decide⟩ (Nat.le_of_ble_eq_true rfl) rfl rfl (ci := 12) rfl rfl (by decide) h.1 h.2 (fun r11 τ12 h8 hr9 => ?_) rfl
  replace h := h8 hr9
  refine r_iload (pc := 1694) dL_law_1694 rfl ?_
  refine r_icmp_eq (pc := 1696) (tgt := 1701) dL_law_1696 (by decide) (fun c9 => ?_) (fun c9 => ?_)
  · replace h := h.1 c9
    refine r_iload (pc := 1701) dL_law_1701 rfl ?_
    refine r_if_ne (pc := 1703) (tgt := 1718) dL_law_1703 (by decide) (fun c9 => ?_) (fun c9 => ?_)
    · replace h := h.1 c9
      refine r_goto (pc := 1718) (tgt := 2194) dL_law_1718 (by decide) ?_
      exact GG.msk [true, true, true, true, true, false, false] h
    · replace h := h.2 c9
      refine r_aload_n (pc := 1706) dL_law_1706 rfl rfl ?_
      refine r_iconst (pc := 1707) dL_law_1707 (inRk rfl) ?_
      obtain ⟨o13, h⟩ := h
      refine r_laload (pc := 1708) dL_law_1708 o13 ?_
      refine r_iload (pc := 1709) dL_law_1709 rfl ?_
      refine r_i2l (pc := 1711) dL_law_1711 ?_
      refine r_lcmp_ifeq (pc := 1712) (tgt := 1718) dL_law_1712 dL_law_1713 (by decide) (fun c9 => ?_) (fun c9 => ?_)
      · replace h := h.1 c9
        refine r_goto (pc := 1718) (tgt := 2194) dL_law_1718 (by decide) ?_
        exact GG.msk [true, true, true, true, true, false, false] h
      · replace h := h.2 c9
        refine r_iconst (pc := 1716) dL_law_1716 (inRk rfl) ?_
        exact r_lawret0 (pc := 1717) dL_law_1717 rfl rfl rfl rfl h
  · replace h := h.2 c9
    refine r_iconst (pc := 1699) dL_law_1699 (inRk rfl) ?_
    exact r_lawret0 (pc := 1700) dL_law_1700 rfl rfl rfl rfl h
theorem B_L_law_1721 {a0 : Nat} {a1 : Nat} {a2 : Nat} {a3 : Nat} {x4 : Int} (h : inR (x4 + 1) ∧ okA 20 σ a0 (x4 + 1) ∧ inR (x4 + 2) ∧ okA 20 σ a0 (x4 + 2) ∧ 1 ≤ rc ∧ 6 ≤ rs ∧ CC E mL_row [vr a1, vi (gI σ a0 (x4 + 1).toNat), vi (gI σ a0 (x4 + 2).toNat), vr a3] σ (KI (fun r5 τ6 => inR r5 → okA 20 τ6 a0 (x4 + 1) ∧ okA 20 τ6 a0 (x4 + 2) ∧ okO τ6 a2 12 ∧ CC E mX12_row [vr a2, vi (gI τ6 a0 (x4 + 1).toNat), vi (gI τ6 a0 (x4 + 2).toNat)] τ6 (KI (fun r9 τ10 => inR r9 → okO τ10 a2 12 ∧ CC E mX12_thrown [vr a2] τ10 (KI (fun r11 τ12 => inR r11 → ((r11 = r5 → ((r5 ≠ 0 → GG E mL_law 2194 [some (vr a0), some (vr a1), some (vr a2), some (vr a3), some (vi x4), none, none] [] τ12 (rc - 1) (rs - 6) Q) ∧ (r5 = 0 → okB 23 τ12 a3 0 ∧ (((gI τ12 a3 0) = r9 → GG E mL_law 2194 [some (vr a0), some (vr a1), some (vr a2), some (vr a3), some (vi x4), none, none] [] τ12 (rc - 1) (rs - 6) Q) ∧ (¬ ((gI τ12 a3 0) = r9) → (0 : Int) = 1))))) ∧ (¬ (r11 = r5) → (0 : Int) = 1))) (fun _ _ => False))) (fun _ _ => False))) (fun _ _ => False))) : GG E mL_law 1721 [some (vr a0), some (vr a1), some (vr a2), some (vr a3), some (vi x4), none, none] [] σ rc rs Q := by
  refine r_aload_n (pc := 1721) dL_law_1721 rfl rfl ?_
  refine r_aload_n (pc := 1722) dL_law_1722 rfl rfl ?_
  refine r_iload (pc := 1723) dL_law_1723 rfl ?_
  refine r_iconst (pc := 1725) dL_law_1725 (inRk rfl) ?_
  obtain ⟨o1, h⟩ := h
  refine r_iadd (pc := 1726) dL_law_1726 o1 ?_
  obtain ⟨o2, h⟩ := h
  refine r_iaload (pc := 1727) dL_law_1727 o2 ?_
  refine r_aload_n (pc := 1728) dL_law_1728 rfl rfl ?_
  refine r_iload (pc := 1729) dL_law_1729 rfl ?_
  refine r_iconst (pc := 1731) dL_law_1731 (inRk rfl) ?_
  obtain ⟨o3, h⟩ := h
  refine r_iadd (pc := 1732) dL_law_1732 o3 ?_
  obtain ⟨o4, h⟩ := h
  refine r_iaload (pc := 1733) dL_law_1733 o4 ?_
  refine r_aload_n (pc := 1734) dL_law_1734 rfl rfl ?_
  refine c_SWIAN (M := mL_law) (M2 := mL_row) (pc := 1735) (As := [vr a1, vi (gI σ a0 (x4 + 1).toNat), vi (gI σ a0 (x4 + 2).toNat), vr a3]) dL_law_1735 rfl w_1282 w_97 w_1281 ⟨by decide +kernel, by decide +kernel, by show _ = some 4; decide +kernel⟩ w_1280 ⟨by decide, by decide⟩ (Nat.le_of_ble_eq_true rfl) h.1 h.2.1 h.2.2 (fun r5 τ6 h8 hr9 => ?_) rfl
  replace h := h8 hr9
  refine r_istore (pc := 1738) dL_law_1738 (by decide) (l2 := [some (vr a0), some (vr a1), some (vr a2), some (vr a3), some (vi x4), some (vi r5), none]) rfl ?_
  refine r_aload_n (pc := 1740) dL_law_1740 rfl rfl ?_
  refine r_aload_n (pc := 1741) dL_law_1741 rfl rfl ?_
  refine r_iload (pc := 1742) dL_law_1742 rfl ?_
  refine r_iconst (pc := 1744) dL_law_1744 (inRk rfl) ?_
  refine r_iadd (pc := 1745) dL_law_1745 o1 ?_
  obtain ⟨o7, h⟩ := h
  refine r_iaload (pc := 1746) dL_law_1746 o7 ?_
  refine r_aload_n (pc := 1747) dL_law_1747 rfl rfl ?_
  refine r_iload (pc := 1748) dL_law_1748 rfl ?_
  refine r_iconst (pc := 1750) dL_law_1750 (inRk rfl) ?_
  refine r_iadd (pc := 1751) dL_law_1751 o3 ?_
  obtain ⟨o8, h⟩ := h
  refine r_iaload (pc := 1752) dL_law_1752 o8 ?_
  refine c_VI0N (M := mL_law) (M2 := mX12_row) (pc := 1753) (As := [vi (gI τ6 a0 (x4 + 1).toNat), vi (gI τ6 a0 (x4 + 2).toNat)]) dL_law_1753 K_X12_row w_1831 ⟨by decide, by decide⟩ (Nat.le_of_ble_eq_true rfl) rfl rfl (ci := 12) rfl rfl (by decide) h.1 h.2 (fun r9 τ10 h8 hr9 => ?_) rfl
  replace h := h8 hr9
  refine r_istore (pc := 1756) dL_law_1756 (by decide) (l2 := [some (vr a0), some (vr a1), some (vr a2), some (vr a3), some (vi x4), some (vi r5), some (vi r9)]) rfl ?_
  refine r_aload_n (pc := 1758) dL_law_1758 rfl rfl ?_
  refine c_VI0N (M := mL_law) (M2 := mX12_thrown) (pc := 1759) (As := []) dL_law_1759 K_X12_thrown w_1543 ⟨by decide, by decide⟩ (Nat.le_of_ble_eq_true rfl) rfl rfl (ci := 12) rfl rfl (by decide) h.1 h.2 (fun r11 τ12 h8 hr9 => ?_) rfl
  replace h := h8 hr9
  refine r_iload (pc := 1762) dL_law_1762 rfl ?_
  refine r_icmp_eq (pc := 1764) (tgt := 1769) dL_law_1764 (by decide) (fun c9 => ?_) (fun c9 => ?_)
  · replace h := h.1 c9
    refine r_iload (pc := 1769) dL_law_1769 rfl ?_
    refine r_if_ne (pc := 1771) (tgt := 1786) dL_law_1771 (by decide) (fun c9 => ?_) (fun c9 => ?_)
    · replace h := h.1 c9
      refine r_goto (pc := 1786) (tgt := 2194) dL_law_1786 (by decide) ?_
      exact GG.msk [true, true, true, true, true, false, false] h
    · replace h := h.2 c9
      refine r_aload_n (pc := 1774) dL_law_1774 rfl rfl ?_
      refine r_iconst (pc := 1775) dL_law_1775 (inRk rfl) ?_
      obtain ⟨o13, h⟩ := h
      refine r_laload (pc := 1776) dL_law_1776 o13 ?_
      refine r_iload (pc := 1777) dL_law_1777 rfl ?_
      refine r_i2l (pc := 1779) dL_law_1779 ?_
      refine r_lcmp_ifeq (pc := 1780) (tgt := 1786) dL_law_1780 dL_law_1781 (by decide) (fun c9 => ?_) (fun c9 => ?_)
      · replace h := h.1 c9
        refine r_goto (pc := 1786) (tgt := 2194) dL_law_1786 (by decide) ?_
        exact GG.msk [true, true, true, true, true, false, false] h
      · replace h := h.2 c9
        refine r_iconst (pc := 1784) dL_law_1784 (inRk rfl) ?_
        exact r_lawret0 (pc := 1785) dL_law_1785 rfl rfl rfl rfl h
  · replace h := h.2 c9
    refine r_iconst (pc := 1767) dL_law_1767 (inRk rfl) ?_
    exact r_lawret0 (pc := 1768) dL_law_1768 rfl rfl rfl rfl h
theorem B_L_law_1789 {a0 : Nat} {a1 : Nat} {a2 : Nat} {a3 : Nat} {x4 : Int} (h : inR (x4 + 1) ∧ okA 20 σ a0 (x4 + 1) ∧ inR (x4 + 2) ∧ okA 20 σ a0 (x4 + 2) ∧ inR (x4 + 3) ∧ okA 20 σ a0 (x4 + 3) ∧ 3 ≤ rc ∧ 18 ≤ rs ∧ CC E mL_made [vr a1, vi (gI σ a0 (x4 + 1).toNat), vi (gI σ a0 (x4 + 2).toNat), vi (gI σ a0 (x4 + 3).toNat), vr a3] σ (KI (fun r7 τ8 => inR r7 → okA 20 τ8 a0 (x4 + 1) ∧ okA 20 τ8 a0 (x4 + 2) ∧ okA 20 τ8 a0 (x4 + 3) ∧ okO τ8 a2 12 ∧ CC E mX12_made [vr a2, vi (gI τ8 a0 (x4 + 1).toNat), vi (gI τ8 a0 (x4 + 2).toNat), vi (gI τ8 a0 (x4 + 3).toNat)] τ8 (KI (fun r12 τ13 => inR r12 → okO τ13 a2 12 ∧ CC E mX12_thrown [vr a2] τ13 (KI (fun r14 τ15 => inR r14 → ((r14 = r7 → ((r7 ≠ 0 → GG E mL_law 2194 [some (vr a0), some (vr a1), some (vr a2), some (vr a3), some (vi x4), none, none] [] τ15 (rc - 3) (rs - 18) Q) ∧ (r7 = 0 → okB 23 τ15 a3 0 ∧ (((gI τ15 a3 0) = r12 → GG E mL_law 2194 [some (vr a0), some (vr a1), some (vr a2), some (vr a3), some (vi x4), none, none] [] τ15 (rc - 3) (rs - 18) Q) ∧ (¬ ((gI τ15 a3 0) = r12) → (0 : Int) = 1))))) ∧ (¬ (r14 = r7) → (0 : Int) = 1))) (fun _ _ => False))) (fun _ _ => False))) (fun _ _ => False))) : GG E mL_law 1789 [some (vr a0), some (vr a1), some (vr a2), some (vr a3), some (vi x4), none, none] [] σ rc rs Q := by
  refine r_aload_n (pc := 1789) dL_law_1789 rfl rfl ?_
  refine r_aload_n (pc := 1790) dL_law_1790 rfl rfl ?_
  refine r_iload (pc := 1791) dL_law_1791 rfl ?_
  refine r_iconst (pc := 1793) dL_law_1793 (inRk rfl) ?_
  obtain ⟨o1, h⟩ := h
  refine r_iadd (pc := 1794) dL_law_1794 o1 ?_
  obtain ⟨o2, h⟩ := h
  refine r_iaload (pc := 1795) dL_law_1795 o2 ?_
  refine r_aload_n (pc := 1796) dL_law_1796 rfl rfl ?_
  refine r_iload (pc := 1797) dL_law_1797 rfl ?_
  refine r_iconst (pc := 1799) dL_law_1799 (inRk rfl) ?_
  obtain ⟨o3, h⟩ := h
  refine r_iadd (pc := 1800) dL_law_1800 o3 ?_
  obtain ⟨o4, h⟩ := h
  refine r_iaload (pc := 1801) dL_law_1801 o4 ?_
  refine r_aload_n (pc := 1802) dL_law_1802 rfl rfl ?_
  refine r_iload (pc := 1803) dL_law_1803 rfl ?_
  refine r_iconst (pc := 1805) dL_law_1805 (inRk rfl) ?_
  obtain ⟨o5, h⟩ := h
  refine r_iadd (pc := 1806) dL_law_1806 o5 ?_
  obtain ⟨o6, h⟩ := h
  refine r_iaload (pc := 1807) dL_law_1807 o6 ?_
  refine r_aload_n (pc := 1808) dL_law_1808 rfl rfl ?_
  refine c_SWIAN (M := mL_law) (M2 := mL_made) (pc := 1809) (As := [vr a1, vi (gI σ a0 (x4 + 1).toNat), vi (gI σ a0 (x4 + 2).toNat), vi (gI σ a0 (x4 + 3).toNat), vr a3]) dL_law_1809 rfl w_1293 w_97 w_1292 ⟨by decide +kernel, by decide +kernel, by show _ = some 5; decide +kernel⟩ w_1291 ⟨by decide, by decide⟩ (Nat.le_of_ble_eq_true rfl) h.1 h.2.1 h.2.2 (fun r7 τ8 h8 hr9 => ?_) rfl
  replace h := h8 hr9
  refine r_istore (pc := 1812) dL_law_1812 (by decide) (l2 := [some (vr a0), some (vr a1), some (vr a2), some (vr a3), some (vi x4), some (vi r7), none]) rfl ?_
  refine r_aload_n (pc := 1814) dL_law_1814 rfl rfl ?_
  refine r_aload_n (pc := 1815) dL_law_1815 rfl rfl ?_
  refine r_iload (pc := 1816) dL_law_1816 rfl ?_
  refine r_iconst (pc := 1818) dL_law_1818 (inRk rfl) ?_
  refine r_iadd (pc := 1819) dL_law_1819 o1 ?_
  obtain ⟨o9, h⟩ := h
  refine r_iaload (pc := 1820) dL_law_1820 o9 ?_
  refine r_aload_n (pc := 1821) dL_law_1821 rfl rfl ?_
  refine r_iload (pc := 1822) dL_law_1822 rfl ?_
  refine r_iconst (pc := 1824) dL_law_1824 (inRk rfl) ?_
  refine r_iadd (pc := 1825) dL_law_1825 o3 ?_
  obtain ⟨o10, h⟩ := h
  refine r_iaload (pc := 1826) dL_law_1826 o10 ?_
  refine r_aload_n (pc := 1827) dL_law_1827 rfl rfl ?_
  refine r_iload (pc := 1828) dL_law_1828 rfl ?_
  refine r_iconst (pc := 1830) dL_law_1830 (inRk rfl) ?_
  refine r_iadd (pc := 1831) dL_law_1831 o5 ?_
  obtain ⟨o11, h⟩ := h
  refine r_iaload (pc := 1832) dL_law_1832 o11 ?_
  refine c_VI0N (M := mL_law) (M2 := mX12_made) (pc := 1833) (As := [vi (gI τ8 a0 (x4 + 1).toNat), vi (gI τ8 a0 (x4 + 2).toNat), vi (gI τ8 a0 (x4 + 3).toNat)]) dL_law_1833 K_X12_made w_1835 ⟨by decide, by decide⟩ (Nat.le_of_ble_eq_true rfl) rfl rfl (ci := 12) rfl rfl (by decide) h.1 h.2 (fun r12 τ13 h8 hr9 => ?_) rfl
  replace h := h8 hr9
  refine r_istore (pc := 1836) dL_law_1836 (by decide) (l2 := [some (vr a0), some (vr a1), some (vr a2), some (vr a3), some (vi x4), some (vi r7), some (vi r12)]) rfl ?_
  refine r_aload_n (pc := 1838) dL_law_1838 rfl rfl ?_
  refine c_VI0N (M := mL_law) (M2 := mX12_thrown) (pc := 1839) (As := []) dL_law_1839 K_X12_thrown w_1543 ⟨by decide, by decide⟩ (Nat.le_of_ble_eq_true rfl) rfl rfl (ci := 12) rfl rfl (by decide) h.1 h.2 (fun r14 τ15 h8 hr9 => ?_) rfl
  replace h := h8 hr9
  refine r_iload (pc := 1842) dL_law_1842 rfl ?_
  refine r_icmp_eq (pc := 1844) (tgt := 1849) dL_law_1844 (by decide) (fun c9 => ?_) (fun c9 => ?_)
  · replace h := h.1 c9
    refine r_iload (pc := 1849) dL_law_1849 rfl ?_
    refine r_if_ne (pc := 1851) (tgt := 1866) dL_law_1851 (by decide) (fun c9 => ?_) (fun c9 => ?_)
    · replace h := h.1 c9
      refine r_goto (pc := 1866) (tgt := 2194) dL_law_1866 (by decide) ?_
      exact GG.msk [true, true, true, true, true, false, false] h
    · replace h := h.2 c9
      refine r_aload_n (pc := 1854) dL_law_1854 rfl rfl ?_
      refine r_iconst (pc := 1855) dL_law_1855 (inRk rfl) ?_
      obtain ⟨o16, h⟩ := h
      refine r_laload (pc := 1856) dL_law_1856 o16 ?_
      refine r_iload (pc := 1857) dL_law_1857 rfl ?_
      refine r_i2l (pc := 1859) dL_law_1859 ?_
      refine r_lcmp_ifeq (pc := 1860) (tgt := 1866) dL_law_1860 dL_law_1861 (by decide) (fun c9 => ?_) (fun c9 => ?_)
      · replace h := h.1 c9
        refine r_goto (pc := 1866) (tgt := 2194) dL_law_1866 (by decide) ?_
        exact GG.msk [true, true, true, true, true, false, false] h
      · replace h := h.2 c9
        refine r_iconst (pc := 1864) dL_law_1864 (inRk rfl) ?_
        exact r_lawret0 (pc := 1865) dL_law_1865 rfl rfl rfl rfl h
  · replace h := h.2 c9
    refine r_iconst (pc := 1847) dL_law_1847 (inRk rfl) ?_
    exact r_lawret0 (pc := 1848) dL_law_1848 rfl rfl rfl rfl h
theorem B_L_law_1869 {a0 : Nat} {a1 : Nat} {a2 : Nat} {a3 : Nat} {x4 : Int} (h : inR (x4 + 1) ∧ okA 20 σ a0 (x4 + 1) ∧ inR (x4 + 2) ∧ okA 20 σ a0 (x4 + 2) ∧ inR (x4 + 3) ∧ okA 20 σ a0 (x4 + 3) ∧ 3 ≤ rc ∧ 18 ≤ rs ∧ CC E mL_isMade [vr a1, vi (gI σ a0 (x4 + 1).toNat), vi (gI σ a0 (x4 + 2).toNat), vi (gI σ a0 (x4 + 3).toNat), vr a3] σ (KI (fun r7 τ8 => inR r7 → okA 20 τ8 a0 (x4 + 1) ∧ okA 20 τ8 a0 (x4 + 2) ∧ okA 20 τ8 a0 (x4 + 3) ∧ okO τ8 a2 12 ∧ CC E mX12_isMade [vr a2, vi (gI τ8 a0 (x4 + 1).toNat), vi (gI τ8 a0 (x4 + 2).toNat), vi (gI τ8 a0 (x4 + 3).toNat)] τ8 (KI (fun r12 τ13 => inR r12 → okO τ13 a2 12 ∧ CC E mX12_thrown [vr a2] τ13 (KI (fun r14 τ15 => inR r14 → ((r14 = r7 → ((r7 ≠ 0 → GG E mL_law 2194 [some (vr a0), some (vr a1), some (vr a2), some (vr a3), some (vi x4), none, none] [] τ15 (rc - 3) (rs - 18) Q) ∧ (r7 = 0 → okB 23 τ15 a3 0 ∧ ((r12 = 0 → (((gI τ15 a3 0) = 0 → GG E mL_law 2194 [some (vr a0), some (vr a1), some (vr a2), some (vr a3), some (vi x4), none, none] [] τ15 (rc - 3) (rs - 18) Q) ∧ (¬ ((gI τ15 a3 0) = 0) → (0 : Int) = 1))) ∧ (¬ (r12 = 0) → (((gI τ15 a3 0) = 1 → GG E mL_law 2194 [some (vr a0), some (vr a1), some (vr a2), some (vr a3), some (vi x4), none, none] [] τ15 (rc - 3) (rs - 18) Q) ∧ (¬ ((gI τ15 a3 0) = 1) → (0 : Int) = 1))))))) ∧ (¬ (r14 = r7) → (0 : Int) = 1))) (fun _ _ => False))) (fun _ _ => False))) (fun _ _ => False))) : GG E mL_law 1869 [some (vr a0), some (vr a1), some (vr a2), some (vr a3), some (vi x4), none, none] [] σ rc rs Q := by
  refine r_aload_n (pc := 1869) dL_law_1869 rfl rfl ?_
  refine r_aload_n (pc := 1870) dL_law_1870 rfl rfl ?_
  refine r_iload (pc := 1871) dL_law_1871 rfl ?_
  refine r_iconst (pc := 1873) dL_law_1873 (inRk rfl) ?_
  obtain ⟨o1, h⟩ := h
  refine r_iadd (pc := 1874) dL_law_1874 o1 ?_
  obtain ⟨o2, h⟩ := h
  refine r_iaload (pc := 1875) dL_law_1875 o2 ?_
  refine r_aload_n (pc := 1876) dL_law_1876 rfl rfl ?_
  refine r_iload (pc := 1877) dL_law_1877 rfl ?_
  refine r_iconst (pc := 1879) dL_law_1879 (inRk rfl) ?_
  obtain ⟨o3, h⟩ := h
  refine r_iadd (pc := 1880) dL_law_1880 o3 ?_
  obtain ⟨o4, h⟩ := h
  refine r_iaload (pc := 1881) dL_law_1881 o4 ?_
  refine r_aload_n (pc := 1882) dL_law_1882 rfl rfl ?_
  refine r_iload (pc := 1883) dL_law_1883 rfl ?_
  refine r_iconst (pc := 1885) dL_law_1885 (inRk rfl) ?_
  obtain ⟨o5, h⟩ := h
  refine r_iadd (pc := 1886) dL_law_1886 o5 ?_
  obtain ⟨o6, h⟩ := h
  refine r_iaload (pc := 1887) dL_law_1887 o6 ?_
  refine r_aload_n (pc := 1888) dL_law_1888 rfl rfl ?_
  refine c_SWIAN (M := mL_law) (M2 := mL_isMade) (pc := 1889) (As := [vr a1, vi (gI σ a0 (x4 + 1).toNat), vi (gI σ a0 (x4 + 2).toNat), vi (gI σ a0 (x4 + 3).toNat), vr a3]) dL_law_1889 rfl w_1317 w_97 w_1316 ⟨by decide +kernel, by decide +kernel, by show _ = some 5; decide +kernel⟩ w_1315 ⟨by decide, by decide⟩ (Nat.le_of_ble_eq_true rfl) h.1 h.2.1 h.2.2 (fun r7 τ8 h8 hr9 => ?_) rfl
  replace h := h8 hr9
  refine r_istore (pc := 1892) dL_law_1892 (by decide) (l2 := [some (vr a0), some (vr a1), some (vr a2), some (vr a3), some (vi x4), some (vi r7), none]) rfl ?_
  refine r_aload_n (pc := 1894) dL_law_1894 rfl rfl ?_
  refine r_aload_n (pc := 1895) dL_law_1895 rfl rfl ?_
  refine r_iload (pc := 1896) dL_law_1896 rfl ?_
  refine r_iconst (pc := 1898) dL_law_1898 (inRk rfl) ?_
  refine r_iadd (pc := 1899) dL_law_1899 o1 ?_
  obtain ⟨o9, h⟩ := h
  refine r_iaload (pc := 1900) dL_law_1900 o9 ?_
  refine r_aload_n (pc := 1901) dL_law_1901 rfl rfl ?_
  refine r_iload (pc := 1902) dL_law_1902 rfl ?_
  refine r_iconst (pc := 1904) dL_law_1904 (inRk rfl) ?_
  refine r_iadd (pc := 1905) dL_law_1905 o3 ?_
  obtain ⟨o10, h⟩ := h
  refine r_iaload (pc := 1906) dL_law_1906 o10 ?_
  refine r_aload_n (pc := 1907) dL_law_1907 rfl rfl ?_
  refine r_iload (pc := 1908) dL_law_1908 rfl ?_
  refine r_iconst (pc := 1910) dL_law_1910 (inRk rfl) ?_
  refine r_iadd (pc := 1911) dL_law_1911 o5 ?_
  obtain ⟨o11, h⟩ := h
  refine r_iaload (pc := 1912) dL_law_1912 o11 ?_
  refine c_VI0N (M := mL_law) (M2 := mX12_isMade) (pc := 1913) (As := [vi (gI τ8 a0 (x4 + 1).toNat), vi (gI τ8 a0 (x4 + 2).toNat), vi (gI τ8 a0 (x4 + 3).toNat)]) dL_law_1913 K_X12_isMade w_1843 ⟨by decide, by decide⟩ (Nat.le_of_ble_eq_true rfl) rfl rfl (ci := 12) rfl rfl (by decide) h.1 h.2 (fun r12 τ13 h8 hr9 => ?_) rfl
  replace h := h8 hr9
  refine r_istore (pc := 1916) dL_law_1916 (by decide) (l2 := [some (vr a0), some (vr a1), some (vr a2), some (vr a3), some (vi x4), some (vi r7), some (vi r12)]) rfl ?_
  refine r_aload_n (pc := 1918) dL_law_1918 rfl rfl ?_
  refine c_VI0N (M := mL_law) (M2 := mX12_thrown) (pc := 1919) (As := []) dL_law_1919 K_X12_thrown w_1543 ⟨by decide, by decide⟩ (Nat.le_of_ble_eq_true rfl) rfl rfl (ci := 12) rfl rfl (by decide) h.1 h.2 (fun r14 τ15 h8 hr9 => ?_) rfl
  replace h := h8 hr9
  refine r_iload (pc := 1922) dL_law_1922 rfl ?_
  refine r_icmp_eq (pc := 1924) (tgt := 1929) dL_law_1924 (by decide) (fun c9 => ?_) (fun c9 => ?_)
  · replace h := h.1 c9
    refine r_iload (pc := 1929) dL_law_1929 rfl ?_
    refine r_if_ne (pc := 1931) (tgt := 1953) dL_law_1931 (by decide) (fun c9 => ?_) (fun c9 => ?_)
    · replace h := h.1 c9
      refine r_goto (pc := 1953) (tgt := 2194) dL_law_1953 (by decide) ?_
      exact GG.msk [true, true, true, true, true, false, false] h
    · replace h := h.2 c9
      refine r_aload_n (pc := 1934) dL_law_1934 rfl rfl ?_
      refine r_iconst (pc := 1935) dL_law_1935 (inRk rfl) ?_
      obtain ⟨o16, h⟩ := h
      refine r_laload (pc := 1936) dL_law_1936 o16 ?_
      refine r_iload (pc := 1937) dL_law_1937 rfl ?_
      refine r_if_eq (pc := 1939) (tgt := 1946) dL_law_1939 (by decide) (fun c9 => ?_) (fun c9 => ?_)
      · replace h := h.1 c9
        refine r_lconst (pc := 1946) (x := 0) dL_law_1946 rfl ?_
        refine r_lcmp_ifeq (pc := 1947) (tgt := 1953) dL_law_1947 dL_law_1948 (by decide) (fun c9 => ?_) (fun c9 => ?_)
        · replace h := h.1 c9
          refine r_goto (pc := 1953) (tgt := 2194) dL_law_1953 (by decide) ?_
          exact GG.msk [true, true, true, true, true, false, false] h
        · replace h := h.2 c9
          refine r_iconst (pc := 1951) dL_law_1951 (inRk rfl) ?_
          exact r_lawret0 (pc := 1952) dL_law_1952 rfl rfl rfl rfl h
      · replace h := h.2 c9
        refine r_lconst (pc := 1942) (x := 1) dL_law_1942 rfl ?_
        refine r_goto (pc := 1943) (tgt := 1947) dL_law_1943 (by decide) ?_
        refine r_lcmp_ifeq (pc := 1947) (tgt := 1953) dL_law_1947 dL_law_1948 (by decide) (fun c9 => ?_) (fun c9 => ?_)
        · replace h := h.1 c9
          refine r_goto (pc := 1953) (tgt := 2194) dL_law_1953 (by decide) ?_
          exact GG.msk [true, true, true, true, true, false, false] h
        · replace h := h.2 c9
          refine r_iconst (pc := 1951) dL_law_1951 (inRk rfl) ?_
          exact r_lawret0 (pc := 1952) dL_law_1952 rfl rfl rfl rfl h
  · replace h := h.2 c9
    refine r_iconst (pc := 1927) dL_law_1927 (inRk rfl) ?_
    exact r_lawret0 (pc := 1928) dL_law_1928 rfl rfl rfl rfl h
theorem B_L_law_1956 {a0 : Nat} {a1 : Nat} {a2 : Nat} {a3 : Nat} {x4 : Int} (h : inR (x4 + 1) ∧ okA 20 σ a0 (x4 + 1) ∧ inR (x4 + 2) ∧ okA 20 σ a0 (x4 + 2) ∧ 2 ≤ rc ∧ 12 ≤ rs ∧ CC E mL_isKept [vr a1, vi (gI σ a0 (x4 + 1).toNat), vi (gI σ a0 (x4 + 2).toNat), vr a3] σ (KI (fun r5 τ6 => inR r5 → okA 20 τ6 a0 (x4 + 1) ∧ okA 20 τ6 a0 (x4 + 2) ∧ okO τ6 a2 12 ∧ CC E mX12_isKept [vr a2, vi (gI τ6 a0 (x4 + 1).toNat), vi (gI τ6 a0 (x4 + 2).toNat)] τ6 (KI (fun r9 τ10 => inR r9 → okO τ10 a2 12 ∧ CC E mX12_thrown [vr a2] τ10 (KI (fun r11 τ12 => inR r11 → ((r11 = r5 → ((r5 ≠ 0 → GG E mL_law 2194 [some (vr a0), some (vr a1), some (vr a2), some (vr a3), some (vi x4), none, none] [] τ12 (rc - 2) (rs - 12) Q) ∧ (r5 = 0 → okB 23 τ12 a3 0 ∧ ((r9 = 0 → (((gI τ12 a3 0) = 0 → GG E mL_law 2194 [some (vr a0), some (vr a1), some (vr a2), some (vr a3), some (vi x4), none, none] [] τ12 (rc - 2) (rs - 12) Q) ∧ (¬ ((gI τ12 a3 0) = 0) → (0 : Int) = 1))) ∧ (¬ (r9 = 0) → (((gI τ12 a3 0) = 1 → GG E mL_law 2194 [some (vr a0), some (vr a1), some (vr a2), some (vr a3), some (vi x4), none, none] [] τ12 (rc - 2) (rs - 12) Q) ∧ (¬ ((gI τ12 a3 0) = 1) → (0 : Int) = 1))))))) ∧ (¬ (r11 = r5) → (0 : Int) = 1))) (fun _ _ => False))) (fun _ _ => False))) (fun _ _ => False))) : GG E mL_law 1956 [some (vr a0), some (vr a1), some (vr a2), some (vr a3), some (vi x4), none, none] [] σ rc rs Q := by
  refine r_aload_n (pc := 1956) dL_law_1956 rfl rfl ?_
  refine r_aload_n (pc := 1957) dL_law_1957 rfl rfl ?_
  refine r_iload (pc := 1958) dL_law_1958 rfl ?_
  refine r_iconst (pc := 1960) dL_law_1960 (inRk rfl) ?_
  obtain ⟨o1, h⟩ := h
  refine r_iadd (pc := 1961) dL_law_1961 o1 ?_
  obtain ⟨o2, h⟩ := h
  refine r_iaload (pc := 1962) dL_law_1962 o2 ?_
  refine r_aload_n (pc := 1963) dL_law_1963 rfl rfl ?_
  refine r_iload (pc := 1964) dL_law_1964 rfl ?_
  refine r_iconst (pc := 1966) dL_law_1966 (inRk rfl) ?_
  obtain ⟨o3, h⟩ := h
  refine r_iadd (pc := 1967) dL_law_1967 o3 ?_
  obtain ⟨o4, h⟩ := h
  refine r_iaload (pc := 1968) dL_law_1968 o4 ?_
  refine r_aload_n (pc := 1969) dL_law_1969 rfl rfl ?_
  refine c_SWIAN (M := mL_law) (M2 := mL_isKept) (pc := 1970) (As := [vr a1, vi (gI σ a0 (x4 + 1).toNat), vi (gI σ a0 (x4 + 2).toNat), vr a3]) dL_law_1970 rfl w_1325 w_97 w_1324 ⟨by decide +kernel, by decide +kernel, by show _ = some 4; decide +kernel⟩ w_1323 ⟨by decide, by decide⟩ (Nat.le_of_ble_eq_true rfl) h.1 h.2.1 h.2.2 (fun r5 τ6 h8 hr9 => ?_) rfl
  replace h := h8 hr9
  refine r_istore (pc := 1973) dL_law_1973 (by decide) (l2 := [some (vr a0), some (vr a1), some (vr a2), some (vr a3), some (vi x4), some (vi r5), none]) rfl ?_
  refine r_aload_n (pc := 1975) dL_law_1975 rfl rfl ?_
  refine r_aload_n (pc := 1976) dL_law_1976 rfl rfl ?_
  refine r_iload (pc := 1977) dL_law_1977 rfl ?_
  refine r_iconst (pc := 1979) dL_law_1979 (inRk rfl) ?_
  refine r_iadd (pc := 1980) dL_law_1980 o1 ?_
  obtain ⟨o7, h⟩ := h
  refine r_iaload (pc := 1981) dL_law_1981 o7 ?_
  refine r_aload_n (pc := 1982) dL_law_1982 rfl rfl ?_
  refine r_iload (pc := 1983) dL_law_1983 rfl ?_
  refine r_iconst (pc := 1985) dL_law_1985 (inRk rfl) ?_
  refine r_iadd (pc := 1986) dL_law_1986 o3 ?_
  obtain ⟨o8, h⟩ := h
  refine r_iaload (pc := 1987) dL_law_1987 o8 ?_
  refine c_VI0N (M := mL_law) (M2 := mX12_isKept) (pc := 1988) (As := [vi (gI τ6 a0 (x4 + 1).toNat), vi (gI τ6 a0 (x4 + 2).toNat)]) dL_law_1988 K_X12_isKept w_1847 ⟨by decide, by decide⟩ (Nat.le_of_ble_eq_true rfl) rfl rfl (ci := 12) rfl rfl (by decide) h.1 h.2 (fun r9 τ10 h8 hr9 => ?_) rfl
  replace h := h8 hr9
  refine r_istore (pc := 1991) dL_law_1991 (by decide) (l2 := [some (vr a0), some (vr a1), some (vr a2), some (vr a3), some (vi x4), some (vi r5), some (vi r9)]) rfl ?_
  refine r_aload_n (pc := 1993) dL_law_1993 rfl rfl ?_
  refine c_VI0N (M := mL_law) (M2 := mX12_thrown) (pc := 1994) (As := []) dL_law_1994 K_X12_thrown w_1543 ⟨by decide, by decide⟩ (Nat.le_of_ble_eq_true rfl) rfl rfl (ci := 12) rfl rfl (by decide) h.1 h.2 (fun r11 τ12 h8 hr9 => ?_) rfl
  replace h := h8 hr9
  refine r_iload (pc := 1997) dL_law_1997 rfl ?_
  refine r_icmp_eq (pc := 1999) (tgt := 2004) dL_law_1999 (by decide) (fun c9 => ?_) (fun c9 => ?_)
  · replace h := h.1 c9
    refine r_iload (pc := 2004) dL_law_2004 rfl ?_
    refine r_if_ne (pc := 2006) (tgt := 2028) dL_law_2006 (by decide) (fun c9 => ?_) (fun c9 => ?_)
    · replace h := h.1 c9
      refine r_goto (pc := 2028) (tgt := 2194) dL_law_2028 (by decide) ?_
      exact GG.msk [true, true, true, true, true, false, false] h
    · replace h := h.2 c9
      refine r_aload_n (pc := 2009) dL_law_2009 rfl rfl ?_
      refine r_iconst (pc := 2010) dL_law_2010 (inRk rfl) ?_
      obtain ⟨o13, h⟩ := h
      refine r_laload (pc := 2011) dL_law_2011 o13 ?_
      refine r_iload (pc := 2012) dL_law_2012 rfl ?_
      refine r_if_eq (pc := 2014) (tgt := 2021) dL_law_2014 (by decide) (fun c9 => ?_) (fun c9 => ?_)
      · replace h := h.1 c9
        refine r_lconst (pc := 2021) (x := 0) dL_law_2021 rfl ?_
        refine r_lcmp_ifeq (pc := 2022) (tgt := 2028) dL_law_2022 dL_law_2023 (by decide) (fun c9 => ?_) (fun c9 => ?_)
        · replace h := h.1 c9
          refine r_goto (pc := 2028) (tgt := 2194) dL_law_2028 (by decide) ?_
          exact GG.msk [true, true, true, true, true, false, false] h
        · replace h := h.2 c9
          refine r_iconst (pc := 2026) dL_law_2026 (inRk rfl) ?_
          exact r_lawret0 (pc := 2027) dL_law_2027 rfl rfl rfl rfl h
      · replace h := h.2 c9
        refine r_lconst (pc := 2017) (x := 1) dL_law_2017 rfl ?_
        refine r_goto (pc := 2018) (tgt := 2022) dL_law_2018 (by decide) ?_
        refine r_lcmp_ifeq (pc := 2022) (tgt := 2028) dL_law_2022 dL_law_2023 (by decide) (fun c9 => ?_) (fun c9 => ?_)
        · replace h := h.1 c9
          refine r_goto (pc := 2028) (tgt := 2194) dL_law_2028 (by decide) ?_
          exact GG.msk [true, true, true, true, true, false, false] h
        · replace h := h.2 c9
          refine r_iconst (pc := 2026) dL_law_2026 (inRk rfl) ?_
          exact r_lawret0 (pc := 2027) dL_law_2027 rfl rfl rfl rfl h
  · replace h := h.2 c9
    refine r_iconst (pc := 2002) dL_law_2002 (inRk rfl) ?_
    exact r_lawret0 (pc := 2003) dL_law_2003 rfl rfl rfl rfl h
theorem B_L_law_2031 {a0 : Nat} {a1 : Nat} {a2 : Nat} {a3 : Nat} {x4 : Int} (h : inR (x4 + 1) ∧ okA 20 σ a0 (x4 + 1) ∧ inR (x4 + 2) ∧ okA 20 σ a0 (x4 + 2) ∧ 2 ≤ rc ∧ 12 ≤ rs ∧ CC E mL_ofOrder [vr a1, vi (gI σ a0 (x4 + 1).toNat), vi (gI σ a0 (x4 + 2).toNat), vr a3] σ (KI (fun r5 τ6 => inR r5 → okA 20 τ6 a0 (x4 + 1) ∧ okA 20 τ6 a0 (x4 + 2) ∧ okO τ6 a2 12 ∧ CC E mX12_ofOrder [vr a2, vi (gI τ6 a0 (x4 + 1).toNat), vi (gI τ6 a0 (x4 + 2).toNat)] τ6 (KI (fun r9 τ10 => inR r9 → okO τ10 a2 12 ∧ CC E mX12_thrown [vr a2] τ10 (KI (fun r11 τ12 => inR r11 → ((r11 = r5 → ((r5 ≠ 0 → GG E mL_law 2194 [some (vr a0), some (vr a1), some (vr a2), some (vr a3), some (vi x4), none, none] [] τ12 (rc - 2) (rs - 12) Q) ∧ (r5 = 0 → okB 23 τ12 a3 0 ∧ (((gI τ12 a3 0) = r9 → GG E mL_law 2194 [some (vr a0), some (vr a1), some (vr a2), some (vr a3), some (vi x4), none, none] [] τ12 (rc - 2) (rs - 12) Q) ∧ (¬ ((gI τ12 a3 0) = r9) → (0 : Int) = 1))))) ∧ (¬ (r11 = r5) → (0 : Int) = 1))) (fun _ _ => False))) (fun _ _ => False))) (fun _ _ => False))) : GG E mL_law 2031 [some (vr a0), some (vr a1), some (vr a2), some (vr a3), some (vi x4), none, none] [] σ rc rs Q := by
  refine r_aload_n (pc := 2031) dL_law_2031 rfl rfl ?_
  refine r_aload_n (pc := 2032) dL_law_2032 rfl rfl ?_
  refine r_iload (pc := 2033) dL_law_2033 rfl ?_
  refine r_iconst (pc := 2035) dL_law_2035 (inRk rfl) ?_
  obtain ⟨o1, h⟩ := h
  refine r_iadd (pc := 2036) dL_law_2036 o1 ?_
  obtain ⟨o2, h⟩ := h
  refine r_iaload (pc := 2037) dL_law_2037 o2 ?_
  refine r_aload_n (pc := 2038) dL_law_2038 rfl rfl ?_
  refine r_iload (pc := 2039) dL_law_2039 rfl ?_
  refine r_iconst (pc := 2041) dL_law_2041 (inRk rfl) ?_
  obtain ⟨o3, h⟩ := h
  refine r_iadd (pc := 2042) dL_law_2042 o3 ?_
  obtain ⟨o4, h⟩ := h
  refine r_iaload (pc := 2043) dL_law_2043 o4 ?_
  refine r_aload_n (pc := 2044) dL_law_2044 rfl rfl ?_
  refine c_SWIAN (M := mL_law) (M2 := mL_ofOrder) (pc := 2045) (As := [vr a1, vi (gI σ a0 (x4 + 1).toNat), vi (gI σ a0 (x4 + 2).toNat), vr a3]) dL_law_2045 rfl w_1337 w_97 w_1336 ⟨by decide +kernel, by decide +kernel, by show _ = some 4; decide +kernel⟩ w_1335 ⟨by decide, by decide⟩ (Nat.le_of_ble_eq_true rfl) h.1 h.2.1 h.2.2 (fun r5 τ6 h8 hr9 => ?_) rfl
  replace h := h8 hr9
  refine r_istore (pc := 2048) dL_law_2048 (by decide) (l2 := [some (vr a0), some (vr a1), some (vr a2), some (vr a3), some (vi x4), some (vi r5), none]) rfl ?_
  refine r_aload_n (pc := 2050) dL_law_2050 rfl rfl ?_
  refine r_aload_n (pc := 2051) dL_law_2051 rfl rfl ?_
  refine r_iload (pc := 2052) dL_law_2052 rfl ?_
  refine r_iconst (pc := 2054) dL_law_2054 (inRk rfl) ?_
  refine r_iadd (pc := 2055) dL_law_2055 o1 ?_
  obtain ⟨o7, h⟩ := h
  refine r_iaload (pc := 2056) dL_law_2056 o7 ?_
  refine r_aload_n (pc := 2057) dL_law_2057 rfl rfl ?_
  refine r_iload (pc := 2058) dL_law_2058 rfl ?_
  refine r_iconst (pc := 2060) dL_law_2060 (inRk rfl) ?_
  refine r_iadd (pc := 2061) dL_law_2061 o3 ?_
  obtain ⟨o8, h⟩ := h
  refine r_iaload (pc := 2062) dL_law_2062 o8 ?_
  refine c_VI0N (M := mL_law) (M2 := mX12_ofOrder) (pc := 2063) (As := [vi (gI τ6 a0 (x4 + 1).toNat), vi (gI τ6 a0 (x4 + 2).toNat)]) dL_law_2063 K_X12_ofOrder w_1851 ⟨by decide, by decide⟩ (Nat.le_of_ble_eq_true rfl) rfl rfl (ci := 12) rfl rfl (by decide) h.1 h.2 (fun r9 τ10 h8 hr9 => ?_) rfl
  replace h := h8 hr9
  refine r_istore (pc := 2066) dL_law_2066 (by decide) (l2 := [some (vr a0), some (vr a1), some (vr a2), some (vr a3), some (vi x4), some (vi r5), some (vi r9)]) rfl ?_
  refine r_aload_n (pc := 2068) dL_law_2068 rfl rfl ?_
  refine c_VI0N (M := mL_law) (M2 := mX12_thrown) (pc := 2069) (As := []) dL_law_2069 K_X12_thrown w_1543 ⟨by decide, by decide⟩ (Nat.le_of_ble_eq_true rfl) rfl rfl (ci := 12) rfl rfl (by decide) h.1 h.2 (fun r11 τ12 h8 hr9 => ?_) rfl
  replace h := h8 hr9
  refine r_iload (pc := 2072) dL_law_2072 rfl ?_
  refine r_icmp_eq (pc := 2074) (tgt := 2079) dL_law_2074 (by decide) (fun c9 => ?_) (fun c9 => ?_)
  · replace h := h.1 c9
    refine r_iload (pc := 2079) dL_law_2079 rfl ?_
    refine r_if_ne (pc := 2081) (tgt := 2096) dL_law_2081 (by decide) (fun c9 => ?_) (fun c9 => ?_)
    · replace h := h.1 c9
      refine r_goto (pc := 2096) (tgt := 2194) dL_law_2096 (by decide) ?_
      exact GG.msk [true, true, true, true, true, false, false] h
    · replace h := h.2 c9
      refine r_aload_n (pc := 2084) dL_law_2084 rfl rfl ?_
      refine r_iconst (pc := 2085) dL_law_2085 (inRk rfl) ?_
      obtain ⟨o13, h⟩ := h
      refine r_laload (pc := 2086) dL_law_2086 o13 ?_
      refine r_iload (pc := 2087) dL_law_2087 rfl ?_
      refine r_i2l (pc := 2089) dL_law_2089 ?_
      refine r_lcmp_ifeq (pc := 2090) (tgt := 2096) dL_law_2090 dL_law_2091 (by decide) (fun c9 => ?_) (fun c9 => ?_)
      · replace h := h.1 c9
        refine r_goto (pc := 2096) (tgt := 2194) dL_law_2096 (by decide) ?_
        exact GG.msk [true, true, true, true, true, false, false] h
      · replace h := h.2 c9
        refine r_iconst (pc := 2094) dL_law_2094 (inRk rfl) ?_
        exact r_lawret0 (pc := 2095) dL_law_2095 rfl rfl rfl rfl h
  · replace h := h.2 c9
    refine r_iconst (pc := 2077) dL_law_2077 (inRk rfl) ?_
    exact r_lawret0 (pc := 2078) dL_law_2078 rfl rfl rfl rfl h
theorem B_L_law_2099 {a0 : Nat} {a1 : Nat} {a2 : Nat} {a3 : Nat} {x4 : Int} (h : inR (x4 + 1) ∧ okA 20 σ a0 (x4 + 1) ∧ 1 ≤ rc ∧ 6 ≤ rs ∧ CC E mL_makers [vr a1, vi (gI σ a0 (x4 + 1).toNat), vr a3] σ (KI (fun r3 τ4 => inR r3 → okA 20 τ4 a0 (x4 + 1) ∧ okO τ4 a2 12 ∧ CC E mX12_makers [vr a2, vi (gI τ4 a0 (x4 + 1).toNat)] τ4 (KI (fun r6 τ7 => inR r6 → okO τ7 a2 12 ∧ CC E mX12_thrown [vr a2] τ7 (KI (fun r8 τ9 => inR r8 → ((r8 = r3 → ((r3 ≠ 0 → GG E mL_law 2194 [some (vr a0), some (vr a1), some (vr a2), some (vr a3), some (vi x4), none, none] [] τ9 (rc - 1) (rs - 6) Q) ∧ (r3 = 0 → okB 23 τ9 a3 0 ∧ (((gI τ9 a3 0) = r6 → GG E mL_law 2194 [some (vr a0), some (vr a1), some (vr a2), some (vr a3), some (vi x4), none, none] [] τ9 (rc - 1) (rs - 6) Q) ∧ (¬ ((gI τ9 a3 0) = r6) → (0 : Int) = 1))))) ∧ (¬ (r8 = r3) → (0 : Int) = 1))) (fun _ _ => False))) (fun _ _ => False))) (fun _ _ => False))) : GG E mL_law 2099 [some (vr a0), some (vr a1), some (vr a2), some (vr a3), some (vi x4), none, none] [] σ rc rs Q := by
  refine r_aload_n (pc := 2099) dL_law_2099 rfl rfl ?_
  refine r_aload_n (pc := 2100) dL_law_2100 rfl rfl ?_
  refine r_iload (pc := 2101) dL_law_2101 rfl ?_
  refine r_iconst (pc := 2103) dL_law_2103 (inRk rfl) ?_
  obtain ⟨o1, h⟩ := h
  refine r_iadd (pc := 2104) dL_law_2104 o1 ?_
  obtain ⟨o2, h⟩ := h
  refine r_iaload (pc := 2105) dL_law_2105 o2 ?_
  refine r_aload_n (pc := 2106) dL_law_2106 rfl rfl ?_
  refine c_SWIAN (M := mL_law) (M2 := mL_makers) (pc := 2107) (As := [vr a1, vi (gI σ a0 (x4 + 1).toNat), vr a3]) dL_law_2107 rfl w_1352 w_97 w_1351 ⟨by decide +kernel, by decide +kernel, by show _ = some 3; decide +kernel⟩ w_1350 ⟨by decide, by decide⟩ (Nat.le_of_ble_eq_true rfl) h.1 h.2.1 h.2.2 (fun r3 τ4 h8 hr9 => ?_) rfl
  replace h := h8 hr9
  refine r_istore (pc := 2110) dL_law_2110 (by decide) (l2 := [some (vr a0), some (vr a1), some (vr a2), some (vr a3), some (vi x4), some (vi r3), none]) rfl ?_
  refine r_aload_n (pc := 2112) dL_law_2112 rfl rfl ?_
  refine r_aload_n (pc := 2113) dL_law_2113 rfl rfl ?_
  refine r_iload (pc := 2114) dL_law_2114 rfl ?_
  refine r_iconst (pc := 2116) dL_law_2116 (inRk rfl) ?_
  refine r_iadd (pc := 2117) dL_law_2117 o1 ?_
  obtain ⟨o5, h⟩ := h
  refine r_iaload (pc := 2118) dL_law_2118 o5 ?_
  refine c_VI0N (M := mL_law) (M2 := mX12_makers) (pc := 2119) (As := [vi (gI τ4 a0 (x4 + 1).toNat)]) dL_law_2119 K_X12_makers w_1855 ⟨by decide, by decide⟩ (Nat.le_of_ble_eq_true rfl) rfl rfl (ci := 12) rfl rfl (by decide) h.1 h.2 (fun r6 τ7 h8 hr9 => ?_) rfl
  replace h := h8 hr9
  refine r_istore (pc := 2122) dL_law_2122 (by decide) (l2 := [some (vr a0), some (vr a1), some (vr a2), some (vr a3), some (vi x4), some (vi r3), some (vi r6)]) rfl ?_
  refine r_aload_n (pc := 2124) dL_law_2124 rfl rfl ?_
  refine c_VI0N (M := mL_law) (M2 := mX12_thrown) (pc := 2125) (As := []) dL_law_2125 K_X12_thrown w_1543 ⟨by decide, by decide⟩ (Nat.le_of_ble_eq_true rfl) rfl rfl (ci := 12) rfl rfl (by decide) h.1 h.2 (fun r8 τ9 h8 hr9 => ?_) rfl
  replace h := h8 hr9
  refine r_iload (pc := 2128) dL_law_2128 rfl ?_
  refine r_icmp_eq (pc := 2130) (tgt := 2135) dL_law_2130 (by decide) (fun c9 => ?_) (fun c9 => ?_)
  · replace h := h.1 c9
    refine r_iload (pc := 2135) dL_law_2135 rfl ?_
    refine r_if_ne (pc := 2137) (tgt := 2152) dL_law_2137 (by decide) (fun c9 => ?_) (fun c9 => ?_)
    · replace h := h.1 c9
      refine r_goto (pc := 2152) (tgt := 2194) dL_law_2152 (by decide) ?_
      exact GG.msk [true, true, true, true, true, false, false] h
    · replace h := h.2 c9
      refine r_aload_n (pc := 2140) dL_law_2140 rfl rfl ?_
      refine r_iconst (pc := 2141) dL_law_2141 (inRk rfl) ?_
      obtain ⟨o10, h⟩ := h
      refine r_laload (pc := 2142) dL_law_2142 o10 ?_
      refine r_iload (pc := 2143) dL_law_2143 rfl ?_
      refine r_i2l (pc := 2145) dL_law_2145 ?_
      refine r_lcmp_ifeq (pc := 2146) (tgt := 2152) dL_law_2146 dL_law_2147 (by decide) (fun c9 => ?_) (fun c9 => ?_)
      · replace h := h.1 c9
        refine r_goto (pc := 2152) (tgt := 2194) dL_law_2152 (by decide) ?_
        exact GG.msk [true, true, true, true, true, false, false] h
      · replace h := h.2 c9
        refine r_iconst (pc := 2150) dL_law_2150 (inRk rfl) ?_
        exact r_lawret0 (pc := 2151) dL_law_2151 rfl rfl rfl rfl h
  · replace h := h.2 c9
    refine r_iconst (pc := 2133) dL_law_2133 (inRk rfl) ?_
    exact r_lawret0 (pc := 2134) dL_law_2134 rfl rfl rfl rfl h
theorem B_L_law_2155 {a0 : Nat} {a1 : Nat} {a2 : Nat} {a3 : Nat} {x4 : Int} (h : okO σ a1 11 ∧ CC E mX11_print [vr a1] σ (KL (fun r1 τ2 => inL r1 → okO τ2 a2 12 ∧ CC E mX12_print [vr a2] τ2 (KL (fun r3 τ4 => inL r3 → ((r1 = r3 → GG E mL_law 2194 [some (vr a0), some (vr a1), some (vr a2), some (vr a3), some (vi x4), none, none] [] τ4 rc rs Q) ∧ (¬ (r1 = r3) → (0 : Int) = 1))) (fun _ _ => False))) (fun _ _ => False))) : GG E mL_law 2155 [some (vr a0), some (vr a1), some (vr a2), some (vr a3), some (vi x4), none, none] [] σ rc rs Q := by
  refine r_aload_n (pc := 2155) dL_law_2155 rfl rfl ?_
  refine c_VL0N (M := mL_law) (M2 := mX11_print) (pc := 2156) (As := []) dL_law_2156 K_X11_print w_685 ⟨by decide, by decide⟩ (Nat.le_of_ble_eq_true rfl) rfl rfl (ci := 11) rfl rfl (by decide) h.1 h.2 (fun r1 τ2 h8 hr9 => ?_) rfl
  replace h := h8 hr9
  refine r_aload_n (pc := 2159) dL_law_2159 rfl rfl ?_
  refine c_VL0N (M := mL_law) (M2 := mX12_print) (pc := 2160) (As := []) dL_law_2160 K_X12_print w_1859 ⟨by decide, by decide⟩ (Nat.le_of_ble_eq_true rfl) rfl rfl (ci := 12) rfl rfl (by decide) h.1 h.2 (fun r3 τ4 h8 hr9 => ?_) rfl
  replace h := h8 hr9
  refine r_lcmp_ifeq (pc := 2163) (tgt := 2194) dL_law_2163 dL_law_2164 (by decide) (fun c9 => ?_) (fun c9 => ?_)
  · replace h := h.1 c9
    exact h
  · replace h := h.2 c9
    refine r_iconst (pc := 2167) dL_law_2167 (inRk rfl) ?_
    exact r_lawret0 (pc := 2168) dL_law_2168 rfl rfl rfl rfl h
theorem B_L_law_2169 {a0 : Nat} {a1 : Nat} {a2 : Nat} {a3 : Nat} {x4 : Int} (h : inR (x4 + 1) ∧ okA 20 σ a0 (x4 + 1) ∧ okO σ a1 11 ∧ CC E mX11_status [vr a1, vi (gI σ a0 (x4 + 1).toNat)] σ (KI (fun r3 τ4 => inR r3 → okA 20 τ4 a0 (x4 + 1) ∧ okO τ4 a2 12 ∧ CC E mX12_status [vr a2, vi (gI τ4 a0 (x4 + 1).toNat)] τ4 (KI (fun r6 τ7 => inR r6 → ((r3 = r6 → GG E mL_law 2194 [some (vr a0), some (vr a1), some (vr a2), some (vr a3), some (vi x4), none, none] [] τ7 rc rs Q) ∧ (¬ (r3 = r6) → (0 : Int) = 1))) (fun _ _ => False))) (fun _ _ => False))) : GG E mL_law 2169 [some (vr a0), some (vr a1), some (vr a2), some (vr a3), some (vi x4), none, none] [] σ rc rs Q := by
  refine r_aload_n (pc := 2169) dL_law_2169 rfl rfl ?_
  refine r_aload_n (pc := 2170) dL_law_2170 rfl rfl ?_
  refine r_iload (pc := 2171) dL_law_2171 rfl ?_
  refine r_iconst (pc := 2173) dL_law_2173 (inRk rfl) ?_
  obtain ⟨o1, h⟩ := h
  refine r_iadd (pc := 2174) dL_law_2174 o1 ?_
  obtain ⟨o2, h⟩ := h
  refine r_iaload (pc := 2175) dL_law_2175 o2 ?_
  refine c_VI0N (M := mL_law) (M2 := mX11_status) (pc := 2176) (As := [vi (gI σ a0 (x4 + 1).toNat)]) dL_law_2176 K_X11_status w_691 ⟨by decide, by decide⟩ (Nat.le_of_ble_eq_true rfl) rfl rfl (ci := 11) rfl rfl (by decide) h.1 h.2 (fun r3 τ4 h8 hr9 => ?_) rfl
  replace h := h8 hr9
  refine r_aload_n (pc := 2179) dL_law_2179 rfl rfl ?_
  refine r_aload_n (pc := 2180) dL_law_2180 rfl rfl ?_
  refine r_iload (pc := 2181) dL_law_2181 rfl ?_
  refine r_iconst (pc := 2183) dL_law_2183 (inRk rfl) ?_
  refine r_iadd (pc := 2184) dL_law_2184 o1 ?_
  obtain ⟨o5, h⟩ := h
  refine r_iaload (pc := 2185) dL_law_2185 o5 ?_
  refine c_VI0N (M := mL_law) (M2 := mX12_status) (pc := 2186) (As := [vi (gI τ4 a0 (x4 + 1).toNat)]) dL_law_2186 K_X12_status w_1864 ⟨by decide, by decide⟩ (Nat.le_of_ble_eq_true rfl) rfl rfl (ci := 12) rfl rfl (by decide) h.1 h.2 (fun r6 τ7 h8 hr9 => ?_) rfl
  replace h := h8 hr9
  refine r_icmp_eq (pc := 2189) (tgt := 2194) dL_law_2189 (by decide) (fun c9 => ?_) (fun c9 => ?_)
  · replace h := h.1 c9
    exact h
  · replace h := h.2 c9
    refine r_iconst (pc := 2192) dL_law_2192 (inRk rfl) ?_
    exact r_lawret0 (pc := 2193) dL_law_2193 rfl rfl rfl rfl h
theorem B_L_law_2194 {a0 : Nat} {a1 : Nat} {a2 : Nat} {a3 : Nat} {x4 : Int} (h : inR (x4 + 9) ∧ GG E mL_law 23 [some (vr a0), some (vr a1), some (vr a2), some (vr a3), some (vi (x4 + 9)), none, none] [] σ rc rs Q) : GG E mL_law 2194 [some (vr a0), some (vr a1), some (vr a2), some (vr a3), some (vi x4), none, none] [] σ rc rs Q := by
  obtain ⟨o1, h⟩ := h
  refine r_iinc (pc := 2194) dL_law_2194 rfl (by decide) o1 (l2 := [some (vr a0), some (vr a1), some (vr a2), some (vr a3), some (vi (x4 + 9)), none, none]) rfl ?_
  refine r_goto (pc := 2197) (tgt := 23) dL_law_2197 (by decide) ?_
  exact h
end G32
