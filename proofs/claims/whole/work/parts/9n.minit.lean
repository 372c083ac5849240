/-! ===== the reference's constructor ===== -/
section S9n
variable {E : Ev} {g : Sg} {Q : NO → Sg → Prop} {K : Int → List (List Int) → Sg → Prop}
theorem bld0M (hz : gz g = 172) : BLD LM 172 [] [] g g := by
  have hlo : ∀ q ∈ yR LM, 172 ≤ q.1 := by decide +kernel
  have hlx : ∀ q ∈ yX LM, 172 ≤ q.1 := by decide +kernel
  have hls : ∀ q ∈ yS LM, 172 ≤ q.1 := by decide +kernel
  exact ⟨hz, fun q hq a h1 h2 h3 => by have := hlo q hq; omega, fun z hz2 => absurd hz2 (by simp), fun q hq h1 => by have := hlx q hq; omega, fun q hq h1 => by have := hls q hq; omega, fun a j h1 h2 => by have h16 : yl LM = 172 := rfl; omega, by decide, hz, fun a _ => ⟨rfl, fun _ => ⟨rfl, rfl⟩⟩⟩
theorem M_init (hz : gz g = 172) (hX : XT g) (hq : ∀ τ, MI K g 158 165 τ 2 [] [oneL] [] [] (-1) W0 (fun _ => 0) → gz τ = 2968 → Q (.inl none) τ) : CC E mX12_init [vr 172] (nw g (13, 42)) Q := by
  have h : BLD LM 173 _ _ g _ := (bld0M hz).new (c := (13, 42)) (by decide +kernel) (by decide +kernel) (by decide +kernel) (by decide +kernel)
  refine C_X12_init (B_X12_init_0 ?_)
  refine ⟨by decide, ?_⟩
  refine ⟨by decide, ?_⟩
  refine ⟨by decide, ?_⟩
  refine fun b e => ?_
  rw [h.1] at e
  subst e
  replace h : BLD LM 174 _ _ g _ := h.new (c := (20, 3)) (by decide +kernel) (by decide +kernel) (by decide +kernel) (by decide +kernel)
  refine ⟨h.o (a := 172) (N := 42) (172, 173, 13, 42) (by decide) (by decide), ?_⟩
  refine fun τ e => ?_
  replace h := h.sr (a := 172) (j := 1) (b := 173) e (by decide +kernel)
  clear e
  refine ⟨h.o (a := 172) (N := 42) (172, 173, 13, 42) (by decide) (by decide), ?_⟩
  refine fun τ e => ?_
  replace h := h.si (a := 172) (j := 5) (x := (-1)) e (by decide)
  clear e
  refine ⟨by decide, ?_⟩
  refine ⟨by decide, ?_⟩
  refine fun b e => ?_
  rw [h.1] at e
  subst e
  replace h : BLD LM 175 _ _ g _ := h.new (c := (20, 400)) (by decide +kernel) (by decide +kernel) (by decide +kernel) (by decide +kernel)
  refine ⟨h.o (a := 172) (N := 42) (172, 173, 13, 42) (by decide) (by decide), ?_⟩
  refine fun τ e => ?_
  replace h := h.sr (a := 172) (j := 8) (b := 174) e (by decide +kernel)
  clear e
  refine ⟨by decide, ?_⟩
  refine ⟨by decide, ?_⟩
  refine fun b e => ?_
  rw [h.1] at e
  subst e
  replace h : BLD LM 186 _ _ g _ := h.mat (n := 10) (m := 34) (by decide +kernel) (by decide +kernel) (by decide +kernel) (by decide +kernel) (by decide +kernel)
  refine ⟨h.o (a := 172) (N := 42) (172, 173, 13, 42) (by decide) (by decide), ?_⟩
  refine fun τ e => ?_
  replace h := h.sr (a := 172) (j := 9) (b := 175) e (by decide +kernel)
  clear e
  refine ⟨by decide, ?_⟩
  refine ⟨by decide, ?_⟩
  refine fun b e => ?_
  rw [h.1] at e
  subst e
  replace h : BLD LM 187 _ _ g _ := h.new (c := (20, 4)) (by decide +kernel) (by decide +kernel) (by decide +kernel) (by decide +kernel)
  refine ⟨h.o (a := 172) (N := 42) (172, 173, 13, 42) (by decide) (by decide), ?_⟩
  refine fun τ e => ?_
  replace h := h.sr (a := 172) (j := 11) (b := 186) e (by decide +kernel)
  clear e
  refine ⟨by decide, ?_⟩
  refine ⟨by decide, ?_⟩
  refine fun b e => ?_
  rw [h.1] at e
  subst e
  replace h : BLD LM 308 _ _ g _ := h.mat (n := 120) (m := 8) (by decide +kernel) (by decide +kernel) (by decide +kernel) (by decide +kernel) (by decide +kernel)
  refine ⟨h.o (a := 172) (N := 42) (172, 173, 13, 42) (by decide) (by decide), ?_⟩
  refine fun τ e => ?_
  replace h := h.sr (a := 172) (j := 13) (b := 187) e (by decide +kernel)
  clear e
  refine ⟨by decide, ?_⟩
  refine ⟨by decide, ?_⟩
  refine fun b e => ?_
  rw [h.1] at e
  subst e
  replace h : BLD LM 309 _ _ g _ := h.new (c := (20, 8)) (by decide +kernel) (by decide +kernel) (by decide +kernel) (by decide +kernel)
  refine ⟨h.o (a := 172) (N := 42) (172, 173, 13, 42) (by decide) (by decide), ?_⟩
  refine fun τ e => ?_
  replace h := h.sr (a := 172) (j := 14) (b := 308) e (by decide +kernel)
  clear e
  refine ⟨by decide, ?_⟩
  refine ⟨by decide, ?_⟩
  refine fun b e => ?_
  rw [h.1] at e
  subst e
  replace h : BLD LM 430 _ _ g _ := h.mat (n := 120) (m := 8) (by decide +kernel) (by decide +kernel) (by decide +kernel) (by decide +kernel) (by decide +kernel)
  refine ⟨h.o (a := 172) (N := 42) (172, 173, 13, 42) (by decide) (by decide), ?_⟩
  refine fun τ e => ?_
  replace h := h.sr (a := 172) (j := 20) (b := 309) e (by decide +kernel)
  clear e
  refine ⟨by decide, ?_⟩
  refine ⟨by decide, ?_⟩
  refine fun b e => ?_
  rw [h.1] at e
  subst e
  replace h : BLD LM 551 _ _ g _ := h.mat (n := 120) (m := 120) (by decide +kernel) (by decide +kernel) (by decide +kernel) (by decide +kernel) (by decide +kernel)
  refine ⟨h.o (a := 172) (N := 42) (172, 173, 13, 42) (by decide) (by decide), ?_⟩
  refine fun τ e => ?_
  replace h := h.sr (a := 172) (j := 21) (b := 430) e (by decide +kernel)
  clear e
  refine ⟨by decide, ?_⟩
  refine ⟨by decide, ?_⟩
  refine fun b e => ?_
  rw [h.1] at e
  subst e
  replace h : BLD LM 552 _ _ g _ := h.new (c := (20, 120)) (by decide +kernel) (by decide +kernel) (by decide +kernel) (by decide +kernel)
  refine ⟨h.o (a := 172) (N := 42) (172, 173, 13, 42) (by decide) (by decide), ?_⟩
  refine fun τ e => ?_
  replace h := h.sr (a := 172) (j := 22) (b := 551) e (by decide +kernel)
  clear e
  refine ⟨by decide, ?_⟩
  refine ⟨by decide, ?_⟩
  refine fun b e => ?_
  rw [h.1] at e
  subst e
  replace h : BLD LM 553 _ _ g _ := h.new (c := (20, 120)) (by decide +kernel) (by decide +kernel) (by decide +kernel) (by decide +kernel)
  refine ⟨h.o (a := 172) (N := 42) (172, 173, 13, 42) (by decide) (by decide), ?_⟩
  refine fun τ e => ?_
  replace h := h.sr (a := 172) (j := 23) (b := 552) e (by decide +kernel)
  clear e
  refine ⟨by decide, ?_⟩
  refine ⟨by decide, ?_⟩
  refine fun b e => ?_
  rw [h.1] at e
  subst e
  replace h : BLD LM 554 _ _ g _ := h.new (c := (20, 120)) (by decide +kernel) (by decide +kernel) (by decide +kernel) (by decide +kernel)
  refine ⟨h.o (a := 172) (N := 42) (172, 173, 13, 42) (by decide) (by decide), ?_⟩
  refine fun τ e => ?_
  replace h := h.sr (a := 172) (j := 24) (b := 553) e (by decide +kernel)
  clear e
  refine ⟨by decide, ?_⟩
  refine ⟨by decide, ?_⟩
  refine fun b e => ?_
  rw [h.1] at e
  subst e
  replace h : BLD LM 555 _ _ g _ := h.new (c := (20, 120)) (by decide +kernel) (by decide +kernel) (by decide +kernel) (by decide +kernel)
  refine ⟨h.o (a := 172) (N := 42) (172, 173, 13, 42) (by decide) (by decide), ?_⟩
  refine fun τ e => ?_
  replace h := h.sr (a := 172) (j := 25) (b := 554) e (by decide +kernel)
  clear e
  refine ⟨by decide, ?_⟩
  refine ⟨by decide, ?_⟩
  refine fun b e => ?_
  rw [h.1] at e
  subst e
  replace h : BLD LM 556 _ _ g _ := h.new (c := (20, 120)) (by decide +kernel) (by decide +kernel) (by decide +kernel) (by decide +kernel)
  refine ⟨h.o (a := 172) (N := 42) (172, 173, 13, 42) (by decide) (by decide), ?_⟩
  refine fun τ e => ?_
  replace h := h.sr (a := 172) (j := 26) (b := 555) e (by decide +kernel)
  clear e
  refine ⟨by decide, ?_⟩
  refine ⟨by decide, ?_⟩
  refine fun b e => ?_
  rw [h.1] at e
  subst e
  replace h : BLD LM 2861 _ _ g _ := h.mat (n := 2304) (m := 48) (by decide +kernel) (by decide +kernel) (by decide +kernel) (by decide +kernel) (by decide +kernel)
  refine ⟨h.o (a := 172) (N := 42) (172, 173, 13, 42) (by decide) (by decide), ?_⟩
  refine fun τ e => ?_
  replace h := h.sr (a := 172) (j := 28) (b := 556) e (by decide +kernel)
  clear e
  refine ⟨by decide, ?_⟩
  refine ⟨by decide, ?_⟩
  refine fun b e => ?_
  rw [h.1] at e
  subst e
  replace h : BLD LM 2910 _ _ g _ := h.mat (n := 48) (m := 48) (by decide +kernel) (by decide +kernel) (by decide +kernel) (by decide +kernel) (by decide +kernel)
  refine ⟨h.o (a := 172) (N := 42) (172, 173, 13, 42) (by decide) (by decide), ?_⟩
  refine fun τ e => ?_
  replace h := h.sr (a := 172) (j := 29) (b := 2861) e (by decide +kernel)
  clear e
  refine ⟨by decide, ?_⟩
  refine ⟨by decide, ?_⟩
  refine fun b e => ?_
  rw [h.1] at e
  subst e
  replace h : BLD LM 2911 _ _ g _ := h.new (c := (20, 48)) (by decide +kernel) (by decide +kernel) (by decide +kernel) (by decide +kernel)
  refine ⟨h.o (a := 172) (N := 42) (172, 173, 13, 42) (by decide) (by decide), ?_⟩
  refine fun τ e => ?_
  replace h := h.sr (a := 172) (j := 30) (b := 2910) e (by decide +kernel)
  clear e
  refine ⟨by decide, ?_⟩
  refine ⟨by decide, ?_⟩
  refine fun b e => ?_
  rw [h.1] at e
  subst e
  replace h : BLD LM 2912 _ _ g _ := h.new (c := (20, 48)) (by decide +kernel) (by decide +kernel) (by decide +kernel) (by decide +kernel)
  refine ⟨h.o (a := 172) (N := 42) (172, 173, 13, 42) (by decide) (by decide), ?_⟩
  refine fun τ e => ?_
  replace h := h.sr (a := 172) (j := 31) (b := 2911) e (by decide +kernel)
  clear e
  refine ⟨by decide, ?_⟩
  refine ⟨by decide, ?_⟩
  refine fun b e => ?_
  rw [h.1] at e
  subst e
  replace h : BLD LM 2913 _ _ g _ := h.new (c := (20, 48)) (by decide +kernel) (by decide +kernel) (by decide +kernel) (by decide +kernel)
  refine ⟨h.o (a := 172) (N := 42) (172, 173, 13, 42) (by decide) (by decide), ?_⟩
  refine fun τ e => ?_
  replace h := h.sr (a := 172) (j := 32) (b := 2912) e (by decide +kernel)
  clear e
  refine ⟨by decide, ?_⟩
  refine ⟨by decide, ?_⟩
  refine fun b e => ?_
  rw [h.1] at e
  subst e
  replace h : BLD LM 2962 _ _ g _ := h.mat (n := 48) (m := 48) (by decide +kernel) (by decide +kernel) (by decide +kernel) (by decide +kernel) (by decide +kernel)
  refine ⟨h.o (a := 172) (N := 42) (172, 173, 13, 42) (by decide) (by decide), ?_⟩
  refine fun τ e => ?_
  replace h := h.sr (a := 172) (j := 33) (b := 2913) e (by decide +kernel)
  clear e
  refine ⟨by decide, ?_⟩
  refine ⟨by decide, ?_⟩
  refine fun b e => ?_
  rw [h.1] at e
  subst e
  replace h : BLD LM 2963 _ _ g _ := h.new (c := (20, 48)) (by decide +kernel) (by decide +kernel) (by decide +kernel) (by decide +kernel)
  refine ⟨h.o (a := 172) (N := 42) (172, 173, 13, 42) (by decide) (by decide), ?_⟩
  refine fun τ e => ?_
  replace h := h.sr (a := 172) (j := 34) (b := 2962) e (by decide +kernel)
  clear e
  refine ⟨by decide, ?_⟩
  refine ⟨by decide, ?_⟩
  refine fun b e => ?_
  rw [h.1] at e
  subst e
  replace h : BLD LM 2964 _ _ g _ := h.new (c := (20, 48)) (by decide +kernel) (by decide +kernel) (by decide +kernel) (by decide +kernel)
  refine ⟨h.o (a := 172) (N := 42) (172, 173, 13, 42) (by decide) (by decide), ?_⟩
  refine fun τ e => ?_
  replace h := h.sr (a := 172) (j := 36) (b := 2963) e (by decide +kernel)
  clear e
  refine ⟨by decide, ?_⟩
  refine ⟨by decide, ?_⟩
  refine fun b e => ?_
  rw [h.1] at e
  subst e
  replace h : BLD LM 2965 _ _ g _ := h.new (c := (20, 48)) (by decide +kernel) (by decide +kernel) (by decide +kernel) (by decide +kernel)
  refine ⟨h.o (a := 172) (N := 42) (172, 173, 13, 42) (by decide) (by decide), ?_⟩
  refine fun τ e => ?_
  replace h := h.sr (a := 172) (j := 37) (b := 2964) e (by decide +kernel)
  clear e
  refine ⟨by decide, ?_⟩
  refine ⟨by decide, ?_⟩
  refine fun b e => ?_
  rw [h.1] at e
  subst e
  replace h : BLD LM 2966 _ _ g _ := h.new (c := (20, 8)) (by decide +kernel) (by decide +kernel) (by decide +kernel) (by decide +kernel)
  refine ⟨h.o (a := 172) (N := 42) (172, 173, 13, 42) (by decide) (by decide), ?_⟩
  refine fun τ e => ?_
  replace h := h.sr (a := 172) (j := 38) (b := 2965) e (by decide +kernel)
  clear e
  refine ⟨by decide, ?_⟩
  refine ⟨by decide, ?_⟩
  refine fun b e => ?_
  rw [h.1] at e
  subst e
  replace h : BLD LM 2967 _ _ g _ := h.new (c := (20, 48)) (by decide +kernel) (by decide +kernel) (by decide +kernel) (by decide +kernel)
  refine ⟨h.o (a := 172) (N := 42) (172, 173, 13, 42) (by decide) (by decide), ?_⟩
  refine fun τ e => ?_
  replace h := h.sr (a := 172) (j := 39) (b := 2966) e (by decide +kernel)
  clear e
  refine ⟨by decide, ?_⟩
  refine ⟨by decide, ?_⟩
  refine fun b e => ?_
  rw [h.1] at e
  subst e
  replace h : BLD LM 2968 _ _ g _ := h.new (c := (22, 120)) (by decide +kernel) (by decide +kernel) (by decide +kernel) (by decide +kernel)
  refine ⟨h.o (a := 172) (N := 42) (172, 173, 13, 42) (by decide) (by decide), ?_⟩
  refine fun τ e => ?_
  replace h := h.sr (a := 172) (j := 40) (b := 2967) e (by decide +kernel)
  clear e
  refine ⟨h.o (a := 172) (N := 42) (172, 173, 13, 42) (by decide) (by decide), ?_⟩
  rename_i τ
  have h9 : gR τ 172 9 = 175 := h.2.2.1 (172, 9, 175) (by decide)
  have h0 : gR τ 175 0 = 176 := h.2.2.2.1 (175, 10, 176) (by decide) (by decide) 0 (by decide)
  rw [h9, h0]
  refine ⟨⟨by decide, by rw [h.2.1 (175, 176, 24, 10) (by decide) 175 (by decide) (by decide) (by decide)], by decide, by rw [h.2.1 (175, 176, 24, 10) (by decide) 175 (by decide) (by decide) (by decide)]; decide⟩, ⟨by decide, by rw [h.2.1 (176, 186, 20, 34) (by decide) 176 (by decide) (by decide) (by decide)], by decide, by rw [h.2.1 (176, 186, 20, 34) (by decide) 176 (by decide) (by decide) (by decide)]; decide⟩, fun τ1 e1 => ?_⟩
  replace h := h.si (a := 176) (j := 0) (x := 2) e1 (by decide)
  have hL : Lay LM g 158 165 τ1 := h.lay rfl hX (by decide +kernel) (fun h16 => absurd h16 (by decide)) (by decide +kernel)
  have hI := h.2.2.2.2.2.1
  have hz0 := h.1
  have j1 := h.2.2.2.2.1 (2861, 48, 2862, 2910) (by decide) (by decide)
  have j2 := h.2.2.2.2.1 (2913, 48, 2914, 2962) (by decide) (by decide)
  have hJ : JM τ1 := fun a ha i j hi hj e => by
    rcases ha with rfl | rfl
    · have e1 : gR τ1 2861 i = 2862 + i := j1 i hi
      have e2 : gR τ1 2861 j = 2862 + j := j1 j hj
      omega
    · have e1 : gR τ1 2913 i = 2914 + i := j2 i hi
      have e2 : gR τ1 2913 j = 2914 + j := j2 j hj
      omega
  clear h e1 j1 j2
  have hc0 : clos 2 [] = some (.inr [oneL]) := rfl
  have htd : tolds 2 [] := ⟨by decide, fun u hu => absurd hu (by simp)⟩
  have hCl := clos_Clo htd.2 hc0
  have hS : ST τ1 0 2 [] := ⟨(hI 176 0 (by decide) (by decide)).trans rfl, by decide, by decide, (hI 176 1 (by decide) (by decide)).trans rfl, by decide, fun u hu => absurd hu (by simp)⟩
  have o172 : ∀ {a b : Nat} {τ : Sg}, Lay LM g a b τ → okO τ 172 12 := fun hL => okO_of (N := 42) (hL.1 (172, 173, 13, 42) (by decide) 172 (by decide) (by decide)) (by decide)
  refine ⟨o172 hL, CC.grows (S_closes (r := 0) hL (by omega) hS hc0 (fun τ8 hL8 hF8 hR8 hN8 hg8 _ => ?_))⟩
  refine ⟨o172 hL8, CC.grows (S_keeps hL8 (.inl rfl) hCl (hS.fr hF8 (by omega) (fun j => by omega)) hR8 hN8 (fun τ10 hL10 hF10 hM10 h27 hg10 => ?_))⟩
  have d1 : dC mX12_closes = 0 := rfl
  have d2 : dC mX12_keepsGroup = 0 := rfl
  rw [d1] at hg8
  rw [d2] at hg10
  have hFa : Fr (fun a j => frL a j ∨ frK a j) (fun _ => False) τ1 τ10 := (hF8.mono (fun a j h9 => .inl h9) (fun _ h => h)).trans (hF10.mono (fun a j h9 => .inr h9) (fun _ h => h))
  refine hq τ10 ⟨hL10, hS.fr hFa (by omega) (fun j => by omega), hM10, ⟨?_, by decide, fun i hi => absurd hi (by simp)⟩, ⟨?_, by decide, fun i hi => absurd hi (by simp)⟩, ?_, fun i hi => ?_, fun i hi => ?_, ⟨hJ.fr hFa ⟨id, id⟩, .inl h27⟩⟩ (by omega)
  · exact (hFa.i (by omega) (by omega)).trans ((hI 172 10 (by decide) (by decide)).trans rfl)
  · exact (hFa.i (by omega) (by omega)).trans ((hI 172 2 (by decide) (by decide)).trans rfl)
  · exact (hFa.i (by omega) (by omega)).trans ((hI 172 5 (by decide) (by decide)).trans rfl)
  · refine (hFa.i (by omega) (by omega)).trans ((hI 186 i (by decide) (by decide)).trans ?_)
    have : i = 0 ∨ i = 1 ∨ i = 2 ∨ i = 3 := by omega
    rcases this with rfl | rfl | rfl | rfl <;> rfl
  · refine (hFa.i (by omega) (by omega)).trans ((hI 173 i (by decide) (by decide)).trans ?_)
    have : i = 0 ∨ i = 1 ∨ i = 2 := by omega
    rcases this with rfl | rfl | rfl <;> rfl
end S9n
