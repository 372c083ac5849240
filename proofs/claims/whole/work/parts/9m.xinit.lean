/-! ===== the class's constructor ===== -/
section S9m
variable {E : Ev} {g : Sg} {Q : NO → Sg → Prop} {K : Int → List (List Int) → Sg → Prop}
theorem bld0 (hz : gz g = 16) : BLD LC 16 [] [] g g := by
  have hlo : ∀ q ∈ yR LC, 16 ≤ q.1 := by decide +kernel
  have hlx : ∀ q ∈ yX LC, 16 ≤ q.1 := by decide +kernel
  have hls : ∀ q ∈ yS LC, 16 ≤ q.1 := by decide +kernel
  exact ⟨hz, fun q hq a h1 h2 h3 => by have := hlo q hq; omega, fun z hz2 => absurd hz2 (by simp), fun q hq h1 => by have := hlx q hq; omega, fun q hq h1 => by have := hls q hq; omega, fun a j h1 h2 => by have h16 : yl LC = 16 := rfl; omega, by decide, hz, fun a _ => ⟨rfl, fun _ => ⟨rfl, rfl⟩⟩⟩
theorem X_init (hz : gz g = 16) (hX : XT g) (hq : ∀ τ, CI K g 158 165 τ 2 [] [oneL] [] [] (-1) W0 (fun _ => 0) → gz τ = 172 → Q (.inl none) τ) : CC E mX11_init [vr 16] (nw g (12, 17)) Q := by
  have h : BLD LC 17 _ _ g _ := (bld0 hz).new (c := (12, 17)) (by decide +kernel) (by decide +kernel) (by decide +kernel) (by decide +kernel)
  refine C_X11_init (B_X11_init_0 ?_)
  refine ⟨by decide, ?_⟩
  refine ⟨by decide, ?_⟩
  refine ⟨by decide, ?_⟩
  refine fun b e => ?_
  rw [h.1] at e
  subst e
  refine ⟨by decide, ?_⟩
  refine ⟨by decide, ?_⟩
  refine ⟨by decide, ?_⟩
  replace h : BLD LC 18 _ _ g _ := h.new (c := (11, 2)) (by decide +kernel) (by decide +kernel) (by decide +kernel) (by decide +kernel)
  refine C_X10_init (B_X10_init_0 ?_)
  refine ⟨by decide, ?_⟩
  refine ⟨by decide, ?_⟩
  refine ⟨by decide, ?_⟩
  refine fun b e => ?_
  rw [h.1] at e
  subst e
  replace h : BLD LC 19 _ _ g _ := h.new (c := (21, 400)) (by decide +kernel) (by decide +kernel) (by decide +kernel) (by decide +kernel)
  refine ⟨h.o (a := 17) (N := 2) (17, 18, 11, 2) (by decide) (by decide), ?_⟩
  refine fun τ e => ?_
  replace h := h.sr (a := 17) (j := 0) (b := 18) e (by decide +kernel)
  clear e
  refine ⟨h.o (a := 16) (N := 17) (16, 17, 12, 17) (by decide) (by decide), ?_⟩
  refine fun τ e => ?_
  replace h := h.sr (a := 16) (j := 0) (b := 17) e (by decide +kernel)
  clear e
  refine ⟨by decide, ?_⟩
  refine ⟨by decide, ?_⟩
  refine fun b e => ?_
  rw [h.1] at e
  subst e
  replace h : BLD LC 20 _ _ g _ := h.new (c := (8, 6)) (by decide +kernel) (by decide +kernel) (by decide +kernel) (by decide +kernel)
  refine ⟨h.o (a := 16) (N := 17) (16, 17, 12, 17) (by decide) (by decide), ?_⟩
  refine ⟨by decide, ?_⟩
  refine ⟨by decide, ?_⟩
  refine ⟨by decide, ?_⟩
  try rw [(h.2.2.1 (16, 0, 17) (by decide) : gR _ 16 0 = 17)]
  refine C_X7_init (B_X7_init_0 ?_)
  refine ⟨by decide, ?_⟩
  refine ⟨by decide, ?_⟩
  refine ⟨by decide, ?_⟩
  refine fun b e => ?_
  rw [h.1] at e
  subst e
  replace h : BLD LC 21 _ _ g _ := h.new (c := (20, 8)) (by decide +kernel) (by decide +kernel) (by decide +kernel) (by decide +kernel)
  refine ⟨h.o (a := 19) (N := 6) (19, 20, 8, 6) (by decide) (by decide), ?_⟩
  refine fun τ e => ?_
  replace h := h.sr (a := 19) (j := 1) (b := 20) e (by decide +kernel)
  clear e
  refine ⟨h.o (a := 19) (N := 6) (19, 20, 8, 6) (by decide) (by decide), ?_⟩
  refine fun τ e => ?_
  replace h := h.sr (a := 19) (j := 0) (b := 17) e (by decide +kernel)
  clear e
  refine ⟨h.o (a := 16) (N := 17) (16, 17, 12, 17) (by decide) (by decide), ?_⟩
  refine fun τ e => ?_
  replace h := h.sr (a := 16) (j := 1) (b := 19) e (by decide +kernel)
  clear e
  refine ⟨by decide, ?_⟩
  refine ⟨by decide, ?_⟩
  refine fun b e => ?_
  rw [h.1] at e
  subst e
  refine ⟨by decide, ?_⟩
  refine ⟨by decide, ?_⟩
  refine ⟨by decide, ?_⟩
  replace h : BLD LC 22 _ _ g _ := h.new (c := (6, 3)) (by decide +kernel) (by decide +kernel) (by decide +kernel) (by decide +kernel)
  refine C_X5_init (B_X5_init_0 ?_)
  refine ⟨by decide, ?_⟩
  refine ⟨by decide, ?_⟩
  refine ⟨by decide, ?_⟩
  refine fun b e => ?_
  rw [h.1] at e
  subst e
  replace h : BLD LC 23 _ _ g _ := h.new (c := (20, 256)) (by decide +kernel) (by decide +kernel) (by decide +kernel) (by decide +kernel)
  refine ⟨h.o (a := 21) (N := 3) (21, 22, 6, 3) (by decide) (by decide), ?_⟩
  refine fun τ e => ?_
  replace h := h.sr (a := 21) (j := 0) (b := 22) e (by decide +kernel)
  clear e
  refine ⟨by decide, ?_⟩
  refine ⟨by decide, ?_⟩
  refine fun b e => ?_
  rw [h.1] at e
  subst e
  replace h : BLD LC 24 _ _ g _ := h.new (c := (20, 8)) (by decide +kernel) (by decide +kernel) (by decide +kernel) (by decide +kernel)
  refine ⟨h.o (a := 21) (N := 3) (21, 22, 6, 3) (by decide) (by decide), ?_⟩
  refine fun τ e => ?_
  replace h := h.sr (a := 21) (j := 1) (b := 23) e (by decide +kernel)
  clear e
  refine ⟨h.o (a := 16) (N := 17) (16, 17, 12, 17) (by decide) (by decide), ?_⟩
  refine fun τ e => ?_
  replace h := h.sr (a := 16) (j := 2) (b := 21) e (by decide +kernel)
  clear e
  refine ⟨by decide, ?_⟩
  refine ⟨by decide, ?_⟩
  refine fun b e => ?_
  rw [h.1] at e
  subst e
  refine ⟨by decide, ?_⟩
  refine ⟨by decide, ?_⟩
  refine ⟨by decide, ?_⟩
  replace h : BLD LC 25 _ _ g _ := h.new (c := (5, 12)) (by decide +kernel) (by decide +kernel) (by decide +kernel) (by decide +kernel)
  refine C_X4_init (B_X4_init_0 ?_)
  refine ⟨by decide, ?_⟩
  refine ⟨by decide, ?_⟩
  refine ⟨by decide, ?_⟩
  refine fun b e => ?_
  rw [h.1] at e
  subst e
  replace h : BLD LC 26 _ _ g _ := h.new (c := (20, 14400)) (by decide +kernel) (by decide +kernel) (by decide +kernel) (by decide +kernel)
  refine ⟨h.o (a := 24) (N := 12) (24, 25, 5, 12) (by decide) (by decide), ?_⟩
  refine fun τ e => ?_
  replace h := h.sr (a := 24) (j := 0) (b := 25) e (by decide +kernel)
  clear e
  refine ⟨by decide, ?_⟩
  refine ⟨by decide, ?_⟩
  refine fun b e => ?_
  rw [h.1] at e
  subst e
  replace h : BLD LC 27 _ _ g _ := h.new (c := (20, 120)) (by decide +kernel) (by decide +kernel) (by decide +kernel) (by decide +kernel)
  refine ⟨h.o (a := 24) (N := 12) (24, 25, 5, 12) (by decide) (by decide), ?_⟩
  refine fun τ e => ?_
  replace h := h.sr (a := 24) (j := 1) (b := 26) e (by decide +kernel)
  clear e
  refine ⟨by decide, ?_⟩
  refine ⟨by decide, ?_⟩
  refine fun b e => ?_
  rw [h.1] at e
  subst e
  replace h : BLD LC 28 _ _ g _ := h.new (c := (20, 120)) (by decide +kernel) (by decide +kernel) (by decide +kernel) (by decide +kernel)
  refine ⟨h.o (a := 24) (N := 12) (24, 25, 5, 12) (by decide) (by decide), ?_⟩
  refine fun τ e => ?_
  replace h := h.sr (a := 24) (j := 2) (b := 27) e (by decide +kernel)
  clear e
  refine ⟨by decide, ?_⟩
  refine ⟨by decide, ?_⟩
  refine fun b e => ?_
  rw [h.1] at e
  subst e
  replace h : BLD LC 29 _ _ g _ := h.new (c := (20, 120)) (by decide +kernel) (by decide +kernel) (by decide +kernel) (by decide +kernel)
  refine ⟨h.o (a := 24) (N := 12) (24, 25, 5, 12) (by decide) (by decide), ?_⟩
  refine fun τ e => ?_
  replace h := h.sr (a := 24) (j := 3) (b := 28) e (by decide +kernel)
  clear e
  refine ⟨by decide, ?_⟩
  refine ⟨by decide, ?_⟩
  refine fun b e => ?_
  rw [h.1] at e
  subst e
  replace h : BLD LC 30 _ _ g _ := h.new (c := (20, 120)) (by decide +kernel) (by decide +kernel) (by decide +kernel) (by decide +kernel)
  refine ⟨h.o (a := 24) (N := 12) (24, 25, 5, 12) (by decide) (by decide), ?_⟩
  refine fun τ e => ?_
  replace h := h.sr (a := 24) (j := 4) (b := 29) e (by decide +kernel)
  clear e
  refine ⟨by decide, ?_⟩
  refine ⟨by decide, ?_⟩
  refine fun b e => ?_
  rw [h.1] at e
  subst e
  replace h : BLD LC 31 _ _ g _ := h.new (c := (20, 120)) (by decide +kernel) (by decide +kernel) (by decide +kernel) (by decide +kernel)
  refine ⟨h.o (a := 24) (N := 12) (24, 25, 5, 12) (by decide) (by decide), ?_⟩
  refine fun τ e => ?_
  replace h := h.sr (a := 24) (j := 5) (b := 30) e (by decide +kernel)
  clear e
  refine ⟨h.o (a := 16) (N := 17) (16, 17, 12, 17) (by decide) (by decide), ?_⟩
  refine fun τ e => ?_
  replace h := h.sr (a := 16) (j := 3) (b := 24) e (by decide +kernel)
  clear e
  refine ⟨by decide, ?_⟩
  refine ⟨by decide, ?_⟩
  refine fun b e => ?_
  rw [h.1] at e
  subst e
  refine ⟨by decide, ?_⟩
  refine ⟨by decide, ?_⟩
  refine ⟨by decide, ?_⟩
  replace h : BLD LC 32 _ _ g _ := h.new (c := (10, 5)) (by decide +kernel) (by decide +kernel) (by decide +kernel) (by decide +kernel)
  refine C_X9_init (B_X9_init_0 ?_)
  refine ⟨by decide, ?_⟩
  refine ⟨by decide, ?_⟩
  refine ⟨by decide, ?_⟩
  refine fun b e => ?_
  rw [h.1] at e
  subst e
  replace h : BLD LC 33 _ _ g _ := h.new (c := (20, 120)) (by decide +kernel) (by decide +kernel) (by decide +kernel) (by decide +kernel)
  refine ⟨h.o (a := 31) (N := 5) (31, 32, 10, 5) (by decide) (by decide), ?_⟩
  refine fun τ e => ?_
  replace h := h.sr (a := 31) (j := 0) (b := 32) e (by decide +kernel)
  clear e
  refine ⟨by decide, ?_⟩
  refine ⟨by decide, ?_⟩
  refine fun b e => ?_
  rw [h.1] at e
  subst e
  replace h : BLD LC 34 _ _ g _ := h.new (c := (20, 120)) (by decide +kernel) (by decide +kernel) (by decide +kernel) (by decide +kernel)
  refine ⟨h.o (a := 31) (N := 5) (31, 32, 10, 5) (by decide) (by decide), ?_⟩
  refine fun τ e => ?_
  replace h := h.sr (a := 31) (j := 1) (b := 33) e (by decide +kernel)
  clear e
  refine ⟨h.o (a := 31) (N := 5) (31, 32, 10, 5) (by decide) (by decide), ?_⟩
  refine fun τ e => ?_
  replace h := h.si (a := 31) (j := 3) (x := (-1)) e (by decide)
  clear e
  refine ⟨h.o (a := 31) (N := 5) (31, 32, 10, 5) (by decide) (by decide), ?_⟩
  refine fun τ e => ?_
  replace h := h.si (a := 31) (j := 4) (x := (-1)) e (by decide)
  clear e
  refine ⟨h.o (a := 16) (N := 17) (16, 17, 12, 17) (by decide) (by decide), ?_⟩
  refine fun τ e => ?_
  replace h := h.sr (a := 16) (j := 4) (b := 31) e (by decide +kernel)
  clear e
  refine ⟨by decide, ?_⟩
  refine ⟨by decide, ?_⟩
  refine fun b e => ?_
  rw [h.1] at e
  subst e
  refine ⟨by decide, ?_⟩
  refine ⟨by decide, ?_⟩
  refine ⟨by decide, ?_⟩
  replace h : BLD LC 35 _ _ g _ := h.new (c := (1, 10)) (by decide +kernel) (by decide +kernel) (by decide +kernel) (by decide +kernel)
  refine C_X0_init (B_X0_init_0 ?_)
  refine ⟨by decide, ?_⟩
  refine ⟨by decide, ?_⟩
  refine ⟨by decide, ?_⟩
  refine fun b e => ?_
  rw [h.1] at e
  subst e
  refine ⟨by decide, ?_⟩
  replace h : BLD LC 36 _ _ g _ := h.new (c := (3, 2)) (by decide +kernel) (by decide +kernel) (by decide +kernel) (by decide +kernel)
  refine C_X2_init (B_X2_init_0 ?_)
  refine ⟨by decide, ?_⟩
  refine ⟨h.o (a := 34) (N := 10) (34, 35, 1, 10) (by decide) (by decide), ?_⟩
  refine fun τ e => ?_
  replace h := h.sr (a := 34) (j := 0) (b := 35) e (by decide +kernel)
  clear e
  refine ⟨by decide, ?_⟩
  refine ⟨by decide, ?_⟩
  refine fun b e => ?_
  rw [h.1] at e
  subst e
  replace h : BLD LC 49 _ _ g _ := h.mat (n := 12) (m := 12) (by decide +kernel) (by decide +kernel) (by decide +kernel) (by decide +kernel) (by decide +kernel)
  refine ⟨h.o (a := 34) (N := 10) (34, 35, 1, 10) (by decide) (by decide), ?_⟩
  refine fun τ e => ?_
  replace h := h.sr (a := 34) (j := 1) (b := 36) e (by decide +kernel)
  clear e
  refine ⟨by decide, ?_⟩
  refine ⟨by decide, ?_⟩
  refine fun b e => ?_
  rw [h.1] at e
  subst e
  replace h : BLD LC 50 _ _ g _ := h.new (c := (20, 12)) (by decide +kernel) (by decide +kernel) (by decide +kernel) (by decide +kernel)
  refine ⟨h.o (a := 34) (N := 10) (34, 35, 1, 10) (by decide) (by decide), ?_⟩
  refine fun τ e => ?_
  replace h := h.sr (a := 34) (j := 2) (b := 49) e (by decide +kernel)
  clear e
  refine ⟨by decide, ?_⟩
  refine ⟨by decide, ?_⟩
  refine fun b e => ?_
  rw [h.1] at e
  subst e
  replace h : BLD LC 51 _ _ g _ := h.new (c := (20, 12)) (by decide +kernel) (by decide +kernel) (by decide +kernel) (by decide +kernel)
  refine ⟨h.o (a := 34) (N := 10) (34, 35, 1, 10) (by decide) (by decide), ?_⟩
  refine fun τ e => ?_
  replace h := h.sr (a := 34) (j := 3) (b := 50) e (by decide +kernel)
  clear e
  refine ⟨by decide, ?_⟩
  refine ⟨by decide, ?_⟩
  refine fun b e => ?_
  rw [h.1] at e
  subst e
  replace h : BLD LC 52 _ _ g _ := h.new (c := (20, 12)) (by decide +kernel) (by decide +kernel) (by decide +kernel) (by decide +kernel)
  refine ⟨h.o (a := 34) (N := 10) (34, 35, 1, 10) (by decide) (by decide), ?_⟩
  refine fun τ e => ?_
  replace h := h.sr (a := 34) (j := 4) (b := 51) e (by decide +kernel)
  clear e
  refine ⟨by decide, ?_⟩
  refine ⟨by decide, ?_⟩
  refine fun b e => ?_
  rw [h.1] at e
  subst e
  replace h : BLD LC 53 _ _ g _ := h.new (c := (20, 12)) (by decide +kernel) (by decide +kernel) (by decide +kernel) (by decide +kernel)
  refine ⟨h.o (a := 34) (N := 10) (34, 35, 1, 10) (by decide) (by decide), ?_⟩
  refine fun τ e => ?_
  replace h := h.sr (a := 34) (j := 5) (b := 52) e (by decide +kernel)
  clear e
  refine ⟨by decide, ?_⟩
  refine ⟨by decide, ?_⟩
  refine fun b e => ?_
  rw [h.1] at e
  subst e
  replace h : BLD LC 54 _ _ g _ := h.new (c := (20, 12)) (by decide +kernel) (by decide +kernel) (by decide +kernel) (by decide +kernel)
  refine ⟨h.o (a := 34) (N := 10) (34, 35, 1, 10) (by decide) (by decide), ?_⟩
  refine fun τ e => ?_
  replace h := h.sr (a := 34) (j := 6) (b := 53) e (by decide +kernel)
  clear e
  refine ⟨h.o (a := 16) (N := 17) (16, 17, 12, 17) (by decide) (by decide), ?_⟩
  refine fun τ e => ?_
  replace h := h.sr (a := 16) (j := 5) (b := 34) e (by decide +kernel)
  clear e
  refine ⟨by decide, ?_⟩
  refine ⟨by decide, ?_⟩
  refine fun b e => ?_
  rw [h.1] at e
  subst e
  replace h : BLD LC 55 _ _ g _ := h.new (c := (9, 15)) (by decide +kernel) (by decide +kernel) (by decide +kernel) (by decide +kernel)
  refine ⟨h.o (a := 16) (N := 17) (16, 17, 12, 17) (by decide) (by decide), ?_⟩
  try rw [(h.2.2.1 (16, 5, 34) (by decide) : gR _ 16 5 = 34)]
  refine ⟨h.o (a := 34) (N := 10) (34, 35, 1, 10) (by decide) (by decide), ?_⟩
  refine ⟨by decide, ?_⟩
  refine ⟨by decide, ?_⟩
  refine ⟨by decide, ?_⟩
  try rw [(h.2.2.1 (16, 5, 34) (by decide) : gR _ 16 5 = 34)]
  try rw [(h.2.2.1 (34, 0, 35) (by decide) : gR _ 34 0 = 35)]
  refine C_X8_init (B_X8_init_0 ?_)
  refine ⟨by decide, ?_⟩
  refine ⟨by decide, ?_⟩
  refine ⟨by decide, ?_⟩
  refine fun b e => ?_
  rw [h.1] at e
  subst e
  replace h : BLD LC 56 _ _ g _ := h.new (c := (20, 1728)) (by decide +kernel) (by decide +kernel) (by decide +kernel) (by decide +kernel)
  refine ⟨h.o (a := 54) (N := 15) (54, 55, 9, 15) (by decide) (by decide), ?_⟩
  refine fun τ e => ?_
  replace h := h.sr (a := 54) (j := 0) (b := 55) e (by decide +kernel)
  clear e
  refine ⟨by decide, ?_⟩
  refine ⟨by decide, ?_⟩
  refine fun b e => ?_
  rw [h.1] at e
  subst e
  replace h : BLD LC 69 _ _ g _ := h.mat (n := 12) (m := 12) (by decide +kernel) (by decide +kernel) (by decide +kernel) (by decide +kernel) (by decide +kernel)
  refine ⟨h.o (a := 54) (N := 15) (54, 55, 9, 15) (by decide) (by decide), ?_⟩
  refine fun τ e => ?_
  replace h := h.sr (a := 54) (j := 1) (b := 56) e (by decide +kernel)
  clear e
  refine ⟨by decide, ?_⟩
  refine ⟨by decide, ?_⟩
  refine fun b e => ?_
  rw [h.1] at e
  subst e
  replace h : BLD LC 82 _ _ g _ := h.mat (n := 12) (m := 12) (by decide +kernel) (by decide +kernel) (by decide +kernel) (by decide +kernel) (by decide +kernel)
  refine ⟨h.o (a := 54) (N := 15) (54, 55, 9, 15) (by decide) (by decide), ?_⟩
  refine fun τ e => ?_
  replace h := h.sr (a := 54) (j := 2) (b := 69) e (by decide +kernel)
  clear e
  refine ⟨by decide, ?_⟩
  refine ⟨by decide, ?_⟩
  refine fun b e => ?_
  rw [h.1] at e
  subst e
  replace h : BLD LC 95 _ _ g _ := h.mat (n := 12) (m := 12) (by decide +kernel) (by decide +kernel) (by decide +kernel) (by decide +kernel) (by decide +kernel)
  refine ⟨h.o (a := 54) (N := 15) (54, 55, 9, 15) (by decide) (by decide), ?_⟩
  refine fun τ e => ?_
  replace h := h.sr (a := 54) (j := 3) (b := 82) e (by decide +kernel)
  clear e
  refine ⟨by decide, ?_⟩
  refine ⟨by decide, ?_⟩
  refine fun b e => ?_
  rw [h.1] at e
  subst e
  replace h : BLD LC 108 _ _ g _ := h.mat (n := 12) (m := 12) (by decide +kernel) (by decide +kernel) (by decide +kernel) (by decide +kernel) (by decide +kernel)
  refine ⟨h.o (a := 54) (N := 15) (54, 55, 9, 15) (by decide) (by decide), ?_⟩
  refine fun τ e => ?_
  replace h := h.sr (a := 54) (j := 4) (b := 95) e (by decide +kernel)
  clear e
  refine ⟨by decide, ?_⟩
  refine ⟨by decide, ?_⟩
  refine fun b e => ?_
  rw [h.1] at e
  subst e
  replace h : BLD LC 121 _ _ g _ := h.mat (n := 12) (m := 24) (by decide +kernel) (by decide +kernel) (by decide +kernel) (by decide +kernel) (by decide +kernel)
  refine ⟨h.o (a := 54) (N := 15) (54, 55, 9, 15) (by decide) (by decide), ?_⟩
  refine fun τ e => ?_
  replace h := h.sr (a := 54) (j := 5) (b := 108) e (by decide +kernel)
  clear e
  refine ⟨by decide, ?_⟩
  refine ⟨by decide, ?_⟩
  refine fun b e => ?_
  rw [h.1] at e
  subst e
  replace h : BLD LC 122 _ _ g _ := h.new (c := (20, 12)) (by decide +kernel) (by decide +kernel) (by decide +kernel) (by decide +kernel)
  refine ⟨h.o (a := 54) (N := 15) (54, 55, 9, 15) (by decide) (by decide), ?_⟩
  refine fun τ e => ?_
  replace h := h.sr (a := 54) (j := 6) (b := 121) e (by decide +kernel)
  clear e
  refine ⟨by decide, ?_⟩
  refine ⟨by decide, ?_⟩
  refine fun b e => ?_
  rw [h.1] at e
  subst e
  replace h : BLD LC 123 _ _ g _ := h.new (c := (20, 12)) (by decide +kernel) (by decide +kernel) (by decide +kernel) (by decide +kernel)
  refine ⟨h.o (a := 54) (N := 15) (54, 55, 9, 15) (by decide) (by decide), ?_⟩
  refine fun τ e => ?_
  replace h := h.sr (a := 54) (j := 7) (b := 122) e (by decide +kernel)
  clear e
  refine ⟨by decide, ?_⟩
  refine ⟨by decide, ?_⟩
  refine fun b e => ?_
  rw [h.1] at e
  subst e
  replace h : BLD LC 124 _ _ g _ := h.new (c := (20, 13)) (by decide +kernel) (by decide +kernel) (by decide +kernel) (by decide +kernel)
  refine ⟨h.o (a := 54) (N := 15) (54, 55, 9, 15) (by decide) (by decide), ?_⟩
  refine fun τ e => ?_
  replace h := h.sr (a := 54) (j := 8) (b := 123) e (by decide +kernel)
  clear e
  refine ⟨by decide, ?_⟩
  refine ⟨by decide, ?_⟩
  refine fun b e => ?_
  rw [h.1] at e
  subst e
  replace h : BLD LC 125 _ _ g _ := h.new (c := (20, 12)) (by decide +kernel) (by decide +kernel) (by decide +kernel) (by decide +kernel)
  refine ⟨h.o (a := 54) (N := 15) (54, 55, 9, 15) (by decide) (by decide), ?_⟩
  refine fun τ e => ?_
  replace h := h.sr (a := 54) (j := 9) (b := 124) e (by decide +kernel)
  clear e
  refine ⟨h.o (a := 54) (N := 15) (54, 55, 9, 15) (by decide) (by decide), ?_⟩
  refine fun τ e => ?_
  replace h := h.sr (a := 54) (j := 10) (b := 35) e (by decide +kernel)
  clear e
  refine ⟨h.o (a := 16) (N := 17) (16, 17, 12, 17) (by decide) (by decide), ?_⟩
  refine fun τ e => ?_
  replace h := h.sr (a := 16) (j := 6) (b := 54) e (by decide +kernel)
  clear e
  refine ⟨by decide, ?_⟩
  refine ⟨by decide, ?_⟩
  refine fun b e => ?_
  rw [h.1] at e
  subst e
  refine ⟨by decide, ?_⟩
  refine ⟨by decide, ?_⟩
  refine ⟨by decide, ?_⟩
  replace h : BLD LC 126 _ _ g _ := h.new (c := (4, 3)) (by decide +kernel) (by decide +kernel) (by decide +kernel) (by decide +kernel)
  refine C_X3_init (B_X3_init_0 ?_)
  refine ⟨by decide, ?_⟩
  refine ⟨by decide, ?_⟩
  refine ⟨by decide, ?_⟩
  refine fun b e => ?_
  rw [h.1] at e
  subst e
  replace h : BLD LC 139 _ _ g _ := h.mat (n := 12) (m := 12) (by decide +kernel) (by decide +kernel) (by decide +kernel) (by decide +kernel) (by decide +kernel)
  refine ⟨h.o (a := 125) (N := 3) (125, 126, 4, 3) (by decide) (by decide), ?_⟩
  refine fun τ e => ?_
  replace h := h.sr (a := 125) (j := 0) (b := 126) e (by decide +kernel)
  clear e
  refine ⟨by decide, ?_⟩
  refine ⟨by decide, ?_⟩
  refine fun b e => ?_
  rw [h.1] at e
  subst e
  replace h : BLD LC 152 _ _ g _ := h.mat (n := 12) (m := 12) (by decide +kernel) (by decide +kernel) (by decide +kernel) (by decide +kernel) (by decide +kernel)
  refine ⟨h.o (a := 125) (N := 3) (125, 126, 4, 3) (by decide) (by decide), ?_⟩
  refine fun τ e => ?_
  replace h := h.sr (a := 125) (j := 1) (b := 139) e (by decide +kernel)
  clear e
  refine ⟨h.o (a := 16) (N := 17) (16, 17, 12, 17) (by decide) (by decide), ?_⟩
  refine fun τ e => ?_
  replace h := h.sr (a := 16) (j := 7) (b := 125) e (by decide +kernel)
  clear e
  refine ⟨by decide, ?_⟩
  refine ⟨by decide, ?_⟩
  refine fun b e => ?_
  rw [h.1] at e
  subst e
  refine ⟨by decide, ?_⟩
  refine ⟨by decide, ?_⟩
  refine ⟨by decide, ?_⟩
  replace h : BLD LC 153 _ _ g _ := h.new (c := (7, 2)) (by decide +kernel) (by decide +kernel) (by decide +kernel) (by decide +kernel)
  refine C_X6_init (B_X6_init_0 ?_)
  refine ⟨by decide, ?_⟩
  refine ⟨by decide, ?_⟩
  refine ⟨by decide, ?_⟩
  refine fun b e => ?_
  rw [h.1] at e
  subst e
  replace h : BLD LC 154 _ _ g _ := h.new (c := (20, 12)) (by decide +kernel) (by decide +kernel) (by decide +kernel) (by decide +kernel)
  refine ⟨h.o (a := 152) (N := 2) (152, 153, 7, 2) (by decide) (by decide), ?_⟩
  refine fun τ e => ?_
  replace h := h.sr (a := 152) (j := 0) (b := 153) e (by decide +kernel)
  clear e
  refine ⟨by decide, ?_⟩
  refine ⟨by decide, ?_⟩
  refine fun b e => ?_
  rw [h.1] at e
  subst e
  replace h : BLD LC 155 _ _ g _ := h.new (c := (20, 12)) (by decide +kernel) (by decide +kernel) (by decide +kernel) (by decide +kernel)
  refine ⟨h.o (a := 152) (N := 2) (152, 153, 7, 2) (by decide) (by decide), ?_⟩
  refine fun τ e => ?_
  replace h := h.sr (a := 152) (j := 1) (b := 154) e (by decide +kernel)
  clear e
  refine ⟨h.o (a := 16) (N := 17) (16, 17, 12, 17) (by decide) (by decide), ?_⟩
  refine fun τ e => ?_
  replace h := h.sr (a := 16) (j := 8) (b := 152) e (by decide +kernel)
  clear e
  refine ⟨by decide, ?_⟩
  refine ⟨by decide, ?_⟩
  refine fun b e => ?_
  rw [h.1] at e
  subst e
  replace h : BLD LC 156 _ _ g _ := h.new (c := (20, 8)) (by decide +kernel) (by decide +kernel) (by decide +kernel) (by decide +kernel)
  refine ⟨h.o (a := 16) (N := 17) (16, 17, 12, 17) (by decide) (by decide), ?_⟩
  refine fun τ e => ?_
  replace h := h.sr (a := 16) (j := 9) (b := 155) e (by decide +kernel)
  clear e
  refine ⟨by decide, ?_⟩
  refine ⟨by decide, ?_⟩
  refine fun b e => ?_
  rw [h.1] at e
  subst e
  replace h : BLD LC 157 _ _ g _ := h.new (c := (20, 4)) (by decide +kernel) (by decide +kernel) (by decide +kernel) (by decide +kernel)
  refine ⟨h.o (a := 16) (N := 17) (16, 17, 12, 17) (by decide) (by decide), ?_⟩
  refine fun τ e => ?_
  replace h := h.sr (a := 16) (j := 10) (b := 156) e (by decide +kernel)
  clear e
  refine ⟨by decide, ?_⟩
  refine ⟨by decide, ?_⟩
  refine fun b e => ?_
  rw [h.1] at e
  subst e
  replace h : BLD LC 158 _ _ g _ := h.new (c := (20, 3)) (by decide +kernel) (by decide +kernel) (by decide +kernel) (by decide +kernel)
  refine ⟨h.o (a := 16) (N := 17) (16, 17, 12, 17) (by decide) (by decide), ?_⟩
  refine fun τ e => ?_
  replace h := h.sr (a := 16) (j := 11) (b := 157) e (by decide +kernel)
  clear e
  refine ⟨by decide, ?_⟩
  refine ⟨by decide, ?_⟩
  refine fun b e => ?_
  rw [h.1] at e
  subst e
  refine ⟨by decide, ?_⟩
  refine ⟨by decide, ?_⟩
  refine ⟨by decide, ?_⟩
  replace h : BLD LC 159 _ _ g _ := h.new (c := (2, 12)) (by decide +kernel) (by decide +kernel) (by decide +kernel) (by decide +kernel)
  refine C_X1_init (B_X1_init_0 ?_)
  refine ⟨by decide, ?_⟩
  refine ⟨by decide, ?_⟩
  refine ⟨by decide, ?_⟩
  refine fun b e => ?_
  rw [h.1] at e
  subst e
  replace h : BLD LC 160 _ _ g _ := h.new (c := (20, 32)) (by decide +kernel) (by decide +kernel) (by decide +kernel) (by decide +kernel)
  refine ⟨h.o (a := 158) (N := 12) (158, 159, 2, 12) (by decide) (by decide), ?_⟩
  refine fun τ e => ?_
  replace h := h.sr (a := 158) (j := 0) (b := 159) e (by decide +kernel)
  clear e
  refine ⟨by decide, ?_⟩
  refine ⟨by decide, ?_⟩
  refine fun b e => ?_
  rw [h.1] at e
  subst e
  replace h : BLD LC 161 _ _ g _ := h.new (c := (20, 960)) (by decide +kernel) (by decide +kernel) (by decide +kernel) (by decide +kernel)
  refine ⟨h.o (a := 158) (N := 12) (158, 159, 2, 12) (by decide) (by decide), ?_⟩
  refine fun τ e => ?_
  replace h := h.sr (a := 158) (j := 1) (b := 160) e (by decide +kernel)
  clear e
  refine ⟨by decide, ?_⟩
  refine ⟨by decide, ?_⟩
  refine fun b e => ?_
  rw [h.1] at e
  subst e
  replace h : BLD LC 162 _ _ g _ := h.new (c := (20, 480)) (by decide +kernel) (by decide +kernel) (by decide +kernel) (by decide +kernel)
  refine ⟨h.o (a := 158) (N := 12) (158, 159, 2, 12) (by decide) (by decide), ?_⟩
  refine fun τ e => ?_
  replace h := h.sr (a := 158) (j := 2) (b := 161) e (by decide +kernel)
  clear e
  refine ⟨by decide, ?_⟩
  refine ⟨by decide, ?_⟩
  refine fun b e => ?_
  rw [h.1] at e
  subst e
  replace h : BLD LC 163 _ _ g _ := h.new (c := (20, 120)) (by decide +kernel) (by decide +kernel) (by decide +kernel) (by decide +kernel)
  refine ⟨h.o (a := 158) (N := 12) (158, 159, 2, 12) (by decide) (by decide), ?_⟩
  refine fun τ e => ?_
  replace h := h.sr (a := 158) (j := 3) (b := 162) e (by decide +kernel)
  clear e
  refine ⟨by decide, ?_⟩
  refine ⟨by decide, ?_⟩
  refine fun b e => ?_
  rw [h.1] at e
  subst e
  replace h : BLD LC 164 _ _ g _ := h.new (c := (20, 120)) (by decide +kernel) (by decide +kernel) (by decide +kernel) (by decide +kernel)
  refine ⟨h.o (a := 158) (N := 12) (158, 159, 2, 12) (by decide) (by decide), ?_⟩
  refine fun τ e => ?_
  replace h := h.sr (a := 158) (j := 4) (b := 163) e (by decide +kernel)
  clear e
  refine ⟨by decide, ?_⟩
  refine ⟨by decide, ?_⟩
  refine fun b e => ?_
  rw [h.1] at e
  subst e
  replace h : BLD LC 165 _ _ g _ := h.new (c := (20, 8)) (by decide +kernel) (by decide +kernel) (by decide +kernel) (by decide +kernel)
  refine ⟨h.o (a := 158) (N := 12) (158, 159, 2, 12) (by decide) (by decide), ?_⟩
  refine fun τ e => ?_
  replace h := h.sr (a := 158) (j := 5) (b := 164) e (by decide +kernel)
  clear e
  refine ⟨h.o (a := 158) (N := 12) (158, 159, 2, 12) (by decide) (by decide), ?_⟩
  refine fun τ e => ?_
  replace h := h.si (a := 158) (j := 6) (x := 2) e (by decide)
  clear e
  refine ⟨h.o (a := 16) (N := 17) (16, 17, 12, 17) (by decide) (by decide), ?_⟩
  refine fun τ e => ?_
  replace h := h.sr (a := 16) (j := 12) (b := 158) e (by decide +kernel)
  clear e
  refine ⟨by decide, ?_⟩
  refine ⟨by decide, ?_⟩
  refine fun b e => ?_
  rw [h.1] at e
  subst e
  refine ⟨by decide, ?_⟩
  refine ⟨by decide, ?_⟩
  refine ⟨by decide, ?_⟩
  replace h : BLD LC 166 _ _ g _ := h.new (c := (2, 12)) (by decide +kernel) (by decide +kernel) (by decide +kernel) (by decide +kernel)
  refine C_X1_init (B_X1_init_0 ?_)
  refine ⟨by decide, ?_⟩
  refine ⟨by decide, ?_⟩
  refine ⟨by decide, ?_⟩
  refine fun b e => ?_
  rw [h.1] at e
  subst e
  replace h : BLD LC 167 _ _ g _ := h.new (c := (20, 32)) (by decide +kernel) (by decide +kernel) (by decide +kernel) (by decide +kernel)
  refine ⟨h.o (a := 165) (N := 12) (165, 166, 2, 12) (by decide) (by decide), ?_⟩
  refine fun τ e => ?_
  replace h := h.sr (a := 165) (j := 0) (b := 166) e (by decide +kernel)
  clear e
  refine ⟨by decide, ?_⟩
  refine ⟨by decide, ?_⟩
  refine fun b e => ?_
  rw [h.1] at e
  subst e
  replace h : BLD LC 168 _ _ g _ := h.new (c := (20, 960)) (by decide +kernel) (by decide +kernel) (by decide +kernel) (by decide +kernel)
  refine ⟨h.o (a := 165) (N := 12) (165, 166, 2, 12) (by decide) (by decide), ?_⟩
  refine fun τ e => ?_
  replace h := h.sr (a := 165) (j := 1) (b := 167) e (by decide +kernel)
  clear e
  refine ⟨by decide, ?_⟩
  refine ⟨by decide, ?_⟩
  refine fun b e => ?_
  rw [h.1] at e
  subst e
  replace h : BLD LC 169 _ _ g _ := h.new (c := (20, 480)) (by decide +kernel) (by decide +kernel) (by decide +kernel) (by decide +kernel)
  refine ⟨h.o (a := 165) (N := 12) (165, 166, 2, 12) (by decide) (by decide), ?_⟩
  refine fun τ e => ?_
  replace h := h.sr (a := 165) (j := 2) (b := 168) e (by decide +kernel)
  clear e
  refine ⟨by decide, ?_⟩
  refine ⟨by decide, ?_⟩
  refine fun b e => ?_
  rw [h.1] at e
  subst e
  replace h : BLD LC 170 _ _ g _ := h.new (c := (20, 120)) (by decide +kernel) (by decide +kernel) (by decide +kernel) (by decide +kernel)
  refine ⟨h.o (a := 165) (N := 12) (165, 166, 2, 12) (by decide) (by decide), ?_⟩
  refine fun τ e => ?_
  replace h := h.sr (a := 165) (j := 3) (b := 169) e (by decide +kernel)
  clear e
  refine ⟨by decide, ?_⟩
  refine ⟨by decide, ?_⟩
  refine fun b e => ?_
  rw [h.1] at e
  subst e
  replace h : BLD LC 171 _ _ g _ := h.new (c := (20, 120)) (by decide +kernel) (by decide +kernel) (by decide +kernel) (by decide +kernel)
  refine ⟨h.o (a := 165) (N := 12) (165, 166, 2, 12) (by decide) (by decide), ?_⟩
  refine fun τ e => ?_
  replace h := h.sr (a := 165) (j := 4) (b := 170) e (by decide +kernel)
  clear e
  refine ⟨by decide, ?_⟩
  refine ⟨by decide, ?_⟩
  refine fun b e => ?_
  rw [h.1] at e
  subst e
  replace h : BLD LC 172 _ _ g _ := h.new (c := (20, 8)) (by decide +kernel) (by decide +kernel) (by decide +kernel) (by decide +kernel)
  refine ⟨h.o (a := 165) (N := 12) (165, 166, 2, 12) (by decide) (by decide), ?_⟩
  refine fun τ e => ?_
  replace h := h.sr (a := 165) (j := 5) (b := 171) e (by decide +kernel)
  clear e
  refine ⟨h.o (a := 165) (N := 12) (165, 166, 2, 12) (by decide) (by decide), ?_⟩
  refine fun τ e => ?_
  replace h := h.si (a := 165) (j := 6) (x := 2) e (by decide)
  clear e
  refine ⟨h.o (a := 16) (N := 17) (16, 17, 12, 17) (by decide) (by decide), ?_⟩
  refine fun τ e => ?_
  replace h := h.sr (a := 16) (j := 13) (b := 165) e (by decide +kernel)
  clear e
  refine ⟨h.o (a := 16) (N := 17) (16, 17, 12, 17) (by decide) (by decide), ?_⟩
  refine fun τ e => ?_
  replace h := h.si (a := 16) (j := 16) (x := (-1)) e (by decide)
  clear e
  refine ⟨h.o (a := 16) (N := 17) (16, 17, 12, 17) (by decide) (by decide), ?_⟩
  try rw [(h.2.2.1 (16, 12, 158) (by decide) : gR _ 16 12 = 158)]
  refine ⟨h.o (a := 158) (N := 12) (158, 159, 2, 12) (by decide) (by decide), ?_⟩
  show CC E mX1_begin [vr 158, vi 2] _ _
  rename_i τ
  have hL : Lay LC g 158 165 _ := h.lay rfl hX (by decide +kernel) (fun _ => ⟨h.2.2.1 (16, 12, 158) (by decide), h.2.2.1 (16, 13, 165) (by decide)⟩) (by decide +kernel)
  have hI := h.2.2.2.2.2.1
  have hz0 := h.1
  have j36 := h.2.2.2.2.1 (36, 12, 37, 49) (by decide) (by decide)
  have j69 := h.2.2.2.2.1 (69, 12, 70, 82) (by decide) (by decide)
  have j108 := h.2.2.2.2.1 (108, 12, 109, 121) (by decide) (by decide)
  have hJ0 : JC0 τ := fun a ha i j hi hj e => by
    rcases ha with rfl | rfl | rfl
    · have e1 : gR τ 36 i = 37 + i := j36 i hi
      have e2 : gR τ 36 j = 37 + j := j36 j hj
      omega
    · have e1 : gR τ 69 i = 70 + i := j69 i hi
      have e2 : gR τ 69 j = 70 + j := j69 j hj
      omega
    · have e1 : gR τ 108 i = 109 + i := j108 i hi
      have e2 : gR τ 108 j = 109 + j := j108 j hj
      omega
  have hJ : JC τ := ⟨hJ0, fun a j ha => by
    have e : gI τ a j = 0 := by
      refine (hI a j (show 16 ≤ a by omega) (by omega)).trans (vlW_1 _ a j ?_ (by omega))
      decide
    rw [e]; omega⟩
  clear h j36 j69 j108
  refine CC.grows (S_begin hL hL.isc (fun τ1 hL1 hF1 q6 q7 hg1 => ?_))
  have o16 : ∀ {a b : Nat} {τ : Sg}, Lay LC g a b τ → okO τ 16 11 := fun hL => okO_of (N := 17) (hL.1 (16, 17, 12, 17) (by decide) 16 (by decide) (by decide)) (by decide)
  refine ⟨o16 hL1, ?_⟩
  rw [hL1.cl.1]
  have hT1 : CloT τ1 158 2 [] := CloT.nil (by decide) q6 q7
  have hc0 : clos 2 [] = some (.inr [oneL]) := rfl
  refine ⟨okO_of (N := 12) (hL1.1 (158, 159, 2, 12) (by decide) 158 (by decide) (by decide)) (by decide), CC.grows (S_close hL1 hL1.isc hT1 hc0 (fun τ6 hL6 hO6 hE6 hTb hOr hone h9 hg6 _ => ?_))⟩
  have r3 : gR τ6 16 3 = 24 := hL6.2.1 (16, 3, 24) (by decide)
  rw [r3, hL6.cl.1]
  have htd : tolds 2 [] := ⟨by decide, fun u hu => absurd hu (by simp)⟩
  have hCl := clos_Clo htd.2 hc0
  refine ⟨o16 hL6, okO_of (N := 12) (hL6.1 (24, 25, 5, 12) (by decide) 24 (by decide) (by decide)) (by decide), ?_⟩
  refine CC.grows (S_build hL6 hL6.isc hCl htd.1 (hCl.odB (.inl rfl)) hE6 hTb hOr (fun τ7 hL7 hF7 hG7 hg7 => ?_))
  have hF6 := hO6.toFr
  have hFa : Fr (fun b k => (158 ≤ b ∧ b ≤ 164) ∨ (24 ≤ b ∧ b ≤ 30)) (fun _ => False) τ τ7 := ((hF1.mono (fun b k h9 => by omega) (fun _ h => h)).trans (hF6.mono (fun b k h9 => by omega) (fun _ h => h))).trans (hF7.mono (fun b k h9 => by omega) (fun _ h => h))
  have e7 : ∀ a j, 16 ≤ a → a < 158 → ¬ (24 ≤ a ∧ a ≤ 30) → gI τ7 a j = gI τ a j := fun a j h1 h2 h3 => hFa.i (by omega) (by omega)
  have d1 : dC mX1_begin = 0 := rfl
  have d2 : dC mX1_close = 0 := rfl
  have d3 : dC mX4_build = 0 := rfl
  rw [d1] at hg1
  rw [d2] at hg6
  rw [d3] at hg7
  refine hq τ7 ⟨hL7, ?_, ?_, hG7, ⟨?_, by decide, fun i hi => absurd hi (by simp)⟩, ⟨?_, by decide, fun i hi => absurd hi (by simp)⟩, ?_, fun i hi => ?_, fun i hi => ?_, ⟨hJ.fr hFa ⟨id, id, id⟩ (fun a j h9 => by omega), .inl ?_⟩, .inl ?_⟩ (by omega)
  · exact (hT1.on hO6).fr hF7 hL6.isc ⟨fun j => by omega, by omega, by omega⟩
  · exact hE6.fr hF7 hL6.isc ⟨fun j => by omega, by omega⟩
  · exact (e7 21 2 (by decide) (by decide) (by decide)).trans ((hI 21 2 (by decide) (by decide)).trans rfl)
  · exact (e7 17 1 (by decide) (by decide) (by decide)).trans ((hI 17 1 (by decide) (by decide)).trans rfl)
  · exact (e7 16 16 (by decide) (by decide) (by decide)).trans ((hI 16 16 (by decide) (by decide)).trans rfl)
  · refine (e7 156 i (by decide) (by decide) (by decide)).trans ((hI 156 i (by decide) (by decide)).trans ?_)
    have : i = 0 ∨ i = 1 ∨ i = 2 ∨ i = 3 := by omega
    rcases this with rfl | rfl | rfl | rfl <;> rfl
  · refine (e7 157 i (by decide) (by decide) (by decide)).trans ((hI 157 i (by decide) (by decide)).trans ?_)
    have : i = 0 ∨ i = 1 ∨ i = 2 := by omega
    rcases this with rfl | rfl | rfl <;> rfl
  · exact (e7 16 14 (by decide) (by decide) (by decide)).trans ((hI 16 14 (by decide) (by decide)).trans rfl)
  · exact (e7 16 15 (by decide) (by decide) (by decide)).trans ((hI 16 15 (by decide) (by decide)).trans rfl)
end S9m
