/-! ===== Closing.step ===== -/
/-- a list of eight numbers that is a turn -/
def isTL (D : Int) (l : List Int) : Prop := l.length = 8 ∧ isT D (gd l)
/-- what is told and found lies in the closing -/
def CloT (σ : Sg) (a : Nat) (D : Int) (told : List (List Int)) : Prop :=
  gI σ a 6 = D ∧ 2 ≤ D ∧ D ≤ 5 ∧ gI σ a 7 = (told.length : Int) ∧ told.length ≤ 4 ∧ (∀ u, u < told.length → isTL D (told.getD u []) ∧ ∀ j, j < 8 → gI σ (a + 1) (8 * u + j) = gd (told.getD u []) j)
def CloE (σ : Sg) (a : Nat) (D : Int) (els : List (List Int)) : Prop :=
  gI σ a 8 = (els.length : Int) ∧ els.length ≤ 120 ∧ (∀ k, k < els.length → isTL D (els.getD k []) ∧ ∀ j, j < 8 → gI σ (a + 2) (8 * k + j) = gd (els.getD k []) j)
theorem gd_ext {l m : List Int} (hl : l.length = 8) (hm : m.length = 8) (h : ∀ j, j < 8 → gd l j = gd m j) : l = m := by
  apply List.ext_getElem (by omega)
  intro i h1 h2
  have := h i (by omega)
  unfold gd at this
  rw [List.getD_eq_getElem?_getD, List.getD_eq_getElem?_getD, List.getElem?_eq_getElem h1, List.getElem?_eq_getElem h2] at this
  simpa using this
theorem mulL_some {D : Int} {x y v : List Int} (h : mulL D x y = some v) : v.length = 8 ∧ ∀ q, q < 4 → 4 * gd v (2 * q) = pw D (gd x) (gd y) q ∧ 4 * gd v (2 * q + 1) = pp (gd x) (gd y) q := by
  unfold mulL at h
  split at h
  · rename_i h1
    have h2 : ∀ q, q < 4 → (pw D (gd x) (gd y) q).tmod 4 = 0 ∧ (pp (gd x) (gd y) q).tmod 4 = 0 := fun q hq => by
      have := List.all_eq_true.mp h1 q (List.mem_range.mpr hq)
      simpa [Bool.and_eq_true] using this
    cases h
    refine ⟨rfl, fun q hq => ?_⟩
    have hq4 : q = 0 ∨ q = 1 ∨ q = 2 ∨ q = 3 := by omega
    have t0 := h2 0 (by omega)
    have t1 := h2 1 (by omega)
    have t2 := h2 2 (by omega)
    have t3 := h2 3 (by omega)
    rcases hq4 with rfl | rfl | rfl | rfl
    · exact ⟨td4 t0.1, td4 t0.2⟩
    · exact ⟨td4 t1.1, td4 t1.2⟩
    · exact ⟨td4 t2.1, td4 t2.2⟩
    · exact ⟨td4 t3.1, td4 t3.2⟩
  · cases h
theorem mulL_none {D : Int} {x y : List Int} (h : ∃ q, q < 4 ∧ ((pw D (gd x) (gd y) q).tmod 4 ≠ 0 ∨ (pp (gd x) (gd y) q).tmod 4 ≠ 0)) : mulL D x y = none := by
  obtain ⟨q, hq, h⟩ := h
  unfold mulL
  rw [if_neg]
  intro h1
  have := List.all_eq_true.mp h1 q (List.mem_range.mpr hq)
  simp only [Bool.and_eq_true, decide_eq_true_eq] at this
  rcases h with h | h
  · exact h this.1
  · exact h this.2
theorem mulL_some_of {D : Int} {x y : List Int} {z : Nat → Int} (h : ∀ q, q < 4 → 4 * z (2 * q) = pw D (gd x) (gd y) q ∧ 4 * z (2 * q + 1) = pp (gd x) (gd y) q) : ∃ v, mulL D x y = some v ∧ ∀ j, j < 8 → gd v j = z j := by
  have t : ∀ q, q < 4 → (pw D (gd x) (gd y) q).tmod 4 = 0 ∧ (pp (gd x) (gd y) q).tmod 4 = 0 := fun q hq => by
    rw [← (h q hq).1, ← (h q hq).2]
    exact ⟨Int.mul_tmod_right _ _, Int.mul_tmod_right _ _⟩
  have h1 : (List.range 4).all (fun q => decide ((pw D (gd x) (gd y) q).tmod 4 = 0) && decide ((pp (gd x) (gd y) q).tmod 4 = 0)) = true := by
    apply List.all_eq_true.mpr
    intro q hq
    have := t q (List.mem_range.mp hq)
    simp [this.1, this.2]
  obtain ⟨v, hv⟩ : ∃ v, mulL D x y = some v := by unfold mulL; rw [if_pos h1]; exact ⟨_, rfl⟩
  refine ⟨v, hv, fun j hj => ?_⟩
  obtain ⟨-, h3⟩ := mulL_some hv
  have hj2 : j = 2 * (j / 2) ∨ j = 2 * (j / 2) + 1 := by omega
  have a1 := h3 (j / 2) (by omega)
  have a2 := h (j / 2) (by omega)
  rcases hj2 with e | e
  · rw [e]; omega
  · rw [e]; omega
theorem mulL_isT {D : Int} {x y v : List Int} (hx : isTL D x) (hy : isTL D y) (h : mulL D x y = some v) : isTL D v :=
  ⟨(mulL_some h).1, isT.mul hx.2 hy.2 (fun q hq => ((mulL_some h).2 q hq).1) (fun q hq => ((mulL_some h).2 q hq).2)⟩
