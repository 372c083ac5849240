/-! ===== axes: both ways to count ===== -/
def stl (els : List (List Int)) (k : Nat) : Prop := k = 0 ∨ (k : Int) = fnd els (wholeL (-4))
def prE (D : Int) (els : List (List Int)) (k l : Nat) : Prop := prl D (gd (els.getD k [])) (gd (els.getD l []))
noncomputable def hv (els : List (List Int)) : Nat := if fnd els (wholeL (-4)) = -1 then 1 else 2
theorem fnd_iff {els : List (List Int)} (hn : els.Nodup) {v : List Int} {k : Nat} (hk : k < els.length) : (k : Int) = fnd els v ↔ els.getD k [] = v := by
  constructor
  · intro h
    unfold fnd at h
    by_cases hv : v ∈ els
    · obtain ⟨j, hj, e⟩ := mem_getD.mp hv
      rw [if_pos hv, ← e, idx_getD hn hj] at h
      have : k = j := by omega
      rw [this]; exact e
    · rw [if_neg hv] at h; omega
  · intro h
    rw [← h, fnd_of hn hk]
theorem fnd_rg (els : List (List Int)) (v : List Int) : fnd els v = -1 ∨ ∃ k : Nat, fnd els v = (k : Int) ∧ k < els.length := by
  unfold fnd
  by_cases hv : v ∈ els
  · obtain ⟨j, hj, e⟩ := mem_getD.mp hv
    rw [if_pos hv]
    exact .inr ⟨_, rfl, List.idxOf_lt_length_of_mem hv⟩
  · rw [if_neg hv]; exact .inl rfl
section S9b
variable {D : Int} {told els : List (List Int)}
theorem els_inj {els : List (List Int)} (hn : els.Nodup) {k l : Nat} (hk : k < els.length) (hl : l < els.length) (h : els.getD k [] = els.getD l []) : k = l := by
  have a := idx_getD hn hk
  rw [h, idx_getD hn hl] at a
  exact a.symm
/-- still ones: no part of an axis -/
theorem stl_iff (hC : Clo D told els) (hD : D = 2 ∨ D = 3 ∨ D = 5) {k : Nat} (hk : k < els.length) : stl els k ↔ ∀ j, 2 ≤ j → j < 8 → gd (els.getD k []) j = 0 := by
  have hT := hC.2.2.2.2.1 k hk
  have hb := hT.2.bd (by omega)
  have hn := hC.2.2.2.1
  constructor
  · rintro (h | h) j h1 h2
    · rw [h, hC.2.2.1]
      have : j = 2 ∨ j = 3 ∨ j = 4 ∨ j = 5 ∨ j = 6 ∨ j = 7 := by omega
      rcases this with rfl | rfl | rfl | rfl | rfl | rfl <;> rfl
    · rw [(fnd_iff hn hk).mp h, gd_whole, if_neg (by omega)]
  · intro h
    have hw := hT.2.1
    have hp := hT.2.2
    unfold nW ew ep at hw
    unfold nP ew ep at hp
    simp only [Nat.mul_zero, Nat.mul_one, Nat.zero_add, Nat.reduceMul, Nat.reduceAdd] at hw hp
    rw [h 2 (by omega) (by omega), h 3 (by omega) (by omega), h 4 (by omega) (by omega), h 5 (by omega) (by omega), h 6 (by omega) (by omega), h 7 (by omega) (by omega)] at hw hp
    simp only [Int.mul_zero, Int.add_zero] at hw hp
    have b0 := hb 0 (by omega)
    have b1 := hb 1 (by omega)
    have f : ∀ a : Fin 9, ∀ b : Fin 9, ∀ D : Fin 3, (((a.val : Int) - 4) * ((a.val : Int) - 4) + ([2, 3, 5].getD D.val 0 : Int) * (((b.val : Int) - 4) * ((b.val : Int) - 4)) = 16) → ((a.val : Int) - 4) * ((b.val : Int) - 4) = 0 → (a.val = 0 ∨ a.val = 8) ∧ b.val = 4 := by decide +kernel
    have f2 := f ⟨(gd (els.getD k []) 0 + 4).toNat, by omega⟩ ⟨(gd (els.getD k []) 1 + 4).toNat, by omega⟩ (if D = 2 then 0 else if D = 3 then 1 else 2)
    dsimp only at f2
    rw [show (((gd (els.getD k []) 0 + 4).toNat : Nat) : Int) - 4 = gd (els.getD k []) 0 by omega, show (((gd (els.getD k []) 1 + 4).toNat : Nat) : Int) - 4 = gd (els.getD k []) 1 by omega] at f2
    have f3 := f2 (by
      rcases hD with rfl | rfl | rfl
      · exact hw
      · exact hw
      · exact hw) hp
    have e1 : gd (els.getD k []) 1 = 0 := by omega
    have ext : ∀ w : Int, gd (els.getD k []) 0 = w → els.getD k [] = wholeL w := fun w e => by
      refine gd_ext hT.1 rfl (fun j hj => ?_)
      rw [gd_whole]
      by_cases hj0 : j = 0
      · rw [hj0, if_pos rfl, e]
      · rw [if_neg hj0]
        by_cases hj1 : j = 1
        · rw [hj1, e1]
        · exact h j (by omega) hj
    by_cases h4 : gd (els.getD k []) 0 = 4
    · exact .inl (els_inj hn hk hC.2.1 (by rw [ext 4 h4, hC.2.2.1]; rfl))
    · exact .inr ((fnd_iff hn hk).mpr (ext (-4) (by omega)))
theorem prE_iff (hC : Clo D told els) {k l : Nat} (hk : k < els.length) (hl : l < els.length) : prE D els k l ↔ gmt D els k l = gmt D els l k := by
  obtain ⟨m1, e1⟩ := hC.gm hk hl
  obtain ⟨m2, e2⟩ := hC.gm hl hk
  have a1 := (mulL_some e1).2
  have a2 := (mulL_some e2).2
  constructor
  · intro h
    refine els_inj hC.2.2.2.1 m1 m2 (gd_ext (mulL_some e1).1 (mulL_some e2).1 (fun j hj => ?_))
    have q1 := a1 (j / 2) (by omega)
    have q2 := a2 (j / 2) (by omega)
    have q3 := prl_pw.mp h (j / 2) (by omega)
    have : j = 2 * (j / 2) ∨ j = 2 * (j / 2) + 1 := by omega
    rcases this with e | e
    · rw [e]; omega
    · rw [e]; omega
  · intro h
    refine prl_pw.mpr (fun q hq => ?_)
    have q1 := a1 q hq
    have q2 := a2 q hq
    rw [h] at q1
    omega
theorem prE_still (hC : Clo D told els) (hD : D = 2 ∨ D = 3 ∨ D = 5) {k l : Nat} (hl : l < els.length) (h : stl els l) : prE D els k l := by
  have z := (stl_iff hC hD hl).mp h
  intro i j h1 h2 h3
  unfold qw qp
  rw [z (2 * i) (by omega) (by omega), z (2 * i + 1) (by omega) (by omega), z (2 * j) (by omega) (by omega), z (2 * j + 1) (by omega) (by omega)]
  simp only [Int.mul_zero, and_self]
theorem prE_tr (hC : Clo D told els) (hD : D = 2 ∨ D = 3 ∨ D = 5) {a b x : Nat} (hb : b < els.length) (hs : ¬ stl els b) (h1 : prE D els a b) (h2 : prE D els b x) : prE D els a x := by
  refine prl_tr hD h1 h2 ((hC.2.2.2.2.1 b hb).2.bd (by omega)) ?_
  apply Classical.byContradiction
  intro h9
  refine hs ((stl_iff hC hD hb).mpr (fun j q1 q2 => ?_))
  apply Classical.byContradiction
  intro h8
  exact h9 ⟨j, q1, q2, h8⟩
/-- about an axis: the others parallel to k -/
noncomputable def abt (D : Int) (els : List (List Int)) (k : Nat) : Nat := cn (fun l => ¬ stl els l ∧ prE D els k l) els.length
theorem cn_stl (hC : Clo D told els) : cn (stl els) els.length = hv els := by
  have h0 := hC.2.1
  rcases fnd_rg els (wholeL (-4)) with h | ⟨k, h, hk⟩
  · unfold hv
    rw [if_pos h]
    refine cn_one _ 0 h0 (.inl rfl) (fun j hj h9 => ?_)
    rcases h9 with h9 | h9
    · exact h9
    · rw [h] at h9; omega
  · unfold hv
    rw [if_neg (by omega)]
    have hk0 : k ≠ 0 := fun h9 => by
      have := (fnd_iff hC.2.2.2.1 hk).mp h.symm
      rw [h9, hC.2.2.1] at this
      exact absurd this (by decide)
    have e : cn (stl els) els.length = cn (fun j => j = 0 ∨ j = k) els.length := cn_ext _ (fun j hj => by unfold stl; rw [h]; omega)
    rw [e, cn_or _ (fun j hj h9 => by omega), cn_one (P := fun j => j = 0) _ 0 h0 rfl (fun j hj h9 => h9), cn_one (P := fun j => j = k) _ k hk rfl (fun j hj h9 => h9)]
theorem cn_Z (hC : Clo D told els) (hD : D = 2 ∨ D = 3 ∨ D = 5) {k : Nat} (hk : k < els.length) : cn (Zc els.length (gmt D els) k) els.length = abt D els k + hv els := by
  have e : cn (Zc els.length (gmt D els) k) els.length = cn (fun l => (¬ stl els l ∧ prE D els k l) ∨ stl els l) els.length := cn_ext _ (fun l hl => by
    rw [Zc_iff hC.isG hk hl, ← prE_iff hC hk hl]
    by_cases h : stl els l
    · exact ⟨fun _ => .inr h, fun _ => prE_still hC hD hl h⟩
    · exact ⟨fun h9 => .inl ⟨h, h9⟩, fun h9 => h9.elim (fun h8 => h8.2) (fun h8 => absurd h8 h)⟩)
  rw [e, cn_or _ (fun l hl h9 => h9.1.1 h9.2), cn_stl hC]
  rfl
/-- minus one commutes, and turns none into itself -/
theorem mn_mul (hC : Clo D told els) {x k : Nat} (hx : x < els.length) (e : els.getD x [] = wholeL (-4)) (hk : k < els.length) : ∀ j, j < 8 → gd (els.getD (gmt D els x k) []) j = - gd (els.getD k []) j ∧ gd (els.getD (gmt D els k x) []) j = - gd (els.getD k []) j := by
  obtain ⟨m1, e1⟩ := hC.gm hx hk
  obtain ⟨m2, e2⟩ := hC.gm hk hx
  have a1 := (mulL_some e1).2
  have a2 := (mulL_some e2).2
  rw [e] at a1 a2
  have g : ∀ j, gd (wholeL (-4)) j = if j = 0 then -4 else 0 := gd_whole (-4)
  intro j hj
  have q1 := a1 (j / 2) (by omega)
  have q2 := a2 (j / 2) (by omega)
  have hw : ∀ q, q < 4 → pw D (gd (wholeL (-4))) (gd (els.getD k [])) q = -4 * gd (els.getD k []) (2 * q) ∧ pp (gd (wholeL (-4))) (gd (els.getD k [])) q = -4 * gd (els.getD k []) (2 * q + 1) ∧ pw D (gd (els.getD k [])) (gd (wholeL (-4))) q = -4 * gd (els.getD k []) (2 * q) ∧ pp (gd (els.getD k [])) (gd (wholeL (-4))) q = -4 * gd (els.getD k []) (2 * q + 1) := by
    intro q hq
    have hq4 : q = 0 ∨ q = 1 ∨ q = 2 ∨ q = 3 := by omega
    generalize gd (els.getD k []) = y
    rcases hq4 with rfl | rfl | rfl | rfl
    all_goals
      refine ⟨?_, ?_, ?_, ?_⟩ <;> simp [pw, pp, qw, qp, g] <;> omega
  have w := hw (j / 2) (by omega)
  have : j = 2 * (j / 2) ∨ j = 2 * (j / 2) + 1 := by omega
  rcases this with e | e
  · rw [e]; omega
  · rw [e]; omega
end S9b
