/-! ===== axes: what is parallel ===== -/
def prl (D : Int) (x y : Nat → Int) : Prop := ∀ i j, 1 ≤ j → j < i → i < 4 → qw D x y i j = qw D x y j i ∧ qp x y i j = qp x y j i
theorem qw_sw (D : Int) (x y : Nat → Int) (i j : Nat) : qw D x y i j = qw D y x j i := by unfold qw; grind
theorem qp_sw (x y : Nat → Int) (i j : Nat) : qp x y i j = qp y x j i := by unfold qp; grind
theorem prl_all {D : Int} {x y : Nat → Int} (h : prl D x y) (i j : Nat) (hi : 1 ≤ i ∧ i < 4) (hj : 1 ≤ j ∧ j < 4) : qw D x y i j = qw D x y j i ∧ qp x y i j = qp x y j i := by
  by_cases h1 : j < i
  · exact h i j hj.1 h1 hi.2
  · by_cases h2 : i < j
    · have := h j i hi.1 h2 hj.2
      exact ⟨this.1.symm, this.2.symm⟩
    · have : i = j := by omega
      subst this
      exact ⟨rfl, rfl⟩
theorem prl_sy {D : Int} {x y : Nat → Int} (h : prl D x y) : prl D y x := fun i j h1 h2 h3 => by
  have := h i j h1 h2 h3
  rw [qw_sw D y x i j, qw_sw D y x j i, qp_sw y x i j, qp_sw y x j i]
  exact ⟨this.1.symm, this.2.symm⟩
theorem prl_rf (D : Int) (x : Nat → Int) : prl D x x := fun i j _ _ _ => ⟨qw_sw D x x i j, qp_sw x x i j⟩
theorem prl_pw {D : Int} {x y : Nat → Int} : prl D x y ↔ ∀ q, q < 4 → pw D x y q = pw D y x q ∧ pp x y q = pp y x q := by
  have s := fun i j => qw_sw D y x i j
  have p := fun i j => qp_sw y x i j
  constructor
  · intro h q hq
    have a1 := h 2 1 (by omega) (by omega) (by omega)
    have a2 := h 3 1 (by omega) (by omega) (by omega)
    have a3 := h 3 2 (by omega) (by omega) (by omega)
    have hq4 : q = 0 ∨ q = 1 ∨ q = 2 ∨ q = 3 := by omega
    rcases hq4 with rfl | rfl | rfl | rfl
    · show qw D x y 0 0 - qw D x y 1 1 - qw D x y 2 2 - qw D x y 3 3 = qw D y x 0 0 - qw D y x 1 1 - qw D y x 2 2 - qw D y x 3 3 ∧ qp x y 0 0 - qp x y 1 1 - qp x y 2 2 - qp x y 3 3 = qp y x 0 0 - qp y x 1 1 - qp y x 2 2 - qp y x 3 3
      rw [s 0 0, s 1 1, s 2 2, s 3 3, p 0 0, p 1 1, p 2 2, p 3 3]
      exact ⟨rfl, rfl⟩
    · show qw D x y 0 1 + qw D x y 1 0 + qw D x y 2 3 - qw D x y 3 2 = qw D y x 0 1 + qw D y x 1 0 + qw D y x 2 3 - qw D y x 3 2 ∧ qp x y 0 1 + qp x y 1 0 + qp x y 2 3 - qp x y 3 2 = qp y x 0 1 + qp y x 1 0 + qp y x 2 3 - qp y x 3 2
      rw [s 0 1, s 1 0, s 2 3, s 3 2, p 0 1, p 1 0, p 2 3, p 3 2]
      omega
    · show qw D x y 0 2 - qw D x y 1 3 + qw D x y 2 0 + qw D x y 3 1 = qw D y x 0 2 - qw D y x 1 3 + qw D y x 2 0 + qw D y x 3 1 ∧ qp x y 0 2 - qp x y 1 3 + qp x y 2 0 + qp x y 3 1 = qp y x 0 2 - qp y x 1 3 + qp y x 2 0 + qp y x 3 1
      rw [s 0 2, s 1 3, s 2 0, s 3 1, p 0 2, p 1 3, p 2 0, p 3 1]
      omega
    · show qw D x y 0 3 + qw D x y 1 2 - qw D x y 2 1 + qw D x y 3 0 = qw D y x 0 3 + qw D y x 1 2 - qw D y x 2 1 + qw D y x 3 0 ∧ qp x y 0 3 + qp x y 1 2 - qp x y 2 1 + qp x y 3 0 = qp y x 0 3 + qp y x 1 2 - qp y x 2 1 + qp y x 3 0
      rw [s 0 3, s 1 2, s 2 1, s 3 0, p 0 3, p 1 2, p 2 1, p 3 0]
      omega
  · intro h i j h1 h2 h3
    have b1 : qw D x y 0 1 + qw D x y 1 0 + qw D x y 2 3 - qw D x y 3 2 = qw D y x 0 1 + qw D y x 1 0 + qw D y x 2 3 - qw D y x 3 2 ∧ qp x y 0 1 + qp x y 1 0 + qp x y 2 3 - qp x y 3 2 = qp y x 0 1 + qp y x 1 0 + qp y x 2 3 - qp y x 3 2 := h 1 (by omega)
    have b2 : qw D x y 0 2 - qw D x y 1 3 + qw D x y 2 0 + qw D x y 3 1 = qw D y x 0 2 - qw D y x 1 3 + qw D y x 2 0 + qw D y x 3 1 ∧ qp x y 0 2 - qp x y 1 3 + qp x y 2 0 + qp x y 3 1 = qp y x 0 2 - qp y x 1 3 + qp y x 2 0 + qp y x 3 1 := h 2 (by omega)
    have b3 : qw D x y 0 3 + qw D x y 1 2 - qw D x y 2 1 + qw D x y 3 0 = qw D y x 0 3 + qw D y x 1 2 - qw D y x 2 1 + qw D y x 3 0 ∧ qp x y 0 3 + qp x y 1 2 - qp x y 2 1 + qp x y 3 0 = qp y x 0 3 + qp y x 1 2 - qp y x 2 1 + qp y x 3 0 := h 3 (by omega)
    rw [s 0 1, s 1 0, s 2 3, s 3 2, p 0 1, p 1 0, p 2 3, p 3 2] at b1
    rw [s 0 2, s 1 3, s 2 0, s 3 1, p 0 2, p 1 3, p 2 0, p 3 1] at b2
    rw [s 0 3, s 1 2, s 2 1, s 3 0, p 0 3, p 1 2, p 2 1, p 3 0] at b3
    have hij : (i = 2 ∧ j = 1) ∨ (i = 3 ∧ j = 1) ∨ (i = 3 ∧ j = 2) := by omega
    rcases hij with ⟨rfl, rfl⟩ | ⟨rfl, rfl⟩ | ⟨rfl, rfl⟩
    · omega
    · omega
    · omega
theorem tri_W (D xi xI xj xJ yi yI yj yJ yk yK zi zI zj zJ zk zK : Int)
    (h1 : xi * yj + D * xI * yJ = xj * yi + D * xJ * yI) (h2 : xi * yJ + xI * yj = xj * yI + xJ * yi)
    (h3 : yk * zj + D * yK * zJ = yj * zk + D * yJ * zK) (h4 : yk * zJ + yK * zj = yj * zK + yJ * zk)
    (h5 : yk * zi + D * yK * zI = yi * zk + D * yI * zK) (h6 : yk * zI + yK * zi = yi * zK + yI * zk) :
    ((xi * zj + D * xI * zJ) - (xj * zi + D * xJ * zI)) * yk + D * ((xi * zJ + xI * zj) - (xj * zI + xJ * zi)) * yK = 0 ∧
    ((xi * zj + D * xI * zJ) - (xj * zi + D * xJ * zI)) * yK + ((xi * zJ + xI * zj) - (xj * zI + xJ * zi)) * yk = 0 := by
  have e1 : ((xi * zj + D * xI * zJ) - (xj * zi + D * xJ * zI)) * yk + D * ((xi * zJ + xI * zj) - (xj * zI + xJ * zi)) * yK = xi * (yk * zj + D * yK * zJ) + D * xI * (yk * zJ + yK * zj) - xj * (yk * zi + D * yK * zI) - D * xJ * (yk * zI + yK * zi) := by grind
  have e2 : ((xi * zj + D * xI * zJ) - (xj * zi + D * xJ * zI)) * yK + ((xi * zJ + xI * zj) - (xj * zI + xJ * zi)) * yk = xi * (yk * zJ + yK * zj) + xI * (yk * zj + D * yK * zJ) - xj * (yk * zI + yK * zi) - xJ * (yk * zi + D * yK * zI) := by grind
  rw [e1, e2, h3, h4, h5, h6]
  have f1 : xi * (yj * zk + D * yJ * zK) + D * xI * (yj * zK + yJ * zk) - xj * (yi * zk + D * yI * zK) - D * xJ * (yi * zK + yI * zk) = zk * ((xi * yj + D * xI * yJ) - (xj * yi + D * xJ * yI)) + D * zK * ((xi * yJ + xI * yj) - (xj * yI + xJ * yi)) := by grind
  have f2 : xi * (yj * zK + yJ * zk) + xI * (yj * zk + D * yJ * zK) - xj * (yi * zK + yI * zk) - xJ * (yi * zk + D * yI * zK) = zK * ((xi * yj + D * xI * yJ) - (xj * yi + D * xJ * yI)) + zk * ((xi * yJ + xI * yj) - (xj * yI + xJ * yi)) := by grind
  rw [f1, f2, h1, h2, Int.sub_self, Int.sub_self]
  simp only [Int.mul_zero, Int.add_zero, and_self]
theorem rt_no {D a b : Int} (hD : D = 2 ∨ D = 3 ∨ D = 5) (ha : -4 ≤ a ∧ a ≤ 4) (hb : -4 ≤ b ∧ b ≤ 4) (h : a * a - D * (b * b) = 0) : a = 0 ∧ b = 0 := by
  have h1 : ∀ a : Fin 9, ∀ b : Fin 9, ∀ D : Fin 3, (((a.val : Int) - 4) * ((a.val : Int) - 4) - ([2, 3, 5].getD D.val 0 : Int) * (((b.val : Int) - 4) * ((b.val : Int) - 4)) = 0) → a.val = 4 ∧ b.val = 4 := by decide +kernel
  have h2 := h1 ⟨(a + 4).toNat, by omega⟩ ⟨(b + 4).toNat, by omega⟩ (if D = 2 then 0 else if D = 3 then 1 else 2)
  have ea : (((a + 4).toNat : Nat) : Int) - 4 = a := by omega
  have eb : (((b + 4).toNat : Nat) : Int) - 4 = b := by omega
  dsimp only at h2
  rw [ea, eb] at h2
  have h3 := h2 (by
    rcases hD with rfl | rfl | rfl
    · exact h
    · exact h
    · exact h)
  omega
theorem prl_tr {D : Int} (hD : D = 2 ∨ D = 3 ∨ D = 5) {x y z : Nat → Int} (h1 : prl D x y) (h2 : prl D y z) (hb : ∀ j, j < 8 → -4 ≤ y j ∧ y j ≤ 4) (hy : ∃ j, 2 ≤ j ∧ j < 8 ∧ y j ≠ 0) : prl D x z := by
  obtain ⟨k0, k1, k2, k3⟩ := hy
  obtain ⟨k, hk1, hk4, hk⟩ : ∃ k, 1 ≤ k ∧ k < 4 ∧ ¬ (y (2 * k) = 0 ∧ y (2 * k + 1) = 0) := by
    refine ⟨k0 / 2, by omega, by omega, fun h9 => k3 ?_⟩
    have : k0 = 2 * (k0 / 2) ∨ k0 = 2 * (k0 / 2) + 1 := by omega
    rcases this with e | e
    · rw [e]; exact h9.1
    · rw [e]; exact h9.2
  intro i j j1 ji i4
  have a := prl_all h1 i j ⟨by omega, i4⟩ ⟨j1, by omega⟩
  have b := prl_all h2 k j ⟨hk1, hk4⟩ ⟨j1, by omega⟩
  have d := prl_all h2 k i ⟨hk1, hk4⟩ ⟨by omega, i4⟩
  have t := tri_W D (x (2 * i)) (x (2 * i + 1)) (x (2 * j)) (x (2 * j + 1)) (y (2 * i)) (y (2 * i + 1)) (y (2 * j)) (y (2 * j + 1)) (y (2 * k)) (y (2 * k + 1)) (z (2 * i)) (z (2 * i + 1)) (z (2 * j)) (z (2 * j + 1)) (z (2 * k)) (z (2 * k + 1)) a.1 a.2 b.1 b.2 d.1 d.2
  have y1 := hb (2 * k) (by omega)
  have y2 := hb (2 * k + 1) (by omega)
  have hnz : y (2 * k) * y (2 * k) - D * (y (2 * k + 1) * y (2 * k + 1)) ≠ 0 := fun h9 => hk (rt_no hD y1 y2 h9)
  have eP : qw D x z i j - qw D x z j i = (x (2 * i) * z (2 * j) + D * x (2 * i + 1) * z (2 * j + 1)) - (x (2 * j) * z (2 * i) + D * x (2 * j + 1) * z (2 * i + 1)) := rfl
  have eR : qp x z i j - qp x z j i = (x (2 * i) * z (2 * j + 1) + x (2 * i + 1) * z (2 * j)) - (x (2 * j) * z (2 * i + 1) + x (2 * j + 1) * z (2 * i)) := rfl
  rw [← eP, ← eR] at t
  obtain ⟨t1, t2⟩ := t
  have key : (qw D x z i j - qw D x z j i) * (y (2 * k) * y (2 * k) - D * (y (2 * k + 1) * y (2 * k + 1))) = 0 ∧ (qp x z i j - qp x z j i) * (y (2 * k) * y (2 * k) - D * (y (2 * k + 1) * y (2 * k + 1))) = 0 := by
    generalize qw D x z i j - qw D x z j i = P at *
    generalize qp x z i j - qp x z j i = R at *
    generalize y (2 * k) = u at *
    generalize y (2 * k + 1) = v at *
    have g1 : P * (u * u - D * (v * v)) = (P * u + D * R * v) * u - D * v * (P * v + R * u) := by grind
    have g2 : R * (u * u - D * (v * v)) = (P * v + R * u) * u - v * (P * u + D * R * v) := by grind
    rw [g1, g2, t1, t2]
    simp only [Int.mul_zero, Int.zero_mul, Int.sub_zero, and_self]
  have p0 : qw D x z i j - qw D x z j i = 0 := (Int.mul_eq_zero.mp key.1).resolve_right hnz
  have r0 := (Int.mul_eq_zero.mp key.2).resolve_right hnz
  omega
