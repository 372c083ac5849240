/-! ===== Closing.multiply ===== -/
theorem m4 {x y : Int} {a b : Nat} (hx : x.natAbs ≤ a) (hy : y.natAbs ≤ b) : (x * y).natAbs ≤ a * b := by
  rw [Int.natAbs_mul]; exact Nat.mul_le_mul hx hy
def sgc (c i : Nat) : Int := xSg.getD (4 * c + i) 0
theorem sgc_ab : ∀ j, j < 16 → (xSg.getD j 0).natAbs ≤ 1 := by decide
theorem xr_q : ∀ i : Nat, i < 4 → ∀ c : Nat, c < 4 → b_ixorq (i : Int) (c : Int) = ((i ^^^ c : Nat) : Int) ∧ i ^^^ c < 4 := by decide +kernel
def psW (D : Int) (X Y : Nat → Int) (c : Nat) : Nat → Int
  | 0 => 0
  | i + 1 => psW D X Y c i + sgc c i * (X (2 * i) * Y (2 * (i ^^^ c)) + D * X (2 * i + 1) * Y (2 * (i ^^^ c) + 1))
def psP (X Y : Nat → Int) (c : Nat) : Nat → Int
  | 0 => 0
  | i + 1 => psP X Y c i + sgc c i * (X (2 * i) * Y (2 * (i ^^^ c) + 1) + X (2 * i + 1) * Y (2 * (i ^^^ c)))
theorem psW4 (D : Int) (X Y : Nat → Int) : ∀ c, c < 4 → psW D X Y c 4 = pw D X Y c := by
  intro c hc
  have : c = 0 ∨ c = 1 ∨ c = 2 ∨ c = 3 := by omega
  rcases this with rfl | rfl | rfl | rfl <;> simp [psW, pw, qw, sgc, xSg] <;> grind
theorem psP4 (X Y : Nat → Int) : ∀ c, c < 4 → psP X Y c 4 = pp X Y c := by
  intro c hc
  have : c = 0 ∨ c = 1 ∨ c = 2 ∨ c = 3 := by omega
  rcases this with rfl | rfl | rfl | rfl <;> simp [psP, pp, qp, sgc, xSg] <;> grind
theorem psW_ab {D : Int} {X Y : Nat → Int} (hD : D.natAbs ≤ 5) (hX : ∀ j, j < 8 → (X j).natAbs ≤ 4) (hY : ∀ j, j < 8 → (Y j).natAbs ≤ 4) {c : Nat} (hc : c < 4) : ∀ i, i ≤ 4 → (psW D X Y c i).natAbs ≤ 96 * i := by
  intro i
  induction i with
  | zero => intro _; simp [psW]
  | succ i ih =>
    intro hi
    have h1 := ih (by omega)
    have hx := (xr_q i (by omega) c hc).2
    have a1 := m4 (hX (2 * i) (by omega)) (hY (2 * (i ^^^ c)) (by omega))
    have a2 := m4 (m4 hD (hX (2 * i + 1) (by omega))) (hY (2 * (i ^^^ c) + 1) (by omega))
    have a3 : (X (2 * i) * Y (2 * (i ^^^ c)) + D * X (2 * i + 1) * Y (2 * (i ^^^ c) + 1)).natAbs ≤ 96 := by omega
    have a4 := m4 (sgc_ab (4 * c + i) (by omega)) a3
    show (psW D X Y c i + sgc c i * _).natAbs ≤ _
    unfold sgc
    omega
theorem psP_ab {X Y : Nat → Int} (hX : ∀ j, j < 8 → (X j).natAbs ≤ 4) (hY : ∀ j, j < 8 → (Y j).natAbs ≤ 4) {c : Nat} (hc : c < 4) : ∀ i, i ≤ 4 → (psP X Y c i).natAbs ≤ 32 * i := by
  intro i
  induction i with
  | zero => intro _; simp [psP]
  | succ i ih =>
    intro hi
    have h1 := ih (by omega)
    have hx := (xr_q i (by omega) c hc).2
    have a1 := m4 (hX (2 * i) (by omega)) (hY (2 * (i ^^^ c) + 1) (by omega))
    have a2 := m4 (hX (2 * i + 1) (by omega)) (hY (2 * (i ^^^ c)) (by omega))
    have a3 : (X (2 * i) * Y (2 * (i ^^^ c) + 1) + X (2 * i + 1) * Y (2 * (i ^^^ c))).natAbs ≤ 32 := by omega
    have a4 := m4 (sgc_ab (4 * c + i) (by omega)) a3
    show (psP X Y c i + sgc c i * _).natAbs ≤ _
    unfold sgc
    omega
section S2
variable {E : Ev} {σ : Sg} {Q : NO → Sg → Prop} {g : Sg} {c t : Nat}
theorem mul_in {a k m cc : Nat} {D : Int} {X Y : Nat → Int} (hL : Lay LC g c t σ) (ha : isCl a) (hk : 8 * k + 8 ≤ 960) (hm : 8 * m + 8 ≤ 32) (hc : cc < 4) (hD : gI σ a 6 = D) (hD5 : D.natAbs ≤ 5)
    (hX : ∀ j, j < 8 → gI σ (a + 2) (8 * k + j) = X j) (hY : ∀ j, j < 8 → gI σ (a + 1) (8 * m + j) = Y j) (bX : ∀ j, j < 8 → (X j).natAbs ≤ 4) (bY : ∀ j, j < 8 → (Y j).natAbs ≤ 4)
    (K : GG E mX1_multiply 40 [some (vr a), some (vi (8 * k)), some (vi (8 * m)), some (vi cc), some (vi (psW D X Y cc 4)), some (vi (psP X Y cc 4)), some (vi 4), none, none, none, none, none] [] σ 0 0 Q) :
    ∀ d i : Nat, i + d = 4 → GG E mX1_multiply 40 [some (vr a), some (vi (8 * k)), some (vi (8 * m)), some (vi cc), some (vi (psW D X Y cc i)), some (vi (psP X Y cc i)), some (vi i), none, none, none, none, none] [] σ 0 0 Q := by
  intro d
  induction d with
  | zero =>
    intro i hi
    have : i = 4 := by omega
    subst this
    exact K
  | succ d ih =>
    intro i hi
    have hx := xr_q i (by omega) cc hc
    have e1 : ((8 * k : Int) + 2 * (i : Int)).toNat = 8 * k + 2 * i := by omega
    have e2 : ((8 * k : Int) + 2 * (i : Int) + 1).toNat = 8 * k + (2 * i + 1) := by omega
    have e3 : ((8 * m : Int) + 2 * ((i ^^^ cc : Nat) : Int)).toNat = 8 * m + 2 * (i ^^^ cc) := by omega
    have e4 : ((8 * m : Int) + 2 * ((i ^^^ cc : Nat) : Int) + 1).toNat = 8 * m + (2 * (i ^^^ cc) + 1) := by omega
    have e5 : ((4 * (cc : Int)) + (i : Int)).toNat = 4 * cc + i := by omega
    have f1 := hX (2 * i) (by omega)
    have f2 := hX (2 * i + 1) (by omega)
    have f3 := hY (2 * (i ^^^ cc)) (by omega)
    have f4 := hY (2 * (i ^^^ cc) + 1) (by omega)
    have f5 : gI σ 1 (4 * cc + i) = sgc cc i := hL.xt.1.2 _ (by omega)
    have g1 := bX (2 * i) (by omega)
    have g2 := bX (2 * i + 1) (by omega)
    have g3 := bY (2 * (i ^^^ cc)) (by omega)
    have g4 := bY (2 * (i ^^^ cc) + 1) (by omega)
    have a1 := m4 g1 g3
    have a2 := m4 hD5 g2
    have a3 := m4 a2 g4
    have a4 := m4 g1 g4
    have a5 := m4 g2 g3
    have s1 : (sgc cc i).natAbs ≤ 1 := sgc_ab (4 * cc + i) (by omega)
    have b1 : (X (2 * i) * Y (2 * (i ^^^ cc)) + D * X (2 * i + 1) * Y (2 * (i ^^^ cc) + 1)).natAbs ≤ 96 := by omega
    have b2 : (X (2 * i) * Y (2 * (i ^^^ cc) + 1) + X (2 * i + 1) * Y (2 * (i ^^^ cc))).natAbs ≤ 32 := by omega
    have b3 := m4 s1 b1
    have b4 := m4 s1 b2
    have p1 := psW_ab hD5 bX bY hc i (by omega)
    have p2 := psP_ab bX bY hc i (by omega)
    refine B_X1_multiply_40 hL ha ⟨fun h => absurd h (by omega), fun _ => ?_⟩
    rw [hx.1]
    simp only [e1, e2, e3, e4, e5, f1, f2, f3, f4, f5, hD]
    refine ⟨⟨by omega, by omega⟩, ⟨by omega, by omega⟩, ⟨by omega, by omega⟩, ⟨by omega, by omega⟩, ⟨by omega, by omega⟩, ⟨by omega, by omega⟩, ⟨by omega, by omega⟩, ⟨by omega, by omega⟩, ⟨by omega, by omega⟩, ⟨by omega, by omega⟩, ⟨by omega, by omega⟩, ⟨by omega, by omega⟩, ⟨by omega, by omega⟩, ⟨by omega, by omega⟩, fun v24 h24 => ⟨⟨by omega, by omega⟩, fun v26 h26 => ?_⟩⟩
    subst h24 h26
    refine ⟨⟨by omega, by omega⟩, fun v28 h28 => ?_⟩
    subst h28
    refine ⟨⟨by omega, by omega⟩, ⟨by omega, by omega⟩, ⟨by omega, by omega⟩, fun v32 h32 => ⟨⟨by omega, by omega⟩, fun v34 h34 => ⟨⟨by omega, by omega⟩, fun v36 h36 => ?_⟩⟩⟩
    subst h34 h36
    refine ⟨⟨by omega, by omega⟩, ⟨by omega, by omega⟩, ⟨by omega, by omega⟩, fun v40 h40 => ⟨⟨by omega, by omega⟩, fun _ => ?_⟩⟩
    subst h32 h40
    exact ih (i + 1) (by omega)
end S2
