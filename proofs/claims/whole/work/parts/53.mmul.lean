/-! ===== the reference's multiplies ===== -/
def lfN (e : Nat) : Nat := (xLf.getD e 0).toNat
def rtN (e : Nat) : Nat := (xRt.getD e 0).toNat
theorem lf_q : ∀ e, e < 16 → xLf.getD e 0 = ((lfN e : Nat) : Int) ∧ lfN e < 4 ∧ xRt.getD e 0 = ((rtN e : Nat) : Int) ∧ rtN e < 4 ∧ (xSn.getD e 0).natAbs ≤ 1 := by decide
def msW (D : Int) (X Y : Nat → Int) (c : Nat) : Nat → Int
  | 0 => 0
  | i + 1 => msW D X Y c i + xSn.getD (4 * c + i) 0 * (X (2 * lfN (4 * c + i)) * Y (2 * rtN (4 * c + i)) + D * X (2 * lfN (4 * c + i) + 1) * Y (2 * rtN (4 * c + i) + 1))
def msP (X Y : Nat → Int) (c : Nat) : Nat → Int
  | 0 => 0
  | i + 1 => msP X Y c i + xSn.getD (4 * c + i) 0 * (X (2 * lfN (4 * c + i)) * Y (2 * rtN (4 * c + i) + 1) + X (2 * lfN (4 * c + i) + 1) * Y (2 * rtN (4 * c + i)))
theorem msW4 (D : Int) (X Y : Nat → Int) : ∀ c, c < 4 → msW D X Y c 4 = pw D X Y c := by
  intro c hc
  have : c = 0 ∨ c = 1 ∨ c = 2 ∨ c = 3 := by omega
  rcases this with rfl | rfl | rfl | rfl <;> simp [msW, pw, qw, xSn, xLf, xRt, lfN, rtN] <;> grind
theorem msP4 (X Y : Nat → Int) : ∀ c, c < 4 → msP X Y c 4 = pp X Y c := by
  intro c hc
  have : c = 0 ∨ c = 1 ∨ c = 2 ∨ c = 3 := by omega
  rcases this with rfl | rfl | rfl | rfl <;> simp [msP, pp, qp, xSn, xLf, xRt, lfN, rtN] <;> grind
theorem msW_ab {D : Int} {X Y : Nat → Int} (hD : D.natAbs ≤ 5) (hX : ∀ j, j < 8 → (X j).natAbs ≤ 4) (hY : ∀ j, j < 8 → (Y j).natAbs ≤ 4) {c : Nat} (hc : c < 4) : ∀ i, i ≤ 4 → (msW D X Y c i).natAbs ≤ 96 * i := by
  intro i
  induction i with
  | zero => intro _; simp [msW]
  | succ i ih =>
    intro hi
    have h1 := ih (by omega)
    obtain ⟨-, q1, -, q2, q3⟩ := lf_q (4 * c + i) (by omega)
    have a1 := m4 (hX (2 * lfN (4 * c + i)) (by omega)) (hY (2 * rtN (4 * c + i)) (by omega))
    have a2 := m4 (m4 hD (hX (2 * lfN (4 * c + i) + 1) (by omega))) (hY (2 * rtN (4 * c + i) + 1) (by omega))
    have a3 : (X (2 * lfN (4 * c + i)) * Y (2 * rtN (4 * c + i)) + D * X (2 * lfN (4 * c + i) + 1) * Y (2 * rtN (4 * c + i) + 1)).natAbs ≤ 96 := by omega
    have a4 := m4 q3 a3
    show (msW D X Y c i + _ * _).natAbs ≤ _
    omega
theorem msP_ab {X Y : Nat → Int} (hX : ∀ j, j < 8 → (X j).natAbs ≤ 4) (hY : ∀ j, j < 8 → (Y j).natAbs ≤ 4) {c : Nat} (hc : c < 4) : ∀ i, i ≤ 4 → (msP X Y c i).natAbs ≤ 32 * i := by
  intro i
  induction i with
  | zero => intro _; simp [msP]
  | succ i ih =>
    intro hi
    have h1 := ih (by omega)
    obtain ⟨-, q1, -, q2, q3⟩ := lf_q (4 * c + i) (by omega)
    have a1 := m4 (hX (2 * lfN (4 * c + i)) (by omega)) (hY (2 * rtN (4 * c + i) + 1) (by omega))
    have a2 := m4 (hX (2 * lfN (4 * c + i) + 1) (by omega)) (hY (2 * rtN (4 * c + i)) (by omega))
    have a3 : (X (2 * lfN (4 * c + i)) * Y (2 * rtN (4 * c + i) + 1) + X (2 * lfN (4 * c + i) + 1) * Y (2 * rtN (4 * c + i))).natAbs ≤ 32 := by omega
    have a4 := m4 q3 a3
    show (msP X Y c i + _ * _).natAbs ≤ _
    omega
section S11
variable {E : Ev} {σ : Sg} {Q : NO → Sg → Prop} {g : Sg} {c t : Nat}
theorem mmul_in {a b xa ya n m cc : Nat} {D : Int} {X Y : Nat → Int} (hL : Lay LM g c t σ) (pa : PA LM a n) (pb : PA LM b m) (hn : xa + 8 ≤ n ∧ n ≤ 65536) (hm : ya + 8 ≤ m ∧ m ≤ 65536) (hc : cc < 4) (hD5 : D.natAbs ≤ 5)
    (hX : ∀ j, j < 8 → gI σ a (xa + j) = X j) (hY : ∀ j, j < 8 → gI σ b (ya + j) = Y j) (bX : ∀ j, j < 8 → (X j).natAbs ≤ 4) (bY : ∀ j, j < 8 → (Y j).natAbs ≤ 4)
    (K : GG E mX12_multiplies 21 [some (vr 172), some (vr a), some (vi xa), some (vr b), some (vi ya), some (vi D), some (vi cc), some (vi (msW D X Y cc 4)), some (vi (msP X Y cc 4)), some (vi (4 * cc + 4)), none, none, none, none] [] σ 0 0 Q) :
    ∀ d i : Nat, i + d = 4 → GG E mX12_multiplies 21 [some (vr 172), some (vr a), some (vi xa), some (vr b), some (vi ya), some (vi D), some (vi cc), some (vi (msW D X Y cc i)), some (vi (msP X Y cc i)), some (vi (4 * cc + i)), none, none, none, none] [] σ 0 0 Q := by
  intro d
  induction d with
  | zero =>
    intro i hi
    have : i = 4 := by omega
    subst this
    exact K
  | succ d ih =>
    intro i hi
    obtain ⟨q1, q2, q3, q4, s1⟩ := lf_q (4 * cc + i) (by omega)
    have e0 : ((4 * (cc : Int)) + (i : Int)).toNat = 4 * cc + i := by omega
    have f1 : gI σ 2 (4 * cc + i) = (lfN (4 * cc + i) : Int) := (hL.xt.2.1.2 _ (by omega)).trans q1
    have f2 : gI σ 3 (4 * cc + i) = (rtN (4 * cc + i) : Int) := (hL.xt.2.2.1.2 _ (by omega)).trans q3
    have f3 : gI σ 4 (4 * cc + i) = xSn.getD (4 * cc + i) 0 := hL.xt.2.2.2.1.2 _ (by omega)
    generalize hlf : lfN (4 * cc + i) = lf at *
    generalize hrt : rtN (4 * cc + i) = rt at *
    generalize hsn : xSn.getD (4 * cc + i) 0 = sn at *
    have e1 : ((xa : Int) + 2 * (lf : Int)).toNat = xa + 2 * lf := by omega
    have e2 : ((xa : Int) + 2 * (lf : Int) + 1).toNat = xa + (2 * lf + 1) := by omega
    have e3 : ((ya : Int) + 2 * (rt : Int)).toNat = ya + 2 * rt := by omega
    have e4 : ((ya : Int) + 2 * (rt : Int) + 1).toNat = ya + (2 * rt + 1) := by omega
    have x1 := hX (2 * lf) (by omega)
    have x2 := hX (2 * lf + 1) (by omega)
    have y1 := hY (2 * rt) (by omega)
    have y2 := hY (2 * rt + 1) (by omega)
    have g1 := bX (2 * lf) (by omega)
    have g2 := bX (2 * lf + 1) (by omega)
    have g3 := bY (2 * rt) (by omega)
    have g4 := bY (2 * rt + 1) (by omega)
    have a1 := m4 g1 g3
    have a2 := m4 hD5 g2
    have a3 := m4 a2 g4
    have a4 := m4 g1 g4
    have a5 := m4 g2 g3
    have b1 : (X (2 * lf) * Y (2 * rt) + D * X (2 * lf + 1) * Y (2 * rt + 1)).natAbs ≤ 96 := by omega
    have b2 : (X (2 * lf) * Y (2 * rt + 1) + X (2 * lf + 1) * Y (2 * rt)).natAbs ≤ 32 := by omega
    have b3 := m4 s1 b1
    have b4 := m4 s1 b2
    have p1 := msW_ab hD5 bX bY hc i (by omega)
    have p2 := msP_ab bX bY hc i (by omega)
    refine B_X12_multiplies_21 hL pa pb ⟨⟨by omega, by omega⟩, ⟨by omega, by omega⟩, fun h => absurd h (by omega), fun _ => ?_⟩
    simp only [e0, f1, f2, f3, e1, e2, e3, e4, x1, x2, y1, y2]
    refine ⟨⟨by omega, by omega⟩, ⟨by omega, by omega⟩, ⟨by omega, by omega⟩, ⟨by omega, by omega⟩, ⟨by omega, by omega⟩, ⟨by omega, by omega⟩, ⟨by omega, by omega⟩, ⟨by omega, by omega⟩, ⟨by omega, by omega⟩, ⟨by omega, by omega⟩, ⟨by omega, by omega⟩, ⟨by omega, by omega⟩, fun v24 h24 => ⟨⟨by omega, by omega⟩, fun v26 h26 => ?_⟩⟩
    subst h24 h26
    refine ⟨⟨by omega, by omega⟩, fun v28 h28 => ?_⟩
    subst h28
    refine ⟨⟨by omega, by omega⟩, ⟨by omega, by omega⟩, ⟨by omega, by omega⟩, ⟨by omega, by omega⟩, fun v33 h33 => ⟨⟨by omega, by omega⟩, fun v35 h35 => ?_⟩⟩
    subst h33 h35
    refine ⟨⟨by omega, by omega⟩, ⟨by omega, by omega⟩, ⟨by omega, by omega⟩, ⟨by omega, by omega⟩, fun _ => ?_⟩
    have k := ih (i + 1) (by omega)
    simp only [msW, msP, hlf, hrt, hsn] at k
    rw [show (4 * (cc : Int)) + (i : Int) + 1 = 4 * (cc : Int) + ((i + 1 : Nat) : Int) by omega]
    exact k
end S11
