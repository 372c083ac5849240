/-! ===== products: with the first one, in threes, taken back ===== -/
theorem pw_l4 {D : Int} {a b y : Nat → Int} (h : ∀ j, j < 8 → 4 * a j = b j) : ∀ q, q < 4 → 4 * pw D a y q = pw D b y q := by
  intro q hq
  have h0 := h 0 (by omega)
  have h1 := h 1 (by omega)
  have h2 := h 2 (by omega)
  have h3 := h 3 (by omega)
  have h4 := h 4 (by omega)
  have h5 := h 5 (by omega)
  have h6 := h 6 (by omega)
  have h7 := h 7 (by omega)
  have : q = 0 ∨ q = 1 ∨ q = 2 ∨ q = 3 := by omega
  rcases this with rfl | rfl | rfl | rfl
  all_goals simp only [pwE0, pwE1, pwE2, pwE3, ← h0, ← h1, ← h2, ← h3, ← h4, ← h5, ← h6, ← h7]
  all_goals grind
theorem pp_l4 {a b y : Nat → Int} (h : ∀ j, j < 8 → 4 * a j = b j) : ∀ q, q < 4 → 4 * pp a y q = pp b y q := by
  intro q hq
  have h0 := h 0 (by omega)
  have h1 := h 1 (by omega)
  have h2 := h 2 (by omega)
  have h3 := h 3 (by omega)
  have h4 := h 4 (by omega)
  have h5 := h 5 (by omega)
  have h6 := h 6 (by omega)
  have h7 := h 7 (by omega)
  have : q = 0 ∨ q = 1 ∨ q = 2 ∨ q = 3 := by omega
  rcases this with rfl | rfl | rfl | rfl
  all_goals simp only [ppE0, ppE1, ppE2, ppE3, ← h0, ← h1, ← h2, ← h3, ← h4, ← h5, ← h6, ← h7]
  all_goals grind
theorem pw_r4 {D : Int} {a b x : Nat → Int} (h : ∀ j, j < 8 → 4 * a j = b j) : ∀ q, q < 4 → 4 * pw D x a q = pw D x b q := by
  intro q hq
  have h0 := h 0 (by omega)
  have h1 := h 1 (by omega)
  have h2 := h 2 (by omega)
  have h3 := h 3 (by omega)
  have h4 := h 4 (by omega)
  have h5 := h 5 (by omega)
  have h6 := h 6 (by omega)
  have h7 := h 7 (by omega)
  have : q = 0 ∨ q = 1 ∨ q = 2 ∨ q = 3 := by omega
  rcases this with rfl | rfl | rfl | rfl
  all_goals simp only [pwE0, pwE1, pwE2, pwE3, ← h0, ← h1, ← h2, ← h3, ← h4, ← h5, ← h6, ← h7]
  all_goals grind
theorem pp_r4 {a b x : Nat → Int} (h : ∀ j, j < 8 → 4 * a j = b j) : ∀ q, q < 4 → 4 * pp x a q = pp x b q := by
  intro q hq
  have h0 := h 0 (by omega)
  have h1 := h 1 (by omega)
  have h2 := h 2 (by omega)
  have h3 := h 3 (by omega)
  have h4 := h 4 (by omega)
  have h5 := h 5 (by omega)
  have h6 := h 6 (by omega)
  have h7 := h 7 (by omega)
  have : q = 0 ∨ q = 1 ∨ q = 2 ∨ q = 3 := by omega
  rcases this with rfl | rfl | rfl | rfl
  all_goals simp only [ppE0, ppE1, ppE2, ppE3, ← h0, ← h1, ← h2, ← h3, ← h4, ← h5, ← h6, ← h7]
  all_goals grind
theorem mulL_prF {D : Int} {x y v : List Int} (h : mulL D x y = some v) : ∀ j, j < 8 → 4 * gd v j = prF D (gd x) (gd y) j := by
  intro j hj
  have h2 := (mulL_some h).2 (j / 2) (by omega)
  unfold prF
  split
  · rename_i h0
    rw [← h2.1, show 2 * (j / 2) = j by omega]
  · rename_i h0
    rw [← h2.2, show 2 * (j / 2) + 1 = j by omega]
theorem mulL_of {D : Int} {x y v : List Int} (hv : v.length = 8) (h : ∀ q, q < 4 → 4 * gd v (2 * q) = pw D (gd x) (gd y) q ∧ 4 * gd v (2 * q + 1) = pp (gd x) (gd y) q) : mulL D x y = some v := by
  obtain ⟨w, hw, hw2⟩ := mulL_some_of h
  rw [hw]
  exact congrArg some (gd_ext (mulL_some hw).1 hv hw2)
/-- (x y) z = x (y z), where x y, y z and the first one are four quarters -/
theorem mulL_as {D : Int} {x y z a b d : List Int} (h1 : mulL D x y = some a) (h2 : mulL D a z = some b) (h3 : mulL D y z = some d) : mulL D x d = some b := by
  have a4 := mulL_prF h1
  have d4 := mulL_prF h3
  refine mulL_of (mulL_some h2).1 (fun q hq => ?_)
  have b4 := (mulL_some h2).2 q hq
  have e1 := pw_l4 (D := D) (y := gd z) a4 q hq
  have e2 := pw_r4 (D := D) (x := gd x) d4 q hq
  have e3 := pw_as D (gd x) (gd y) (gd z) q hq
  have e4 := pp_l4 (y := gd z) a4 q hq
  have e5 := pp_r4 (x := gd x) d4 q hq
  have e6 := pp_as D (gd x) (gd y) (gd z) q hq
  constructor <;> omega
theorem mulL_as2 {D : Int} {x y z a b d : List Int} (h1 : mulL D x y = some a) (h2 : mulL D x d = some b) (h3 : mulL D y z = some d) : mulL D a z = some b := by
  have a4 := mulL_prF h1
  have d4 := mulL_prF h3
  refine mulL_of (mulL_some h2).1 (fun q hq => ?_)
  have b4 := (mulL_some h2).2 q hq
  have e1 := pw_l4 (D := D) (y := gd z) a4 q hq
  have e2 := pw_r4 (D := D) (x := gd x) d4 q hq
  have e3 := pw_as D (gd x) (gd y) (gd z) q hq
  have e4 := pp_l4 (y := gd z) a4 q hq
  have e5 := pp_r4 (x := gd x) d4 q hq
  have e6 := pp_as D (gd x) (gd y) (gd z) q hq
  constructor <;> omega
theorem gd_one (j : Nat) : gd oneL j = if j = 0 then 4 else 0 := by
  unfold gd oneL
  match j with
  | 0 => rfl
  | 1 => rfl
  | 2 => rfl
  | 3 => rfl
  | 4 => rfl
  | 5 => rfl
  | 6 => rfl
  | 7 => rfl
  | n + 8 => rw [if_neg (by omega)]; rfl
theorem mulL_r1 {D : Int} {x : List Int} (hx : x.length = 8) : mulL D x oneL = some x := by
  refine mulL_of hx (fun q hq => ?_)
  have : q = 0 ∨ q = 1 ∨ q = 2 ∨ q = 3 := by omega
  rcases this with rfl | rfl | rfl | rfl <;> simp [pwE0, pwE1, pwE2, pwE3, ppE0, ppE1, ppE2, ppE3, gd_one] <;> omega
theorem mulL_l1 {D : Int} {x : List Int} (hx : x.length = 8) : mulL D oneL x = some x := by
  refine mulL_of hx (fun q hq => ?_)
  have : q = 0 ∨ q = 1 ∨ q = 2 ∨ q = 3 := by omega
  rcases this with rfl | rfl | rfl | rfl <;> simp [pwE0, pwE1, pwE2, pwE3, ppE0, ppE1, ppE2, ppE3, gd_one] <;> omega
/-- a product with the turn taken back -/
def cj (D : Int) (v z : Nat → Int) (j : Nat) : Int :=
  if j = 0 then (v 0 * z 0 + D * v 1 * z 1) + (v 2 * z 2 + D * v 3 * z 3) + (v 4 * z 4 + D * v 5 * z 5) + (v 6 * z 6 + D * v 7 * z 7)
  else if j = 1 then (v 0 * z 1 + v 1 * z 0) + (v 2 * z 3 + v 3 * z 2) + (v 4 * z 5 + v 5 * z 4) + (v 6 * z 7 + v 7 * z 6)
  else if j = 2 then -(v 0 * z 2 + D * v 1 * z 3) + (v 2 * z 0 + D * v 3 * z 1) - (v 4 * z 6 + D * v 5 * z 7) + (v 6 * z 4 + D * v 7 * z 5)
  else if j = 3 then -(v 0 * z 3 + v 1 * z 2) + (v 2 * z 1 + v 3 * z 0) - (v 4 * z 7 + v 5 * z 6) + (v 6 * z 5 + v 7 * z 4)
  else if j = 4 then -(v 0 * z 4 + D * v 1 * z 5) + (v 2 * z 6 + D * v 3 * z 7) + (v 4 * z 0 + D * v 5 * z 1) - (v 6 * z 2 + D * v 7 * z 3)
  else if j = 5 then -(v 0 * z 5 + v 1 * z 4) + (v 2 * z 7 + v 3 * z 6) + (v 4 * z 1 + v 5 * z 0) - (v 6 * z 3 + v 7 * z 2)
  else if j = 6 then -(v 0 * z 6 + D * v 1 * z 7) - (v 2 * z 4 + D * v 3 * z 5) + (v 4 * z 2 + D * v 5 * z 3) + (v 6 * z 0 + D * v 7 * z 1)
  else -(v 0 * z 7 + v 1 * z 6) - (v 2 * z 5 + v 3 * z 4) + (v 4 * z 3 + v 5 * z 2) + (v 6 * z 1 + v 7 * z 0)
theorem cj_4 {D : Int} {a b z : Nat → Int} (h : ∀ j, j < 8 → 4 * a j = b j) : ∀ j, j < 8 → 4 * cj D a z j = cj D b z j := by
  intro j hj
  have h0 := h 0 (by omega)
  have h1 := h 1 (by omega)
  have h2 := h 2 (by omega)
  have h3 := h 3 (by omega)
  have h4 := h 4 (by omega)
  have h5 := h 5 (by omega)
  have h6 := h 6 (by omega)
  have h7 := h 7 (by omega)
  have : j = 0 ∨ j = 1 ∨ j = 2 ∨ j = 3 ∨ j = 4 ∨ j = 5 ∨ j = 6 ∨ j = 7 := by omega
  rcases this with rfl | rfl | rfl | rfl | rfl | rfl | rfl | rfl
  all_goals simp only [cj, ← h0, ← h1, ← h2, ← h3, ← h4, ← h5, ← h6, ← h7, Nat.reduceEqDiff, if_true, if_false]
  all_goals grind
def zN (D : Int) (z : Nat → Int) : Int := (z 0 * z 0 + D * (z 1 * z 1)) + (z 2 * z 2 + D * (z 3 * z 3)) + (z 4 * z 4 + D * (z 5 * z 5)) + (z 6 * z 6 + D * (z 7 * z 7))
def zM (z : Nat → Int) : Int := z 0 * z 1 + z 2 * z 3 + z 4 * z 5 + z 6 * z 7
set_option maxHeartbeats 8000000 in
theorem cj_pr (D : Int) (x z : Nat → Int) : ∀ j, j < 8 → cj D (prF D x z) z j = x j * zN D z + 2 * zM z * (if j % 2 = 0 then D * x (j + 1) else x (j - 1)) := by
  intro j hj
  have : j = 0 ∨ j = 1 ∨ j = 2 ∨ j = 3 ∨ j = 4 ∨ j = 5 ∨ j = 6 ∨ j = 7 := by omega
  rcases this with rfl | rfl | rfl | rfl | rfl | rfl | rfl | rfl
  all_goals simp only [cj, zN, zM, pwE0, pwE1, pwE2, pwE3, ppE0, ppE1, ppE2, ppE3, prF0, prF1, prF2, prF3, prF4, prF5, prF6, prF7, Nat.reduceEqDiff, Nat.reduceMod, Nat.reduceAdd, Nat.reduceSub, if_true, if_false]
  all_goals grind
/-- with a turn on the right, what is multiplied is known -/
theorem mulL_inj {D : Int} {x y z v : List Int} (hx : x.length = 8) (hy : y.length = 8) (hz : isTL D z) (h1 : mulL D x z = some v) (h2 : mulL D y z = some v) : x = y := by
  have n1 : zN D (gd z) = 16 := hz.2.1
  have n2 : zM (gd z) = 0 := hz.2.2
  have key : ∀ x : List Int, mulL D x z = some v → ∀ j, j < 8 → 16 * gd x j = 4 * cj D (gd v) (gd z) j := by
    intro x h j hj
    rw [cj_4 (mulL_prF h) j hj, cj_pr D (gd x) (gd z) j hj, n1, n2]
    omega
  refine gd_ext hx hy (fun j hj => ?_)
  have a := key x h1 j hj
  have b := key y h2 j hj
  omega
