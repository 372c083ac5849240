/-! ===== a text, read ===== -/
def atB (B : List Int) (n p : Nat) : Int := if p < n then gd B p else -1
theorem atB_end {B : List Int} {n p : Nat} (h : n ≤ p) : atB B n p = -1 := if_neg (by omega)
/-- the first one from p on that is none such -/
noncomputable def upto (P : Nat → Prop) (p : Nat) : Nat := theN (fun q => p ≤ q ∧ ¬ P q ∧ ∀ j, p ≤ j → j < q → P j)
theorem upto_ex {P : Nat → Prop} {n p : Nat} (h : ∀ q, n ≤ q → ¬ P q) : ∃ q, (p ≤ q ∧ ¬ P q ∧ ∀ j, p ≤ j → j < q → P j) ∧ q ≤ max p n := by
  obtain ⟨d, d1, d2, d3⟩ := least_of (p := fun q => p ≤ q ∧ ¬ P q) (max p n) ⟨Nat.le_max_left _ _, h _ (Nat.le_max_right _ _)⟩
  exact ⟨d, ⟨d2.1, d2.2, fun j h1 h2 => Classical.byContradiction (fun h3 => d3 j h2 ⟨h1, h3⟩)⟩, d1⟩
theorem upto_s {P : Nat → Prop} {n p : Nat} (h : ∀ q, n ≤ q → ¬ P q) : p ≤ upto P p ∧ ¬ P (upto P p) ∧ ∀ j, p ≤ j → j < upto P p → P j := by
  obtain ⟨q, hq, _⟩ := upto_ex (p := p) h
  exact theN_of (p := fun q => p ≤ q ∧ ¬ P q ∧ ∀ j, p ≤ j → j < q → P j) ⟨q, hq⟩
theorem upto_un {P : Nat → Prop} {n p q : Nat} (h : ∀ q, n ≤ q → ¬ P q) (h1 : p ≤ q) (h2 : ¬ P q) (h3 : ∀ j, p ≤ j → j < q → P j) : upto P p = q := by
  have s := upto_s (p := p) h
  apply Nat.le_antisymm
  · exact Nat.not_lt.mp (fun h9 => h2 (s.2.2 q h1 h9))
  · exact Nat.not_lt.mp (fun h9 => s.2.1 (h3 _ s.1 h9))
theorem upto_le {P : Nat → Prop} {n p : Nat} (h : ∀ q, n ≤ q → ¬ P q) (hp : p ≤ n) : upto P p ≤ n := by
  obtain ⟨q, hq, h1⟩ := upto_ex (p := p) h
  rw [upto_un h hq.1 hq.2.1 hq.2.2]
  omega
theorem upto_no {P : Nat → Prop} {n p : Nat} (h : ∀ q, n ≤ q → ¬ P q) (hp : ¬ P p) : upto P p = p := upto_un h (Nat.le_refl _) hp (fun j h1 h2 => absurd h2 (by omega))
theorem upto_go {P : Nat → Prop} {n p : Nat} (h : ∀ q, n ≤ q → ¬ P q) (hp : P p) : upto P p = upto P (p + 1) := by
  have s := upto_s (p := p + 1) h
  refine upto_un h (by omega) s.2.1 (fun j h1 h2 => ?_)
  by_cases hj : j = p
  · rw [hj]; exact hp
  · exact s.2.2 j (by omega) h2
abbrev isBl (f : Nat → Int) (q : Nat) : Prop := f q = 32
abbrev isDg (f : Nat → Int) (q : Nat) : Prop := 48 ≤ f q ∧ f q ≤ 57
abbrev isLe (f : Nat → Int) (q : Nat) : Prop := 97 ≤ f q ∧ f q ≤ 122
theorem noBl {B : List Int} {n : Nat} : ∀ q, n ≤ q → ¬ isBl (atB B n) q := fun q h => by unfold isBl; rw [atB_end h]; decide
theorem noDg {B : List Int} {n : Nat} : ∀ q, n ≤ q → ¬ isDg (atB B n) q := fun q h => by unfold isDg; rw [atB_end h]; decide
theorem noLe {B : List Int} {n : Nat} : ∀ q, n ≤ q → ¬ isLe (atB B n) q := fun q h => by unfold isLe; rw [atB_end h]; decide
/-- a number's value, from p on k digits: as the class, as the reference reckon -/
def dgv (f : Nat → Int) (p : Nat) : Nat → Int
  | 0 => 0
  | k + 1 => if 1000 ≤ dgv f p k then dgv f p k else 10 * dgv f p k + f (p + k) - 48
def mgv (f : Nat → Int) (p : Nat) : Nat → Int
  | 0 => 0
  | k + 1 => if 100000 < 10 * mgv f p k + f (p + k) - 48 then 100000 else 10 * mgv f p k + f (p + k) - 48
theorem dgv_rng {f : Nat → Int} {p : Nat} : ∀ k, (∀ j, j < k → isDg f (p + j)) → 0 ≤ dgv f p k ∧ dgv f p k ≤ 9999 := by
  intro k
  induction k with
  | zero => intro _; show (0 : Int) ≤ 0 ∧ (0 : Int) ≤ 9999; decide
  | succ k ih =>
    intro h
    have h1 := ih (fun j hj => h j (by omega))
    have h2 := h k (by omega)
    unfold isDg at h2
    have e1 : dgv f p (k + 1) = if 1000 ≤ dgv f p k then dgv f p k else 10 * dgv f p k + f (p + k) - 48 := rfl
    rw [e1]
    split <;> omega
theorem mgv_rel {f : Nat → Int} {p : Nat} : ∀ k, (∀ j, j < k → isDg f (p + j)) → 0 ≤ mgv f p k ∧ mgv f p k ≤ 100000 ∧ (dgv f p k < 1000 → mgv f p k = dgv f p k) ∧ (1000 ≤ dgv f p k → 1000 ≤ mgv f p k) := by
  intro k
  induction k with
  | zero => intro _; exact ⟨Int.le_refl _, by show (0 : Int) ≤ 100000; decide, fun _ => rfl, fun h => absurd h (by show ¬ (1000 : Int) ≤ 0; decide)⟩
  | succ k ih =>
    intro h
    have h0 := dgv_rng k (fun j hj => h j (by omega))
    obtain ⟨a1, a2, a3, a4⟩ := ih (fun j hj => h j (by omega))
    have h2 := h k (by omega)
    unfold isDg at h2
    have e1 : dgv f p (k + 1) = if 1000 ≤ dgv f p k then dgv f p k else 10 * dgv f p k + f (p + k) - 48 := rfl
    have e2 : mgv f p (k + 1) = if 100000 < 10 * mgv f p k + f (p + k) - 48 then 100000 else 10 * mgv f p k + f (p + k) - 48 := rfl
    rw [e1, e2]
    by_cases hd : 1000 ≤ dgv f p k
    · have := a4 hd
      rw [if_pos hd]
      split <;> omega
    · have := a3 (by omega)
      rw [if_neg hd]
      split <;> omega
/-- a number told: what it is and where it ends, or which fault, where -/
noncomputable def pTold (f : Nat → Int) (p : Nat) : (Nat × Nat) ⊕ (Int × Nat) :=
  if isDg f (if f (upto (isBl f) p) = 45 then upto (isBl f) (upto (isBl f) p + 1) else upto (isBl f) p) then
    (if 4 < dgv f (if f (upto (isBl f) p) = 45 then upto (isBl f) (upto (isBl f) p + 1) else upto (isBl f) p) (upto (isDg f) (if f (upto (isBl f) p) = 45 then upto (isBl f) (upto (isBl f) p + 1) else upto (isBl f) p) - (if f (upto (isBl f) p) = 45 then upto (isBl f) (upto (isBl f) p + 1) else upto (isBl f) p)) then .inl (2, upto (isBl f) p)
     else .inr (if f (upto (isBl f) p) = 45 then -dgv f (if f (upto (isBl f) p) = 45 then upto (isBl f) (upto (isBl f) p + 1) else upto (isBl f) p) (upto (isDg f) (if f (upto (isBl f) p) = 45 then upto (isBl f) (upto (isBl f) p + 1) else upto (isBl f) p) - (if f (upto (isBl f) p) = 45 then upto (isBl f) (upto (isBl f) p + 1) else upto (isBl f) p)) else dgv f (if f (upto (isBl f) p) = 45 then upto (isBl f) (upto (isBl f) p + 1) else upto (isBl f) p) (upto (isDg f) (if f (upto (isBl f) p) = 45 then upto (isBl f) (upto (isBl f) p + 1) else upto (isBl f) p) - (if f (upto (isBl f) p) = 45 then upto (isBl f) (upto (isBl f) p + 1) else upto (isBl f) p)),
      upto (isDg f) (if f (upto (isBl f) p) = 45 then upto (isBl f) (upto (isBl f) p + 1) else upto (isBl f) p)))
  else .inl (1, if f (upto (isBl f) p) = 45 then upto (isBl f) (upto (isBl f) p + 1) else upto (isBl f) p)
/-- the same, with its places named -/
theorem pTold_e {f : Nat → Int} {p s s1 q : Nat} (hs : s = upto (isBl f) p) (h1 : s1 = if f s = 45 then upto (isBl f) (s + 1) else s) (hq : q = upto (isDg f) s1) :
    pTold f p = if isDg f s1 then (if 4 < dgv f s1 (q - s1) then .inl (2, s) else .inr (if f s = 45 then -dgv f s1 (q - s1) else dgv f s1 (q - s1), q)) else .inl (1, s1) := by
  subst hs h1 hq
  rfl
noncomputable def pSign (f : Nat → Int) (x : Int) (p : Nat) : (Nat × Nat) ⊕ Nat := if f (upto (isBl f) p) = x then .inr (upto (isBl f) p + 1) else .inl (1, upto (isBl f) p)
noncomputable def pNums (f : Nat → Int) : Nat → List Int → Nat → (Nat × Nat) ⊕ (List Int × Nat)
  | 0, l, p => .inr (l, p)
  | k + 1, l, p => match pTold f p with
    | .inl e => .inl e
    | .inr (v, q) => pNums f k (l ++ [v]) q
/-- a word of four letters stands at s -/
def wordAt (f : Nat → Int) (w : Nat → Int) (s : Nat) : Prop := upto (isLe f) s = s + 4 ∧ ∀ i, i < 4 → f (s + i) = w i
abbrev wRoot : Nat → Int := fun i => (xts 0).getD i 0
abbrev wTurn : Nat → Int := fun i => (xts 1).getD i 0
abbrev RF : Type := Nat × Nat × Option (Nat × Nat × Nat × Nat)
noncomputable def pTurn (f : Nat → Int) (D : Int) (told : List (List Int)) (s : Nat) : RF ⊕ (List (List Int) × Nat) :=
  @ite _ (wordAt f wTurn s) (Classical.propDecidable _)
    (if 4 ≤ told.length then .inl (3, s, none) else match pNums f 8 [] (s + 4) with
      | .inl e => .inl (e.1, e.2, none)
      | .inr (v, q) => match pSign f 59 q with
        | .inl e => .inl (e.1, e.2, none)
        | .inr q2 => @ite _ (isTL D v) (Classical.propDecidable _) (match clos D (told ++ [v]) with
          | some (.inr _) => .inr (told ++ [v], q2)
          | some (.inl w) => .inl (5, s, some w)
          | none => .inl (5, s, none)) (.inl (4, s, none)))
    (.inl (1, s, none))
noncomputable def pTurns (f : Nat → Int) (n : Nat) (D : Int) : Nat → List (List Int) → Nat → RF ⊕ List (List Int)
  | 0, told, _ => .inr told
  | k + 1, told, p => if n ≤ upto (isBl f) p then .inr told else match pTurn f D told (upto (isBl f) p) with
    | .inl e => .inl e
    | .inr (told', q) => pTurns f n D k told' q
noncomputable def pText (f : Nat → Int) (n : Nat) : RF ⊕ (Int × List (List Int)) :=
  @ite _ (wordAt f wRoot (upto (isBl f) 0)) (Classical.propDecidable _)
    (if isDg f (upto (isBl f) (upto (isBl f) 0 + 4)) then
      (if dgv f (upto (isBl f) (upto (isBl f) 0 + 4)) (upto (isDg f) (upto (isBl f) (upto (isBl f) 0 + 4)) - upto (isBl f) (upto (isBl f) 0 + 4)) = 2 ∨ dgv f (upto (isBl f) (upto (isBl f) 0 + 4)) (upto (isDg f) (upto (isBl f) (upto (isBl f) 0 + 4)) - upto (isBl f) (upto (isBl f) 0 + 4)) = 3 ∨ dgv f (upto (isBl f) (upto (isBl f) 0 + 4)) (upto (isDg f) (upto (isBl f) (upto (isBl f) 0 + 4)) - upto (isBl f) (upto (isBl f) 0 + 4)) = 5 then
        (match pSign f 59 (upto (isDg f) (upto (isBl f) (upto (isBl f) 0 + 4))) with
        | .inl e => .inl (e.1, e.2, none)
        | .inr q => match pTurns f n (dgv f (upto (isBl f) (upto (isBl f) 0 + 4)) (upto (isDg f) (upto (isBl f) (upto (isBl f) 0 + 4)) - upto (isBl f) (upto (isBl f) 0 + 4))) 5 [] q with
          | .inl e => .inl e
          | .inr told => .inr (dgv f (upto (isBl f) (upto (isBl f) 0 + 4)) (upto (isDg f) (upto (isBl f) (upto (isBl f) 0 + 4)) - upto (isBl f) (upto (isBl f) 0 + 4)), told))
      else .inl (2, upto (isBl f) (upto (isBl f) 0 + 4), none))
    else .inl (1, upto (isBl f) (upto (isBl f) 0 + 4), none))
    (.inl (1, upto (isBl f) 0, none))
theorem pText_e {f : Nat → Int} {n s s1 q : Nat} {v : Int} (hs : s = upto (isBl f) 0) (h1 : s1 = upto (isBl f) (s + 4)) (hq : q = upto (isDg f) s1) (hv : v = dgv f s1 (q - s1)) :
    pText f n = @ite _ (wordAt f wRoot s) (Classical.propDecidable _)
      (if isDg f s1 then (if v = 2 ∨ v = 3 ∨ v = 5 then (match pSign f 59 q with
        | .inl e => .inl (e.1, e.2, none)
        | .inr q => match pTurns f n v 5 [] q with
          | .inl e => .inl e
          | .inr told => .inr (v, told)) else .inl (2, s1, none)) else .inl (1, s1, none))
      (.inl (1, s, none)) := by
  subst hs h1 hq hv
  rfl
