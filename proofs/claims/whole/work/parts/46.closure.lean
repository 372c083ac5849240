/-! ===== the closing, as a function of the root and what is told ===== -/
def gd (l : List Int) (k : Nat) : Int := l.getD k 0
/-- the product's eight numbers, if it is four quarters -/
def mulL (D : Int) (x y : List Int) : Option (List Int) :=
  if (List.range 4).all (fun q => decide ((pw D (gd x) (gd y) q).tmod 4 = 0) && decide ((pp (gd x) (gd y) q).tmod 4 = 0)) = true then
    some [(pw D (gd x) (gd y) 0).tdiv 4, (pp (gd x) (gd y) 0).tdiv 4, (pw D (gd x) (gd y) 1).tdiv 4, (pp (gd x) (gd y) 1).tdiv 4, (pw D (gd x) (gd y) 2).tdiv 4, (pp (gd x) (gd y) 2).tdiv 4, (pw D (gd x) (gd y) 3).tdiv 4, (pp (gd x) (gd y) 3).tdiv 4]
  else none
/-- one step: 1 no quarters, 2 too many, or the elements then -/
def clStep (D : Int) (told els : List (List Int)) (i u : Nat) : Nat ⊕ List (List Int) :=
  match mulL D (els.getD i []) (told.getD u []) with
  | none => .inl 1
  | some v => if v ∈ els then .inr els else if els.length = 120 then .inl 2 else .inr (els ++ [v])
def clRun (D : Int) (told : List (List Int)) : Nat → List (List Int) → Nat → Nat → Option ((Nat × Nat × Nat × Nat) ⊕ List (List Int))
  | 0, _, _, _ => none
  | f + 1, els, i, u =>
    if els.length ≤ i then some (.inr els)
    else if told.length ≤ u then clRun D told f els (i + 1) 0
    else match clStep D told els i u with
      | .inl k => some (.inl (k, els.length, i, u))
      | .inr els' => clRun D told f els' i (u + 1)
def oneL : List Int := [4, 0, 0, 0, 0, 0, 0, 0]
def clos (D : Int) (told : List (List Int)) : Option ((Nat × Nat × Nat × Nat) ⊕ List (List Int)) := clRun D told 700 [oneL] 0 0
/-- a step makes at most one element more, never above 120 -/
theorem clStep_len {D : Int} {told els els' : List (List Int)} {i u : Nat} (h : clStep D told els i u = .inr els') (h2 : els.length ≤ 120) : els'.length ≤ 120 ∧ els.length ≤ els'.length := by
  unfold clStep at h
  split at h
  · cases h
  · split at h
    · cases h; exact ⟨h2, Nat.le_refl _⟩
    · split at h
      · cases h
      · cases h; simp only [List.length_append, List.length_singleton]; omega
/-- the run ends -/
theorem clRun_ends (D : Int) (told : List (List Int)) (hn : told.length ≤ 4) : ∀ (f : Nat) (els : List (List Int)) (i u : Nat), els.length ≤ 120 → u ≤ 4 → 5 * (121 - i) + 5 ≤ f + u → clRun D told f els i u ≠ none := by
  intro f
  induction f with
  | zero =>
    intro els i u h1 h2 h3
    omega
  | succ f ih =>
    intro els i u h1 h2 h3
    unfold clRun
    split
    · exact fun h => by cases h
    · split
      · exact ih _ _ _ h1 (by omega) (by omega)
      · split
        · exact fun h => by cases h
        · rename_i h4
          exact ih _ _ _ (clStep_len h4 h1).1 (by omega) (by omega)
section S6
variable {E : Ev} {σ : Sg} {Q : NO → Sg → Prop} {g : Sg} {c t : Nat}
theorem S_fail {a : Nat} {x y z : Int} (hL : Lay LC g c t σ) (ha : isCl a) (h : ∀ τ, Lay LC g c t τ → τ = sI (sI (sI σ a 9 x) a 10 y) a 11 z → Q (.inl (some (vi 0))) τ) : CC E mX1_fail [vr a, vi x, vi y, vi z] σ Q :=
  C_X1_fail (B_X1_fail_0 hL ha (fun τ1 e1 τ2 e2 τ3 e3 hL3 => h τ3 hL3 (by rw [e3, e2, e1])))
end S6
