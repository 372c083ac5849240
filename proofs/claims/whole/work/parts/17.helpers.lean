/-! ===== small helpers of the trees ===== -/
theorem rowB {b hi : Nat} {j N : Int} (h : 0 ≤ j ∧ j < N) (e : (b : Int) + N = (hi : Int)) : b + j.toNat < hi := by omega
theorem rowC {n : Nat} {j N : Int} (h : 0 ≤ j ∧ j < N) (e : N = (n : Int)) : j.toNat < n := by omega
theorem cpl {σ : Sg} {a c n : Nat} {sp len N : Int} (sh : gS σ a = (c, n)) (h : 0 ≤ sp ∧ sp + len ≤ N) (e : N = (n : Int)) : 0 ≤ sp ∧ sp + len ≤ ((gS σ a).2 : Int) := by
  rw [sh]; exact ⟨h.1, by rw [← e]; exact h.2⟩
section R13
variable {E : Ev} {M : MD} {pc : Nat} {l : List (Option NV)} {st : List NV} {σ : Sg} {rc rs : Nat} {Q : NO → Sg → Prop}
theorem eqR {x y : Nat} (e : x = y) (k : GG E M pc l (vr y :: st) σ rc rs Q) : GG E M pc l (vr x :: st) σ rc rs Q := e ▸ k
theorem eqI {x y : Int} (e : x = y) (k : GG E M pc l (vi y :: st) σ rc rs Q) : GG E M pc l (vi x :: st) σ rc rs Q := e ▸ k
theorem Lay.nw9 {Y : LY} {g : Sg} {c t : Nat} {τ : Sg} {q : Nat × Nat} (hL : Lay Y g c t σ) (e : τ = nw σ q) (h : yh Y ≤ gz σ := by exact hL.2.2.2.2.2.2.2.1) : Lay Y g c t τ := by
  sorry
end R13
def isRT : FieldType → Bool
  | .object _ => true
  | .array _ => true
  | _ => false
theorem isRT_of {t : FieldType} (h : isRT t = true) : (∃ n, t = .object n) ∨ ∃ u, t = .array u := by
  cases t <;> first | exact .inl ⟨_, rfl⟩ | exact .inr ⟨_, rfl⟩ | exact nomatch h
def isIT (d : String) (t : FieldType) : Bool := decide (defaultValue t = .int 0) && (decide (t = .int) || (d == "Z" && decide (t = .boolean)))
theorem CLk_of {ci : Nat} {C : String} {T : u_T} {N : Nat} {ty : Nat → FieldType} (h1 : CLs[ci]? = some (C, T, N)) (h2 : ∀ w ∈ u_ws C T N, w ∈ lwW) (h3 : ∀ k, k < N → parseFieldDescriptor (T k).2.2.1 = some (ty k))
    (h4 : ∀ a, a < N → ∀ b, b < N → a ≠ b → (T a).2.1 ≠ (T b).2.1) (h5 : ∀ k, k < N → (if isIF (T k).2.2.1 = true then isIT (T k).2.2.1 (ty k) else isRT (ty k)) = true) (h6 : Cond.instantiable C N ∈ lwW) (h7 : Cond.initialized C ∈ lwW) : CLk ci C T N ty := by
  refine ⟨h1, h2, h3, h4, fun k hk => ?_, h6, h7⟩
  have := h5 k hk
  split at this
  · rename_i hi
    rw [if_pos hi]
    unfold isIT at this
    simp only [Bool.and_eq_true, Bool.or_eq_true, decide_eq_true_eq, beq_iff_eq] at this
    exact this
  · rename_i hi
    rw [if_neg hi]
    exact isRT_of this
