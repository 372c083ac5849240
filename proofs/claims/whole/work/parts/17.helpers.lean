/-! ===== small helpers of the trees ===== -/
theorem rowB {b hi : Nat} {j N : Int} (h : 0 ≤ j ∧ j < N) (e : (b : Int) + N = (hi : Int)) : b + j.toNat < hi := by omega
theorem rowC {n : Nat} {j N : Int} (h : 0 ≤ j ∧ j < N) (e : N = (n : Int)) : j.toNat < n := by omega
theorem cpl {σ : Sg} {a c n : Nat} {sp len N : Int} (sh : gS σ a = (c, n)) (h : 0 ≤ sp ∧ sp + len ≤ N) (e : N = (n : Int)) : 0 ≤ sp ∧ sp + len ≤ ((gS σ a).2 : Int) := by
  rw [sh]; exact ⟨h.1, by rw [← e]; exact h.2⟩
section R13
variable {E : Ev} {M : MD} {pc : Nat} {l : List (Option NV)} {st : List NV} {σ : Sg} {rc rs : Nat} {Q : NO → Sg → Prop}
theorem eqR {x y : Nat} (e : x = y) (k : GG E M pc l (vr y :: st) σ rc rs Q) : GG E M pc l (vr x :: st) σ rc rs Q := e ▸ k
theorem eqI {x y : Int} (e : x = y) (k : GG E M pc l (vi y :: st) σ rc rs Q) : GG E M pc l (vi x :: st) σ rc rs Q := e ▸ k
theorem Lay.nw9 {Y : LY} {g : Sg} {c t : Nat} {τ : Sg} {q : Nat × Nat} (hL : Lay Y g c t σ) (e : τ = nw σ q)
    (hy : (∀ q ∈ yR Y, q.2.1 ≤ yh Y) ∧ (∀ q ∈ yF Y, q.1 < yh Y) ∧ (∀ q ∈ yX Y, q.1 < yh Y) ∧ (∀ q ∈ yS Y, q.1 < yh Y) ∧ 16 < yh Y := by decide +kernel) : Lay Y g c t τ := by
  subst e
  have hz : yh Y ≤ gz σ := hL.2.2.2.2.2.2.2.1
  have hg : gz g ≤ gz σ := hL.2.2.2.2.2.2.2.2.1
  have qI : ∀ b j, b < gz σ → gI (nw σ q) b j = gI σ b j := fun b j hb => if_neg (by omega)
  have qR : ∀ b j, b < gz σ → gR (nw σ q) b j = gR σ b j := fun b j hb => if_neg (by omega)
  have qS : ∀ b, b < gz σ → gS (nw σ q) b = gS σ b := fun b hb => if_neg (by omega)
  have x' := hL.xt
  refine ⟨fun z hz2 a h1 h2 => ?_, fun z hz2 => ?_, fun z hz2 k hk => ?_, fun z hz2 k hk => ?_, fun h9 => ?_, hL.ct, ?_, Nat.le_succ_of_le hz, Nat.le_succ_of_le hg, fun b h1 h2 h3 => ?_⟩
  · rw [qS a (by have := hy.1 z hz2; omega)]; exact hL.1 z hz2 a h1 h2
  · rw [qR _ _ (by have := hy.2.1 z hz2; omega)]; exact hL.2.1 z hz2
  · rw [qR _ _ (by have := hy.2.2.1 z hz2; omega)]; exact hL.2.2.1 z hz2 k hk
  · rw [qR _ _ (by have := hy.2.2.2.1 z hz2; omega)]; exact hL.2.2.2.1 z hz2 k hk
  · have := hy.2.2.2.2
    rw [qR 16 12 (by omega), qR 16 13 (by omega)]; exact hL.2.2.2.2.1 h9
  · have h16 := hy.2.2.2.2
    refine ⟨⟨by rw [qS 1 (by omega)]; exact x'.1.1, fun j hj => ?_⟩, ⟨by rw [qS 2 (by omega)]; exact x'.2.1.1, fun j hj => ?_⟩, ⟨by rw [qS 3 (by omega)]; exact x'.2.2.1.1, fun j hj => ?_⟩, ⟨by rw [qS 4 (by omega)]; exact x'.2.2.2.1.1, fun j hj => ?_⟩, fun z hz2 => ?_⟩
    · rw [qI 1 j (by omega)]; exact x'.1.2 j hj
    · rw [qI 2 j (by omega)]; exact x'.2.1.2 j hj
    · rw [qI 3 j (by omega)]; exact x'.2.2.1.2 j hj
    · rw [qI 4 j (by omega)]; exact x'.2.2.2.1.2 j hj
    · obtain ⟨z1, z2, z3, z4, z5, z6⟩ := x'.2.2.2.2 z hz2
      have hz16 : z.1 < 16 := by
        rcases z with ⟨u, v⟩
        simp at hz2
        rcases hz2 with ⟨rfl, _⟩ | ⟨rfl, _⟩ | ⟨rfl, _⟩ | ⟨rfl, _⟩ <;> simp
      rw [qR z.1 0 (by omega)]
      refine ⟨by rw [qS _ (by omega)]; exact z1, by rw [qI _ _ (by omega)]; exact z2, z3, z4, by rw [qS _ (by omega)]; exact z5, fun j hj => ?_⟩
      rw [qI _ _ (by omega)]; exact z6 j hj
  · refine ⟨by rw [qS b (by omega)]; exact (hL.fr h1 h2 h3).1, fun j => ⟨?_, ?_⟩⟩
    · rw [qI b j (by omega)]; exact ((hL.fr h1 h2 h3).2 j).1
    · rw [qR b j (by omega)]; exact ((hL.fr h1 h2 h3).2 j).2
end R13
def isRT : FieldType → Bool
  | .object _ => true
  | .array _ => true
  | _ => false
theorem isRT_of {t : FieldType} (h : isRT t = true) : (∃ n, t = .object n) ∨ ∃ u, t = .array u := by
  cases t <;> first | exact .inl ⟨_, rfl⟩ | exact .inr ⟨_, rfl⟩ | exact nomatch h
def isIT (d : String) (t : FieldType) : Bool := decide (defaultValue t = .int 0) && (decide (t = .int) || (d == "Z" && decide (t = .boolean)))
theorem CLk_of {ci : Nat} {C : String} {T : u_T} {N : Nat} {ty : Nat → FieldType} (h1 : CLs[ci]? = some (C, T, N)) (h2 : ∀ w ∈ u_ws C T N, w ∈ lwW) (h3 : ∀ k, k < N → parseFieldDescriptor (T k).2.2.1 = some (ty k))
    (h4 : ∀ a, a < N → ∀ b, b < N → a ≠ b → (T a).2.1 ≠ (T b).2.1) (h5 : ∀ k, k < N → (if isIF (T k).2.2.1 = true then isIT (T k).2.2.1 (ty k) else isRT (ty k)) = true) (h6 : Cond.instantiable C N ∈ lwW) (h7 : Cond.initialized C ∈ lwW) : CLk ci C T N ty := by
  refine ⟨h1, h2, h3, h4, fun k hk => ?_, h6, h7⟩
  have := h5 k hk
  split at this
  · rename_i hi
    rw [if_pos hi]
    unfold isIT at this
    simp only [Bool.and_eq_true, Bool.or_eq_true, decide_eq_true_eq, beq_iff_eq] at this
    exact this
  · rename_i hi
    rw [if_neg hi]
    exact isRT_of this
