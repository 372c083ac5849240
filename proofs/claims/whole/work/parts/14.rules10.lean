/-! ===== what the printed trees stand on ===== -/
theorem inRk {n : Int} (h : decide (-2147483648 ≤ n ∧ n ≤ 2147483647) = true) : inR n := by unfold inR; exact of_decide_eq_true h
def KI (f : Int → Sg → Prop) (x : Nat → Sg → Prop) : NO → Sg → Prop := fun o s => match o with
  | .inl (some (.inl r)) => f r s
  | .inr k => x k s
  | _ => False
def KL (f : Int → Sg → Prop) (x : Nat → Sg → Prop) : NO → Sg → Prop := fun o s => match o with
  | .inl (some (.inr (.inr r))) => f r s
  | .inr k => x k s
  | _ => False
def KV (f : Sg → Prop) (x : Nat → Sg → Prop) : NO → Sg → Prop := fun o s => match o with
  | .inl none => f s
  | .inr k => x k s
  | _ => False
theorem KI_l {f : Int → Sg → Prop} {x : Nat → Sg → Prop} {v : Option NV} {s : Sg} (h : KI f x (.inl v) s) : ∃ r, v = some (vi r) ∧ f r s := by
  match v, h with
  | some (.inl r), h => exact ⟨r, rfl, h⟩
  | none, h => exact h.elim
  | some (.inr (.inl r)), h => exact h.elim
  | some (.inr (.inr r)), h => exact h.elim
theorem KL_l {f : Int → Sg → Prop} {x : Nat → Sg → Prop} {v : Option NV} {s : Sg} (h : KL f x (.inl v) s) : ∃ r, v = some (vl r) ∧ f r s := by
  match v, h with
  | some (.inr (.inr r)), h => exact ⟨r, rfl, h⟩
  | none, h => exact h.elim
  | some (.inr (.inl r)), h => exact h.elim
  | some (.inl r), h => exact h.elim
theorem KV_l {f : Sg → Prop} {x : Nat → Sg → Prop} {v : Option NV} {s : Sg} (h : KV f x (.inl v) s) : v = none ∧ f s := by
  match v, h with
  | none, h => exact ⟨rfl, h⟩
  | some _, h => exact h.elim
theorem KI_r {f : Int → Sg → Prop} {x : Nat → Sg → Prop} {k : Nat} {s : Sg} (h : KI f x (.inr k) s) : x k s := h
theorem KL_r {f : Int → Sg → Prop} {x : Nat → Sg → Prop} {k : Nat} {s : Sg} (h : KL f x (.inr k) s) : x k s := h
theorem KV_r {f : Sg → Prop} {x : Nat → Sg → Prop} {k : Nat} {s : Sg} (h : KV f x (.inr k) s) : x k s := h
/-- a length can be asked -/
def okN (σ : Sg) (a : Nat) : Prop := ((16 ≤ a ∧ 20 ≤ (gS σ a).1 ∧ (gS σ a).1 ≤ 24) ∨ (0 < a ∧ a < 16 ∧ ((gS σ a).1 = 30 ∨ (gS σ a).1 = 31))) ∧ (gS σ a).2 ≤ 2147483647
/-- a copy can be made -/
def okC (σ : Sg) (a : Nat) (sp : Int) (b : Nat) (dp n : Int) : Prop := (16 ≤ a ∧ (gS σ a).1 = 20) ∧ (16 ≤ b ∧ (gS σ b).1 = 20) ∧ 0 ≤ n ∧ (0 ≤ sp ∧ sp + n ≤ ((gS σ a).2 : Int)) ∧ (0 ≤ dp ∧ dp + n ≤ ((gS σ b).2 : Int))
def okT (σ : Sg) (a : Nat) : Prop := (0 < a ∧ a < 16) ∧ (gS σ a).1 = 32
theorem nar_bool {x : Int} (h : x = 0 ∨ x = 1) : narrow .boolean (.int (Int32.ofInt x)) = .int (Int32.ofInt x) := by rcases h with rfl | rfl <;> decide
theorem nar_i (x : Int) : narrow .int (.int (Int32.ofInt x)) = .int (Int32.ofInt x) := rfl
theorem nar_byte {x : Int} (h : x = 0) : narrow .byte (.int (Int32.ofInt x)) = .int (Int32.ofInt x) := by subst h; decide
theorem nar_char {x : Int} (h : 0 ≤ x ∧ x ≤ 65535) : narrow .char (.int (Int32.ofInt x)) = .int (Int32.ofInt x) := by
  obtain ⟨n, rfl⟩ : ∃ n : Nat, x = (n : Int) := ⟨x.toNat, by omega⟩
  exact (pk_charN (q := n) (by omega)).1
def mskL : List Bool → List (Option NV) → List (Option NV)
  | b :: bs, o :: os => (if b then o else none) :: mskL bs os
  | _, os => os
theorem mskL_len : ∀ (bs : List Bool) (os : List (Option NV)), (mskL bs os).length = os.length
  | [], os => by simp [mskL]
  | b :: bs, [] => by simp [mskL]
  | b :: bs, o :: os => by simp [mskL, mskL_len bs os]
theorem mskL_get : ∀ (bs : List Bool) (os : List (Option NV)) (i : Nat) (v : NV), (mskL bs os)[i]? = some (some v) → os[i]? = some (some v)
  | [], os, i, v, h => by simpa [mskL] using h
  | b :: bs, [], i, v, h => by simp [mskL] at h
  | b :: bs, o :: os, i, v, h => by
    cases i with
    | zero =>
      simp only [mskL, List.getElem?_cons_zero] at h ⊢
      cases b <;> simp_all
    | succ j =>
      simp only [mskL, List.getElem?_cons_succ] at h ⊢
      exact mskL_get bs os j v h
section R10
variable {E : Ev} {M : MD} {pc : Nat} {l : List (Option NV)} {st : List NV} {σ : Sg} {rc rs : Nat} {Q : NO → Sg → Prop}
theorem GG.msk (bs : List Bool) (k : GG E M pc (mskL bs l) st σ rc rs Q) : GG E M pc l st σ rc rs Q := GG.fgt (mskL_get bs l) (mskL_len bs l) k
theorem nmI {x : Int} (k : ∀ y : Int, y = x → GG E M pc l (vi y :: st) σ rc rs Q) : GG E M pc l (vi x :: st) σ rc rs Q := k x rfl
theorem nmL {x : Int} (k : ∀ y : Int, y = x → GG E M pc l (vl y :: st) σ rc rs Q) : GG E M pc l (vl x :: st) σ rc rs Q := k x rfl
theorem nmR {x : Nat} (k : ∀ y : Nat, y = x → GG E M pc l (vr y :: st) σ rc rs Q) : GG E M pc l (vr x :: st) σ rc rs Q := k x rfl
theorem nmS (k : ∀ τ : Sg, τ = σ → GG E M pc l st τ rc rs Q) : GG E M pc l st σ rc rs Q := k σ rfl
end R10
