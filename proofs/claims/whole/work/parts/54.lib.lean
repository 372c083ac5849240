/-! ===== loops, frames ===== -/
theorem loopU {P G : Nat → Sg → Prop} {N : Nat} (step : ∀ i τ, i < N → P i τ → (∀ τ', P (i + 1) τ' → G (i + 1) τ') → G i τ) (fin : ∀ τ, P N τ → G N τ) : ∀ i τ, i ≤ N → P i τ → G i τ := by
  have h : ∀ (d i : Nat) (τ : Sg), i + d = N → P i τ → G i τ := by
    intro d
    induction d with
    | zero =>
      intro i τ h p
      have : i = N := by omega
      subst this
      exact fin τ p
    | succ d ih =>
      intro i τ h p
      exact step i τ (by omega) p (fun τ' p' => ih (i + 1) τ' (by omega) p')
  intro i τ hi p
  exact h (N - i) i τ (by omega) p
/-- nothing that lasts changes but numbers at W, references at V -/
def Fr (W : Nat → Nat → Prop) (V : Nat → Prop) (σ τ : Sg) : Prop := ∀ a, a < 2968 → ∀ k, (¬ W a k → gI τ a k = gI σ a k) ∧ (¬ V a → gR τ a k = gR σ a k)
theorem Fr.refl {W : Nat → Nat → Prop} {V : Nat → Prop} (σ : Sg) : Fr W V σ σ := fun _ _ _ => ⟨fun _ => rfl, fun _ => rfl⟩
theorem Fr.trans {W : Nat → Nat → Prop} {V : Nat → Prop} {σ τ ρ : Sg} (h : Fr W V σ τ) (k : Fr W V τ ρ) : Fr W V σ ρ := fun a ha j => ⟨fun q => ((k a ha j).1 q).trans ((h a ha j).1 q), fun q => ((k a ha j).2 q).trans ((h a ha j).2 q)⟩
theorem Fr.mono {W W' : Nat → Nat → Prop} {V V' : Nat → Prop} {σ τ : Sg} (h : Fr W V σ τ) (hw : ∀ a k, W a k → W' a k) (hv : ∀ a, V a → V' a) : Fr W' V' σ τ := fun a ha j => ⟨fun q => (h a ha j).1 (fun x => q (hw a j x)), fun q => (h a ha j).2 (fun x => q (hv a x))⟩
theorem Fr.sI {W : Nat → Nat → Prop} {V : Nat → Prop} {σ τ : Sg} (h : Fr W V σ τ) {a k : Nat} {x : Int} (hw : W a k) : Fr W V σ (sI τ a k x) := fun b hb j => ⟨fun q => by
    rw [gI_sI, if_neg (fun h9 => q (by rw [h9.1, h9.2]; exact hw))]; exact (h b hb j).1 q, fun q => (h b hb j).2 q⟩
theorem Fr_of1 {W : Nat → Nat → Prop} {V : Nat → Prop} {σ : Sg} {a k : Nat} {x : Int} (hw : W a k) : Fr W V σ (sI σ a k x) := Fr.sI (Fr.refl σ) hw
theorem Fr.ofOn {W : Nat → Nat → Prop} {V : Nat → Prop} {σ τ : Sg} {a : Nat} (h : On a σ τ) (hw : ∀ k, W a k) : Fr W V σ τ := fun b _ j => ⟨fun q => h.1 b j (fun e => q (by rw [e]; exact hw j)), fun _ => h.2.1 b j⟩
theorem Fr.i {W : Nat → Nat → Prop} {V : Nat → Prop} {σ τ : Sg} (h : Fr W V σ τ) {a k : Nat} (ha : a < 2968) (hw : ¬ W a k) : gI τ a k = gI σ a k := (h a ha k).1 hw
theorem Fr.r {W : Nat → Nat → Prop} {V : Nat → Prop} {σ τ : Sg} (h : Fr W V σ τ) {a k : Nat} (ha : a < 2968) (hw : ¬ V a) : gR τ a k = gR σ a k := (h a ha k).2 hw
/-- a function run through the first numbers -/
def nfold {α : Type} (f : Nat → α → α) : Nat → α → α
  | 0, a => a
  | n + 1, a => f n (nfold f n a)
/-- changed at one place -/
def ups {α : Type} (f : Nat → α) (k : Nat) (x : α) : Nat → α := fun j => if j = k then x else f j
theorem ups_s {α : Type} (f : Nat → α) (k : Nat) (x : α) : ups f k x k = x := if_pos rfl
theorem ups_n {α : Type} (f : Nat → α) {k j : Nat} (x : α) (h : j ≠ k) : ups f k x j = f j := if_neg h
abbrev frC : Nat → Nat → Prop := fun a k => a = 28 ∨ a = 29 ∨ a = 30 ∨ (a = 24 ∧ (k = 7 ∨ k = 8))
abbrev frL : Nat → Nat → Prop := fun a k => a = 308 ∨ (188 ≤ a ∧ a < 308) ∨ (a = 172 ∧ k = 12)
abbrev frL2 : Nat → Nat → Prop := fun a k => a = 308 ∨ (188 ≤ a ∧ a < 308) ∨ (a = 172 ∧ k = 12) ∨ a = 186
abbrev frP : Nat → Nat → Prop := fun a k => a = 172 ∧ (k = 18 ∨ k = 19)
abbrev frK : Nat → Nat → Prop := fun a k => a = 308 ∨ (310 ≤ a ∧ a < 430) ∨ (431 ≤ a ∧ a < 556) ∨ (a = 172 ∧ (k = 15 ∨ k = 16 ∨ k = 17 ∨ k = 18 ∨ k = 19 ∨ k = 27))
