/-! ===== Closing.step: contract ===== -/
/-- only a closing's own cells change, and not what it was told nor its root -/
def OnCl (a : Nat) (σ τ : Sg) : Prop := (∀ b j, b ≠ a → b ≠ a + 2 → b ≠ a + 3 → b ≠ a + 4 → b ≠ a + 5 → b ≠ a + 6 → gI τ b j = gI σ b j) ∧ gI τ a 6 = gI σ a 6 ∧ gI τ a 7 = gI σ a 7 ∧ (∀ b j, gR τ b j = gR σ b j) ∧ (∀ b, gS τ b = gS σ b) ∧ gz τ = gz σ
theorem OnCl.refl (a : Nat) (σ : Sg) : OnCl a σ σ := ⟨fun _ _ _ _ _ _ _ _ => rfl, rfl, rfl, fun _ _ => rfl, fun _ => rfl, rfl⟩
theorem OnCl.trans {a : Nat} {σ τ ρ : Sg} (h : OnCl a σ τ) (k : OnCl a τ ρ) : OnCl a σ ρ :=
  ⟨fun b j h1 h2 h3 h4 h5 h6 => (k.1 b j h1 h2 h3 h4 h5 h6).trans (h.1 b j h1 h2 h3 h4 h5 h6), k.2.1.trans h.2.1, k.2.2.1.trans h.2.2.1, fun b j => (k.2.2.2.1 b j).trans (h.2.2.2.1 b j), fun b => (k.2.2.2.2.1 b).trans (h.2.2.2.2.1 b), k.2.2.2.2.2.trans h.2.2.2.2.2⟩
theorem OnCl.of6 {a : Nat} {σ τ : Sg} (h : On (a + 6) σ τ) : OnCl a σ τ := ⟨fun b j _ _ _ _ _ h6 => h.1 b j h6, h.1 a 6 (by omega), h.1 a 7 (by omega), h.2.1, h.2.2.1, h.2.2.2⟩
theorem CloT.on {a : Nat} {σ τ : Sg} {D : Int} {told : List (List Int)} (h : CloT σ a D told) (k : OnCl a σ τ) : CloT τ a D told :=
  ⟨k.2.1.trans h.1, h.2.1, h.2.2.1, k.2.2.1.trans h.2.2.2.1, h.2.2.2.2.1, fun u hu => ⟨(h.2.2.2.2.2 u hu).1, fun j hj => (k.1 _ _ (by omega) (by omega) (by omega) (by omega) (by omega) (by omega)).trans ((h.2.2.2.2.2 u hu).2 j hj)⟩⟩
