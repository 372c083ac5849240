/-! ===== Closing.step: contract ===== -/
/-- only a closing's own cells change, and not what it was told nor its root -/
def OnCl (a : Nat) (σ τ : Sg) : Prop := (∀ b j, b ≠ a → b ≠ a + 2 → b ≠ a + 3 → b ≠ a + 4 → b ≠ a + 5 → b ≠ a + 6 → gI τ b j = gI σ b j) ∧ gI τ a 6 = gI σ a 6 ∧ gI τ a 7 = gI σ a 7 ∧ (∀ b j, gR τ b j = gR σ b j) ∧ (∀ b, gS τ b = gS σ b) ∧ gz τ = gz σ
theorem OnCl.refl (a : Nat) (σ : Sg) : OnCl a σ σ := ⟨fun _ _ _ _ _ _ _ _ => rfl, rfl, rfl, fun _ _ => rfl, fun _ => rfl, rfl⟩
theorem OnCl.trans {a : Nat} {σ τ ρ : Sg} (h : OnCl a σ τ) (k : OnCl a τ ρ) : OnCl a σ ρ :=
  ⟨fun b j h1 h2 h3 h4 h5 h6 => (k.1 b j h1 h2 h3 h4 h5 h6).trans (h.1 b j h1 h2 h3 h4 h5 h6), k.2.1.trans h.2.1, k.2.2.1.trans h.2.2.1, fun b j => (k.2.2.2.1 b j).trans (h.2.2.2.1 b j), fun b => (k.2.2.2.2.1 b).trans (h.2.2.2.2.1 b), k.2.2.2.2.2.trans h.2.2.2.2.2⟩
theorem OnCl.of6 {a : Nat} {σ τ : Sg} (h : On (a + 6) σ τ) : OnCl a σ τ := ⟨fun b j _ _ _ _ _ h6 => h.1 b j h6, h.1 a 6 (by omega), h.1 a 7 (by omega), h.2.1, h.2.2.1, h.2.2.2⟩
theorem CloT.on {a : Nat} {σ τ : Sg} {D : Int} {told : List (List Int)} (h : CloT σ a D told) (k : OnCl a σ τ) : CloT τ a D told :=
  ⟨k.2.1.trans h.1, h.2.1, h.2.2.1, k.2.2.1.trans h.2.2.2.1, h.2.2.2.2.1, fun u hu => ⟨(h.2.2.2.2.2 u hu).1, fun j hj => (k.1 _ _ (by omega) (by omega) (by omega) (by omega) (by omega) (by omega)).trans ((h.2.2.2.2.2 u hu).2 j hj)⟩⟩
/-- what a good step leaves: the product's number in the steps, the new one's origin -/
def StepM (σ τ : Sg) (a i u : Nat) (els els' : List (List Int)) (v : List Int) : Prop :=
  (∃ n, n < els'.length ∧ els'.getD n [] = v ∧ gI τ (a + 3) (4 * i + u) = (n : Int)) ∧ (∀ j, j ≠ 4 * i + u → gI τ (a + 3) j = gI σ (a + 3) j) ∧
  ((els' = els ∧ (∀ j, gI τ (a + 4) j = gI σ (a + 4) j) ∧ ∀ j, gI τ (a + 5) j = gI σ (a + 5) j) ∨
   (els' = els ++ [v] ∧ gI τ (a + 4) els.length = (i : Int) ∧ gI τ (a + 5) els.length = (u : Int) ∧ ∀ j, j ≠ els.length → gI τ (a + 4) j = gI σ (a + 4) j ∧ gI τ (a + 5) j = gI σ (a + 5) j))
section S7
variable {E : Ev} {σ : Sg} {Q : NO → Sg → Prop} {g : Sg} {c t : Nat}
theorem CloE.same {a : Nat} {σ τ : Sg} {D : Int} {els : List (List Int)} (h : CloE σ a D els) (h8 : gI τ a 8 = gI σ a 8) (h2 : ∀ j, gI τ (a + 2) j = gI σ (a + 2) j) : CloE τ a D els :=
  ⟨h8.trans h.1, h.2.1, fun k hk => ⟨(h.2.2 k hk).1, fun j hj => (h2 _).trans ((h.2.2 k hk).2 j hj)⟩⟩
theorem rowIs_iff {a : Nat} {D : Int} {els : List (List Int)} {z : Nat → Int} {v : List Int} (h : CloE σ a D els) (hv : v.length = 8) (hz : ∀ j, j < 8 → gd v j = z j) {k : Nat} (hk : k < els.length) : rowIs σ a k z ↔ els.getD k [] = v := by
  have hr := h.2.2 k hk
  constructor
  · intro h1
    refine gd_ext hr.1.1 hv (fun j hj => ?_)
    rw [hz j hj, ← hr.2 j hj]
    exact h1 j hj
  · intro h1 j hj
    show gI σ (a + 2) (8 * k + j) = z j
    rw [hr.2 j hj, h1, hz j hj]
theorem mem_getD {els : List (List Int)} {v : List Int} : v ∈ els ↔ ∃ k, k < els.length ∧ els.getD k [] = v := by
  rw [List.mem_iff_getElem]
  constructor
  · rintro ⟨k, hk, h⟩
    exact ⟨k, hk, by rw [List.getD_eq_getElem?_getD, List.getElem?_eq_getElem hk]; exact h⟩
  · rintro ⟨k, hk, h⟩
    refine ⟨k, hk, ?_⟩
    rw [List.getD_eq_getElem?_getD, List.getElem?_eq_getElem hk] at h
    exact h
theorem ab4 {D : Int} {l : List Int} (h : isTL D l) (hD : 2 ≤ D) : ∀ j, j < 8 → (gd l j).natAbs ≤ 4 := fun j hj => by
  have := h.2.bd (by omega) j hj
  omega
end S7
