/-! ===== Closing.close ===== -/
theorem oneL_isT (D : Int) : isTL D oneL := by
  refine ⟨rfl, ?_, ?_⟩
  · show (4 * 4 + D * (0 * 0)) + (0 * 0 + D * (0 * 0)) + (0 * 0 + D * (0 * 0)) + (0 * 0 + D * (0 * 0)) = 16
    simp
  · show (4 : Int) * 0 + 0 * 0 + 0 * 0 + 0 * 0 = 0
    simp
theorem OnCl.sI2 {a : Nat} {σ τ : Sg} (h : OnCl a σ τ) (k : Nat) (x : Int) : OnCl a σ (sI τ (a + 2) k x) := by
  refine h.trans ⟨fun b j _ h2 _ _ _ _ => if_neg (fun h9 => h2 h9.1), by simp [gI_sI], by simp [gI_sI], fun _ _ => rfl, fun _ => rfl, rfl⟩
theorem OnCl.sI0 {a : Nat} {σ τ : Sg} (h : OnCl a σ τ) (k : Nat) (x : Int) (hk : k ≠ 6 ∧ k ≠ 7) : OnCl a σ (sI τ a k x) := by
  refine h.trans ⟨fun b j h1 _ _ _ _ _ => if_neg (fun h9 => h1 h9.1), if_neg (fun h9 => hk.1 h9.2.symm), if_neg (fun h9 => hk.2 h9.2.symm), fun _ _ => rfl, fun _ => rfl, rfl⟩
section S10
variable {E : Ev} {σ : Sg} {Q : NO → Sg → Prop} {g : Sg} {c t : Nat}
theorem S_close {a : Nat} {D : Int} {told : List (List Int)} {r : (Nat × Nat × Nat × Nat) ⊕ List (List Int)} (hL : Lay LC g c t σ) (ha : isCl a) (hT : CloT σ a D told) (hr : clos D told = some r) (hq : EndC Q g c t σ a D told r) : CC E mX1_close [vr a] σ Q := by
  have loop : ∀ (d i : Nat) (τ : Sg), i + d = 8 → Lay LC g c t τ → OnCl a σ τ → (∀ j, j < i → gI τ (a + 2) j = gd oneL j) → GG E mX1_close 2 [some (vr a), some (vi i), none] [] τ 0 0 Q := by
    intro d
    induction d with
    | zero =>
      intro i τ hi hLτ hO hz
      refine B_X1_close_2 hLτ ha ⟨fun _ τ1 e1 τ2 e2 hL2 => ?_, fun h => absurd (by omega) h⟩
      subst e1 e2
      refine (close_loop ha hT hq 700 [oneL] 0 0 _ hr hL2 ((hO.sI0 _ _ (by decide)).sI0 _ _ (by decide)) ⟨by simp [gI_sI], by decide, fun k hk => ?_⟩ (fun k w _ _ h => absurd h (by omega)) (fun l h1 h2 => absurd h2 (by simp; omega)) rfl (by decide) (by simp [gI_sI])).1 rfl
      have : k = 0 := by simp at hk; omega
      subst this
      refine ⟨oneL_isT D, fun j hj => ?_⟩
      simp only [gI_sI]
      rw [if_neg (by omega), if_neg (by omega)]
      have := hz j (by omega)
      simpa using this
    | succ d ih =>
      intro i τ hi hLτ hO hz
      have e0 : ((i : Nat) : Int).toNat = i := by omega
      refine B_X1_close_2 hLτ ha ⟨fun h => absurd h (by omega), fun _ => ⟨fun h0 => ⟨⟨by omega, by omega⟩, fun τ4 e4 => ⟨⟨by omega, by omega⟩, fun hL4 => ?_⟩⟩, fun h0 => ⟨⟨by omega, by omega⟩, fun τ4 e4 => ⟨⟨by omega, by omega⟩, fun hL4 => ?_⟩⟩⟩⟩
      · rw [e0] at e4
        subst e4
        refine ih (i + 1) _ (by omega) hL4 (hO.sI2 _ _) (fun j hj => ?_)
        rw [gI_sI]
        by_cases hj2 : j = i
        · subst hj2
          rw [if_pos ⟨rfl, rfl⟩]
          have : j = 1 ∨ j = 2 ∨ j = 3 ∨ j = 4 ∨ j = 5 ∨ j = 6 ∨ j = 7 := by omega
          rcases this with rfl | rfl | rfl | rfl | rfl | rfl | rfl <;> rfl
        · rw [if_neg (fun h => hj2 h.2)]; exact hz j (by omega)
      · rw [e0] at e4
        subst e4
        have hi0 : i = 0 := by omega
        refine ih (i + 1) _ (by omega) hL4 (hO.sI2 _ _) (fun j hj => ?_)
        rw [gI_sI]
        have hj2 : j = i := by omega
        rw [if_pos ⟨rfl, hj2⟩, hj2, hi0]
        rfl
  exact C_X1_close (B_X1_close_0 hL ha (fun _ => loop 8 0 σ (by omega) hL (OnCl.refl _ _) (fun j hj => absurd hj (by omega))))
end S10
