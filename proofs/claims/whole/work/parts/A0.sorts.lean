/-! ===== the reference's order of rows ===== -/
section SA0
variable {E : Ev} {σ : Sg} {Q : NO → Sg → Prop} {g : Sg} {c t : Nat}
/-- a row of ones alone -/
def one9 (r : Nat) (v : Nat → Int) : Prop := ∀ a, a < r → v a = 1
theorem M_isOneAll {r i : Nat} (hL : Lay LM g c t σ) (h16 : gI σ 172 16 = (r : Int)) (h48 : r ≤ 48) (hi : i < 48) (hq : ∀ x : Int, (one9 r (gI σ (gR σ 2913 i)) → x = 1) → (¬ one9 r (gI σ (gR σ 2913 i)) → x = 0) → Q (.inl (some (vi x))) σ) : CC E mX12_isOneAll [vr 172, vi i] σ Q := by
  refine C_X12_isOneAll (B_X12_isOneAll_0 hL (fun _ => ?_))
  refine loopU (N := r) (G := fun a τ => GG E mX12_isOneAll 2 [some (vr 172), some (vi i), some (vi a)] [] τ 0 0 Q) (P := fun a τ => τ = σ ∧ ∀ b, b < a → gI σ (gR σ 2913 i) b = 1) ?_ ?_ 0 σ (by omega) ⟨rfl, fun b hb => absurd hb (by omega)⟩
  · rintro a τ ha ⟨rfl, hz⟩ next
    refine B_X12_isOneAll_2 hL ?_
    rw [h16, show ((a : Nat) : Int).toNat = a by omega, show ((i : Nat) : Int).toNat = i by omega]
    refine ⟨fun h9 => absurd h9 (by omega), fun _ => ⟨⟨by omega, by omega⟩, fun b2 e2 _ => ⟨⟨by omega, by omega⟩, fun he => ⟨⟨by omega, by omega⟩, fun _ => next τ ⟨rfl, fun b hb => ?_⟩⟩, fun hne _ => ?_⟩⟩⟩
    · subst e2
      by_cases hba : b = a
      · rw [hba]; exact he
      · exact hz b (by omega)
    · subst e2
      exact hq 0 (fun h9 => absurd (h9 a ha) hne) (fun _ => rfl)
  · rintro τ ⟨rfl, hz⟩
    refine B_X12_isOneAll_2 hL ?_
    rw [h16]
    exact ⟨fun _ _ => hq 1 (fun _ => rfl) (fun h9 => absurd hz h9), fun h9 => absurd (by omega) h9⟩
end SA0
