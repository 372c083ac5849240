/-! ===== Closing.close: the loops ===== -/
section S9
variable {E : Ev} {σ : Sg} {Q : NO → Sg → Prop} {g : Sg} {c t : Nat}
/-- how close ends -/
def EndC (Q : NO → Sg → Prop) (g : Sg) (c t : Nat) (σ : Sg) (a : Nat) (D : Int) (told : List (List Int)) : (Nat × Nat × Nat × Nat) ⊕ List (List Int) → Prop
  | .inr els => ∀ τ, Lay LC g c t τ → OnCl a σ τ → CloE τ a D els → Tab τ a D told els els.length 0 → Org τ a D told els → els.getD 0 [] = oneL → gI τ a 9 = 0 → Q (.inl (some (vi 1))) τ
  | .inl (k, n, i, u) => ∀ τ, Lay LC g c t τ → OnCl a σ τ → gI τ a 8 = (n : Int) → gI τ a 9 = (k : Int) → gI τ a 10 = (i : Int) → gI τ a 11 = (u : Int) → Q (.inl (some (vi 0))) τ
theorem close_loop {a : Nat} {D : Int} {told : List (List Int)} (ha : isCl a) (hT : CloT σ a D told) {r : (Nat × Nat × Nat × Nat) ⊕ List (List Int)} (hq : EndC Q g c t σ a D told r) :
    ∀ (f : Nat) (els : List (List Int)) (i u : Nat) (τ : Sg), clRun D told f els i u = some r → Lay LC g c t τ → OnCl a σ τ → CloE τ a D els → Tab τ a D told els i u → Org τ a D told els → els.getD 0 [] = oneL → 0 < els.length → gI τ a 9 = 0 →
      (u = 0 → GG E mX1_close 41 [some (vr a), some (vi i), none] [] τ 0 0 Q) ∧ (i < els.length → GG E mX1_close 57 [some (vr a), some (vi i), some (vi u)] [] τ 0 0 Q) := by
  intro f
  induction f with
  | zero => intro els i u τ h; cases h
  | succ f ih =>
    intro els i u τ hr hL hO hE hTb hOr h1 hpos h9
    have hTτ := hT.on hO
    have hlen := hE.2.1
    have ht4 := hT.2.2.2.2.1
    have h57 : i < els.length → GG E mX1_close 57 [some (vr a), some (vi i), some (vi u)] [] τ 0 0 Q := by
      intro hi
      unfold clRun at hr
      rw [if_neg (by omega)] at hr
      refine B_X1_close_57 hL ha ?_
      rw [hTτ.2.2.2.1]
      by_cases hu : told.length ≤ u
      · rw [if_pos hu] at hr
        refine ⟨fun _ => ⟨⟨by omega, by omega⟩, fun _ => ?_⟩, fun h => absurd (by omega) h⟩
        exact (ih els (i + 1) 0 τ hr hL hO hE (fun k w hk hw hkw => hTb k w hk hw (by omega)) hOr h1 hpos h9).1 rfl
      · rw [if_neg hu] at hr
        refine ⟨fun h => absurd h (by omega), fun _ => ⟨fun h => absurd h (by omega), fun _ _ => ?_⟩⟩
        refine S_step hL ha hTτ hE hi (by omega) (fun ρ els' v hLρ hOρ hst hv hEρ hSm h9ρ => ?_) (fun ρ k hLρ hOρ hst hEρ q9 q10 q11 => ?_)
        · rw [hst] at hr
          refine ⟨hLρ, fun _ => ⟨fun _ => ⟨⟨by omega, by omega⟩, fun _ => ?_⟩, fun h => absurd h (by decide)⟩⟩
          have hle : els.length ≤ els'.length := (clStep_len hst hlen).2
          have h0' : els'.getD 0 [] = oneL := by
            rcases hSm.2.2 with h | h
            · rw [h.1]; exact h1
            · rw [h.1, getD_app hpos]; exact h1
          have hst2 := step_tab hi (by omega) ht4 hv hSm hTb hOr
          exact (ih els' i (u + 1) ρ hr hLρ (hO.trans hOρ) hEρ hst2.1 hst2.2 h0' (by omega) (h9ρ.trans h9)).2 (by omega)
        · rw [hst] at hr
          cases hr
          refine ⟨hLρ, fun _ => ⟨fun h => absurd rfl h, fun _ _ => hq ρ hLρ (hO.trans hOρ) hEρ.1 q9 q10 q11⟩⟩
    refine ⟨fun hu0 => ?_, h57⟩
    subst hu0
    refine B_X1_close_41 hL ha ?_
    rw [hE.1]
    by_cases hi : els.length ≤ i
    · refine ⟨fun _ _ => ?_, fun h => absurd (by omega) h⟩
      unfold clRun at hr
      rw [if_pos hi] at hr
      cases hr
      exact hq τ hL hO hE (fun k w hk hw hkw => hTb k w hk hw (by omega)) hOr h1 h9
    · exact ⟨fun h => absurd h (by omega), fun _ => ⟨fun h => absurd h (by omega), fun _ _ => h57 (by omega)⟩⟩
end S9
