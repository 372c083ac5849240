/-! ===== Closing.isSame, numberOf ===== -/
section S4
variable {E : Ev} {σ : Sg} {Q : NO → Sg → Prop} {g : Sg} {c t : Nat}
theorem S_isSame {a k b n : Nat} (hL : Lay LC g c t σ) (ha : isCl a) (hk : 8 * k + 8 ≤ 960) (hb : PA LC b n) (hn : 8 ≤ n ∧ n ≤ 65536)
    (hq : ∀ r : Int, (alk (fun j => gI σ (a + 2) (8 * k + j)) (gI σ b) → r = 1) → (¬ alk (fun j => gI σ (a + 2) (8 * k + j)) (gI σ b) → r = 0) → Q (.inl (some (vi r))) σ) : CC E mX1_isSame [vr a, vi (8 * k), vr b] σ Q := by
  refine C_X1_isSame (B_X1_isSame_0 hL ha hb ⟨fun h => absurd h (by omega), fun _ => ⟨⟨by omega, by omega⟩, fun h => absurd h (by omega), fun _ => ⟨by omega, fun _ _ => ?_, fun h => absurd h (by omega)⟩⟩⟩)
  have loop : ∀ (d : Nat) (i : Nat), i + d = 8 → (∀ j, j < i → gI σ (a + 2) (8 * k + j) = gI σ b j) → GG E mX1_isSame 27 [some (vr a), some (vi (8 * k)), some (vr b), some (vi i)] [] σ 0 0 Q := by
    intro d
    induction d with
    | zero =>
      intro i h1 h2
      exact B_X1_isSame_27 hL ha hb ⟨fun _ _ => hq 1 (fun _ => rfl) (fun h9 => absurd (fun j hj => h2 j (by omega)) h9), fun h => absurd h (by omega)⟩
    | succ d ih =>
      intro i h1 h2
      have e1 : ((8 * k : Int) + (i : Int)).toNat = 8 * k + i := by omega
      have e2 : ((i : Int)).toNat = i := by omega
      refine B_X1_isSame_27 hL ha hb ⟨fun h => absurd h (by omega), fun _ => ⟨⟨by omega, by omega⟩, ⟨by omega, by omega⟩, ⟨by omega, by omega⟩, fun h => ⟨⟨by omega, by omega⟩, fun _ => ?_⟩, fun h _ => ?_⟩⟩
      · rw [e1, e2] at h
        refine ih (i + 1) (by omega) (fun j hj => ?_)
        by_cases hj2 : j = i
        · rw [hj2]; exact h
        · exact h2 j (by omega)
      · rw [e1, e2] at h
        exact hq 0 (fun h9 => absurd (h9 i (by omega)) h) (fun _ => rfl)
  exact loop 8 0 (by omega) (fun j hj => absurd hj (by omega))
/-- row k of a closing's elements is v -/
def rowIs (σ : Sg) (a k : Nat) (v : Nat → Int) : Prop := alk (fun j => gI σ (a + 2) (8 * k + j)) v
theorem S_numberOf {a b n N : Nat} (hL : Lay LC g c t σ) (ha : isCl a) (hb : PA LC b n) (hn : 8 ≤ n ∧ n ≤ 65536) (hN : gI σ a 8 = (N : Int)) (hN2 : N ≤ 120)
    (h1 : ∀ k : Nat, k < N → rowIs σ a k (gI σ b) → (∀ j, j < k → ¬ rowIs σ a j (gI σ b)) → Q (.inl (some (vi k))) σ) (h0 : (∀ j, j < N → ¬ rowIs σ a j (gI σ b)) → Q (.inl (some (vi (-1)))) σ) : CC E mX1_numberOf [vr a, vr b] σ Q := by
  refine C_X1_numberOf (B_X1_numberOf_0 hL ha hb (fun _ => ?_))
  have loop : ∀ (d : Nat) (i : Nat), i + d = N → (∀ j, j < i → ¬ rowIs σ a j (gI σ b)) → GG E mX1_numberOf 2 [some (vr a), some (vr b), some (vi i)] [] σ 0 0 Q := by
    intro d
    induction d with
    | zero =>
      intro i hi h2
      exact B_X1_numberOf_2 hL ha hb ⟨fun _ _ => h0 (fun j hj => h2 j (by omega)), fun h => absurd h (by omega)⟩
    | succ d ih =>
      intro i hi h2
      refine B_X1_numberOf_2 hL ha hb ⟨fun h => absurd h (by omega), fun _ => ⟨fun h => absurd h (by omega), fun _ => ⟨⟨by omega, by omega⟩, fun _ => ?_⟩⟩⟩
      have e8 : (i : Int) * 8 = 8 * (i : Int) := by omega
      rw [e8]
      refine S_isSame (k := i) hL ha (by omega) hb hn (fun r y1 y0 => ?_)
      refine ⟨hL, fun _ => ⟨fun hr => ⟨⟨by omega, by omega⟩, fun _ => ih (i + 1) (by omega) (fun j hj => ?_)⟩, fun hr _ => ?_⟩⟩
      · by_cases hj2 : j = i
        · rw [hj2]; intro h9; have := y1 h9; omega
        · exact h2 j (by omega)
      · refine h1 i (by omega) ?_ h2
        by_cases h9 : rowIs σ a i (gI σ b)
        · exact h9
        · exact absurd (y0 h9) hr
  exact loop N 0 (by omega) (fun j hj => absurd hj (by omega))
end S4
