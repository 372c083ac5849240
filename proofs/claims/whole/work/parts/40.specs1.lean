/-! ===== contracts of small methods ===== -/
section S1
variable {E : Ev} {σ : Sg} {Q : NO → Sg → Prop}
theorem S_at {a n : Nat} {x : Int} (h16 : 16 ≤ a) (hs : gS σ a = (20, n)) (hn : n ≤ 2147483647) (hq : Q (.inl (some (vi (if 0 ≤ x ∧ x < (n : Int) then gI σ a x.toNat else 0)))) σ) : CC E mX11_at [vr a, vi x] σ Q := by
  refine C_X11_at (B_X11_at_0 ⟨fun h => ?_, fun h => ⟨okN_of hs h16 (by decide) hn, fun h2 => ?_, fun h2 => ⟨okA_of hs h16 ?_, ?_⟩⟩⟩)
  · rw [if_neg (by omega)] at hq; exact hq
  · rw [hs] at h2; rw [if_neg (by intro h3; exact absurd h3.2 (by simpa using h2))] at hq; exact hq
  · rw [hs] at h2; simp only [Int.not_le] at h2; omega
  · rw [hs] at h2; simp only [Int.not_le] at h2; rw [if_pos (by omega)] at hq; exact hq
theorem S_holdsTurn {a n : Nat} {x : Int} (h16 : 16 ≤ a) (hs : gS σ a = (20, n)) (hn : n ≤ 65536) (hx : -2147483648 ≤ x ∧ x ≤ 65536) (hq : Q (.inl (some (vi (if 0 ≤ x ∧ x + 8 ≤ (n : Int) then 1 else 0)))) σ) : CC E mX1_holdsTurn [vr a, vi x] σ Q := by
  refine C_X1_holdsTurn (B_X1_holdsTurn_0 ⟨fun h => ?_, fun h => ⟨⟨by omega, by omega⟩, okN_of hs h16 (by decide) (by omega), fun h2 => ?_, fun h2 => ?_⟩⟩)
  · rw [if_neg (by omega)] at hq; exact hq
  · rw [hs] at h2; simp only at h2; rw [if_neg (by omega)] at hq; exact hq
  · rw [hs] at h2; simp only at h2; rw [if_pos (by omega)] at hq; exact hq
/-- two rows of eight are alike -/
def alk (f g : Nat → Int) : Prop := ∀ k, k < 8 → f k = g k
theorem S_areAlike {a b n m : Nat} (ha : 16 ≤ a ∧ gS σ a = (20, n) ∧ 8 ≤ n) (hb : 16 ≤ b ∧ gS σ b = (20, m) ∧ 8 ≤ m) (hq : ∀ r : Int, (alk (gI σ a) (gI σ b) → r = 1) → (¬ alk (gI σ a) (gI σ b) → r = 0) → Q (.inl (some (vi r))) σ) : CC E mX12_areAlike [vr a, vr b] σ Q := by
  refine C_X12_areAlike (B_X12_areAlike_0 ?_)
  have loop : ∀ (d : Nat) (i : Int), 0 ≤ i → i + d = 8 → (∀ k : Nat, (k : Int) < i → gI σ a k = gI σ b k) → GG E mX12_areAlike 2 [some (vr a), some (vr b), some (vi i)] [] σ 0 0 Q := by
    intro d
    induction d with
    | zero =>
      intro i h0 h1 h2
      refine B_X12_areAlike_2 ⟨fun h => hq 1 (fun _ => rfl) (fun h9 => absurd (fun k hk => h2 k (by omega)) h9), fun h => absurd (by omega : 8 ≤ i) h⟩
    | succ d ih =>
      intro i h0 h1 h2
      refine B_X12_areAlike_2 ⟨fun h => absurd h (by omega), fun h => ⟨okA_of ha.2.1 ha.1 (by omega), okA_of hb.2.1 hb.1 (by omega), fun h3 => ⟨⟨by omega, by omega⟩, ih (i + 1) (by omega) (by omega) (fun k hk => ?_)⟩, fun h3 => ?_⟩⟩
      · by_cases hk2 : (k : Int) < i
        · exact h2 k hk2
        · have : k = i.toNat := by omega
          rw [this]; exact h3
      · exact hq 0 (fun h9 => absurd (h9 i.toNat (by omega)) h3) (fun _ => rfl)
  exact loop 8 0 (by omega) (by omega) (fun k hk => by omega)
end S1
