/-! ===== Closing.takeNext, fail ===== -/
section S5
variable {E : Ev} {σ : Sg} {Q : NO → Sg → Prop} {g : Sg} {c t : Nat}
theorem S_takeNext {a N : Nat} {k u : Int} (hL : Lay LC g c t σ) (ha : isCl a) (hN : gI σ a 8 = (N : Int)) (hN2 : N < 120)
    (h : ∀ τ, Lay LC g c t τ → τ = sI (sI (sI (cpI σ (a + 6) 0 (a + 2) (8 * N) 8) (a + 4) N k) (a + 5) N u) a 8 (N + 1) → Q (.inl none) τ) : CC E mX1_takeNext [vr a, vi k, vi u] σ Q := by
  have e1 : ((N : Int) * 8).toNat = 8 * N := by omega
  have e2 : ((N : Int)).toNat = N := by omega
  refine C_X1_takeNext (B_X1_takeNext_0 hL ha ?_)
  rw [hN]
  refine ⟨⟨by omega, by omega⟩, ⟨by omega, by omega⟩, fun τ3 e3 => ?_⟩
  rw [e1] at e3
  have q3 : gI τ3 a 8 = (N : Int) := by rw [e3]; exact (if_neg (by omega)).trans hN
  rw [q3]
  refine ⟨⟨by omega, by omega⟩, fun τ5 e5 => ?_⟩
  rw [e2] at e5
  have q5 : gI τ5 a 8 = (N : Int) := by rw [e5]; exact (if_neg (by omega)).trans q3
  rw [q5]
  refine ⟨⟨by omega, by omega⟩, fun τ7 e7 => ?_⟩
  rw [e2] at e7
  have q7 : gI τ7 a 8 = (N : Int) := by rw [e7]; exact (if_neg (by omega)).trans q5
  rw [q7]
  refine ⟨⟨by omega, by omega⟩, fun τ9 e9 hL9 => h τ9 hL9 ?_⟩
  rw [e9, e7, e5, e3]
end S5
