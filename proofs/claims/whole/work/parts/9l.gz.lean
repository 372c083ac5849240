/-! ===== how far the heap grows ===== -/
theorem CC.grows {E : Ev} {M : MD} {σ : Sg} {Q : NO → Sg → Prop} {av : List NV} (h : CC E M av σ (fun o ρ => gz σ ≤ gz ρ ∧ gz ρ ≤ gz σ + dC M → Q o ρ)) : CC E M av σ Q := by
  intro p e he h1 h2 s m args below h3 h4 h5 h6
  obtain ⟨n, o, k1, k2, k3, k4⟩ := h p e he h1 h2 s m args below h3 h4 h5 h6
  have hz : s.heap.size + 16 = eB E + gz σ := by
    have := h5.2.2.1.2.2.1
    omega
  refine ⟨n, o, k1, k2, k3, ?_⟩
  rcases k4 with ⟨⟨v, σ', e1, e2, e3, e4⟩, L, k5, k6⟩ | ⟨q, e1, N, ce, L, ⟨k, σ', f1, f2, f3, f4⟩, g1, g2, g3, g4, g5, g6⟩
  · have a1 := k5.2.2.2.1
    have a2 := k5.2.2.2.2.1
    have a3 := e3.2.2.1
    have b1 : s.heap.size ≤ (stepsAlone p.tables e n s).heap.size := a1
    have b2 : (stepsAlone p.tables e n s).heap.size ≤ s.heap.size + dC M := a2
    exact .inl ⟨⟨v, σ', e1, e2 ⟨by omega, by omega⟩, e3, e4⟩, L, k5, k6⟩
  · have a1 := g5.2.1
    have a2 := g5.2.2.1
    have a3 := f4.2.2.1
    have b1 : s.heap.size ≤ (stepsAlone p.tables e n s).heap.size := a1
    have b2 : (stepsAlone p.tables e n s).heap.size ≤ s.heap.size + dC M := a2
    exact .inr ⟨q, e1, N, ce, L, ⟨k, σ', f1, f2, f3 ⟨by omega, by omega⟩, f4⟩, g1, g2, g3, g4, g5, g6⟩
