/-! ===== who doesn't commute is one of the standard groups ===== -/
def isoS (D : Int) (N : Nat) (m : Nat → Nat → Nat) (t : Nat → P2) (s : P2 × P2 × P2) (G : List (Nat × Bool)) (S : List (Nat × Nat)) : Prop := ISO N m t (G.length + 1) (tabG S G) (fun k => ((ths D s.1 s.2.1 s.2.2 G).getD k d8).1)
section SG7
variable {D : Int} {N : Nat} {m : Nat → Nat → Nat} {t : Nat → P2}
theorem TGd.fin (h : TGd D N m t) {s : P2 × P2 × P2} (hs : hasP N m t s) {G : List (Nat × Bool)} {S : List (Nat × Nat)} {lg : List (P2 × P2 × P2)} (hc : chkMax D s.1 s.2.1 s.2.2 G lg = true) (ho : stdOK D s.1 s.2.1 s.2.2 G S = true) (hl : ∀ c ∈ lg, ¬ hasP N m t c) : isoS D N m t s G S := by
  obtain ⟨x, y, hx, hy, e1, e2, e3⟩ := hs
  exact h.1.iso hx hy e1 e2 e3 ho (h.max hx hy e1 e2 e3 hc hl)
theorem TGd.std2 (h : TGd 2 N m t) {x y : Nat} (hx : x < N) (hy : y < N) (hne : m x y ≠ m y x) : isoS 2 N m t ((0, 0), (0, 0), (0, 0)) sg2_Q8 ss2_Q8 ∨ isoS 2 N m t ((2, 0), (0, 0), (0, 0)) sg2_Q12 ss2_Q12 ∨ isoS 2 N m t ((0, 2), (0, 0), (0, 0)) sg2_Q16 ss2_Q16 ∨ isoS 2 N m t ((2, 0), (2, 0), (0, 0)) sg2_2T ss2_2T ∨ isoS 2 N m t ((0, 2), (2, 0), (0, 0)) sg2_2O ss2_2O := by
  obtain ⟨s, hs, hp⟩ := h.std ci2 hx hy hne
  by_cases h4 : hasP N m t ((0, 2), (2, 0), (0, 0))
  · exact .inr (.inr (.inr (.inr (h.fin h4 sm2_2O so2_2O (fun c hc => absurd hc List.not_mem_nil)))))
  by_cases h3 : hasP N m t ((2, 0), (2, 0), (0, 0))
  · exact .inr (.inr (.inr (.inl (h.fin h3 sm2_2T so2_2T (fun c hc => by
      have hc9 : c = ((0, 2), (2, 0), (0, 0)) := by simpa using hc
      rcases hc9 with rfl <;> assumption)))))
  by_cases h2 : hasP N m t ((0, 2), (0, 0), (0, 0))
  · exact .inr (.inr (.inl (h.fin h2 sm2_Q16 so2_Q16 (fun c hc => by
      have hc9 : c = ((2, 0), (2, 0), (0, 0)) ∨ c = ((0, 2), (2, 0), (0, 0)) := by simpa using hc
      rcases hc9 with rfl | rfl <;> assumption))))
  by_cases h1 : hasP N m t ((2, 0), (0, 0), (0, 0))
  · exact .inr (.inl (h.fin h1 sm2_Q12 so2_Q12 (fun c hc => by
      have hc9 : c = ((0, 2), (0, 0), (0, 0)) ∨ c = ((2, 0), (2, 0), (0, 0)) ∨ c = ((0, 2), (2, 0), (0, 0)) := by simpa using hc
      rcases hc9 with rfl | rfl | rfl <;> assumption)))
  by_cases h0 : hasP N m t ((0, 0), (0, 0), (0, 0))
  · exact .inl (h.fin h0 sm2_Q8 so2_Q8 (fun c hc => by
      have hc9 : c = ((2, 0), (0, 0), (0, 0)) ∨ c = ((0, 2), (0, 0), (0, 0)) ∨ c = ((2, 0), (2, 0), (0, 0)) ∨ c = ((0, 2), (2, 0), (0, 0)) := by simpa using hc
      rcases hc9 with rfl | rfl | rfl | rfl <;> assumption))
  exfalso
  have hs9 : s = ((0, 0), (0, 0), (0, 0)) ∨ s = ((2, 0), (0, 0), (0, 0)) ∨ s = ((0, 2), (0, 0), (0, 0)) ∨ s = ((2, 0), (2, 0), (0, 0)) ∨ s = ((0, 2), (2, 0), (0, 0)) := by simpa [STDL] using hs
  rcases hs9 with rfl | rfl | rfl | rfl | rfl <;> contradiction
theorem TGd.std3 (h : TGd 3 N m t) {x y : Nat} (hx : x < N) (hy : y < N) (hne : m x y ≠ m y x) : isoS 3 N m t ((0, 0), (0, 0), (0, 0)) sg3_Q8 ss3_Q8 ∨ isoS 3 N m t ((2, 0), (0, 0), (0, 0)) sg3_Q12 ss3_Q12 ∨ isoS 3 N m t ((0, 2), (0, 0), (0, 0)) sg3_Q24 ss3_Q24 ∨ isoS 3 N m t ((2, 0), (2, 0), (0, 0)) sg3_2T ss3_2T := by
  obtain ⟨s, hs, hp⟩ := h.std ci3 hx hy hne
  by_cases h2 : hasP N m t ((0, 2), (0, 0), (0, 0))
  · exact .inr (.inr (.inl (h.fin h2 sm3_Q24 so3_Q24 (fun c hc => absurd hc List.not_mem_nil))))
  by_cases h3 : hasP N m t ((2, 0), (2, 0), (0, 0))
  · exact .inr (.inr (.inr (h.fin h3 sm3_2T so3_2T (fun c hc => absurd hc List.not_mem_nil))))
  by_cases h1 : hasP N m t ((2, 0), (0, 0), (0, 0))
  · exact .inr (.inl (h.fin h1 sm3_Q12 so3_Q12 (fun c hc => by
      have hc9 : c = ((0, 2), (0, 0), (0, 0)) ∨ c = ((2, 0), (2, 0), (0, 0)) := by simpa using hc
      rcases hc9 with rfl | rfl <;> assumption)))
  by_cases h0 : hasP N m t ((0, 0), (0, 0), (0, 0))
  · exact .inl (h.fin h0 sm3_Q8 so3_Q8 (fun c hc => by
      have hc9 : c = ((2, 0), (0, 0), (0, 0)) ∨ c = ((0, 2), (0, 0), (0, 0)) ∨ c = ((2, 0), (2, 0), (0, 0)) := by simpa using hc
      rcases hc9 with rfl | rfl | rfl <;> assumption))
  exfalso
  have hs9 : s = ((0, 0), (0, 0), (0, 0)) ∨ s = ((2, 0), (0, 0), (0, 0)) ∨ s = ((0, 2), (0, 0), (0, 0)) ∨ s = ((2, 0), (2, 0), (0, 0)) := by simpa [STDL] using hs
  rcases hs9 with rfl | rfl | rfl | rfl <;> contradiction
theorem TGd.std5 (h : TGd 5 N m t) {x y : Nat} (hx : x < N) (hy : y < N) (hne : m x y ≠ m y x) : isoS 5 N m t ((0, 0), (0, 0), (0, 0)) sg5_Q8 ss5_Q8 ∨ isoS 5 N m t ((2, 0), (0, 0), (0, 0)) sg5_Q12 ss5_Q12 ∨ isoS 5 N m t ((1, 1), (0, 0), (0, 0)) sg5_Q20 ss5_Q20 ∨ isoS 5 N m t ((2, 0), (2, 0), (0, 0)) sg5_2T ss5_2T ∨ isoS 5 N m t ((1, 1), (2, 0), (0, 0)) sg5_2I ss5_2I := by
  obtain ⟨s, hs, hp⟩ := h.std ci5 hx hy hne
  by_cases h4 : hasP N m t ((1, 1), (2, 0), (0, 0))
  · exact .inr (.inr (.inr (.inr (h.fin h4 sm5_2I so5_2I (fun c hc => absurd hc List.not_mem_nil)))))
  by_cases h3 : hasP N m t ((2, 0), (2, 0), (0, 0))
  · exact .inr (.inr (.inr (.inl (h.fin h3 sm5_2T so5_2T (fun c hc => by
      have hc9 : c = ((1, 1), (2, 0), (0, 0)) := by simpa using hc
      rcases hc9 with rfl <;> assumption)))))
  by_cases h2 : hasP N m t ((1, 1), (0, 0), (0, 0))
  · exact .inr (.inr (.inl (h.fin h2 sm5_Q20 so5_Q20 (fun c hc => by
      have hc9 : c = ((2, 0), (2, 0), (0, 0)) ∨ c = ((1, 1), (2, 0), (0, 0)) := by simpa using hc
      rcases hc9 with rfl | rfl <;> assumption))))
  by_cases h1 : hasP N m t ((2, 0), (0, 0), (0, 0))
  · exact .inr (.inl (h.fin h1 sm5_Q12 so5_Q12 (fun c hc => by
      have hc9 : c = ((1, 1), (0, 0), (0, 0)) ∨ c = ((2, 0), (2, 0), (0, 0)) ∨ c = ((1, 1), (2, 0), (0, 0)) := by simpa using hc
      rcases hc9 with rfl | rfl | rfl <;> assumption)))
  by_cases h0 : hasP N m t ((0, 0), (0, 0), (0, 0))
  · exact .inl (h.fin h0 sm5_Q8 so5_Q8 (fun c hc => by
      have hc9 : c = ((2, 0), (0, 0), (0, 0)) ∨ c = ((1, 1), (0, 0), (0, 0)) ∨ c = ((2, 0), (2, 0), (0, 0)) ∨ c = ((1, 1), (2, 0), (0, 0)) := by simpa using hc
      rcases hc9 with rfl | rfl | rfl | rfl <;> assumption))
  exfalso
  have hs9 : s = ((0, 0), (0, 0), (0, 0)) ∨ s = ((2, 0), (0, 0), (0, 0)) ∨ s = ((1, 1), (0, 0), (0, 0)) ∨ s = ((2, 0), (2, 0), (0, 0)) ∨ s = ((1, 1), (2, 0), (0, 0)) := by simpa [STDL] using hs
  rcases hs9 with rfl | rfl | rfl | rfl | rfl <;> contradiction
end SG7
