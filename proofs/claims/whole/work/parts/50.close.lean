/-! ===== Closing.close: the contract ===== -/
/-- the products by what is told, as far as (i, u) -/
def Tab (τ : Sg) (a : Nat) (D : Int) (told els : List (List Int)) (i u : Nat) : Prop :=
  ∀ k w, k < els.length → w < told.length → (k < i ∨ (k = i ∧ w < u)) → ∃ n, n < els.length ∧ mulL D (els.getD k []) (told.getD w []) = some (els.getD n []) ∧ gI τ (a + 3) (4 * k + w) = (n : Int)
/-- where each element but the first came from -/
def Org (τ : Sg) (a : Nat) (D : Int) (told els : List (List Int)) : Prop :=
  ∀ l, 1 ≤ l → l < els.length → ∃ k w, k < l ∧ w < told.length ∧ gI τ (a + 4) l = ((k : Nat) : Int) ∧ gI τ (a + 5) l = ((w : Nat) : Int) ∧ mulL D (els.getD k []) (told.getD w []) = some (els.getD l [])
theorem getD_app {els : List (List Int)} {v : List Int} {k : Nat} (hk : k < els.length) : (els ++ [v]).getD k [] = els.getD k [] := by
  rw [List.getD_eq_getElem?_getD, List.getD_eq_getElem?_getD, List.getElem?_append_left hk]
theorem getD_last {els : List (List Int)} {v : List Int} : (els ++ [v]).getD els.length [] = v := by
  rw [List.getD_eq_getElem?_getD, List.getElem?_append_right (Nat.le_refl _)]; simp
theorem step_tab {σ τ : Sg} {a i u : Nat} {D : Int} {told els els' : List (List Int)} {v : List Int} (hi : i < els.length) (hu : u < told.length) (ht4 : told.length ≤ 4) (hv : mulL D (els.getD i []) (told.getD u []) = some v)
    (hS : StepM σ τ a i u els els' v) (hT : Tab σ a D told els i u) (hO : Org σ a D told els) : Tab τ a D told els' i (u + 1) ∧ Org τ a D told els' := by
  obtain ⟨⟨n, hn, hnv, hn3⟩, h3, hcase⟩ := hS
  have hle : els.length ≤ els'.length := by
    rcases hcase with h | h
    · rw [h.1]; exact Nat.le_refl _
    · rw [h.1]; simp
  have hg : ∀ k, k < els.length → els'.getD k [] = els.getD k [] := fun k hk => by
    rcases hcase with h | h
    · rw [h.1]
    · rw [h.1]; exact getD_app hk
  constructor
  · intro k w hk hw hkw
    by_cases hkl : k < els.length
    · by_cases he : k = i ∧ w = u
      · obtain ⟨rfl, rfl⟩ := he
        exact ⟨n, hn, by rw [hg _ hkl, hnv]; exact hv, hn3⟩
      · obtain ⟨m, hm, hm2, hm3⟩ := hT k w hkl hw (by omega)
        refine ⟨m, by omega, by rw [hg _ hkl, hg _ hm]; exact hm2, ?_⟩
        rw [h3 _ (by omega)]; exact hm3
    · omega
  · intro l h1 hl
    rcases hcase with h | h
    · obtain ⟨rfl, h4, h5⟩ := h
      obtain ⟨k, w, q1, q2, q3, q4, q5⟩ := hO l h1 hl
      exact ⟨k, w, q1, q2, by rw [h4]; exact q3, by rw [h5]; exact q4, q5⟩
    · obtain ⟨he, h4, h5, h6⟩ := h
      by_cases hll : l < els.length
      · obtain ⟨k, w, q1, q2, q3, q4, q5⟩ := hO l h1 hll
        exact ⟨k, w, q1, q2, by rw [(h6 l (by omega)).1]; exact q3, by rw [(h6 l (by omega)).2]; exact q4, by rw [hg _ (by omega), hg _ hll]; exact q5⟩
      · have : l = els.length := by rw [he] at hl; simp at hl; omega
        subst this
        exact ⟨i, u, hi, hu, h4, h5, by rw [hg _ hi, he, getD_last]; exact hv⟩
