/-! ===== what a closing is: elements in order, all products by told ones, where each came from ===== -/
def Clo (D : Int) (told els : List (List Int)) : Prop :=
  els.length ≤ 120 ∧ 0 < els.length ∧ els.getD 0 [] = oneL ∧ els.Nodup ∧ (∀ k, k < els.length → isTL D (els.getD k [])) ∧
  (∀ k u, k < els.length → u < told.length → ∃ m, m < els.length ∧ mulL D (els.getD k []) (told.getD u []) = some (els.getD m [])) ∧
  (∀ l, 0 < l → l < els.length → ∃ k u, k < l ∧ u < told.length ∧ mulL D (els.getD k []) (told.getD u []) = some (els.getD l []))
theorem getD_app9 {l m : List (List Int)} {k : Nat} (h : k < l.length) : (l ++ m).getD k [] = l.getD k [] := by
  rw [List.getD_eq_getElem?_getD, List.getD_eq_getElem?_getD, List.getElem?_append_left h]
theorem getD_last9 {l : List (List Int)} {v : List Int} : (l ++ [v]).getD l.length [] = v := by
  rw [List.getD_eq_getElem?_getD, List.getElem?_append_right (Nat.le_refl _), Nat.sub_self]; rfl
/-- on the way -/
def CloI (D : Int) (told els : List (List Int)) (i u : Nat) : Prop :=
  els.length ≤ 120 ∧ 0 < els.length ∧ els.getD 0 [] = oneL ∧ els.Nodup ∧ (∀ k, k < els.length → isTL D (els.getD k [])) ∧
  (∀ k w, k < els.length → w < told.length → (k < i ∨ (k = i ∧ w < u)) → ∃ m, m < els.length ∧ mulL D (els.getD k []) (told.getD w []) = some (els.getD m [])) ∧
  (∀ l, 0 < l → l < els.length → ∃ k w, k < l ∧ w < told.length ∧ mulL D (els.getD k []) (told.getD w []) = some (els.getD l []))
theorem clRun_ok {D : Int} {told : List (List Int)} (ht : ∀ u, u < told.length → isTL D (told.getD u [])) : ∀ (f : Nat) (els : List (List Int)) (i u : Nat) (r : List (List Int)), CloI D told els i u → clRun D told f els i u = some (.inr r) → Clo D told r := by
  intro f
  induction f with
  | zero => intro els i u r _ h; cases h
  | succ f ih =>
    intro els i u r hI h
    obtain ⟨h1, h2, h3, h4, h5, h6, h7⟩ := hI
    unfold clRun at h
    split at h
    · rename_i hi
      cases h
      exact ⟨h1, h2, h3, h4, h5, fun k w hk hw => h6 k w hk hw (.inl (by omega)), h7⟩
    · rename_i hi
      split at h
      · rename_i hu
        exact ih els (i + 1) 0 r ⟨h1, h2, h3, h4, h5, fun k w hk hw hkw => h6 k w hk hw (by omega), h7⟩ h
      · rename_i hu
        split at h
        · cases h
        · rename_i els' hst
          refine ih els' i (u + 1) r ?_ h
          unfold clStep at hst
          split at hst
          · cases hst
          · rename_i v hv
            have hvT := mulL_isT (h5 i (by omega)) (ht u (by omega)) hv
            split at hst
            · rename_i hm
              cases hst
              obtain ⟨n, hn, hn2⟩ := mem_getD.mp hm
              refine ⟨h1, h2, h3, h4, h5, fun k w hk hw hkw => ?_, h7⟩
              by_cases he : k = i ∧ w = u
              · obtain ⟨rfl, rfl⟩ := he
                exact ⟨n, hn, by rw [hn2]; exact hv⟩
              · exact h6 k w hk hw (by omega)
            · rename_i hm
              split at hst
              · cases hst
              · rename_i hl
                cases hst
                have hlen : (els ++ [v]).length = els.length + 1 := by simp
                refine ⟨by omega, by omega, by rw [getD_app9 h2]; exact h3, ?_, fun k hk => ?_, fun k w hk hw hkw => ?_, fun l hl1 hl2 => ?_⟩
                · rw [List.nodup_append]
                  refine ⟨h4, by simp, fun a ha b hb => ?_⟩
                  rw [List.mem_singleton] at hb
                  subst hb
                  exact fun e => hm (e ▸ ha)
                · by_cases hk2 : k < els.length
                  · rw [getD_app9 hk2]; exact h5 k hk2
                  · have : k = els.length := by omega
                    subst this
                    rw [getD_last9]; exact hvT
                · have hkl : k < els.length := by omega
                  by_cases he : k = i ∧ w = u
                  · obtain ⟨rfl, rfl⟩ := he
                    exact ⟨els.length, by omega, by rw [getD_app9 hkl, getD_last9]; exact hv⟩
                  · obtain ⟨m, hm1, hm2⟩ := h6 k w hkl hw (by omega)
                    exact ⟨m, by omega, by rw [getD_app9 hkl, getD_app9 hm1]; exact hm2⟩
                · by_cases hl3 : l < els.length
                  · obtain ⟨k, w, q1, q2, q3⟩ := h7 l hl1 hl3
                    exact ⟨k, w, q1, q2, by rw [getD_app9 (by omega), getD_app9 hl3]; exact q3⟩
                  · have : l = els.length := by omega
                    subst this
                    exact ⟨i, u, by omega, by omega, by rw [getD_app9 (by omega), getD_last9]; exact hv⟩
theorem clos_Clo {D : Int} {told els : List (List Int)} (ht : ∀ u, u < told.length → isTL D (told.getD u [])) (h : clos D told = some (.inr els)) : Clo D told els := by
  refine clRun_ok ht 700 [oneL] 0 0 els ⟨by decide, by decide, rfl, by decide, fun k hk => ?_, fun k w hk hw hkw => absurd hkw (by omega), fun l h1 h2 => absurd h2 (by simp; omega)⟩ h
  have : k = 0 := by simp at hk; omega
  subst this
  exact oneL_isT D
/-! ===== products of turns go together ===== -/
/-- sixteen times, four times the product's numbers -/
def prF (D : Int) (x y : Nat → Int) : Nat → Int := fun j => if j % 2 = 0 then pw D x y (j / 2) else pp x y (j / 2)
theorem prF0 (D : Int) (x y : Nat → Int) : prF D x y 0 = pw D x y 0 := rfl
theorem prF1 (D : Int) (x y : Nat → Int) : prF D x y 1 = pp x y 0 := rfl
theorem prF2 (D : Int) (x y : Nat → Int) : prF D x y 2 = pw D x y 1 := rfl
theorem prF3 (D : Int) (x y : Nat → Int) : prF D x y 3 = pp x y 1 := rfl
theorem prF4 (D : Int) (x y : Nat → Int) : prF D x y 4 = pw D x y 2 := rfl
theorem prF5 (D : Int) (x y : Nat → Int) : prF D x y 5 = pp x y 2 := rfl
theorem prF6 (D : Int) (x y : Nat → Int) : prF D x y 6 = pw D x y 3 := rfl
theorem prF7 (D : Int) (x y : Nat → Int) : prF D x y 7 = pp x y 3 := rfl
theorem pwE0 (D : Int) (x y : Nat → Int) : pw D x y 0 = (x 0 * y 0 + D * x 1 * y 1) - (x 2 * y 2 + D * x 3 * y 3) - (x 4 * y 4 + D * x 5 * y 5) - (x 6 * y 6 + D * x 7 * y 7) := rfl
theorem pwE1 (D : Int) (x y : Nat → Int) : pw D x y 1 = (x 0 * y 2 + D * x 1 * y 3) + (x 2 * y 0 + D * x 3 * y 1) + (x 4 * y 6 + D * x 5 * y 7) - (x 6 * y 4 + D * x 7 * y 5) := rfl
theorem pwE2 (D : Int) (x y : Nat → Int) : pw D x y 2 = (x 0 * y 4 + D * x 1 * y 5) - (x 2 * y 6 + D * x 3 * y 7) + (x 4 * y 0 + D * x 5 * y 1) + (x 6 * y 2 + D * x 7 * y 3) := rfl
theorem pwE3 (D : Int) (x y : Nat → Int) : pw D x y 3 = (x 0 * y 6 + D * x 1 * y 7) + (x 2 * y 4 + D * x 3 * y 5) - (x 4 * y 2 + D * x 5 * y 3) + (x 6 * y 0 + D * x 7 * y 1) := rfl
theorem ppE0 (x y : Nat → Int) : pp x y 0 = (x 0 * y 1 + x 1 * y 0) - (x 2 * y 3 + x 3 * y 2) - (x 4 * y 5 + x 5 * y 4) - (x 6 * y 7 + x 7 * y 6) := rfl
theorem ppE1 (x y : Nat → Int) : pp x y 1 = (x 0 * y 3 + x 1 * y 2) + (x 2 * y 1 + x 3 * y 0) + (x 4 * y 7 + x 5 * y 6) - (x 6 * y 5 + x 7 * y 4) := rfl
theorem ppE2 (x y : Nat → Int) : pp x y 2 = (x 0 * y 5 + x 1 * y 4) - (x 2 * y 7 + x 3 * y 6) + (x 4 * y 1 + x 5 * y 0) + (x 6 * y 3 + x 7 * y 2) := rfl
theorem ppE3 (x y : Nat → Int) : pp x y 3 = (x 0 * y 7 + x 1 * y 6) + (x 2 * y 5 + x 3 * y 4) - (x 4 * y 3 + x 5 * y 2) + (x 6 * y 1 + x 7 * y 0) := rfl
set_option maxHeartbeats 8000000 in
theorem pw_as (D : Int) (x y z : Nat → Int) : ∀ q, q < 4 → pw D (prF D x y) z q = pw D x (prF D y z) q := by
  intro q hq
  have : q = 0 ∨ q = 1 ∨ q = 2 ∨ q = 3 := by omega
  rcases this with rfl | rfl | rfl | rfl
  all_goals simp only [pwE0, pwE1, pwE2, pwE3, ppE0, ppE1, ppE2, ppE3, prF0, prF1, prF2, prF3, prF4, prF5, prF6, prF7]
  all_goals grind
set_option maxHeartbeats 8000000 in
theorem pp_as (D : Int) (x y z : Nat → Int) : ∀ q, q < 4 → pp (prF D x y) z q = pp x (prF D y z) q := by
  intro q hq
  have : q = 0 ∨ q = 1 ∨ q = 2 ∨ q = 3 := by omega
  rcases this with rfl | rfl | rfl | rfl
  all_goals simp only [pwE0, pwE1, pwE2, pwE3, ppE0, ppE1, ppE2, ppE3, prF0, prF1, prF2, prF3, prF4, prF5, prF6, prF7]
  all_goals grind
