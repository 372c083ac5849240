/-! ===== Closing.step: the contract ===== -/
section S8
variable {E : Ev} {σ : Sg} {Q : NO → Sg → Prop} {g : Sg} {c t : Nat}
theorem S_step {a i u : Nat} {D : Int} {told els : List (List Int)} (hL : Lay LC g c t σ) (ha : isCl a) (hT : CloT σ a D told) (hE : CloE σ a D els) (hi : i < els.length) (hu : u < told.length)
    (h1 : ∀ τ els' v, Lay LC g c t τ → OnCl a σ τ → clStep D told els i u = .inr els' → mulL D (els.getD i []) (told.getD u []) = some v → CloE τ a D els' → StepM σ τ a i u els els' v → gI τ a 9 = gI σ a 9 → Q (.inl (some (vi 1))) τ)
    (h0 : ∀ τ k, Lay LC g c t τ → OnCl a σ τ → clStep D told els i u = .inl k → CloE τ a D els → gI τ a 9 = (k : Int) → gI τ a 10 = (i : Int) → gI τ a 11 = (u : Int) → Q (.inl (some (vi 0))) τ) : CC E mX1_step [vr a, vi i, vi u] σ Q := by
  have hx := hE.2.2 i hi
  have hy := hT.2.2.2.2.2 u hu
  have hlen := hE.2.1
  have htl := hT.2.2.2.2.1
  have hD2 := hT.2.1
  have hD5 := hT.2.2.1
  refine C_X1_step (B_X1_step_0 hL ha ⟨⟨by omega, by omega⟩, ⟨by omega, by omega⟩, fun _ => ?_⟩)
  rw [show (i : Int) * 8 = 8 * (i : Int) by omega, show (u : Int) * 8 = 8 * (u : Int) by omega]
  refine S_multiply (k := i) (m := u) (D := D) (X := gd (els.getD i [])) (Y := gd (told.getD u [])) hL ha (by omega) (by omega) hT.1 (by omega) hx.2 hy.2 (ab4 hx.1 hD2) (ab4 hy.1 hD2) (fun τ hLτ hO hz => ?_) (fun τ hLτ hO hz => ?_)
  · refine ⟨hLτ, fun _ => ⟨fun _ _ => ?_, fun h => absurd h (by decide)⟩⟩
    obtain ⟨v, hv, hvz⟩ := mulL_some_of hz
    have hvT := mulL_isT hx.1 hy.1 hv
    have hO6 := OnCl.of6 hO
    have hEτ : CloE τ a D els := hE.same (hO.1 _ _ (by omega)) (fun j => hO.1 _ _ (by omega))
    have e4 : ((i : Int) * 4 + (u : Int)).toNat = 4 * i + u := by omega
    refine S_numberOf hLτ ha (ha.p (k := 5) (by decide)) (by decide) hEτ.1 hEτ.2.1 (fun n hn hr _ => ?_) (fun hr => ?_)
    · have hn2 := (rowIs_iff hEτ hvT.1 hvz hn).mp hr
      have hst : clStep D told els i u = .inr els := by unfold clStep; rw [hv]; exact if_pos (mem_getD.mpr ⟨n, hn, hn2⟩)
      refine ⟨hLτ, fun _ => ⟨fun _ => ⟨⟨by omega, by omega⟩, ⟨by omega, by omega⟩, ⟨by omega, by omega⟩, fun τ10 e10 hL10 => ?_⟩, fun h => absurd h (by omega)⟩⟩
      rw [e4] at e10
      have hI : ∀ b j, b ≠ a + 3 → gI τ10 b j = gI τ b j := fun b j hb => by rw [e10]; exact if_neg (fun h9 => hb h9.1)
      have hO10 : OnCl a τ τ10 := by
        subst e10
        exact ⟨fun b j _ _ h3 _ _ _ => if_neg (fun h9 => h3 h9.1), if_neg (by omega), if_neg (by omega), fun _ _ => rfl, fun _ => rfl, rfl⟩
      refine h1 τ10 els v hL10 (hO6.trans hO10) hst hv (hEτ.same (hI _ _ (by omega)) (fun j => hI _ _ (by omega))) ⟨⟨n, hn, hn2, by rw [e10]; exact if_pos ⟨rfl, rfl⟩⟩, fun j hj => ?_, .inl ⟨rfl, fun j => ?_, fun j => ?_⟩⟩ ?_
      · rw [e10]; exact (if_neg (fun h9 => hj h9.2)).trans (hO.1 _ _ (by omega))
      · rw [hI _ _ (by omega)]; exact hO.1 _ _ (by omega)
      · rw [hI _ _ (by omega)]; exact hO.1 _ _ (by omega)
      · rw [hI _ _ (by omega)]; exact hO.1 _ _ (by omega)
    · have hnm : ¬ v ∈ els := fun hm => by
        obtain ⟨k, hk, hk2⟩ := mem_getD.mp hm
        exact hr k hk ((rowIs_iff hEτ hvT.1 hvz hk).mpr hk2)
      refine ⟨hLτ, fun _ => ⟨fun h => absurd rfl h, fun _ => ⟨fun h _ => ?_, fun h _ => ?_⟩⟩⟩
      · rw [hEτ.1] at h
        have hN : els.length < 120 := by omega
        have hst : clStep D told els i u = .inr (els ++ [v]) := by unfold clStep; rw [hv]; show (if v ∈ els then _ else _) = _; rw [if_neg hnm, if_neg (by omega)]
        refine S_takeNext (N := els.length) hLτ ha hEτ.1 hN (fun ρ hLρ e => ⟨hLρ, ⟨by omega, by omega⟩, ⟨by omega, by omega⟩, ⟨by omega, by omega⟩, fun τ16 e16 hL16 => ?_⟩)
        rw [e4, hEτ.1] at e16
        have hG : ∀ b j, gI τ16 b j = if b = a + 3 ∧ j = 4 * i + u then (els.length : Int) else if b = a ∧ j = 8 then (els.length : Int) + 1 else if b = a + 5 ∧ j = els.length then (u : Int) else if b = a + 4 ∧ j = els.length then (i : Int) else if b = a + 2 ∧ 8 * els.length ≤ j ∧ j < 8 * els.length + 8 then gI τ (a + 6) (0 + (j - 8 * els.length)) else gI τ b j := fun b j => by rw [e16, e]; rfl
        have hO16 : OnCl a τ τ16 := by
          refine ⟨fun b j q1 q2 q3 q4 q5 q6 => by rw [hG]; simp [q1, q2, q3, q4, q5], by rw [hG]; simp, by rw [hG]; simp, fun _ _ => by rw [e16, e]; rfl, fun _ => by rw [e16, e]; rfl, by rw [e16, e]; rfl⟩
        have hl2 : (els ++ [v]).length = els.length + 1 := by simp
        have hgd : ∀ k, k < els.length → (els ++ [v]).getD k [] = els.getD k [] := fun k hk => by
          rw [List.getD_eq_getElem?_getD, List.getD_eq_getElem?_getD, List.getElem?_append_left hk]
        have hgl : (els ++ [v]).getD els.length [] = v := by
          rw [List.getD_eq_getElem?_getD, List.getElem?_append_right (Nat.le_refl _)]; simp
        refine h1 τ16 (els ++ [v]) v hL16 (hO6.trans hO16) hst hv ⟨by rw [hG, hl2]; simp, by omega, fun k hk => ?_⟩ ⟨⟨els.length, by omega, hgl, by rw [hG]; simp⟩, fun j hj => ?_, .inr ⟨rfl, by rw [hG]; simp, by rw [hG]; simp, fun j hj => ⟨?_, ?_⟩⟩⟩ ?_
        · rw [hl2] at hk
          by_cases hk2 : k = els.length
          · subst hk2
            rw [hgl]
            refine ⟨hvT, fun j hj => ?_⟩
            rw [hG, if_neg (by omega), if_neg (by omega), if_neg (by omega), if_neg (by omega), if_pos (by omega), hvz j hj]
            congr 1
            omega
          · rw [hgd k (by omega)]
            refine ⟨(hEτ.2.2 k (by omega)).1, fun j hj => ?_⟩
            rw [hG, if_neg (by omega), if_neg (by omega), if_neg (by omega), if_neg (by omega), if_neg (by omega)]
            exact (hEτ.2.2 k (by omega)).2 j hj
        · rw [hG, if_neg (by omega), if_neg (by omega), if_neg (by omega), if_neg (by omega), if_neg (by omega)]; exact hO.1 _ _ (by omega)
        · rw [hG, if_neg (by omega), if_neg (by omega), if_neg (by omega), if_neg (by omega), if_neg (by omega)]; exact hO.1 _ _ (by omega)
        · rw [hG, if_neg (by omega), if_neg (by omega), if_neg (by omega), if_neg (by omega), if_neg (by omega)]; exact hO.1 _ _ (by omega)
        · rw [hG, if_neg (by omega), if_neg (by omega), if_neg (by omega), if_neg (by omega), if_neg (by omega)]; exact hO.1 _ _ (by omega)
      · rw [hEτ.1] at h
        have hst : clStep D told els i u = .inl 2 := by unfold clStep; rw [hv]; show (if v ∈ els then _ else _) = _; rw [if_neg hnm, if_pos (by omega)]
        refine S_fail hLτ ha (fun ρ hLρ e => ⟨hLρ, fun _ => ⟨.inl rfl, fun _ => ?_⟩⟩)
        have hI : ∀ b j, b ≠ a → gI ρ b j = gI τ b j := fun b j hb => by rw [e]; exact (if_neg (fun h9 => hb h9.1)).trans ((if_neg (fun h9 => hb h9.1)).trans (if_neg (fun h9 => hb h9.1)))
        have hOρ : OnCl a τ ρ := by
          subst e
          exact ⟨fun b j h1 _ _ _ _ _ => hI b j h1, by simp [gI_sI], by simp [gI_sI], fun _ _ => rfl, fun _ => rfl, rfl⟩
        exact h0 ρ 2 hLρ (hO6.trans hOρ) hst (hEτ.same (by rw [e]; simp [gI_sI]) (fun j => hI _ _ (by omega))) (by rw [e]; simp [gI_sI]) (by rw [e]; simp [gI_sI]) (by rw [e]; simp [gI_sI])
  · refine ⟨hLτ, fun _ => ⟨fun h => absurd rfl h, fun _ _ => ?_⟩⟩
    have hn := mulL_none hz
    have hO6 := OnCl.of6 hO
    have hEτ : CloE τ a D els := hE.same (hO.1 _ _ (by omega)) (fun j => hO.1 _ _ (by omega))
    refine S_fail hLτ ha (fun ρ hLρ e => ⟨hLρ, fun _ => ⟨.inl rfl, fun _ => ?_⟩⟩)
    have hI : ∀ b j, b ≠ a → gI ρ b j = gI τ b j := fun b j hb => by rw [e]; exact (if_neg (fun h9 => hb h9.1)).trans ((if_neg (fun h9 => hb h9.1)).trans (if_neg (fun h9 => hb h9.1)))
    have hOρ : OnCl a τ ρ := by
      subst e
      exact ⟨fun b j h1 _ _ _ _ _ => hI b j h1, by simp [gI_sI], by simp [gI_sI], fun _ _ => rfl, fun _ => rfl, rfl⟩
    refine h0 ρ 1 hLρ (hO6.trans hOρ) (by unfold clStep; rw [hn]) (hEτ.same (by rw [e]; simp [gI_sI]) (fun j => hI _ _ (by omega))) (by rw [e]; simp [gI_sI]) (by rw [e]; simp [gI_sI]) (by rw [e]; simp [gI_sI])
end S8
