/-! ===== the reference's elimination: a pivot sought, rows exchanged ===== -/
section S9x
variable {E : Ev} {σ : Sg} {Q : NO → Sg → Prop} {g : Sg} {c t : Nat}
theorem fo_21 {r k col : Nat} {x2 x3 : Int} (hL : Lay LM g c t σ) (h16 : gI σ 172 16 = (r : Int)) (h48 : r ≤ 48) (hk : k ≤ r) (hc : col < r)
    (h : ∀ q : Nat, k ≤ q → q ≤ r → (∀ e, k ≤ e → e < q → gI σ (gR σ 2861 e) col = 0) → (q < r → gI σ (gR σ 2861 q) col ≠ 0) → GG E mX12_freeOf 49 [some (vr 172), some (vi k), some (vi x2), some (vi x3), some (vi col), some (vi q), none, none, none, none, none] [] σ 0 0 Q) :
    GG E mX12_freeOf 21 [some (vr 172), some (vi k), some (vi x2), some (vi x3), some (vi col), some (vi k), none, none, none, none, none] [] σ 0 0 Q := by
  refine loopU (N := r) (G := fun q τ => GG E mX12_freeOf 21 [some (vr 172), some (vi k), some (vi x2), some (vi x3), some (vi col), some (vi q), none, none, none, none, none] [] τ 0 0 Q)
    (P := fun q τ => τ = σ ∧ k ≤ q ∧ ∀ e, k ≤ e → e < q → gI σ (gR σ 2861 e) col = 0) ?_ ?_ k σ hk ⟨rfl, Nat.le_refl _, fun e h1 h2 => absurd h2 (by omega)⟩
  · rintro q τ hq ⟨rfl, hkq, hz⟩ next
    refine B_X12_freeOf_21 hL ?_
    rw [h16, show ((q : Nat) : Int).toNat = q by omega, show ((col : Nat) : Int).toNat = col by omega]
    refine ⟨fun h9 => absurd h9 (by omega), fun _ => ⟨⟨by omega, by omega⟩, fun b2 e2 _ => ⟨⟨by omega, by omega⟩, fun hne _ => ?_, fun he => ⟨⟨by omega, by omega⟩, fun _ => next τ ⟨rfl, by omega, fun e h1 h2 => ?_⟩⟩⟩⟩⟩
    · subst e2
      exact h q hkq (by omega) hz (fun _ => hne)
    · subst e2
      by_cases heq : e = q
      · rw [heq]; exact he
      · exact hz e h1 (by omega)
  · rintro τ ⟨rfl, hkq, hz⟩
    refine B_X12_freeOf_21 hL ?_
    rw [h16]
    exact ⟨fun _ _ => h r hkq (Nat.le_refl _) hz (fun h9 => absurd h9 (by omega)), fun h9 => absurd (by omega) h9⟩
/-- where a row lies after two have changed places -/
def swI (k q e : Nat) : Nat := if e = k then q else if e = q then k else e
theorem swI_lt {k q e n : Nat} (hk : k < n) (hq : q < n) (he : e < n) : swI k q e < n := by unfold swI; split; exact hq; split; exact hk; exact he
theorem swI_inj {k q i j : Nat} (h : swI k q i = swI k q j) : i = j := by
  unfold swI at h
  by_cases h1 : i = k <;> by_cases h2 : j = k <;> by_cases h3 : i = q <;> by_cases h4 : j = q <;> simp_all
theorem fo_49 {r k col q : Nat} {x2 x3 : Int} (hL : Lay LM g c t σ) (hJ : JM σ) (h16 : gI σ 172 16 = (r : Int)) (h48 : r ≤ 48) (hk : k < r) (hq : q < r) (hc : col < r)
    (h : ∀ τ, Lay LM g c t τ → JM τ → Fr (fun a _ => a = 2912) (fun a => a = 2861) σ τ → (∀ e, gR τ 2861 e = gR σ 2861 (swI k q e)) → (∀ j, gI τ 2912 j = if j = col then -1 else gI σ 2912 j) → GG E mX12_freeOf 119 [some (vr 172), some (vi k), some (vi x2), some (vi x3), some (vi col), none, none, some (vi (gI σ (gR σ 2861 q) col)), some (vi 0), none, none] [] τ 0 0 Q) :
    GG E mX12_freeOf 49 [some (vr 172), some (vi k), some (vi x2), some (vi x3), some (vi col), some (vi q), none, none, none, none, none] [] σ 0 0 Q := by
  have rw9 : ∀ e, e < 48 → 2862 ≤ gR σ 2861 e ∧ gR σ 2861 e < 2910 := fun e he => hL.2.2.2.1 (2861, 48, 2862, 2910) (by decide) e he
  refine B_X12_freeOf_49 hL ?_
  rw [show ((q : Nat) : Int).toNat = q by omega, show ((col : Nat) : Int).toNat = col by omega, show ((k : Nat) : Int).toNat = k by omega]
  refine ⟨⟨by omega, by omega⟩, fun τ2 e2 => ?_⟩
  have k16 : gI τ2 172 16 = (r : Int) := by rw [e2, gI_sI, if_neg (by omega)]; exact h16
  have kR : ∀ a i, gR τ2 a i = gR σ a i := fun a i => by rw [e2]; rfl
  have kI : ∀ a i, gI τ2 a i = if a = 2912 ∧ i = col then -1 else gI σ a i := fun a i => by rw [e2, gI_sI]
  rw [k16]
  refine ⟨fun _ => ⟨⟨by omega, by omega⟩, fun b4 e4 _ => ⟨⟨by omega, by omega⟩, fun b7 e7 _ τ9 e9 τ10 e10 b11 e11 _ hL10 => ?_⟩⟩, fun h9 => absurd h9 (by omega)⟩
  rw [kR] at e4 e7
  subst e4 e7
  have R10 : ∀ a i, gR τ10 a i = if a = 2861 then gR σ 2861 (swI k q i) else gR σ a i := fun a i => by
    rw [e10, e9]
    show (if a = 2861 ∧ i = k then gR σ 2861 q else if a = 2861 ∧ i = q then gR σ 2861 k else τ2.2.1 a i) = _
    have := kR a i
    unfold gR at this
    rw [this]
    by_cases ha : a = 2861
    · subst ha
      rw [if_pos rfl]
      unfold swI gR
      by_cases h1 : i = k
      · rw [if_pos ⟨rfl, h1⟩, if_pos h1]
      · rw [if_neg (fun h9 => h1 h9.2), if_neg h1]
        by_cases h2 : i = q
        · rw [if_pos ⟨rfl, h2⟩, if_pos h2]
        · rw [if_neg (fun h9 => h2 h9.2), if_neg h2]
    · rw [if_neg (fun h9 => ha h9.1), if_neg (fun h9 => ha h9.1), if_neg ha]; rfl
  have I10 : ∀ a i, gI τ10 a i = gI τ2 a i := fun a i => by rw [e10, e9]; rfl
  have e11' : b11 = gR σ 2861 q := by
    rw [e11, R10, if_pos rfl]
    unfold swI
    rw [if_pos rfl]
  have hv : gI τ10 b11 col = gI σ (gR σ 2861 q) col := by
    have := rw9 q (by omega)
    rw [I10, e11', kI, if_neg (by omega)]
  rw [hv]
  refine h τ10 hL10 (fun a ha i j hi hj e => ?_) (fun a ha j => ⟨fun hw => by rw [I10, kI, if_neg (fun h9 => hw h9.1)], fun hv9 => by rw [R10, if_neg hv9]⟩) (fun e => by rw [R10, if_pos rfl]) (fun j => ?_)
  · rw [R10, R10] at e
    by_cases ha1 : a = 2861
    · rw [if_pos ha1, if_pos ha1] at e
      exact swI_inj (hJ 2861 (.inl rfl) _ _ (swI_lt (by omega) (by omega) hi) (swI_lt (by omega) (by omega) hj) e)
    · rw [if_neg ha1, if_neg ha1] at e
      exact hJ a ha i j hi hj e
  · rw [I10, kI]
    by_cases hj : j = col
    · rw [if_pos ⟨rfl, hj⟩, if_pos hj]
    · rw [if_neg (fun h9 => hj h9.2), if_neg hj]
end S9x
