/-! ===== the reference's elimination: a row divided, rows lessened ===== -/
section S9v
variable {E : Ev} {σ : Sg} {Q : NO → Sg → Prop} {g : Sg} {c t : Nat}
theorem fo_119 {p r k : Nat} {y x2 x3 x4 : Int} (hL : Lay LM g c t σ) (hJ : JM σ) (h16 : gI σ 172 16 = (r : Int)) (h18 : gI σ 172 18 = (p : Int)) (h48 : r ≤ 48) (hp : 2 ≤ p ∧ p ≤ 1000) (hk : k < r) (hA : ∀ b, b < r → 0 ≤ gI σ (gR σ 2861 k) b ∧ gI σ (gR σ 2861 k) b < (p : Int)) (hy : 0 ≤ y ∧ y < (p : Int))
    (h : ∀ τ, Lay LM g c t τ → Fr frSh (fun _ => False) σ τ → (∀ b, b < r → gI τ (gR σ 2861 k) b = ovV p (gI σ (gR σ 2861 k) b) y) → (∀ e b, e < 48 → e ≠ k → gI τ (gR σ 2861 e) b = gI σ (gR σ 2861 e) b) → GG E mX12_freeOf 161 [some (vr 172), some (vi k), some (vi x2), some (vi x3), some (vi x4), none, none, none, some (vi 0), none, none] [] τ 0 0 Q) :
    GG E mX12_freeOf 119 [some (vr 172), some (vi k), some (vi x2), some (vi x3), some (vi x4), none, none, some (vi y), some (vi (0 : Nat)), none, none] [] σ 0 0 Q := by
  have rw9 : ∀ e, e < 48 → 2862 ≤ gR σ 2861 e ∧ gR σ 2861 e < 2910 := fun e he => hL.2.2.2.1 (2861, 48, 2862, 2910) (by decide) e he
  have inj : ∀ i j, i < 48 → j < 48 → gR σ 2861 i = gR σ 2861 j → i = j := hJ 2861 (.inl rfl)
  have kk := rw9 k (by omega)
  refine loopU (N := r) (G := fun b τ => GG E mX12_freeOf 119 [some (vr 172), some (vi k), some (vi x2), some (vi x3), some (vi x4), none, none, some (vi y), some (vi b), none, none] [] τ 0 0 Q)
    (P := fun b τ => Lay LM g c t τ ∧ Fr frSh (fun _ => False) σ τ ∧ (∀ i, gI τ (gR σ 2861 k) i = if i < b then ovV p (gI σ (gR σ 2861 k) i) y else gI σ (gR σ 2861 k) i) ∧ ∀ e i, e < 48 → e ≠ k → gI τ (gR σ 2861 e) i = gI σ (gR σ 2861 e) i) ?_ ?_ 0 σ (by omega) ⟨hL, Fr.refl _, fun i => by rw [if_neg (by omega)], fun e i _ _ => rfl⟩
  · rintro b τ hb ⟨hL1, hF, hv, hw⟩ next
    have kR : gR τ 2861 k = gR σ 2861 k := hF.r (by omega) id
    have k16 : gI τ 172 16 = (r : Int) := (hF.i (by omega) (by omega)).trans h16
    have k18 : gI τ 172 18 = (p : Int) := (hF.i (by omega) (by omega)).trans h18
    have cur := hv b
    rw [if_neg (by omega)] at cur
    have hAb := hA b hb
    refine B_X12_freeOf_119 hL1 ?_
    rw [k16, show ((k : Nat) : Int).toNat = k by omega, show ((b : Nat) : Int).toNat = b by omega, kR]
    refine ⟨fun h9 => absurd h9 (by omega), fun _ => ⟨⟨by omega, by omega⟩, fun b2 e2 _ b4 e4 _ => ⟨⟨by omega, by omega⟩, fun _ => ?_⟩⟩⟩
    subst e2 e4
    rw [cur]
    refine M_over hL1 k18 (by omega) (by omega) (by omega) ⟨hL1, fun _ τ9 e9 => ⟨⟨by omega, by omega⟩, fun hL9 => ?_⟩⟩
    have hF9 : Fr frSh (fun _ => False) τ τ9 := by rw [e9]; exact Fr_of1 kk
    have q9 : ∀ x i, gI τ9 x i = if x = gR σ 2861 k ∧ i = b then ovV p (gI σ (gR σ 2861 k) b) y else gI τ x i := fun x i => by rw [e9, gI_sI]
    refine next τ9 ⟨hL9, hF.trans hF9, fun i => ?_, fun e i he hne => ?_⟩
    · rw [q9, hv i]
      by_cases hib : i = b
      · rw [if_pos ⟨rfl, hib⟩, if_pos (by omega), hib]
      · rw [if_neg (fun h9 => hib h9.2)]
        by_cases hlt : i < b
        · rw [if_pos hlt, if_pos (by omega)]
        · rw [if_neg hlt, if_neg (by omega)]
    · rw [q9, if_neg (fun h9 => hne (inj e k he (by omega) h9.1))]
      exact hw e i he hne
  · rintro τ ⟨hL1, hF, hv, hw⟩
    have k16 : gI τ 172 16 = (r : Int) := (hF.i (by omega) (by omega)).trans h16
    refine B_X12_freeOf_119 hL1 ?_
    rw [k16]
    exact ⟨fun _ _ => h τ hL1 hF (fun b hb => by rw [hv b, if_pos hb]) hw, fun h9 => absurd (by omega) h9⟩
/-- one row lessened -/
theorem fo_185 {p r k e : Nat} {z x2 x3 x4 : Int} (hL : Lay LM g c t σ) (hJ : JM σ) (h16 : gI σ 172 16 = (r : Int)) (h18 : gI σ 172 18 = (p : Int)) (h48 : r ≤ 48) (hp : 2 ≤ p ∧ p ≤ 1000) (hk : k < r) (he : e < r) (hne : e ≠ k) (hA : ∀ i b, i < r → b < r → 0 ≤ gI σ (gR σ 2861 i) b ∧ gI σ (gR σ 2861 i) b < (p : Int)) (hz : 0 < z ∧ z < (p : Int))
    (h : ∀ τ, Lay LM g c t τ → Fr frSh (fun _ => False) σ τ → (∀ b, b < r → gI τ (gR σ 2861 e) b = (gI σ (gR σ 2861 e) b - z * gI σ (gR σ 2861 k) b) % (p : Int)) → (∀ i b, i < 48 → i ≠ e → gI τ (gR σ 2861 i) b = gI σ (gR σ 2861 i) b) → GG E mX12_freeOf 161 [some (vr 172), some (vi k), some (vi x2), some (vi x3), some (vi x4), none, none, none, some (vi ((e : Int) + 1)), none, none] [] τ 0 0 Q) :
    GG E mX12_freeOf 185 [some (vr 172), some (vi k), some (vi x2), some (vi x3), some (vi x4), none, none, none, some (vi e), some (vi z), some (vi (0 : Nat))] [] σ 0 0 Q := by
  have rw9 : ∀ e, e < 48 → 2862 ≤ gR σ 2861 e ∧ gR σ 2861 e < 2910 := fun e he => hL.2.2.2.1 (2861, 48, 2862, 2910) (by decide) e he
  have inj : ∀ i j, i < 48 → j < 48 → gR σ 2861 i = gR σ 2861 j → i = j := hJ 2861 (.inl rfl)
  have ke := rw9 e (by omega)
  refine loopU (N := r) (G := fun b τ => GG E mX12_freeOf 185 [some (vr 172), some (vi k), some (vi x2), some (vi x3), some (vi x4), none, none, none, some (vi e), some (vi z), some (vi b)] [] τ 0 0 Q)
    (P := fun b τ => Lay LM g c t τ ∧ Fr frSh (fun _ => False) σ τ ∧ (∀ i, gI τ (gR σ 2861 e) i = if i < b then (gI σ (gR σ 2861 e) i - z * gI σ (gR σ 2861 k) i) % (p : Int) else gI σ (gR σ 2861 e) i) ∧ ∀ i b, i < 48 → i ≠ e → gI τ (gR σ 2861 i) b = gI σ (gR σ 2861 i) b) ?_ ?_ 0 σ (by omega) ⟨hL, Fr.refl _, fun i => by rw [if_neg (by omega)], fun e i _ _ => rfl⟩
  · rintro b τ hb ⟨hL1, hF, hv, hw⟩ next
    have kR : ∀ i, gR τ 2861 i = gR σ 2861 i := fun i => hF.r (by omega) id
    have k16 : gI τ 172 16 = (r : Int) := (hF.i (by omega) (by omega)).trans h16
    have k18 : gI τ 172 18 = (p : Int) := (hF.i (by omega) (by omega)).trans h18
    have cur := hv b
    rw [if_neg (by omega)] at cur
    have curk := hw k b (by omega) (fun h9 => hne h9.symm)
    have a1 := hA e b he hb
    have a2 := hA k b hk hb
    have a3 := m4 (show z.natAbs ≤ 1000 by omega) (show (gI σ (gR σ 2861 k) b).natAbs ≤ 1000 by omega)
    have w1 : wL (z * gI σ (gR σ 2861 k) b) = z * gI σ (gR σ 2861 k) b := wL_id ⟨by omega, by omega⟩
    have w2 : wL (gI σ (gR σ 2861 e) b - z * gI σ (gR σ 2861 k) b) = gI σ (gR σ 2861 e) b - z * gI σ (gR σ 2861 k) b := wL_id ⟨by omega, by omega⟩
    refine B_X12_freeOf_185 hL1 ?_
    rw [k16, show ((k : Nat) : Int).toNat = k by omega, show ((b : Nat) : Int).toNat = b by omega, show ((e : Nat) : Int).toNat = e by omega, kR, kR]
    refine ⟨fun h9 => absurd h9 (by omega), fun _ => ⟨fun h9 => absurd h9 (by omega), fun _ => ⟨fun h9 => absurd h9 (by omega), fun _ => ⟨⟨by omega, by omega⟩, fun b5 e5 _ b7 e7 _ => ⟨⟨by omega, by omega⟩, ⟨by omega, by omega⟩, fun b11 e11 _ v13 e13 _ => ?_⟩⟩⟩⟩⟩
    subst e5 e7 e11
    rw [cur, curk, w1, w2] at e13
    subst e13
    refine M_mod hL1 k18 (by omega) ⟨hL1, fun _ τ16 e16 => ⟨⟨by omega, by omega⟩, fun hL16 => ?_⟩⟩
    have hF16 : Fr frSh (fun _ => False) τ τ16 := by rw [e16]; exact Fr_of1 ke
    have q16 : ∀ x i, gI τ16 x i = if x = gR σ 2861 e ∧ i = b then (gI σ (gR σ 2861 e) b - z * gI σ (gR σ 2861 k) b) % (p : Int) else gI τ x i := fun x i => by rw [e16, gI_sI]
    refine next τ16 ⟨hL16, hF.trans hF16, fun i => ?_, fun i j hi hne2 => ?_⟩
    · rw [q16, hv i]
      by_cases hib : i = b
      · rw [if_pos ⟨rfl, hib⟩, if_pos (by omega), hib]
      · rw [if_neg (fun h9 => hib h9.2)]
        by_cases hlt : i < b
        · rw [if_pos hlt, if_pos (by omega)]
        · rw [if_neg hlt, if_neg (by omega)]
    · rw [q16, if_neg (fun h9 => hne2 (inj i e hi (by omega) h9.1))]
      exact hw i j hi hne2
  · rintro τ ⟨hL1, hF, hv, hw⟩
    have k16 : gI τ 172 16 = (r : Int) := (hF.i (by omega) (by omega)).trans h16
    refine B_X12_freeOf_185 hL1 ?_
    rw [k16]
    exact ⟨fun _ => ⟨⟨by omega, by omega⟩, fun _ => h τ hL1 hF (fun b hb => by rw [hv b, if_pos hb]) hw⟩, fun h9 => absurd (by omega) h9⟩
end S9v
