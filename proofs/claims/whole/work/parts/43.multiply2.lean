/-! ===== Closing.multiply, from its head ===== -/
theorem td4 {x : Int} (h : x.tmod 4 = 0) : 4 * x.tdiv 4 = x := by
  have := Int.mul_tdiv_add_tmod x 4
  omega
/-- nothing but the cells at a -/
def On (a : Nat) (σ τ : Sg) : Prop := (∀ b j, b ≠ a → gI τ b j = gI σ b j) ∧ (∀ b j, gR τ b j = gR σ b j) ∧ (∀ b, gS τ b = gS σ b) ∧ gz τ = gz σ
theorem On.refl (a : Nat) (σ : Sg) : On a σ σ := ⟨fun _ _ _ => rfl, fun _ _ => rfl, fun _ => rfl, rfl⟩
theorem On.sI {a : Nat} {σ τ : Sg} (h : On a σ τ) (k : Nat) (x : Int) : On a σ (sI τ a k x) := ⟨fun b j hb => by
    rw [← h.1 b j hb]; exact if_neg (fun h9 => hb h9.1), h.2.1, h.2.2.1, h.2.2.2⟩
section S3
variable {E : Ev} {σ : Sg} {Q : NO → Sg → Prop} {g : Sg} {c t : Nat}
theorem S_multiply {a k m : Nat} {D : Int} {X Y : Nat → Int} (hL : Lay LC g c t σ) (ha : isCl a) (hk : 8 * k + 8 ≤ 960) (hm : 8 * m + 8 ≤ 32) (hD : gI σ a 6 = D) (hD5 : D.natAbs ≤ 5)
    (hX : ∀ j, j < 8 → gI σ (a + 2) (8 * k + j) = X j) (hY : ∀ j, j < 8 → gI σ (a + 1) (8 * m + j) = Y j) (bX : ∀ j, j < 8 → (X j).natAbs ≤ 4) (bY : ∀ j, j < 8 → (Y j).natAbs ≤ 4)
    (h1 : ∀ τ, Lay LC g c t τ → On (a + 6) σ τ → (∀ q, q < 4 → 4 * gI τ (a + 6) (2 * q) = pw D X Y q ∧ 4 * gI τ (a + 6) (2 * q + 1) = pp X Y q) → Q (.inl (some (vi 1))) τ)
    (h0 : ∀ τ, Lay LC g c t τ → On (a + 6) σ τ → (∃ q, q < 4 ∧ ((pw D X Y q).tmod 4 ≠ 0 ∨ (pp X Y q).tmod 4 ≠ 0)) → Q (.inl (some (vi 0))) τ) : CC E mX1_multiply [vr a, vi (8 * k), vi (8 * m)] σ Q := by
  have outer : ∀ (d cc : Nat) (τ : Sg), cc + d = 4 → Lay LC g c t τ → On (a + 6) σ τ → (∀ q, q < cc → 4 * gI τ (a + 6) (2 * q) = pw D X Y q ∧ 4 * gI τ (a + 6) (2 * q + 1) = pp X Y q) →
      GG E mX1_multiply 26 [some (vr a), some (vi (8 * k)), some (vi (8 * m)), some (vi cc), none, none, none, none, none, none, none, none] [] τ 0 0 Q := by
    intro d
    induction d with
    | zero =>
      intro cc τ hcc hLτ hO hz
      refine B_X1_multiply_26 hLτ ha ⟨fun _ _ => h1 τ hLτ hO (fun q hq => hz q (by omega)), fun h => absurd h (by omega)⟩
    | succ d ih =>
      intro cc τ hcc hLτ hO hz
      refine B_X1_multiply_26 hLτ ha ⟨fun h => absurd h (by omega), fun _ _ => ?_⟩
      have hc : cc < 4 := by omega
      have w4 := psW4 D X Y cc hc
      have p4 := psP4 X Y cc hc
      have p1 := psW_ab hD5 bX bY hc 4 (by omega)
      have p2 := psP_ab bX bY hc 4 (by omega)
      rw [w4] at p1
      rw [p4] at p2
      refine mul_in (D := D) (X := X) (Y := Y) hLτ ha hk hm hc (by rw [hO.1 _ _ (by omega)]; exact hD) hD5 (fun j hj => by rw [hO.1 _ _ (by omega)]; exact hX j hj) (fun j hj => by rw [hO.1 _ _ (by omega)]; exact hY j hj) bX bY ?_ 4 0 (by omega)
      rw [w4, p4]
      refine B_X1_multiply_40 hLτ ha ⟨fun _ => ⟨fun h _ => h0 τ hLτ hO ⟨cc, hc, .inl h⟩, fun hw => ⟨fun hp => ?_, fun hp _ => h0 τ hLτ hO ⟨cc, hc, .inr hp⟩⟩⟩, fun h => absurd h (by omega)⟩
      have tw := td4 hw
      have tp := td4 hp
      refine ⟨⟨by omega, by omega⟩, ⟨by omega, by omega⟩, ⟨by omega, by omega⟩, fun τ4 e4 => ⟨⟨by omega, by omega⟩, ⟨by omega, by omega⟩, ⟨by omega, by omega⟩, fun τ8 e8 => ⟨⟨by omega, by omega⟩, fun hL8 => ?_⟩⟩⟩
      have n1 : (2 * (cc : Int)).toNat = 2 * cc := by omega
      have n2 : (2 * (cc : Int) + 1).toNat = 2 * cc + 1 := by omega
      rw [n1] at e4
      rw [n2] at e8
      subst e4 e8
      refine ih (cc + 1) _ (by omega) hL8 ((hO.sI _ _).sI _ _) (fun q hq => ?_)
      simp only [gI_sI]
      by_cases hq2 : q = cc
      · subst hq2
        rw [if_neg (by omega), if_pos (by simp), if_pos (by simp)]
        exact ⟨tw, tp⟩
      · have := hz q (by omega)
        rw [if_neg (by omega), if_neg (by omega), if_neg (by omega), if_neg (by omega)]
        exact this
  have sh2 := ha.s hL (k := 1) (by decide)
  have sh1 := ha.s hL (k := 0) (by decide)
  have b2 := (ha.b (k := 2) (by decide)).1
  have b1 := (ha.b (k := 1) (by decide)).1
  refine C_X1_multiply (B_X1_multiply_0 hL ha (fun _ => S_holdsTurn b2 sh2 (by decide) (by omega) ?_))
  rw [if_pos (by constructor <;> first | omega | (show _ ≤ ((960 : Nat) : Int); omega))]
  refine ⟨hL, fun _ => ⟨fun h => absurd h (by decide), fun _ _ => S_holdsTurn b1 sh1 (by decide) (by omega) ?_⟩⟩
  rw [if_pos (by constructor <;> first | omega | (show _ ≤ ((32 : Nat) : Int); omega))]
  exact ⟨hL, fun _ => ⟨fun _ _ => outer 4 0 σ (by omega) hL (On.refl _ _) (fun q hq => absurd hq (by omega)), fun h => absurd h (by decide)⟩⟩
end S3
