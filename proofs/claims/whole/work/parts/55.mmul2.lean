/-! ===== the reference's multiplies, placeIn, stops ===== -/
section S12
variable {E : Ev} {σ : Sg} {Q : NO → Sg → Prop} {g : Sg} {c t : Nat}
theorem S_multiplies {a b xa ya n m : Nat} {D : Int} {X Y : Nat → Int} (hL : Lay LM g c t σ) (pa : PA LM a n) (pb : PA LM b m) (na : a ≠ 308) (nb : b ≠ 308) (hn : xa + 8 ≤ n ∧ n ≤ 65536) (hm : ya + 8 ≤ m ∧ m ≤ 65536) (hD5 : D.natAbs ≤ 5)
    (hX : ∀ j, j < 8 → gI σ a (xa + j) = X j) (hY : ∀ j, j < 8 → gI σ b (ya + j) = Y j) (bX : ∀ j, j < 8 → (X j).natAbs ≤ 4) (bY : ∀ j, j < 8 → (Y j).natAbs ≤ 4)
    (h1 : ∀ τ, Lay LM g c t τ → On 308 σ τ → (∀ q, q < 4 → 4 * gI τ 308 (2 * q) = pw D X Y q ∧ 4 * gI τ 308 (2 * q + 1) = pp X Y q) → Q (.inl (some (vi 1))) τ)
    (h0 : ∀ τ, Lay LM g c t τ → On 308 σ τ → (∃ q, q < 4 ∧ ((pw D X Y q).tmod 4 ≠ 0 ∨ (pp X Y q).tmod 4 ≠ 0)) → Q (.inl (some (vi 0))) τ) : CC E mX12_multiplies [vr 172, vr a, vi xa, vr b, vi ya, vi D] σ Q := by
  refine C_X12_multiplies (B_X12_multiplies_0 hL pa pb (fun _ => ?_))
  refine loopU (N := 4) (G := fun i τ => GG E mX12_multiplies 3 [some (vr 172), some (vr a), some (vi xa), some (vr b), some (vi ya), some (vi D), some (vi i), none, none, none, none, none, none, none] [] τ 0 0 Q)
    (P := fun i τ => Lay LM g c t τ ∧ On 308 σ τ ∧ ∀ q, q < i → 4 * gI τ 308 (2 * q) = pw D X Y q ∧ 4 * gI τ 308 (2 * q + 1) = pp X Y q) ?_ ?_ 0 σ (by omega) ⟨hL, On.refl _ _, fun q hq => absurd hq (by omega)⟩
  · rintro cc τ hc ⟨hLτ, hO, hz⟩ next
    refine B_X12_multiplies_3 hLτ pa pb ⟨fun h => absurd h (by omega), fun _ => ⟨⟨by omega, by omega⟩, fun _ => ?_⟩⟩
    have w4 := msW4 D X Y cc hc
    have p4 := msP4 X Y cc hc
    have p1 := msW_ab hD5 bX bY hc 4 (by omega)
    have p2 := msP_ab bX bY hc 4 (by omega)
    rw [w4] at p1
    rw [p4] at p2
    have K := mmul_in (E := E) (Q := Q) (cc := cc) (D := D) (X := X) (Y := Y) (xa := xa) (ya := ya) hLτ pa pb hn hm hc hD5 (fun j hj => by rw [hO.1 _ _ na]; exact hX j hj) (fun j hj => by rw [hO.1 _ _ nb]; exact hY j hj) bX bY ?_ 4 0 (by omega)
    · simp only [msW, msP] at K
      rw [show (4 * (cc : Int)) + ((0 : Nat) : Int) = 4 * (cc : Int) by omega] at K
      exact K
    rw [w4, p4]
    refine B_X12_multiplies_21 hLτ pa pb ⟨⟨by omega, by omega⟩, ⟨by omega, by omega⟩, fun _ => ⟨fun h _ => h0 τ hLτ hO ⟨cc, hc, .inl h⟩, fun hw => ⟨fun hp => ?_, fun hp _ => h0 τ hLτ hO ⟨cc, hc, .inr hp⟩⟩⟩, fun h => absurd h (by omega)⟩
    have tw := td4 hw
    have tp := td4 hp
    refine ⟨⟨by omega, by omega⟩, ⟨by omega, by omega⟩, ⟨by omega, by omega⟩, fun τ4 e4 => ⟨⟨by omega, by omega⟩, ⟨by omega, by omega⟩, ⟨by omega, by omega⟩, fun τ8 e8 => ⟨⟨by omega, by omega⟩, fun hL8 => ?_⟩⟩⟩
    have n1 : (2 * (cc : Int)).toNat = 2 * cc := by omega
    have n2 : (2 * (cc : Int) + 1).toNat = 2 * cc + 1 := by omega
    rw [n1] at e4
    rw [n2] at e8
    subst e4 e8
    refine next _ ⟨hL8, (hO.sI _ _).sI _ _, fun q hq => ?_⟩
    simp only [gI_sI]
    by_cases hq2 : q = cc
    · subst hq2
      rw [if_neg (by omega), if_pos (by simp), if_pos (by simp)]
      exact ⟨tw, tp⟩
    · have := hz q (by omega)
      rw [if_neg (by omega), if_neg (by omega), if_neg (by omega), if_neg (by omega)]
      exact this
  · rintro τ ⟨hLτ, hO, hz⟩
    exact B_X12_multiplies_3 hLτ pa pb ⟨fun _ _ => h1 τ hLτ hO hz, fun h => absurd (by omega) h⟩
theorem S_placeIn {a b v N n m w : Nat} (h16 : 16 ≤ a) (hs : gS σ a = (24, n)) (hN : N ≤ n) (hn : n ≤ 65536) (hr : ∀ k, k < N → gR σ a k = b + k) (hb : ∀ k, k < N → 16 ≤ b + k ∧ gS σ (b + k) = (20, m)) (hm : 8 ≤ m) (hv : 16 ≤ v ∧ gS σ v = (20, w) ∧ 8 ≤ w)
    (h1 : ∀ k : Nat, k < N → alk (gI σ (b + k)) (gI σ v) → (∀ j, j < k → ¬ alk (gI σ (b + j)) (gI σ v)) → Q (.inl (some (vi k))) σ) (h0 : (∀ j, j < N → ¬ alk (gI σ (b + j)) (gI σ v)) → Q (.inl (some (vi (-1)))) σ) : CC E mX12_placeIn [vr a, vi N, vr v] σ Q := by
  refine C_X12_placeIn (B_X12_placeIn_0 ?_)
  refine loopU (N := N) (G := fun i τ => GG E mX12_placeIn 2 [some (vr a), some (vi N), some (vr v), some (vi i)] [] τ 0 0 Q) (P := fun i τ => τ = σ ∧ ∀ j, j < i → ¬ alk (gI σ (b + j)) (gI σ v)) ?_ ?_ 0 σ (by omega) ⟨rfl, fun j hj => absurd hj (by omega)⟩
  · rintro i τ hi ⟨rfl, hz⟩ next
    have e : (i : Int).toNat = i := by omega
    refine B_X12_placeIn_2 ⟨fun h => absurd h (by omega), fun _ => ⟨okB_of hs h16 ⟨by omega, by omega⟩, ?_⟩⟩
    rw [e, hr i hi]
    refine S_areAlike ⟨(hb i hi).1, (hb i hi).2, hm⟩ hv (fun r y1 y0 _ => ⟨fun h => ⟨⟨by omega, by omega⟩, next _ ⟨rfl, fun j hj => ?_⟩⟩, fun h => ?_⟩)
    · by_cases hj2 : j = i
      · rw [hj2]; intro h9; have := y1 h9; omega
      · exact hz j (by omega)
    · refine h1 i hi ?_ hz
      by_cases h9 : alk (gI τ (b + i)) (gI τ v)
      · exact h9
      · exact absurd (y0 h9) h
  · rintro τ ⟨rfl, hz⟩
    exact B_X12_placeIn_2 ⟨fun _ => h0 hz, fun h => absurd (by omega) h⟩
theorem S_stops {x1 x2 x3 x4 : Int} (hL : Lay LM g c t σ) (h : ∀ τ, Lay LM g c t τ → τ = sI (sI (sI (sI σ 186 0 x1) 186 1 x2) 186 2 x3) 186 3 x4 → Q (.inl (some (vi 0))) τ) : CC E mX12_stops [vr 172, vi x1, vi x2, vi x3, vi x4] σ Q :=
  C_X12_stops (B_X12_stops_0 hL (fun τ1 e1 τ2 e2 τ3 e3 τ4 e4 hL4 => h τ4 hL4 (by rw [e4, e3, e2, e1])))
theorem S_root {r : Nat} (hL : Lay LM g c t σ) (hr : r < 10) (h : Q (.inl (some (vi (gI σ (176 + r) 0)))) σ) : CC E mX12_root [vr 172, vi r] σ Q :=
  C_X12_root (B_X12_root_0 hL ⟨⟨by omega, by omega⟩, fun _ => by rw [show (r : Int).toNat = r by omega]; exact h⟩)
end S12
