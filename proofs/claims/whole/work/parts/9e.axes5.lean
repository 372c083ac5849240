/-! ===== axes: the reference ===== -/
section S9e
variable {E : Ev} {σ : Sg} {Q : NO → Sg → Prop} {g : Sg} {c t : Nat}
variable {K : Int → List (List Int) → Sg → Prop} {D : Int} {told els : List (List Int)} {past : List (List (List Int))} {B : List Int} {F : Int} {W R : Nat → Int}
theorem M_axes {x : Int} (h : MI K g c t σ D told els past B F W R) (hK : KFM K) (hRB : ∀ i, i < 3 → inR (R i + 1)) (hC : Clo D told els) (hD : D = 2 ∨ D = 3 ∨ D = 5)
    (h0 : (x < 2 ∨ 120 < x) → ∀ τ, MI K g c t τ D told els past B F W (bmp R 1) → gI τ 172 0 = 1 → Q (.inl (some (vi 0))) τ)
    (h2 : ∀ n : Nat, x = n → 2 ≤ n → n ≤ 120 → ∀ τ, MI K g c t τ D told els past B F W R → gI τ 172 0 = 0 → Q (.inl (some (vi (axN D els n)))) τ) : CC E mX12_axes [vr 172, vi x] σ Q := by
  have n120 := hC.1
  refine C_X12_axes (B_X12_axes_0 h.1 (fun τ1 e1 hL1 => ?_))
  obtain ⟨hI, q0⟩ := h.go hK e1
  refine S_in (fun r r1 r0 => ⟨hL1, fun _ => ⟨fun hr _ => ?_, fun hr _ => ?_⟩⟩)
  rotate_left
  · have hn : x < 2 ∨ 120 < x := by
      have := of_eq9 r1 hr
      omega
    exact S_bad1 (r := 1) hL1 hI hK q0 (by decide) (by decide) (by decide) (hRB 1 (by omega)) (fun τ5 hI5 q5 => ⟨hI5.1, fun _ => ⟨fun h9 => absurd h9 (by decide), fun _ _ => h0 hn τ5 hI5 q5⟩⟩)
  have hx := of_ne9 r0 hr
  obtain ⟨n, rfl⟩ : ∃ n : Nat, x = n := ⟨x.toNat, by omega⟩
  have hn2 : 2 ≤ n := by omega
  have hq := h2 n rfl hn2 (by omega)
  have hnd := hC.2.2.2.1
  -- what stays
  have ok : ∀ τ, Lay LM g c t τ → Fr frMn (fun _ => False) τ1 τ → MI K g c t τ D told els past B F W R ∧ gI τ 172 0 = 0 ∧ RWs τ 310 D els ∧ gI τ 172 15 = (els.length : Int) ∧ gI τ 176 0 = D := fun τ hLτ hF => by
    have I := hI.scr hK hLτ hF (fun a j h9 => by omega) (fun _ h => h.elim)
    obtain ⟨d, p, s, m1, m2, m3, m5⟩ := I.2.2.1
    exact ⟨I, (hF.i (by omega) (by omega)).trans q0, m5.1, I.n15.1, I.2.1.1⟩
  refine S_bad0 hL1 q0 ⟨hL1, fun _ => ⟨fun _ _ => ?_, fun h9 => absurd rfl h9⟩⟩
  refine loopU (N := els.length) (G := fun k τ => GG E mX12_axes 35 [some (vr 172), some (vi n), some (vi (cn (fun e => ¬ stl els e ∧ tur D els e = n ∧ fst9 D els e) k)), some (vi k), none, none, none] [] τ 0 0 Q) (P := fun k τ => Lay LM g c t τ ∧ Fr frMn (fun _ => False) τ1 τ) ?_ ?_ 0 τ1 (by omega) ⟨hL1, Fr.refl _⟩
  rotate_left
  · rintro τ ⟨hLτ, hF⟩
    obtain ⟨I, qq, hR, h15, hrt⟩ := ok τ hLτ hF
    refine B_X12_axes_35 hLτ ?_
    rw [h15]
    exact ⟨fun _ _ => hq τ I qq, fun h9 => absurd (by omega) h9⟩
  rintro k τ hk ⟨hLτ, hF⟩ next
  obtain ⟨I, qq, hR, h15, hrt⟩ := ok τ hLτ hF
  have cl := cn_le (P := fun e => ¬ stl els e ∧ tur D els e = n ∧ fst9 D els e) k
  have e9 : cn (fun e => ¬ stl els e ∧ tur D els e = n ∧ fst9 D els e) (k + 1) = cn (fun e => ¬ stl els e ∧ tur D els e = n ∧ fst9 D els e) k + @ite _ (¬ stl els k ∧ tur D els k = n ∧ fst9 D els k) (Classical.propDecidable _) 1 0 := rfl
  rw [e9] at next
  generalize cn (fun e => ¬ stl els e ∧ tur D els e = n ∧ fst9 D els e) k = y at *
  refine B_X12_axes_35 hLτ ?_
  rw [h15]
  refine ⟨fun h => absurd h (by omega), fun _ _ => S_isStill hLτ hR hnd h15 (fun r τ2 hL2 hF2 r1 r0 => ⟨hL2, fun _ => ⟨fun hr0 _ => ?_, fun hr0 => ⟨⟨by omega, by omega⟩, fun _ => ?_⟩⟩⟩)⟩
  rotate_left
  · have hst : stl els k := of_ne9 r0 hr0
    rw [if_neg (fun h9 => h9.1 hst), Nat.add_zero] at next
    exact next τ2 ⟨hL2, hF.trans hF2⟩
  have hns : ¬ stl els k := of_eq9 r1 hr0
  -- those parallel to k
  have K9 : ∀ ρ, Lay LM g c t ρ → Fr frMn (fun _ => False) τ1 ρ → GG E mX12_axes 63 [some (vr 172), some (vi n), some (vi y), some (vi k), some (vi (0 : Nat)), some (vi 1), some (vi (0 : Nat))] [] ρ 0 0 Q := by
    intro ρ hLρ hFρ
    refine loopU (N := els.length) (G := fun l τ => ∀ f : Int, (f = 0 ∨ f = 1) → (f = 1 ↔ ∀ l', l' < l → ¬ stl els l' → prE D els k l' → k ≤ l') → GG E mX12_axes 63 [some (vr 172), some (vi n), some (vi y), some (vi k), some (vi (cn (fun l => ¬ stl els l ∧ prE D els k l) l)), some (vi f), some (vi l)] [] τ 0 0 Q) (P := fun l τ => Lay LM g c t τ ∧ Fr frMn (fun _ => False) τ1 τ) ?_ ?_ 0 ρ (by omega) ⟨hLρ, hFρ⟩ 1 (.inr rfl) ⟨fun _ l' h1 => absurd h1 (by omega), fun _ => rfl⟩
    · rintro l τ4 hl ⟨hL4, hF4⟩ nx f hf hfi
      obtain ⟨I4, qq4, hR4, h154, hrt4⟩ := ok τ4 hL4 hF4
      have cl4 := cn_le (P := fun l => ¬ stl els l ∧ prE D els k l) l
      have e8 : cn (fun l => ¬ stl els l ∧ prE D els k l) (l + 1) = cn (fun l => ¬ stl els l ∧ prE D els k l) l + @ite _ (¬ stl els l ∧ prE D els k l) (Classical.propDecidable _) 1 0 := rfl
      rw [e8] at nx
      generalize cn (fun l => ¬ stl els l ∧ prE D els k l) l = w at *
      have skip : ¬ (¬ stl els l ∧ prE D els k l) → ∀ τ', Lay LM g c t τ' → Fr frMn (fun _ => False) τ1 τ' → GG E mX12_axes 63 [some (vr 172), some (vi n), some (vi y), some (vi k), some (vi w), some (vi f), some (vi ((l : Int) + 1))] [] τ' 0 0 Q := by
        intro hno τ' hL' hF'
        rw [if_neg hno, Nat.add_zero] at nx
        refine nx τ' ⟨hL', hF'⟩ f hf (hfi.trans ⟨fun h9 l' h1 h2 h3 => ?_, fun h9 l' h1 h2 h3 => h9 l' (by omega) h2 h3⟩)
        by_cases hll : l' = l
        · subst hll; exact absurd ⟨h2, h3⟩ hno
        · exact h9 l' (by omega) h2 h3
      refine B_X12_axes_63 hL4 ?_
      rw [h154]
      refine ⟨fun h => absurd h (by omega), fun _ _ => S_isStill hL4 hR4 hnd h154 (fun r τ7 hL7 hF7 r1 r0 => ⟨hL7, fun _ => ⟨fun hr9 => ⟨⟨by omega, by omega⟩, fun _ => skip (fun h9 => h9.1 (of_ne9 r0 hr9)) τ7 hL7 (hF4.trans hF7)⟩, fun hr9 _ => ?_⟩⟩)⟩
      have hnsl : ¬ stl els l := of_eq9 r1 hr9
      obtain ⟨I7, qq7, hR7, h157, hrt7⟩ := ok τ7 hL7 (hF4.trans hF7)
      refine S_areParallel hL7 hR7 hD hrt7 hk hl (fun r' r1' r0' => ⟨hL7, fun _ => ⟨fun hr' => ⟨⟨by omega, by omega⟩, fun hlk => ⟨⟨by omega, by omega⟩, fun _ => ?_⟩, fun hlk => ⟨⟨by omega, by omega⟩, fun _ => ?_⟩⟩, fun hr' => ⟨⟨by omega, by omega⟩, fun _ => skip (fun h9 => of_eq9 r1' hr' h9.2) τ7 hL7 (hF4.trans hF7)⟩⟩⟩)
      · have hp : prE D els k l := of_ne9 r0' hr'
        rw [if_pos ⟨hnsl, hp⟩] at nx
        rw [and01 hf (.inl rfl), if_neg (fun h9 => absurd h9.2 (by decide))]
        refine nx τ7 ⟨hL7, hF4.trans hF7⟩ 0 (.inl rfl) ⟨fun h9 => absurd h9 (by decide), fun h9 => ?_⟩
        have := h9 l (by omega) hnsl hp
        omega
      · have hp : prE D els k l := of_ne9 r0' hr'
        rw [if_pos ⟨hnsl, hp⟩] at nx
        rw [and01 hf (.inr rfl)]
        refine nx τ7 ⟨hL7, hF4.trans hF7⟩ _ (by split <;> simp) ⟨fun h9 l' h1 h2 h3 => ?_, fun h9 => ?_⟩
        · have hf1 : f = 1 := by
            by_cases h8 : f = 1
            · exact h8
            · rw [if_neg (fun h7 => h8 h7.1)] at h9; exact absurd h9 (by decide)
          by_cases hll : l' = l
          · omega
          · exact hfi.mp hf1 l' (by omega) h2 h3
        · rw [if_pos ⟨hfi.mpr (fun l' h1 h2 h3 => h9 l' (by omega) h2 h3), rfl⟩]
    · rintro τ4 ⟨hL4, hF4⟩ f hf hfi
      obtain ⟨I4, qq4, hR4, h154, hrt4⟩ := ok τ4 hL4 hF4
      have cl4 := cn_le (P := fun l => ¬ stl els l ∧ prE D els k l) els.length
      have ea : cn (fun l => ¬ stl els l ∧ prE D els k l) els.length = abt D els k := rfl
      have ef : f = 1 ↔ fst9 D els k := hfi
      rw [ea] at cl4 ⊢
      -- the last step
      have fin : ∀ (u : Nat) τ5, u = tur D els k → Lay LM g c t τ5 → Fr frMn (fun _ => False) τ1 τ5 → GG E mX12_axes 142 [some (vr 172), some (vi n), some (vi y), some (vi k), none, some (vi f), some (vi u)] [] τ5 0 0 Q := by
        intro u τ5 hu hL5 hF5
        refine B_X12_axes_142 hL5 ⟨fun hf0 => ⟨⟨by omega, by omega⟩, ⟨by omega, by omega⟩, fun _ => ?_⟩, fun hf0 => ⟨fun hne => ⟨⟨by omega, by omega⟩, ⟨by omega, by omega⟩, fun _ => ?_⟩, fun he => ⟨⟨by omega, by omega⟩, ⟨by omega, by omega⟩, fun _ => ?_⟩⟩⟩
        · rw [if_neg (fun h9 => by have := ef.mpr h9.2.2; omega)] at next
          exact next τ5 ⟨hL5, hF5⟩
        · rw [if_neg (fun h9 => hne (by rw [hu, h9.2.1]))] at next
          exact next τ5 ⟨hL5, hF5⟩
        · rw [if_pos ⟨hns, by omega, ef.mp (by omega)⟩] at next
          exact next τ5 ⟨hL5, hF5⟩
      refine B_X12_axes_63 hL4 ?_
      rw [h154]
      refine ⟨fun _ _ => S_minus hL4 hR4 hnd h154 (fun τ5 hL5 hF5 => ⟨hL5, fun _ => ⟨fun hm => ?_, fun hm => ⟨⟨by omega, by omega⟩, fun _ => fin (abt D els k + 1) τ5 (by unfold tur; rw [if_pos hm]) hL5 (hF4.trans hF5)⟩⟩⟩), fun h9 => absurd (by omega) h9⟩
      have et : ((abt D els k : Nat) : Int).tdiv 2 = ((abt D els k / 2 : Nat) : Int) := rfl
      have hle := Nat.div_le_self (abt D els k) 2
      have et2 : tur D els k = abt D els k / 2 + 1 := by unfold tur; rw [if_neg hm]
      rw [et]
      generalize abt D els k / 2 = v at *
      exact ⟨⟨by omega, by omega⟩, ⟨by omega, by omega⟩, fun _ => fin (v + 1) τ5 et2.symm hL5 (hF4.trans hF5)⟩
  exact K9 τ2 hL2 (hF.trans hF2)
end S9e
