/-! ===== the reference's laysPrime ===== -/
theorem tsub0 {s d q : Nat} : ((s : Int) * (s : Int) - (d : Int)).tmod (q : Int) = 0 ↔ (s * s) % q = d % q := by
  rw [← Int.dvd_iff_tmod_eq_zero]
  constructor
  · intro h
    have h2 := Int.emod_eq_zero_of_dvd h
    rw [← Int.emod_eq_emod_iff_emod_sub_eq_zero, ← Int.natCast_mul, ← Int.natCast_emod, ← Int.natCast_emod] at h2
    omega
  · intro h
    apply Int.dvd_of_emod_eq_zero
    rw [← Int.emod_eq_emod_iff_emod_sub_eq_zero, ← Int.natCast_mul, ← Int.natCast_emod, ← Int.natCast_emod, h]
section S25
variable {E : Ev} {σ : Sg} {Q : NO → Sg → Prop} {g : Sg} {c t : Nat}
theorem lays_in {N e d q : Nat} (hq : 1 ≤ q ∧ q ≤ 241) (hd5 : d ≤ 5)
    (hyes : ∀ s τ, rtOk q d s → (∀ r, r < s → ¬ rtOk q d r) → Lay LM g c t τ → Fr frP (fun _ => False) σ τ → gI τ 172 18 = (q : Int) → gI τ 172 19 = (s : Int) → Q (.inl none) τ)
    (hno : ∀ τ, (¬ ∃ s, rtOk q d s) → Lay LM g c t τ → Fr frP (fun _ => False) σ τ → gI τ 172 18 = (q : Int) + 1 → GG E mX12_laysPrime 12 [some (vr 172)] [] τ 0 0 Q) (hD : gI σ 176 0 = (d : Int)) :
    ∀ τ, Lay LM g c t τ → Fr frP (fun _ => False) σ τ → gI τ 172 18 = (q : Int) → gI τ 172 19 = 1 → GG E mX12_laysPrime 44 [some (vr 172)] [] τ 0 0 Q := by
  intro τ hLτ hF h18 h19
  refine loopU (N := q) (G := fun _ τ => GG E mX12_laysPrime 44 [some (vr 172)] [] τ 0 0 Q) (P := fun i τ => Lay LM g c t τ ∧ Fr frP (fun _ => False) σ τ ∧ gI τ 172 18 = (q : Int) ∧ gI τ 172 19 = (i : Int) ∧ 1 ≤ i ∧ ∀ r, r < i → ¬ rtOk q d r) ?_ ?_ 1 τ hq.1 ⟨hLτ, hF, h18, h19, Nat.le_refl _, fun r hr h9 => by have := h9.1; omega⟩
  · rintro i ρ hi ⟨hLρ, hFρ, q18, q19, hi1, hz⟩ next
    have b : i * i ≤ 241 * 241 := Nat.mul_le_mul (by omega) (by omega)
    have e : (i : Int) * (i : Int) = ((i * i : Nat) : Int) := (Int.natCast_mul i i).symm
    have hDρ : gI ρ 176 0 = (d : Int) := (hFρ.i (by omega) (by first | omega | (dsimp only [frC, frL, frL2, frP, frK]; omega))).trans hD
    refine B_X12_laysPrime_44 hLρ ?_
    rw [q18, q19]
    refine ⟨fun h => absurd h (by omega), fun _ => ⟨by rw [e]; exact ⟨by omega, by omega⟩, fun _ => S_root (r := 0) hLρ (by omega) ?_⟩⟩
    show KI _ _ _ _
    rw [Nat.add_zero, hDρ]
    refine ⟨hLρ, fun _ => ⟨by rw [e]; exact ⟨by omega, by omega⟩, ?_⟩⟩
    rw [q18, q19]
    refine ⟨by omega, fun v8 e8 => ⟨fun h8 => ⟨⟨by omega, by omega⟩, fun τ10 e10 hL10 => ?_⟩, fun h8 _ => ?_⟩⟩
    · subst e10
      refine next _ ⟨hL10, hFρ.sI ⟨rfl, .inr rfl⟩, by rw [gI_sI, if_neg (by omega)]; exact q18, by rw [gI_sI, if_pos ⟨rfl, rfl⟩]; rfl, by omega, fun r hr => ?_⟩
      by_cases hri : r = i
      · subst hri
        intro h9
        exact h8 (e8.trans (tsub0.mpr h9.2.2))
      · exact hz r (by omega)
    · exact hyes i ρ ⟨hi1, hi, tsub0.mp (e8.symm.trans h8)⟩ hz hLρ hFρ q18 q19
  · rintro ρ ⟨hLρ, hFρ, q18, q19, hi1, hz⟩
    refine B_X12_laysPrime_44 hLρ ?_
    rw [q18, q19]
    refine ⟨fun _ => ⟨⟨by omega, by omega⟩, fun τ2 e2 hL2 => ?_⟩, fun h => absurd (by omega) h⟩
    subst e2
    refine hno _ ?_ hL2 (hFρ.sI ⟨rfl, .inl rfl⟩) (by rw [gI_sI, if_pos ⟨rfl, rfl⟩])
    rintro ⟨s, hs⟩
    exact hz s hs.2.1 hs
theorem S_laysPrime {N e d p s : Nat} (hL : Lay LM g c t σ) (hN : N ≤ 120) (he : 1 ≤ e ∧ e ≤ 120) (hd5 : d ≤ 5) (hP : PR N e d p s) (hp : p ≤ 241) (h15 : gI σ 172 15 = (N : Int)) (h17 : gI σ 172 17 = (e : Int)) (hD : gI σ 176 0 = (d : Int))
    (h : ∀ τ, Lay LM g c t τ → Fr frP (fun _ => False) σ τ → gI τ 172 18 = (p : Int) → gI τ 172 19 = (s : Int) → Q (.inl none) τ) : CC E mX12_laysPrime [vr 172] σ Q := by
  have h2N := hP.1.1
  refine C_X12_laysPrime (B_X12_laysPrime_0 hL ?_)
  rw [h15]
  refine ⟨⟨by omega, by omega⟩, ⟨by omega, by omega⟩, fun τ3 e3 hL3 => ?_⟩
  subst e3
  refine loopU (N := p) (G := fun _ τ => GG E mX12_laysPrime 12 [some (vr 172)] [] τ 0 0 Q) (P := fun i τ => Lay LM g c t τ ∧ Fr frP (fun _ => False) σ τ ∧ gI τ 172 18 = (i : Int) ∧ 2 * N + 1 ≤ i) ?_ ?_ (2 * N + 1) _ h2N ⟨hL3, (Fr.refl σ).sI ⟨rfl, .inl rfl⟩, by rw [gI_sI, if_pos ⟨rfl, rfl⟩]; omega, Nat.le_refl _⟩
  · rintro i τ hi ⟨hLτ, hF, q18, hi2⟩ next
    have hno := hP.2.1 i hi
    have q17 : gI τ 172 17 = (e : Int) := (hF.i (by omega) (by first | omega | (dsimp only [frC, frL, frL2, frP, frK]; omega))).trans h17
    have ee : ((i : Int) - 1).tmod (e : Int) = (((i - 1) % e : Nat) : Int) := by
      rw [show (i : Int) - 1 = ((i - 1 : Nat) : Int) by omega]; rfl
    refine B_X12_laysPrime_12 hLτ ?_
    rw [q17, q18, ee]
    have nx : ∀ ρ, Lay LM g c t ρ → Fr frP (fun _ => False) σ ρ → gI ρ 172 18 = (i : Int) + 1 → GG E mX12_laysPrime 12 [some (vr 172)] [] ρ 0 0 Q := fun ρ h1 h2 h3 => next ρ ⟨h1, h2, h3, by omega⟩
    refine ⟨⟨by omega, by omega⟩, by omega, fun _ => ⟨⟨by omega, by omega⟩, fun τ4 e4 hL4 => ?_⟩, fun h1 _ => ?_⟩
    · subst e4
      exact nx _ hL4 (hF.sI ⟨rfl, .inl rfl⟩) (by rw [gI_sI, if_pos ⟨rfl, rfl⟩])
    · refine S_isPrime12 (by omega) (fun r r1 r0 => ⟨hLτ, fun _ => ⟨fun h3 τ7 e7 hL7 => ?_, fun h3 => ?_⟩⟩)
      · have hpi : isPr i := by
          by_cases h9 : isPr i
          · exact h9
          · exact absurd (r0 h9) h3
        subst e7
        refine lays_in (N := N) (e := e) (q := i) (d := d) (σ := σ) (by omega) hd5 (fun s9 ρ hs9 _ => absurd ⟨hi2, Nat.dvd_of_mod_eq_zero (by omega), hpi, s9, hs9⟩ hno) (fun ρ _ h1 h2 h3 => nx ρ h1 h2 h3) hD _ hL7 (hF.sI ⟨rfl, .inr rfl⟩) (by rw [gI_sI, if_neg (by omega)]; exact q18) (by rw [gI_sI, if_pos ⟨rfl, rfl⟩])
      · rw [q18]
        refine ⟨⟨by omega, by omega⟩, fun τ9 e9 hL9 => ?_⟩
        subst e9
        exact nx _ hL9 (hF.sI ⟨rfl, .inl rfl⟩) (by rw [gI_sI, if_pos ⟨rfl, rfl⟩])
  · rintro τ ⟨hLτ, hF, q18, hi2⟩
    have q17 : gI τ 172 17 = (e : Int) := (hF.i (by omega) (by first | omega | (dsimp only [frC, frL, frL2, frP, frK]; omega))).trans h17
    have ee : ((p : Int) - 1).tmod (e : Int) = (((p - 1) % e : Nat) : Int) := by
      rw [show (p : Int) - 1 = ((p - 1 : Nat) : Int) by omega]; rfl
    have hdv := Nat.mod_eq_zero_of_dvd hP.1.2.1
    refine B_X12_laysPrime_12 hLτ ?_
    rw [q17, q18, ee]
    refine ⟨⟨by omega, by omega⟩, by omega, fun h1 => absurd (by omega) h1, fun h1 _ => ?_⟩
    refine S_isPrime12 (by omega) (fun r r1 r0 => ⟨hLτ, fun _ => ⟨fun h3 τ7 e7 hL7 => ?_, fun h3 => absurd (r1 hP.1.2.2.1) (by omega)⟩⟩)
    subst e7
    refine lays_in (N := N) (e := e) (q := p) (d := d) (σ := σ) (by omega) hd5 (fun s9 ρ hs9 hl9 hLρ hFρ r18 r19 => ?_) (fun ρ h9 => absurd hP.1.2.2.2 h9) hD _ hL7 (hF.sI ⟨rfl, .inr rfl⟩) (by rw [gI_sI, if_neg (by omega)]; exact q18) (by rw [gI_sI, if_pos ⟨rfl, rfl⟩])
    have es : s9 = s := by
      apply Nat.le_antisymm
      · exact Nat.not_lt.mp (fun h9 => hl9 s h9 hP.2.2.1)
      · exact Nat.not_lt.mp (fun h9 => hP.2.2.2 s9 h9 hs9)
    subst es
    exact h ρ hLρ hFρ r18 r19
end S25
