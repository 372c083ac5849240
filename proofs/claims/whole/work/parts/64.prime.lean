/-! ===== the prime ===== -/
def isPr (p : Nat) : Prop := 1 < p ∧ ∀ k, 2 ≤ k → k * k ≤ p → ¬ k ∣ p
def rtOk (p d s : Nat) : Prop := 1 ≤ s ∧ s < p ∧ (s * s) % p = d % p
def prOk (N e d p : Nat) : Prop := 2 * N + 1 ≤ p ∧ e ∣ p - 1 ∧ isPr p ∧ ∃ s, rtOk p d s
/-- the least prime, its least root -/
def PR (N e d p s : Nat) : Prop := prOk N e d p ∧ (∀ q, q < p → ¬ prOk N e d q) ∧ rtOk p d s ∧ ∀ r, r < s → ¬ rtOk p d r
theorem isPr_241 : isPr 241 := by
  refine ⟨by decide, fun k h1 h2 h3 => ?_⟩
  have hk : k < 16 := by
    apply Nat.not_le.mp
    intro h
    have := Nat.mul_le_mul h h
    omega
  have : ∀ k, k < 16 → 2 ≤ k → 241 % k ≠ 0 := by decide
  exact this k hk h1 (Nat.mod_eq_zero_of_dvd h3)
theorem PR_ex {N e d : Nat} (hN : N ≤ 120) (he : e ∣ 120) (hd : d = 2 ∨ d = 3 ∨ d = 5) : ∃ p s, PR N e d p s ∧ p ≤ 241 := by
  have h241 : prOk N e d 241 := by
    refine ⟨by omega, Nat.dvd_trans he (by decide), isPr_241, ?_⟩
    have h : ∀ d, d = 2 ∨ d = 3 ∨ d = 5 → ∃ s, s < 241 ∧ 1 ≤ s ∧ (s * s) % 241 = d % 241 := by
      rintro d (rfl | rfl | rfl)
      · exact ⟨22, by decide⟩
      · exact ⟨56, by decide⟩
      · exact ⟨103, by decide⟩
    obtain ⟨s, h1, h2, h3⟩ := h d hd
    exact ⟨s, h2, h1, h3⟩
  obtain ⟨p, p1, p2, p3⟩ := least_of (p := prOk N e d) 241 h241
  obtain ⟨s0, hs0⟩ := p2.2.2.2
  obtain ⟨s, s1, s2, s3⟩ := least_of (p := rtOk p d) s0 hs0
  exact ⟨p, s, ⟨p2, p3, s2, s3⟩, p1⟩
theorem PR_un {N e d p s q r : Nat} (h : PR N e d p s) (k : PR N e d q r) : p = q ∧ s = r := by
  have e1 : p = q := by
    apply Nat.le_antisymm
    · exact Nat.not_lt.mp (fun h9 => h.2.1 q h9 k.1)
    · exact Nat.not_lt.mp (fun h9 => k.2.1 p h9 h.1)
  subst e1
  refine ⟨rfl, Nat.le_antisymm ?_ ?_⟩
  · exact Nat.not_lt.mp (fun h9 => h.2.2.2 r h9 k.2.2.1)
  · exact Nat.not_lt.mp (fun h9 => k.2.2.2 s h9 h.2.2.1)
theorem tmod_nat (a b : Nat) : (a : Int).tmod (b : Int) = ((a % b : Nat) : Int) := rfl
section S24
variable {E : Ev} {σ : Sg} {Q : NO → Sg → Prop} {g : Sg} {c t : Nat}
theorem S_isPrime2 {p : Nat} (hp : 1 ≤ p ∧ p ≤ 10001) (hq : ∀ r : Int, (isPr p → r = 1) → (¬ isPr p → r = 0) → Q (.inl (some (vi r))) σ) : CC E mX2_isPrime [vi p] σ Q := by
  refine C_X2_isPrime (B_X2_isPrime_0 ?_)
  refine loopU (N := p + 1) (G := fun i τ => GG E mX2_isPrime 2 [some (vi p), some (vi i)] [] τ 0 0 Q) (P := fun i τ => τ = σ ∧ 2 ≤ i ∧ ∀ k, 2 ≤ k → k < i → ¬ k ∣ p) ?_ ?_ 2 σ (by omega) ⟨rfl, Nat.le_refl _, fun k h1 h2 => absurd h1 (by omega)⟩
  · rintro i τ hi ⟨rfl, h2, hz⟩ next
    have e : (i : Int) * (i : Int) = ((i * i : Nat) : Int) := (Int.natCast_mul i i).symm
    have b : i * i ≤ 10001 * 10001 := Nat.mul_le_mul (by omega) (by omega)
    refine B_X2_isPrime_2 ?_
    rw [e, tmod_nat]
    refine ⟨⟨by omega, by omega⟩, fun h => ⟨fun h1 => ?_, fun h1 => ?_⟩, fun h => ⟨by omega, fun h1 => ⟨⟨by omega, by omega⟩, next _ ⟨rfl, by omega, fun k k1 k2 => ?_⟩⟩, fun h1 => ?_⟩⟩
    · exact hq 0 (fun h9 => absurd h9.1 (by omega)) (fun _ => rfl)
    · refine hq 1 (fun _ => rfl) (fun h9 => absurd ⟨by omega, fun k k1 k2 => hz k k1 ?_⟩ h9)
      apply Nat.not_le.mp
      intro k3
      have := Nat.mul_le_mul k3 k3
      omega
    · by_cases hk : k = i
      · subst hk
        intro h9
        have := Nat.mod_eq_zero_of_dvd h9
        omega
      · exact hz k k1 (by omega)
    · refine hq 0 (fun h9 => absurd (Nat.dvd_of_mod_eq_zero (by omega)) (h9.2 i h2 (by omega))) (fun _ => rfl)
  · rintro τ ⟨rfl, h2, hz⟩
    have e : ((p + 1 : Nat) : Int) * ((p + 1 : Nat) : Int) = (((p + 1) * (p + 1) : Nat) : Int) := (Int.natCast_mul _ _).symm
    have b : (p + 1) * (p + 1) ≤ 10002 * 10002 := Nat.mul_le_mul (by omega) (by omega)
    have b2 : 1 * (p + 1) ≤ (p + 1) * (p + 1) := Nat.mul_le_mul (by omega) (by omega)
    refine B_X2_isPrime_2 ?_
    rw [e]
    refine ⟨⟨by omega, by omega⟩, fun h => ⟨fun h1 => hq 0 (fun h9 => absurd h9.1 (by omega)) (fun _ => rfl), fun h1 => ?_⟩, fun h => absurd h (by omega)⟩
    refine hq 1 (fun _ => rfl) (fun h9 => absurd ⟨by omega, fun k k1 k2 => hz k k1 ?_⟩ h9)
    apply Nat.not_le.mp
    intro k3
    have := Nat.mul_le_mul k3 k3
    omega
theorem S_isPrime12 {p : Nat} (hp : 1 ≤ p ∧ p ≤ 10001) (hq : ∀ r : Int, (isPr p → r = 1) → (¬ isPr p → r = 0) → Q (.inl (some (vi r))) σ) : CC E mX12_isPrime [vi p] σ Q := by
  refine C_X12_isPrime (B_X12_isPrime_0 ?_)
  refine loopU (N := p + 1) (G := fun i τ => GG E mX12_isPrime 2 [some (vi p), some (vi i)] [] τ 0 0 Q) (P := fun i τ => τ = σ ∧ 2 ≤ i ∧ ∀ k, 2 ≤ k → k < i → ¬ k ∣ p) ?_ ?_ 2 σ (by omega) ⟨rfl, Nat.le_refl _, fun k h1 h2 => absurd h1 (by omega)⟩
  · rintro i τ hi ⟨rfl, h2, hz⟩ next
    have e : (i : Int) * (i : Int) = ((i * i : Nat) : Int) := (Int.natCast_mul i i).symm
    have b : i * i ≤ 10001 * 10001 := Nat.mul_le_mul (by omega) (by omega)
    refine B_X12_isPrime_2 ?_
    rw [e, tmod_nat]
    refine ⟨⟨by omega, by omega⟩, fun h => ⟨fun h1 => ?_, fun h1 => ?_⟩, fun h => ⟨by omega, fun h1 => ⟨⟨by omega, by omega⟩, next _ ⟨rfl, by omega, fun k k1 k2 => ?_⟩⟩, fun h1 => ?_⟩⟩
    · exact hq 0 (fun h9 => absurd h9.1 (by omega)) (fun _ => rfl)
    · refine hq 1 (fun _ => rfl) (fun h9 => absurd ⟨by omega, fun k k1 k2 => hz k k1 ?_⟩ h9)
      apply Nat.not_le.mp
      intro k3
      have := Nat.mul_le_mul k3 k3
      omega
    · by_cases hk : k = i
      · subst hk
        intro h9
        have := Nat.mod_eq_zero_of_dvd h9
        omega
      · exact hz k k1 (by omega)
    · refine hq 0 (fun h9 => absurd (Nat.dvd_of_mod_eq_zero (by omega)) (h9.2 i h2 (by omega))) (fun _ => rfl)
  · rintro τ ⟨rfl, h2, hz⟩
    have e : ((p + 1 : Nat) : Int) * ((p + 1 : Nat) : Int) = (((p + 1) * (p + 1) : Nat) : Int) := (Int.natCast_mul _ _).symm
    have b : (p + 1) * (p + 1) ≤ 10002 * 10002 := Nat.mul_le_mul (by omega) (by omega)
    have b2 : 1 * (p + 1) ≤ (p + 1) * (p + 1) := Nat.mul_le_mul (by omega) (by omega)
    refine B_X12_isPrime_2 ?_
    rw [e]
    refine ⟨⟨by omega, by omega⟩, fun h => ⟨fun h1 => hq 0 (fun h9 => absurd h9.1 (by omega)) (fun _ => rfl), fun h1 => ?_⟩, fun h => absurd h (by omega)⟩
    refine hq 1 (fun _ => rfl) (fun h9 => absurd ⟨by omega, fun k k1 k2 => hz k k1 ?_⟩ h9)
    apply Nat.not_le.mp
    intro k3
    have := Nat.mul_le_mul k3 k3
    omega
theorem S_leastRoot {p d : Nat} (hp : 1 ≤ p ∧ p ≤ 10001) (h1 : ∀ s : Nat, rtOk p d s → (∀ r, r < s → ¬ rtOk p d r) → Q (.inl (some (vi s))) σ) (h0 : (¬ ∃ s, rtOk p d s) → Q (.inl (some (vi 0))) σ) : CC E mX2_leastRoot [vi p, vi d] σ Q := by
  refine C_X2_leastRoot (B_X2_leastRoot_0 ?_)
  refine loopU (N := p) (G := fun i τ => GG E mX2_leastRoot 2 [some (vi p), some (vi d), some (vi i)] [] τ 0 0 Q) (P := fun i τ => τ = σ ∧ 1 ≤ i ∧ ∀ r, r < i → ¬ rtOk p d r) ?_ ?_ 1 σ hp.1 ⟨rfl, Nat.le_refl _, fun r hr h9 => by have := h9.1; omega⟩
  · rintro i τ hi ⟨rfl, h2, hz⟩ next
    have e : (i : Int) * (i : Int) = ((i * i : Nat) : Int) := (Int.natCast_mul i i).symm
    have b : i * i ≤ 10001 * 10001 := Nat.mul_le_mul (by omega) (by omega)
    refine B_X2_leastRoot_2 ?_
    rw [e, tmod_nat, tmod_nat]
    refine ⟨fun h => absurd h (by omega), fun _ => ⟨⟨by omega, by omega⟩, by omega, fun h => ⟨⟨by omega, by omega⟩, next _ ⟨rfl, by omega, fun r hr => ?_⟩⟩, fun h => h1 i ⟨h2, hi, by omega⟩ hz⟩⟩
    by_cases hri : r = i
    · subst hri
      intro h9
      have := h9.2.2
      omega
    · exact hz r (by omega)
  · rintro τ ⟨rfl, h2, hz⟩
    refine B_X2_leastRoot_2 ⟨fun _ => h0 ?_, fun h => absurd (by omega) h⟩
    rintro ⟨s, hs⟩
    exact hz s hs.2.1 hs
theorem S_choose {N e d p s : Nat} (hL : Lay LC g c t σ) (hN : N ≤ 120) (he : 1 ≤ e ∧ e ≤ 120) (hP : PR N e d p s) (hp : p ≤ 241)
    (h : ∀ τ, Lay LC g c t τ → Fr (fun a _ => a = 35) (fun _ => False) σ τ → gI τ 35 0 = (p : Int) → gI τ 35 1 = (s : Int) → Q (.inl none) τ) : CC E mX2_choose [vr 35, vi N, vi e, vi d] σ Q := by
  refine C_X2_choose (B_X2_choose_0 hL (fun τ1 e1 τ2 e2 => ⟨⟨by omega, by omega⟩, ⟨by omega, by omega⟩, fun hL2 => ?_⟩))
  subst e1 e2
  rw [show (2 : Int) * (N : Int) + 1 = ((2 * N + 1 : Nat) : Int) by omega]
  have h2N := hP.1.1
  refine loopU (N := p) (G := fun i τ => GG E mX2_choose 17 [some (vr 35), none, some (vi e), some (vi d), some (vi i)] [] τ 0 0 Q)
    (P := fun i τ => Lay LC g c t τ ∧ Fr (fun a _ => a = 35) (fun _ => False) σ τ ∧ gI τ 35 0 = 0 ∧ 2 * N + 1 ≤ i) ?_ ?_ (2 * N + 1) _ h2N ⟨hL2, ((Fr.refl σ).sI (by omega)).sI (by omega), by simp [gI_sI], Nat.le_refl _⟩
  · rintro i τ hi ⟨hLτ, hF, h0, hi2⟩ next
    have hno := hP.2.1 i hi
    have ee : ((i : Int) - 1).tmod (e : Int) = (((i - 1) % e : Nat) : Int) := by
      rw [show (i : Int) - 1 = ((i - 1 : Nat) : Int) by omega]; rfl
    refine B_X2_choose_17 hLτ ?_
    rw [ee, h0]
    refine ⟨fun h => absurd h (by omega), fun _ => ⟨fun h9 => absurd rfl h9, fun _ => ⟨fun h => absurd h (by omega), fun _ => ⟨⟨by omega, by omega⟩, by omega, fun h1 => ⟨⟨by omega, by omega⟩, fun _ => next τ ⟨hLτ, hF, h0, by omega⟩⟩, fun h1 _ => ?_⟩⟩⟩⟩
    refine S_isPrime2 (by omega) (fun r r1 r0 => ⟨hLτ, fun _ => ⟨fun h3 => ⟨⟨by omega, by omega⟩, fun _ => next τ ⟨hLτ, hF, h0, by omega⟩⟩, fun h3 _ => ?_⟩⟩)
    have hpi : isPr i := by
      by_cases h9 : isPr i
      · exact h9
      · exact absurd (r0 h9) h3
    refine S_leastRoot (by omega) (fun s9 hs9 _ => absurd ⟨hi2, Nat.dvd_of_mod_eq_zero (by omega), hpi, s9, hs9⟩ hno) (fun _ => ⟨hLτ, fun _ τ10 e10 => ?_⟩)
    subst e10
    refine ⟨fun _ τ11 e11 => ⟨⟨by omega, by omega⟩, fun hL11 => ?_⟩, fun h9 => absurd (by rw [gI_sI, if_pos ⟨rfl, rfl⟩]; omega) h9⟩
    subst e11
    exact next _ ⟨hL11, (hF.sI (by omega)).sI (by omega), by rw [gI_sI, if_pos ⟨rfl, rfl⟩], by omega⟩
  · rintro τ ⟨hLτ, hF, h0, hi2⟩
    have ee : ((p : Int) - 1).tmod (e : Int) = (((p - 1) % e : Nat) : Int) := by
      rw [show (p : Int) - 1 = ((p - 1 : Nat) : Int) by omega]; rfl
    have hdv := Nat.mod_eq_zero_of_dvd hP.1.2.1
    refine B_X2_choose_17 hLτ ?_
    rw [ee, h0]
    refine ⟨fun h => absurd h (by omega), fun _ => ⟨fun h9 => absurd rfl h9, fun _ => ⟨fun h => absurd h (by omega), fun _ => ⟨⟨by omega, by omega⟩, by omega, fun h1 => absurd (by omega) h1, fun h1 _ => ?_⟩⟩⟩⟩
    refine S_isPrime2 (by omega) (fun r r1 r0 => ⟨hLτ, fun _ => ⟨fun h3 => absurd (r1 hP.1.2.2.1) (by omega), fun h3 _ => ?_⟩⟩)
    refine S_leastRoot (by omega) (fun s9 hs9 hl9 => ⟨hLτ, fun _ τ10 e10 => ?_⟩) (fun h9 => absurd hP.1.2.2.2 h9)
    have es : s9 = s := by
      apply Nat.le_antisymm
      · exact Nat.not_lt.mp (fun h9 => hl9 s h9 hP.2.2.1)
      · exact Nat.not_lt.mp (fun h9 => hP.2.2.2 s9 h9 hs9)
    have hs1 := hs9.1
    subst es e10
    refine ⟨fun h9 => absurd h9 (by rw [gI_sI, if_pos ⟨rfl, rfl⟩]; omega), fun _ τ13 e13 => ⟨⟨by omega, by omega⟩, fun hL13 => ?_⟩⟩
    subst e13
    have q0 : gI (sI (sI τ 35 1 (s9 : Int)) 35 0 (p : Int)) 35 0 = (p : Int) := by simp [gI_sI]
    have q1 : gI (sI (sI τ 35 1 (s9 : Int)) 35 0 (p : Int)) 35 1 = (s9 : Int) := by simp [gI_sI]
    refine B_X2_choose_17 hL13 ?_
    rw [q0]
    refine ⟨fun h => absurd h (by omega), fun _ => ⟨fun _ _ => h _ hL13 ((hF.sI (by omega)).sI (by omega)) q0 q1, fun h => absurd h (by omega)⟩⟩
end S24
