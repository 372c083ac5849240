/-! ===== Group: times, turned, fillProducts ===== -/
theorem kN_lt {k l N : Nat} (hk : k < N) (hl : l < N) (hN : N ≤ 120) : k * N + l < N * N ∧ N * N ≤ 14400 := by
  have h1 : (k + 1) * N ≤ N * N := Nat.mul_le_mul_right N hk
  have h2 : N * N ≤ 120 * 120 := Nat.mul_le_mul hN hN
  rw [Nat.add_mul, Nat.one_mul] at h1
  omega
theorem kN_inj {k l k' l' N : Nat} (hl : l < N) (hl' : l' < N) (e : k * N + l = k' * N + l') : k = k' ∧ l = l' := by
  have h1 : (k * N + l) / N = k := by
    rw [Nat.mul_comm, Nat.mul_add_div (by omega), Nat.div_eq_of_lt hl, Nat.add_zero]
  have h2 : (k' * N + l') / N = k' := by
    rw [Nat.mul_comm, Nat.mul_add_div (by omega), Nat.div_eq_of_lt hl', Nat.add_zero]
  have h3 : k = k' := by rw [← h1, e, h2]
  subst h3
  exact ⟨rfl, by omega⟩
section S20
variable {E : Ev} {σ : Sg} {Q : NO → Sg → Prop} {g : Sg} {c t : Nat}
theorem S_atN {a n k : Nat} (h16 : 16 ≤ a) (hs : gS σ a = (20, n)) (hn : n ≤ 2147483647) (hk : k < n) (hq : Q (.inl (some (vi (gI σ a k)))) σ) : CC E mX11_at [vr a, vi k] σ Q := by
  refine S_at h16 hs hn ?_
  rw [if_pos ⟨by omega, by omega⟩, show ((k : Nat) : Int).toNat = k by omega]
  exact hq
theorem sh25 (hL : Lay LC g c t σ) : gS σ 25 = (20, 14400) := hL.1 (25, 26, 20, 14400) (by decide) 25 (by decide) (by decide)
theorem sh26 (hL : Lay LC g c t σ) : gS σ 26 = (20, 120) := hL.1 (26, 27, 20, 120) (by decide) 26 (by decide) (by decide)
theorem sh27 (hL : Lay LC g c t σ) : gS σ 27 = (20, 120) := hL.1 (27, 28, 20, 120) (by decide) 27 (by decide) (by decide)
theorem sh28 (hL : Lay LC g c t σ) : gS σ 28 = (20, 120) := hL.1 (28, 29, 20, 120) (by decide) 28 (by decide) (by decide)
theorem sh29 (hL : Lay LC g c t σ) : gS σ 29 = (20, 120) := hL.1 (29, 30, 20, 120) (by decide) 29 (by decide) (by decide)
theorem sh30 (hL : Lay LC g c t σ) : gS σ 30 = (20, 120) := hL.1 (30, 31, 20, 120) (by decide) 30 (by decide) (by decide)
/-- the group's products lie there -/
def GT (σ : Sg) (N : Nat) (m : Nat → Nat → Nat) : Prop := gI σ 24 6 = (N : Int) ∧ N ≤ 120 ∧ ∀ k l, k < N → l < N → gI σ 25 (k * N + l) = (m k l : Int)
theorem S_times {N k l : Nat} {m : Nat → Nat → Nat} (hL : Lay LC g c t σ) (hG : GT σ N m) (hk : k < N) (hl : l < N) (hq : Q (.inl (some (vi (m k l)))) σ) : CC E mX4_times [vr 24, vi k, vi l] σ Q := by
  have b := kN_lt hk hl hG.2.1
  have e : (k : Int) * (N : Int) = ((k * N : Nat) : Int) := (Int.natCast_mul k N).symm
  refine C_X4_times (B_X4_times_0 hL ?_)
  rw [hG.1, e]
  refine ⟨fun h => absurd h (by omega), fun _ => ⟨fun h => absurd h (by omega), fun _ => ⟨fun h => absurd h (by omega), fun _ => ⟨fun h => absurd h (by omega), fun _ => ⟨⟨by omega, by omega⟩, ⟨by omega, by omega⟩, ⟨by omega, by omega⟩, fun _ => ?_⟩⟩⟩⟩⟩
  rw [show (((k * N : Nat) : Int) + (l : Int)).toNat = k * N + l by omega, hG.2.2 k l hk hl]
  exact hq
/-- the inverses lie there -/
def GV (σ : Sg) (N : Nat) (m : Nat → Nat → Nat) : Prop := ∀ k, k < N → gI σ 26 k = (iv N m k : Int)
noncomputable def tn (N : Nat) (m : Nat → Nat → Nat) (g h : Nat) : Nat := m (m (iv N m h) g) h
theorem tn_lt {N : Nat} {m : Nat → Nat → Nat} (h : IsG N m) {a b : Nat} (ha : a < N) (hb : b < N) : tn N m a b < N := h.2.1 _ _ (h.2.1 _ _ (iv_lt h hb) ha) hb
theorem S_turned {N k l : Nat} {m : Nat → Nat → Nat} (hL : Lay LC g c t σ) (hI : IsG N m) (hG : GT σ N m) (hV : GV σ N m) (hk : k < N) (hl : l < N) (hq : Q (.inl (some (vi (tn N m k l)))) σ) : CC E mX4_turned [vr 24, vi k, vi l] σ Q := by
  have hN := hG.2.1
  refine C_X4_turned (B_X4_turned_0 hL (fun _ => S_atN (by decide) (sh26 hL) (by decide) (by omega) ⟨hL, fun _ _ => ?_⟩))
  rw [hV l hl]
  refine S_times hL hG (iv_lt hI hl) hk ⟨hL, fun _ _ => S_times hL hG (hI.2.1 _ _ (iv_lt hI hl) hk) hl ⟨hL, fun _ _ => hq⟩⟩
theorem S_fillProducts {a : Nat} {D : Int} {told els : List (List Int)} (hL : Lay LC g c t σ) (ha : isCl a) (hC : Clo D told els) (ht4 : told.length ≤ 4) (hN : gI σ 24 6 = (els.length : Int)) (hT : Tab σ a D told els els.length 0) (hO : Org σ a D told els)
    (h : ∀ τ, Lay LC g c t τ → Fr (fun a _ => a = 25) (fun _ => False) σ τ → GT τ els.length (gmt D els) → Q (.inl none) τ) : CC E mX4_fillProducts [vr 24, vr a] σ Q := by
  have n120 := hC.1
  have npos := hC.2.1
  have ab : a + 6 < 2968 ∧ 30 < a := by rcases ha with rfl | rfl <;> omega
  have hG := hC.isG
  generalize hNe : els.length = N at *
  refine C_X4_fillProducts (B_X4_fillProducts_0 hL ha (fun _ => ?_))
  refine loopU (N := N) (G := fun i τ => GG E mX4_fillProducts 2 [some (vr 24), some (vr a), some (vi i), none, none, none] [] τ 0 0 Q)
    (P := fun i τ => Lay LC g c t τ ∧ Fr (fun a _ => a = 25) (fun _ => False) σ τ ∧ ∀ k l, k < i → l < N → gI τ 25 (k * N + l) = (gmt D els k l : Int)) ?_ ?_ 0 σ (by omega) ⟨hL, Fr.refl _, fun k l hk => absurd hk (by omega)⟩
  · rintro i τ hi ⟨hLτ, hF, hz⟩ next
    have e : (i : Int) * (N : Int) = ((i * N : Nat) : Int) := (Int.natCast_mul i N).symm
    have b0 := kN_lt hi npos n120
    refine B_X4_fillProducts_2 hLτ ha ?_
    rw [hF.i (by omega) (by omega), hN, e]
    refine ⟨fun h => absurd h (by omega), fun _ => ⟨⟨by omega, by omega⟩, ⟨by omega, by omega⟩, fun τ1 e1 hL1 => ?_⟩⟩
    rw [show (((i * N : Nat) : Int)).toNat = i * N by omega] at e1
    subst e1
    refine loopU (N := N) (G := fun j τ => GG E mX4_fillProducts 27 [some (vr 24), some (vr a), some (vi i), some (vi ((i * N : Nat) : Int)), some (vi j), none] [] τ 0 0 Q)
      (P := fun j τ => 1 ≤ j ∧ Lay LC g c t τ ∧ Fr (fun a _ => a = 25) (fun _ => False) σ τ ∧ (∀ k l, k < i → l < N → gI τ 25 (k * N + l) = (gmt D els k l : Int)) ∧ ∀ l, l < j → gI τ 25 (i * N + l) = (gmt D els i l : Int)) ?_ ?_ 1 _ (by omega) ⟨Nat.le_refl _, hL1, hF.sI rfl, fun k l hk hl => ?_, fun l hl => ?_⟩
    · rintro j ρ hj ⟨hj1, hLρ, hFρ, hz1, hz2⟩ nextj
      refine B_X4_fillProducts_27 hLρ ha ?_
      obtain ⟨k', w, q1, q2, q3, q4, q5⟩ := hO j (by omega) (by omega)
      have q3' : gI ρ (a + 4) j = (k' : Int) := (hFρ.i (by omega) (by first | omega | (dsimp only [frC, frL, frL2, frP, frK]; omega))).trans q3
      have q4' : gI ρ (a + 5) j = (w : Int) := (hFρ.i (by omega) (by first | omega | (dsimp only [frC, frL, frL2, frP, frK]; omega))).trans q4
      have m1 := hC.gm (k := i) (l := k') (by omega) (by omega)
      rw [hNe] at m1
      obtain ⟨n9, r1, r2, r3⟩ := hT (gmt D els i k') w (by omega) q2 (by omega)
      have r3' : gI ρ (a + 3) (4 * gmt D els i k' + w) = (n9 : Int) := (hFρ.i (by omega) (by first | omega | (dsimp only [frC, frL, frL2, frP, frK]; omega))).trans r3
      have r4 : gmt D els i j = n9 := hC.gm_of (by omega) (mulL_as m1.2 r2 q5)
      have b1 := kN_lt hi (show k' < N by omega) n120
      have b2 := kN_lt hi hj n120
      rw [hFρ.i (by omega) (by first | omega | (dsimp only [frC, frL, frL2, frP, frK]; omega)), hN, show ((j : Nat) : Int).toNat = j by omega, q3']
      refine ⟨fun h => absurd h (by omega), fun _ => ⟨⟨by omega, by omega⟩, ⟨by omega, by omega⟩, fun _ => ?_⟩⟩
      rw [show ((i * N : Nat) : Int) + (k' : Int) = ((i * N + k' : Nat) : Int) by omega]
      refine S_atN (by decide) (sh25 hLρ) (by decide) (by omega) ?_
      rw [hz2 k' q1]
      refine ⟨hLρ, fun _ => ?_⟩
      rw [q4']
      refine ⟨⟨by omega, by omega⟩, ⟨by omega, by omega⟩, ⟨by omega, by omega⟩, fun _ => ?_⟩
      rw [show (gmt D els i k' : Int) * 4 + (w : Int) = ((4 * gmt D els i k' + w : Nat) : Int) by omega]
      refine S_atN (by omega) (ha.s hLρ (k := 2) (by decide)) (by decide) (by show _ < 480; omega) ?_
      rw [show a + 1 + 2 = a + 3 by omega, r3']
      refine ⟨hLρ, fun _ => ⟨⟨by omega, by omega⟩, fun τ2 e2 => ⟨⟨by omega, by omega⟩, fun hL2 => ?_⟩⟩⟩
      rw [show (((i * N : Nat) : Int) + (j : Int)).toNat = i * N + j by omega] at e2
      subst e2
      refine nextj _ ⟨by omega, hL2, hFρ.sI rfl, fun k l hk hl => ?_, fun l hl => ?_⟩
      · rw [gI_sI, if_neg (fun h9 => by have := kN_inj hl hj h9.2; omega)]; exact hz1 k l hk hl
      · rw [gI_sI]
        by_cases hlj : l = j
        · subst hlj
          rw [if_pos ⟨rfl, rfl⟩, r4]
        · rw [if_neg (fun h9 => hlj (by omega))]; exact hz2 l (by omega)
    · rintro ρ ⟨_, hLρ, hFρ, hz1, hz2⟩
      refine B_X4_fillProducts_27 hLρ ha ?_
      rw [hFρ.i (by omega) (by first | omega | (dsimp only [frC, frL, frL2, frP, frK]; omega)), hN]
      refine ⟨fun _ => ⟨⟨by omega, by omega⟩, fun _ => next ρ ⟨hLρ, hFρ, fun k l hk hl => ?_⟩⟩, fun h9 => absurd (by omega) h9⟩
      by_cases hki : k = i
      · subst hki; exact hz2 l hl
      · exact hz1 k l (by omega) hl
    · rw [gI_sI, if_neg (fun h9 => by
        have := kN_inj (k := k) (l := l) (k' := i) (l' := 0) hl npos (by rw [Nat.add_zero]; exact h9.2)
        omega)]
      exact hz k l hk hl
    · have : l = 0 := by omega
      subst this
      rw [gI_sI, if_pos ⟨rfl, rfl⟩, (hG.2.2.1 i hi).2]
  · rintro τ ⟨hLτ, hF, hz⟩
    refine B_X4_fillProducts_2 hLτ ha ?_
    rw [hF.i (by omega) (by first | omega | (dsimp only [frC, frL, frL2, frP, frK]; omega)), hN]
    exact ⟨fun _ _ => h τ hLτ hF ⟨(hF.i (by omega) (by first | omega | (dsimp only [frC, frL, frL2, frP, frK]; omega))).trans hN, n120, fun k l hk hl => hz k l hk hl⟩, fun h9 => absurd (by omega) h9⟩
end S20
