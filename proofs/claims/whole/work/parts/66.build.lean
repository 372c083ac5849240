/-! ===== Group: build ===== -/
def wholeL (w : Int) : List Int := [w, 0, 0, 0, 0, 0, 0, 0]
theorem gd_whole (w : Int) (j : Nat) : gd (wholeL w) j = if j = 0 then w else 0 := by
  unfold gd wholeL
  match j with
  | 0 => rfl
  | 1 => rfl
  | 2 => rfl
  | 3 => rfl
  | 4 => rfl
  | 5 => rfl
  | 6 => rfl
  | 7 => rfl
  | n + 8 => rw [if_neg (by omega)]; rfl
/-- all of the class's group -/
def GAll (σ : Sg) (D : Int) (els : List (List Int)) : Prop :=
  GT σ els.length (gmt D els) ∧ GV σ els.length (gmt D els) ∧ GO σ els.length (gmt D els) ∧ GCs σ els.length (clAll els.length (gmt D els) els.length) ∧ gI σ 24 11 = fnd els (wholeL (-4))
section S26
variable {E : Ev} {σ : Sg} {Q : NO → Sg → Prop} {g : Sg} {c t : Nat}
theorem S_numberOfEl {a b n : Nat} {D : Int} {els : List (List Int)} {z : List Int} (hL : Lay LC g c t σ) (ha : isCl a) (hb : PA LC b n) (hn : 8 ≤ n ∧ n ≤ 65536) (hE : CloE σ a D els) (hnd : els.Nodup) (hz8 : z.length = 8) (hz : ∀ j, j < 8 → gI σ b j = gd z j)
    (hq : Q (.inl (some (vi (fnd els z)))) σ) : CC E mX1_numberOf [vr a, vr b] σ Q := by
  refine S_numberOf hL ha hb hn hE.1 hE.2.1 (fun k hk hr _ => ?_) (fun hr => ?_)
  · have e := (rowIs_iff hE hz8 (fun j hj => (hz j hj).symm) hk).mp hr
    rw [← e, fnd_of hnd hk] at hq
    exact hq
  · rw [fnd_no (fun k hk e => hr k hk ((rowIs_iff hE hz8 (fun j hj => (hz j hj).symm) hk).mpr e))] at hq
    exact hq
theorem S_numberOfWhole {a : Nat} {D w : Int} {els : List (List Int)} (hL : Lay LC g c t σ) (ha : isCl a) (hE : CloE σ a D els) (hnd : els.Nodup)
    (hq : ∀ τ, Lay LC g c t τ → Fr (fun b _ => b = a + 6) (fun _ => False) σ τ → Q (.inl (some (vi (fnd els (wholeL w))))) τ) : CC E mX1_numberOfWhole [vr a, vi w] σ Q := by
  have ab : a + 6 < 2968 := by rcases ha with rfl | rfl <;> omega
  refine C_X1_numberOfWhole (B_X1_numberOfWhole_0 hL ha (fun _ => ?_))
  refine loopU (N := 8) (G := fun j τ => GG E mX1_numberOfWhole 2 [some (vr a), some (vi w), some (vi j)] [] τ 0 0 Q)
    (P := fun j τ => Lay LC g c t τ ∧ On (a + 6) σ τ ∧ ∀ k, k < j → gI τ (a + 6) k = gd (wholeL w) k) ?_ ?_ 0 σ (by omega) ⟨hL, On.refl _ _, fun k hk => absurd hk (by omega)⟩
  · rintro j τ hj ⟨hLτ, hO, hz⟩ next
    refine B_X1_numberOfWhole_2 hLτ ha ⟨fun h => absurd h (by omega), fun _ => ⟨fun h0 => ⟨⟨by omega, by omega⟩, fun τ3 e3 => ⟨⟨by omega, by omega⟩, fun hL3 => ?_⟩⟩, fun h0 => ⟨⟨by omega, by omega⟩, fun τ3 e3 => ⟨⟨by omega, by omega⟩, fun hL3 => ?_⟩⟩⟩⟩
    all_goals
      rw [show ((j : Nat) : Int).toNat = j by omega] at e3
      subst e3
      refine next _ ⟨hL3, hO.sI _ _, fun k hk => ?_⟩
      rw [gI_sI]
      by_cases hkj : k = j
      · rw [if_pos ⟨rfl, hkj⟩, gd_whole]
        first
          | rw [if_pos (by omega)]
          | rw [if_neg (by omega)]
      · rw [if_neg (fun h9 => hkj h9.2)]; exact hz k (by omega)
  · rintro τ ⟨hLτ, hO, hz⟩
    refine B_X1_numberOfWhole_2 hLτ ha ⟨fun _ _ => ?_, fun h => absurd (by omega) h⟩
    refine S_numberOfEl (D := D) (els := els) (z := wholeL w) hLτ ha (ha.p (k := 5) (by decide)) (by decide) (hE.same (hO.1 _ _ (by omega)) (fun j => hO.1 _ _ (by omega))) hnd rfl hz ?_
    exact ⟨hLτ, fun _ _ => hq τ hLτ (Fr.ofOn hO (fun _ => rfl))⟩
theorem S_build {a : Nat} {D : Int} {told els : List (List Int)} (hL : Lay LC g c t σ) (ha : isCl a) (hC : Clo D told els) (ht4 : told.length ≤ 4) (hB : OdB els.length (gmt D els)) (hE : CloE σ a D els) (hT : Tab σ a D told els els.length 0) (hO : Org σ a D told els)
    (h : ∀ τ, Lay LC g c t τ → Fr (fun b _ => (24 ≤ b ∧ b ≤ 30) ∨ b = a + 6) (fun _ => False) σ τ → GAll τ D els → Q (.inl none) τ) : CC E mX4_build [vr 24, vr a] σ Q := by
  have ab : a + 6 < 2968 ∧ 30 < a := by rcases ha with rfl | rfl <;> omega
  have n120 := hC.1
  have hG := hC.isG
  refine C_X4_build (B_X4_build_0 hL ha (fun v1 e1 τ2 e2 hL2 => ?_))
  rw [hE.1, if_neg (by omega)] at e1
  subst e1 e2
  have hF2 : Fr (fun b _ => (24 ≤ b ∧ b ≤ 30) ∨ b = a + 6) (fun _ => False) σ (sI σ 24 6 (els.length : Int)) := Fr_of1 (.inl (by omega))
  have hT2 : Tab (sI σ 24 6 (els.length : Int)) a D told els els.length 0 := fun k w hk hw hkw => by
    obtain ⟨n, r1, r2, r3⟩ := hT k w hk hw hkw
    exact ⟨n, r1, r2, by rw [gI_sI, if_neg (by omega)]; exact r3⟩
  have hO2 : Org (sI σ 24 6 (els.length : Int)) a D told els := fun l h1 h2 => by
    obtain ⟨k, w, r1, r2, r3, r4, r5⟩ := hO l h1 h2
    exact ⟨k, w, r1, r2, by rw [gI_sI, if_neg (by omega)]; exact r3, by rw [gI_sI, if_neg (by omega)]; exact r4, r5⟩
  refine S_fillProducts hL2 ha hC ht4 (by rw [gI_sI, if_pos ⟨rfl, rfl⟩]) hT2 hO2 (fun τ3 hL3 hF3 g3 => ⟨hL3, fun _ => ?_⟩)
  refine S_fillOrders hL3 hG g3 hB (fun τ4 hL4 hF4 v4 o4 => ⟨hL4, fun _ => ?_⟩)
  have g4 := g3.fr hF4 ⟨(by first | omega | (dsimp only [frC, frL, frL2, frP, frK]; omega)), fun _ => (by first | omega | (dsimp only [frC, frL, frL2, frP, frK]; omega))⟩
  refine S_fillClasses hL4 hG g4 v4 (fun τ5 hL5 hF5 c5 => ⟨hL5, fun _ => ?_⟩)
  have g5 := g4.fr hF5 ⟨(by first | omega | (dsimp only [frC, frL, frL2, frP, frK]; omega)), fun _ => (by first | omega | (dsimp only [frC, frL, frL2, frP, frK]; omega))⟩
  have v5 := v4.fr hF5 (fun _ => (by first | omega | (dsimp only [frC, frL, frL2, frP, frK]; omega)))
  have o5 := o4.fr hF5 ⟨fun _ => (by first | omega | (dsimp only [frC, frL, frL2, frP, frK]; omega)), (by first | omega | (dsimp only [frC, frL, frL2, frP, frK]; omega)), (by first | omega | (dsimp only [frC, frL, frL2, frP, frK]; omega))⟩
  have hF35 : Fr (fun b _ => (24 ≤ b ∧ b ≤ 30) ∨ b = a + 6) (fun _ => False) σ τ5 :=
    ((hF2.trans (hF3.mono (fun b k hb => by first | omega | (dsimp only [frC, frL, frL2, frP, frK] at *; omega)) (fun _ h => h))).trans (hF4.mono (fun b k hb => by first | omega | (dsimp only [frC, frL, frL2, frP, frK] at *; omega)) (fun _ h => h))).trans (hF5.mono (fun b k hb => by first | omega | (dsimp only [frC, frL, frL2, frP, frK] at *; omega)) (fun _ h => h))
  refine S_numberOfWhole (D := D) (els := els) hL5 ha ⟨(hF35.i (by omega) (by first | omega | (dsimp only [frC, frL, frL2, frP, frK]; omega))).trans hE.1, n120, fun k hk => ⟨(hE.2.2 k hk).1, fun j hj => (hF35.i (by omega) (by first | omega | (dsimp only [frC, frL, frL2, frP, frK]; omega))).trans ((hE.2.2 k hk).2 j hj)⟩⟩ hC.2.2.2.1 (fun τ6 hL6 hF6 => ⟨hL6, fun _ τ7 e7 hL7 => ?_⟩)
  subst e7
  have hF7 : Fr (fun b k => b = a + 6 ∨ (b = 24 ∧ k = 11)) (fun _ => False) τ5 (sI τ6 24 11 (fnd els (wholeL (-4)))) := (hF6.mono (fun b k hb => .inl hb) (fun _ h => h)).sI (.inr ⟨rfl, rfl⟩)
  refine h _ hL7 (hF35.trans (hF7.mono (fun b k hb => by first | omega | (dsimp only [frC, frL, frL2, frP, frK] at *; omega)) (fun _ h => h))) ⟨g5.fr hF7 ⟨(by first | omega | (dsimp only [frC, frL, frL2, frP, frK]; omega)), fun _ => (by first | omega | (dsimp only [frC, frL, frL2, frP, frK]; omega))⟩, v5.fr hF7 (fun _ => (by first | omega | (dsimp only [frC, frL, frL2, frP, frK]; omega))), o5.fr hF7 ⟨fun _ => (by first | omega | (dsimp only [frC, frL, frL2, frP, frK]; omega)), (by first | omega | (dsimp only [frC, frL, frL2, frP, frK]; omega)), (by first | omega | (dsimp only [frC, frL, frL2, frP, frK]; omega))⟩, c5.fr hF7 ⟨fun _ => ⟨(by first | omega | (dsimp only [frC, frL, frL2, frP, frK]; omega)), (by first | omega | (dsimp only [frC, frL, frL2, frP, frK]; omega)), (by first | omega | (dsimp only [frC, frL, frL2, frP, frK]; omega))⟩, (by first | omega | (dsimp only [frC, frL, frL2, frP, frK]; omega)), (by first | omega | (dsimp only [frC, frL, frL2, frP, frK]; omega))⟩, ?_⟩
  rw [gI_sI, if_pos ⟨rfl, rfl⟩]
end S26
