/-! ===== the class: rows in their order ===== -/
section SD7
variable {E : Ev} {σ : Sg} {Q : NO → Sg → Prop} {g : Sg} {c t : Nat}
theorem S_isOneEv {r i : Nat} (hL : Lay LC g c t σ) (h16 : gI σ 34 7 = (r : Int)) (h48 : r ≤ 12) (hi : i < 12) (hq : ∀ x : Int, (one9 r (gI σ (gR σ 36 i)) → x = 1) → (¬ one9 r (gI σ (gR σ 36 i)) → x = 0) → Q (.inl (some (vi x))) σ) : CC E mX0_isOneEverywhere [vr 34, vi i] σ Q := by
  refine C_X0_isOneEverywhere (B_X0_isOneEverywhere_0 hL (fun _ => ?_))
  refine loopU (N := r) (G := fun a τ => GG E mX0_isOneEverywhere 2 [some (vr 34), some (vi i), some (vi a)] [] τ 0 0 Q) (P := fun a τ => τ = σ ∧ ∀ b, b < a → gI σ (gR σ 36 i) b = 1) ?_ ?_ 0 σ (by omega) ⟨rfl, fun b hb => absurd hb (by omega)⟩
  · rintro a τ ha ⟨rfl, hz⟩ next
    refine B_X0_isOneEverywhere_2 hL ?_
    rw [h16, show ((a : Nat) : Int).toNat = a by omega, show ((i : Nat) : Int).toNat = i by omega]
    refine ⟨fun h9 => absurd h9 (by omega), fun _ => ⟨⟨by omega, by omega⟩, fun b2 e2 _ => ⟨⟨by omega, by omega⟩, fun he => ⟨⟨by omega, by omega⟩, fun _ => next τ ⟨rfl, fun b hb => ?_⟩⟩, fun hne _ => ?_⟩⟩⟩
    · subst e2
      by_cases hba : b = a
      · rw [hba]; exact he
      · exact hz b (by omega)
    · subst e2
      exact hq 0 (fun h9 => absurd (h9 a ha) hne) (fun _ => rfl)
  · rintro τ ⟨rfl, hz⟩
    refine B_X0_isOneEverywhere_2 hL ?_
    rw [h16]
    exact ⟨fun _ _ => hq 1 (fun _ => rfl) (fun h9 => absurd hz h9), fun h9 => absurd (by omega) h9⟩
abbrev ahC (r : Nat) (σ : Sg) (i j : Nat) : Prop := ahd r (gI σ 49 i) (gI σ (gR σ 36 i)) (gI σ 49 j) (gI σ (gR σ 36 j))
theorem S_comesAhead {r i j : Nat} (hL : Lay LC g c t σ) (h16 : gI σ 34 7 = (r : Int)) (h48 : r ≤ 12) (hi : i < 12) (hj : j < 12) (hn : ¬ (one9 r (gI σ (gR σ 36 i)) ∧ one9 r (gI σ (gR σ 36 j))))
    (hq : ∀ x : Int, (ahC r σ i j → x = 1) → (¬ ahC r σ i j → x = 0) → Q (.inl (some (vi x))) σ) : CC E mX0_comesAhead [vr 34, vi i, vi j] σ Q := by
  refine C_X0_comesAhead (B_X0_comesAhead_0 hL (fun _ => ?_))
  rw [show ((i : Nat) : Int).toNat = i by omega, show ((j : Nat) : Int).toNat = j by omega]
  refine S_isOneEv hL h16 h48 hj (fun y hy1 hy0 => ⟨hL, fun _ => ⟨fun hye _ => ?_, fun hyn _ => ?_⟩⟩)
  · have oj : ¬ one9 r (gI σ (gR σ 36 j)) := fun h9 => by have := hy1 h9; omega
    refine S_isOneEv hL h16 h48 hi (fun x hx1 hx0 => ⟨hL, fun _ => ⟨fun hne _ => ?_, fun he => ⟨⟨by omega, by omega⟩, ⟨by omega, by omega⟩, fun hdd _ => ?_, fun hdd _ => ?_⟩⟩⟩)
    · have oi : one9 r (gI σ (gR σ 36 i)) := Classical.byContradiction (fun h9 => hne (hx0 h9))
      refine S_isOneEv hL h16 h48 hi (fun z hz1 hz0 => ⟨hL, fun _ => ⟨fun _ _ => hq 1 (fun _ => rfl) (fun h9 => absurd (.inl ⟨oi, oj⟩) h9), fun h9 => by have := hz1 oi; omega⟩⟩)
    · have oi : ¬ one9 r (gI σ (gR σ 36 i)) := fun h9 => by have := hx1 h9; omega
      refine loopU (N := r) (G := fun a τ => GG E mX0_comesAhead 64 [some (vr 34), some (vi i), some (vi j), some (vi a)] [] τ 0 0 Q) (P := fun a τ => τ = σ ∧ ∀ b, b < a → gI σ (gR σ 36 i) b = gI σ (gR σ 36 j) b) ?_ ?_ 0 σ (by omega) ⟨rfl, fun b hb => absurd hb (by omega)⟩
      · rintro a τ ha ⟨rfl, hz⟩ next
        refine B_X0_comesAhead_64 hL ?_
        rw [h16, show ((i : Nat) : Int).toNat = i by omega, show ((j : Nat) : Int).toNat = j by omega, show ((a : Nat) : Int).toNat = a by omega]
        refine ⟨fun h9 => absurd h9 (by omega), fun _ => ⟨⟨by omega, by omega⟩, fun b2 e2 _ => ⟨⟨by omega, by omega⟩, ⟨by omega, by omega⟩, fun b6 e6 _ => ?_⟩⟩⟩
        subst e2 e6
        refine ⟨fun he2 => ⟨⟨by omega, by omega⟩, fun _ => next τ ⟨rfl, fun b hb => ?_⟩⟩, fun hne b9 e9 _ b11 e11 _ => ?_⟩
        · by_cases hba : b = a
          · rw [hba]; exact he2
          · exact hz b (by omega)
        · subst e9 e11
          refine ⟨fun hle _ => hq 0 (fun h9 => ?_) (fun _ => rfl), fun hle _ => hq 1 (fun _ => rfl) (fun h9 => absurd (.inr ⟨oi, oj, .inr ⟨hdd, a, ha, hz, by omega⟩⟩) h9)⟩
          exfalso
          rcases h9 with ⟨h9, _⟩ | ⟨_, _, h9 | ⟨_, b, hb, hb2, hb3⟩⟩
          · exact oi h9
          · omega
          · by_cases hba : b < a
            · have := hz b hba; omega
            · by_cases hab : a < b
              · exact hne (hb2 a hab)
              · have : b = a := by omega
                subst this
                omega
      · rintro τ ⟨rfl, hz⟩
        refine B_X0_comesAhead_64 hL ?_
        rw [h16]
        refine ⟨fun _ _ => hq 0 (fun h9 => ?_) (fun _ => rfl), fun h9 => absurd (by omega) h9⟩
        exfalso
        rcases h9 with ⟨h9, _⟩ | ⟨_, _, h9 | ⟨_, b, hb, hb2, hb3⟩⟩
        · exact oi h9
        · omega
        · have := hz b hb; omega
    · have oi : ¬ one9 r (gI σ (gR σ 36 i)) := fun h9 => by have := hx1 h9; omega
      refine S_isOneEv hL h16 h48 hi (fun z hz1 hz0 => ⟨hL, fun _ => ⟨fun h9 => absurd (hz0 oi) h9, fun _ => ⟨fun hle _ => hq 0 (fun h9 => ?_) (fun _ => rfl), fun hle _ => hq 1 (fun _ => rfl) (fun h9 => absurd (.inr ⟨oi, oj, .inl (by omega)⟩) h9)⟩⟩⟩)
      exfalso
      rcases h9 with ⟨h9, _⟩ | ⟨_, _, h9 | ⟨h9, _⟩⟩
      · exact oi h9
      · omega
      · omega
  · have oj : one9 r (gI σ (gR σ 36 j)) := Classical.byContradiction (fun h9 => hyn (hy0 h9))
    refine hq 0 (fun h9 => ?_) (fun _ => rfl)
    exfalso
    rcases h9 with ⟨h9, h8⟩ | ⟨_, h9, _⟩
    · exact h8 oj
    · exact h9 oj
abbrev frSc : Nat → Nat → Prop := fun a _ => a = 49
abbrev frSw : Nat → Prop := fun a => a = 36
theorem S_sort0 {r f : Nat} (hL : Lay LC g c t σ) (hJ : JC0 σ) (h16 : gI σ 34 7 = (r : Int)) (h48 : r ≤ 12) (h35 : gI σ 34 7 = (f : Int)) (hf : f ≤ 12) (hne : ∀ i j, i < f → j < f → i ≠ j → ∃ a, a < r ∧ gI σ (gR σ 36 i) a ≠ gI σ (gR σ 36 j) a)
    (h : ∀ τ (q : Nat → Nat), Lay LC g c t τ → JC0 τ → Fr frSc frSw σ τ → Prm f q → Srt (ahC r σ) f q → (∀ i, i < f → gR τ 36 i = gR σ 36 (q i) ∧ gI τ 49 i = gI σ 49 (q i)) → Q (.inl none) τ) : CC E mX0_sort [vr 34] σ Q := by
  have ho : Ord9 f (ahC r σ) := ⟨fun a b c _ _ _ => ahd_tr, fun a b _ _ => ahd_as, fun a b ha hb hab => ahd_tot (hne a b ha hb hab)⟩
  have rw9 : ∀ e, e < 12 → 37 ≤ gR σ 36 e ∧ gR σ 36 e < 49 := fun e he => hL.2.2.2.1 (36, 12, 37, 49) (by decide) e he
  -- a state with the rows by q
  let ST9 : (Nat → Nat) → Sg → Prop := fun q τ => Lay LC g c t τ ∧ JC0 τ ∧ Fr frSc frSw σ τ ∧ ∀ i, i < f → gR τ 36 i = gR σ 36 (q i) ∧ gI τ 49 i = gI σ 49 (q i)
  have ah : ∀ q τ i j, Prm f q → ST9 q τ → i < f → j < f → (ahC r τ i j ↔ ahC r σ (q i) (q j)) := by
    rintro q τ i j hp ⟨hL1, hJ1, hF1, hq⟩ hi hj
    have a1 := rw9 (q i) (by have := hp.1 i hi; omega)
    have a2 := rw9 (q j) (by have := hp.1 j hj; omega)
    have e1 : gI τ (gR σ 36 (q i)) = gI σ (gR σ 36 (q i)) := funext (fun k => hF1.i (by omega) (by omega))
    have e2 : gI τ (gR σ 36 (q j)) = gI σ (gR σ 36 (q j)) := funext (fun k => hF1.i (by omega) (by omega))
    show ahd r (gI τ 49 i) (gI τ (gR τ 36 i)) (gI τ 49 j) (gI τ (gR τ 36 j)) ↔ _
    rw [(hq i hi).1, (hq i hi).2, (hq j hj).1, (hq j hj).2, e1, e2]
  have inner : ∀ i, i < f → (∀ q τ, Prm f q → Srt (ahC r σ) (i + 1) q → ST9 q τ → GG E mX0_sort 2 [some (vr 34), some (vi ((i : Int) + 1)), none, none, none] [] τ 0 0 Q) → ∀ k q τ, k ≤ i → SrtP f (ahC r σ) i k q → ST9 q τ → GG E mX0_sort 12 [some (vr 34), some (vi i), some (vi k), none, none] [] τ 0 0 Q := by
    intro i hi done k
    induction k with
    | zero =>
      rintro q τ hk hS ⟨hL1, hJ1, hF1, hq⟩
      refine B_X0_sort_12 hL1 ⟨fun _ => ⟨⟨by omega, by omega⟩, fun _ => done q τ hS.1 (hS.stop ho hi hk (.inl rfl)) ⟨hL1, hJ1, hF1, hq⟩⟩, fun h9 => absurd (by omega) h9⟩
    | succ k ih =>
      rintro q τ hk hS ⟨hL1, hJ1, hF1, hq⟩
      have hst : ST9 q τ := ⟨hL1, hJ1, hF1, hq⟩
      have hp := hS.1
      have kk : ((k + 1 : Nat) : Int) - 1 = (k : Int) := by omega
      have e16 : gI τ 34 7 = (r : Int) := (hF1.i (by omega) (by omega)).trans h16
      have hno : ¬ (one9 r (gI τ (gR τ 36 (k + 1))) ∧ one9 r (gI τ (gR τ 36 k))) := by
        rintro ⟨o1, o2⟩
        have b1 := hp.1 (k + 1) (by omega)
        have b2 := hp.1 k (by omega)
        obtain ⟨a, ha, hn⟩ := hne (q (k + 1)) (q k) b1 b2 (fun h9 => by have := hp.2.1 _ _ (by omega) (by omega) h9; omega)
        have c1 := rw9 (q (k + 1)) (by omega)
        have c2 := rw9 (q k) (by omega)
        have x1 := o1 a ha
        have x2 := o2 a ha
        rw [(hq (k + 1) (by omega)).1] at x1
        rw [(hq k (by omega)).1] at x2
        rw [hF1.i (by omega) (by omega)] at x1 x2
        omega
      refine B_X0_sort_12 hL1 ⟨fun h9 => absurd h9 (by omega), fun _ => ?_⟩
      rw [kk]
      refine ⟨⟨by omega, by omega⟩, fun _ => S_comesAhead (i := k + 1) (j := k) hL1 e16 h48 (by omega) (by omega) hno (fun x hx1 hx0 => ⟨hL1, fun _ => ⟨fun he => ⟨⟨by omega, by omega⟩, fun _ => ?_⟩, fun hn => ?_⟩⟩)⟩
      · have nl : ¬ ahC r τ (k + 1) k := fun h9 => by have := hx1 h9; omega
        refine done q τ hp (hS.stop ho hi hk (.inr ?_)) hst
        rw [show k + 1 - 1 = k by omega, ← ah q τ (k + 1) k hp hst (by omega) (by omega)]
        exact nl
      · have yl : ahC r τ (k + 1) k := Classical.byContradiction (fun h9 => hn (hx0 h9))
        rw [ah q τ (k + 1) k hp hst (by omega) (by omega)] at yl
        rw [show ((k + 1 : Nat) : Int).toNat = k + 1 by omega, show ((k : Nat) : Int).toNat = k by omega]
        refine ⟨⟨by omega, by omega⟩, fun b7 e7 _ => ⟨⟨by omega, by omega⟩, fun b10 e10 _ τ12 e12 τ13 e13 τ14 e14 τ15 e15 => ⟨⟨by omega, by omega⟩, fun hL15 => ?_⟩⟩⟩
        rw [show ((k + 1 : Nat) : Int) + -1 = (k : Int) by omega]
        have R15 : ∀ a j, gR τ15 a j = if a = 36 then gR τ 36 (swI (k + 1) k j) else gR τ a j := fun a j => by
          rw [e15, e14, e13, e12, e10, e7]
          show (if a = 36 ∧ j = k then gR τ 36 (k + 1) else if a = 36 ∧ j = k + 1 then gR τ 36 k else τ.2.1 a j) = _
          by_cases ha : a = 36
          · subst ha
            rw [if_pos rfl]
            unfold swI
            by_cases h1 : j = k
            · rw [if_pos ⟨rfl, h1⟩, if_neg (by omega), if_pos h1]
            · rw [if_neg (fun h9 => h1 h9.2)]
              by_cases h2 : j = k + 1
              · rw [if_pos ⟨rfl, h2⟩, if_pos h2]
              · rw [if_neg (fun h9 => h2 h9.2), if_neg h2, if_neg h1]; rfl
          · rw [if_neg (fun h9 => ha h9.1), if_neg (fun h9 => ha h9.1), if_neg ha]; rfl
        have I13 : ∀ a j, gI τ13 a j = gI τ a j := fun a j => by rw [e13, e12]; rfl
        have I15 : ∀ a j, gI τ15 a j = if a = 49 then gI τ 49 (swI (k + 1) k j) else gI τ a j := fun a j => by
          rw [e15, gI_sI, e14, gI_sI, I13, I13, I13]
          by_cases ha : a = 49
          · subst ha
            rw [if_pos rfl]
            unfold swI
            by_cases h1 : j = k
            · rw [if_pos ⟨rfl, h1⟩, if_neg (by omega), if_pos h1]
            · rw [if_neg (fun h9 => h1 h9.2)]
              by_cases h2 : j = k + 1
              · rw [if_pos ⟨rfl, h2⟩, if_pos h2]
              · rw [if_neg (fun h9 => h2 h9.2), if_neg h2, if_neg h1]
          · rw [if_neg (fun h9 => ha h9.1), if_neg (fun h9 => ha h9.1), if_neg ha]
        refine ih (fun e => q (swI (k + 1) k e)) τ15 (by omega) (hS.swap hi hk yl) ⟨hL15, ?_, hF1.trans (fun a ha j => ⟨fun hw => by rw [I15, if_neg hw], fun hv => by rw [R15, if_neg hv]⟩), fun j hj => ?_⟩
        · intro a ha i' j' hi' hj' e
          rw [R15, R15] at e
          by_cases ha1 : a = 36
          · rw [if_pos ha1, if_pos ha1] at e
            exact swI_inj (hJ1 36 (by simp) _ _ (swI_lt (by omega) (by omega) hi') (swI_lt (by omega) (by omega) hj') e)
          · rw [if_neg ha1, if_neg ha1] at e
            exact hJ1 a ha i' j' hi' hj' e
        · have hs := swI_lt (n := f) (k := k + 1) (q := k) (e := j) (by omega) (by omega) hj
          rw [R15, if_pos rfl, I15, if_pos rfl]
          exact hq _ hs
  have outer : ∀ d i q τ, i + d = f ∨ (d = 0 ∧ f ≤ i) → Prm f q → Srt (ahC r σ) (min i f) q → ST9 q τ → GG E mX0_sort 2 [some (vr 34), some (vi i), none, none, none] [] τ 0 0 Q := by
    intro d
    induction d with
    | zero =>
      rintro i q τ hd hp hS ⟨hL1, hJ1, hF1, hq⟩
      have e35 : gI τ 34 7 = (f : Int) := (hF1.i (by omega) (by omega)).trans h35
      have hmin : min i f = f := by omega
      rw [hmin] at hS
      refine B_X0_sort_2 hL1 ?_
      rw [e35]
      exact ⟨fun _ _ => h τ q hL1 hJ1 hF1 hp hS hq, fun h9 => absurd (by omega) h9⟩
    | succ d ih =>
      rintro i q τ hd hp hS ⟨hL1, hJ1, hF1, hq⟩
      have hif : i < f := by omega
      have e35 : gI τ 34 7 = (f : Int) := (hF1.i (by omega) (by omega)).trans h35
      have hmin : min i f = i := by omega
      rw [hmin] at hS
      refine B_X0_sort_2 hL1 ?_
      rw [e35]
      refine ⟨fun h9 => absurd h9 (by omega), fun _ _ => inner i hif (fun q2 τ2 hp2 hS2 hst2 => ?_) i q τ (Nat.le_refl _) (hS.start hp) ⟨hL1, hJ1, hF1, hq⟩⟩
      exact ih (i + 1) q2 τ2 (by omega) hp2 (by rw [show min (i + 1) f = i + 1 by omega]; exact hS2) hst2
  refine C_X0_sort (B_X0_sort_0 hL (fun _ => ?_))
  exact outer (f - 1) 1 (fun e => e) σ (by omega) ⟨fun a ha => ha, fun a b _ _ e => e, fun y hy => ⟨y, hy, rfl⟩⟩ (fun a b h1 h2 => absurd h2 (by omega)) ⟨hL, hJ, Fr.refl _, fun i hi => ⟨rfl, rfl⟩⟩
end SD7
