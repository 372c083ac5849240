/-! ===== the class: the equation ===== -/
section SD3
variable {E : Ev} {σ : Sg} {Q : NO → Sg → Prop} {g : Sg} {c t : Nat}
abbrev frMc : Nat → Nat → Prop := fun a _ => a = 121 ∨ (96 ≤ a ∧ a < 108)
theorem S_multiplyColumn {p n s : Nat} {T S : Nat → Nat → Int} (hL : Lay LC g c t σ) (h35 : gI σ 35 0 = (p : Int)) (hp : 2 ≤ p ∧ p ≤ 241) (h13 : gI σ 54 13 = (n : Int)) (hn : n ≤ 12) (hs : s < n) (hT : ∀ u v, u < n → v < n → gI σ (83 + u) v = T u v ∧ 0 ≤ T u v ∧ T u v < (p : Int)) (hS : ∀ u, u < n → gI σ (96 + u) s = S u s ∧ 0 ≤ S u s ∧ S u s < (p : Int))
    (h : ∀ τ, Lay LC g c t τ → Fr frMc (fun _ => False) σ τ → (∀ u, u < n → gI τ 121 u = FLp p n T S u s) → (∀ u v, u < n → gI τ (96 + u) v = if v = s then FLp p n T S u s else gI σ (96 + u) v) → Q (.inl none) τ) : CC E mX8_multiplyColumn [vr 54, vi s] σ Q := by
  have kp : ∀ τ, Fr frMc (fun _ => False) σ τ → gI τ 35 0 = (p : Int) ∧ gI τ 54 13 = (n : Int) := fun τ hF => ⟨(hF.i (by omega) (by omega)).trans h35, (hF.i (by omega) (by omega)).trans h13⟩
  refine C_X8_multiplyColumn (B_X8_multiplyColumn_0 hL (fun _ => ?_))
  refine loopU (N := n) (G := fun u τ => GG E mX8_multiplyColumn 2 [some (vr 54), some (vi s), some (vi u), none, none] [] τ 0 0 Q)
    (P := fun m τ => Lay LC g c t τ ∧ Fr (fun a _ => a = 121) (fun _ => False) σ τ ∧ ∀ u, u < m → gI τ 121 u = FLp p n T S u s) ?_ ?_ 0 σ (by omega) ⟨hL, Fr.refl _, fun u hu => absurd hu (by omega)⟩
  · rintro u τ hu ⟨hL1, hF0, hv1⟩ next
    have hF1 : Fr frMc (fun _ => False) σ τ := hF0.mono (fun a j h9 => .inl h9) (fun _ h => h)
    obtain ⟨k35, k13⟩ := kp τ hF1
    refine B_X8_multiplyColumn_2 hL1 ?_
    rw [k13]
    refine ⟨fun h9 => absurd h9 (by omega), fun _ _ => ?_⟩
    let F9 : Nat → Int := fun v => T u v * S v s
    have bF : ∀ v, v < n → (F9 v).natAbs ≤ 241 * 241 := fun v hv => m4 (by have := hT u v hu hv; omega) (by have := hS v hv; omega)
    refine loopU (N := n) (G := fun v τ => GG E mX8_multiplyColumn 15 [some (vr 54), some (vi s), some (vi u), some (vi (sm F9 v)), some (vi v)] [] τ 0 0 Q) (P := fun _ τ' => τ' = τ) ?_ ?_ 0 τ (by omega) rfl
    · rintro v τ3 hv rfl next3
      have b1 := sm_bd (f := F9) (b := 241 * 241) v (fun j hj => bF j (by omega))
      have b2 := sm_bd (f := F9) (b := 241 * 241) (v + 1) (fun j hj => bF j (by omega))
      have b3 := bF v hv
      have e9 : sm F9 (v + 1) = sm F9 v + F9 v := rfl
      have q1 : gI τ3 (83 + u) v = T u v := (hF0.i (by omega) (by omega)).trans (hT u v hu hv).1
      have q2 : gI τ3 (96 + v) s = S v s := (hF0.i (by omega) (by omega)).trans (hS v hv).1
      refine B_X8_multiplyColumn_15 hL1 ?_
      rw [k13, show ((u : Nat) : Int).toNat = u by omega, show ((v : Nat) : Int).toNat = v by omega, show ((s : Nat) : Int).toNat = s by omega, q1, q2]
      have e8 : T u v * S v s = F9 v := rfl
      rw [e8]
      refine ⟨fun h9 => absurd h9 (by omega), fun _ => ⟨⟨by omega, by omega⟩, ⟨by omega, by omega⟩, ⟨by omega, by omega⟩, ⟨by omega, by omega⟩, fun v12 e12 => ?_⟩⟩
      rw [e12]
      exact ⟨⟨by omega, by omega⟩, ⟨by omega, by omega⟩, fun _ => next3 τ3 rfl⟩
    · rintro τ3 rfl
      refine B_X8_multiplyColumn_15 hL1 ?_
      rw [k13, show ((u : Nat) : Int).toNat = u by omega]
      refine ⟨fun _ _ => S_mod2 hL1 k35 (by omega) ⟨hL1, fun _ => ⟨⟨by omega, by omega⟩, fun τ4 e4 => ⟨⟨by omega, by omega⟩, fun hL4 => next τ4 ⟨hL4, by rw [e4]; exact hF0.sI rfl, fun w hw => ?_⟩⟩⟩⟩, fun h9 => absurd (by omega) h9⟩
      rw [e4, gI_sI]
      by_cases hwu : w = u
      · rw [if_pos ⟨rfl, hwu⟩, hwu]; rfl
      · rw [if_neg (fun h9 => hwu h9.2)]; exact hv1 w (by omega)
  · rintro τ ⟨hL1, hF0, hv1⟩
    have hF1 : Fr frMc (fun _ => False) σ τ := hF0.mono (fun a j h9 => .inl h9) (fun _ h => h)
    obtain ⟨k35, k13⟩ := kp τ hF1
    refine B_X8_multiplyColumn_2 hL1 ?_
    rw [k13]
    refine ⟨fun _ _ => ?_, fun h9 => absurd (by omega) h9⟩
    refine loopU (N := n) (G := fun u τ => GG E mX8_multiplyColumn 74 [some (vr 54), some (vi s), some (vi u), none, none] [] τ 0 0 Q)
      (P := fun m ρ => Lay LC g c t ρ ∧ Fr frMc (fun _ => False) σ ρ ∧ (∀ u, u < n → gI ρ 121 u = FLp p n T S u s) ∧ ∀ u v, u < n → gI ρ (96 + u) v = if v = s ∧ u < m then FLp p n T S u s else gI σ (96 + u) v) ?_ ?_ 0 τ (by omega) ⟨hL1, hF1, hv1, fun u v hu => by rw [if_neg (by omega)]; exact hF0.i (by omega) (by omega)⟩
    · rintro u ρ hu ⟨hL2, hF2, hv2, hw2⟩ next
      obtain ⟨k35, k13⟩ := kp ρ hF2
      refine B_X8_multiplyColumn_74 hL2 ?_
      rw [k13, show ((u : Nat) : Int).toNat = u by omega, show ((s : Nat) : Int).toNat = s by omega, hv2 u hu]
      refine ⟨fun h9 => absurd h9 (by omega), fun _ => ⟨⟨by omega, by omega⟩, ⟨by omega, by omega⟩, fun τ4 e4 => ⟨⟨by omega, by omega⟩, fun hL4 => next τ4 ⟨hL4, by rw [e4]; exact hF2.sI (.inr ⟨by omega, by omega⟩), fun w hw => by rw [e4, gI_sI, if_neg (by omega)]; exact hv2 w hw, fun w v hw => ?_⟩⟩⟩⟩
      rw [e4, gI_sI]
      by_cases hwu : w = u
      · by_cases hvs : v = s
        · rw [if_pos ⟨by omega, hvs⟩, if_pos ⟨hvs, by omega⟩, hwu]
        · rw [if_neg (fun h9 => hvs h9.2), hw2 w v hw, if_neg (fun h9 => hvs h9.1), if_neg (fun h9 => hvs h9.1)]
      · rw [if_neg (by omega), hw2 w v hw]
        by_cases hc : v = s ∧ w < u
        · rw [if_pos hc, if_pos ⟨hc.1, by omega⟩]
        · rw [if_neg hc, if_neg (by omega)]
    · rintro ρ ⟨hL2, hF2, hv2, hw2⟩
      obtain ⟨k35, k13⟩ := kp ρ hF2
      refine B_X8_multiplyColumn_74 hL2 ?_
      rw [k13]
      refine ⟨fun _ _ => h ρ hL2 hF2 hv2 (fun u v hu => ?_), fun h9 => absurd (by omega) h9⟩
      rw [hw2 u v hu]
      by_cases hvs : v = s
      · rw [if_pos ⟨hvs, hu⟩, if_pos hvs]
      · rw [if_neg (fun h9 => hvs h9.1), if_neg hvs]
theorem FLs_rng {p n : Nat} {T : Nat → Nat → Int} (hp : 1 < p) (k u s : Nat) : 0 ≤ FLs p n T k u s ∧ FLs p n T k u s < (p : Int) := by
  cases k with
  | zero =>
    show 0 ≤ dl u s ∧ dl u s < (p : Int)
    unfold dl
    split <;> omega
  | succ k =>
    show 0 ≤ (if u = s then (_ : Int) % (p : Int) else FLp p n T (FLs p n T k) u s) ∧ (if u = s then (_ : Int) % (p : Int) else FLp p n T (FLs p n T k) u s) < (p : Int)
    split
    · exact em_rng (by omega) _
    · exact em_rng (by omega) _
theorem FLq_rng {p n : Nat} {T : Nat → Nat → Int} (hp : 1 < p) (k : Nat) : 0 ≤ FLq p n T k ∧ FLq p n T k < (p : Int) := by
  cases k with
  | zero => show (0 : Int) ≤ 1 ∧ (1 : Int) < (p : Int); omega
  | succ k => exact ov_rng (by omega) _ _
abbrev frEq : Nat → Nat → Prop := fun a _ => a = 121 ∨ a = 123 ∨ (96 ≤ a ∧ a < 108)
theorem S_fillEquation {p n : Nat} {T : Nat → Nat → Int} (hL : Lay LC g c t σ) (h35 : gI σ 35 0 = (p : Int)) (hp : 2 ≤ p ∧ p ≤ 241) (h13 : gI σ 54 13 = (n : Int)) (hn : n ≤ 12) (hT : ∀ u v, u < n → v < n → gI σ (83 + u) v = T u v ∧ 0 ≤ T u v ∧ T u v < (p : Int))
    (h : ∀ τ, Lay LC g c t τ → Fr frEq (fun _ => False) σ τ → (∀ k, k ≤ n → gI τ 123 (n - k) = FLq p n T k) → Q (.inl none) τ) : CC E mX8_fillEquation [vr 54] σ Q := by
  have kp : ∀ τ, Fr frEq (fun _ => False) σ τ → gI τ 35 0 = (p : Int) ∧ gI τ 54 13 = (n : Int) ∧ ∀ u v, u < n → v < n → gI τ (83 + u) v = T u v := fun τ hF => ⟨(hF.i (by omega) (by omega)).trans h35, (hF.i (by omega) (by omega)).trans h13, fun u v hu hv => (hF.i (by omega) (by omega)).trans (hT u v hu hv).1⟩
  have main : ∀ τ, Lay LC g c t τ → Fr frEq (fun _ => False) σ τ → (∀ u v, u < n → v < n → gI τ (96 + u) v = FLs p n T 0 u v) → gI τ 123 n = 1 → GG E mX8_fillEquation 62 [some (vr 54), some (vi ((0 : Nat) + 1 : Int)), none, none, none] [] τ 0 0 Q := by
    intro τ0 hL0 hF0 hS0 hq0
    refine loopU (N := n) (G := fun k τ => GG E mX8_fillEquation 62 [some (vr 54), some (vi ((k : Int) + 1)), none, none, none] [] τ 0 0 Q)
      (P := fun k τ => Lay LC g c t τ ∧ Fr frEq (fun _ => False) σ τ ∧ (∀ u v, u < n → v < n → gI τ (96 + u) v = FLs p n T k u v) ∧ ∀ k', k' ≤ k → gI τ 123 (n - k') = FLq p n T k') ?_ ?_ 0 τ0 (by omega) ⟨hL0, hF0, hS0, fun k' hk' => by rw [show k' = 0 by omega]; exact hq0⟩
    · rintro k τ hk ⟨hL1, hF1, hS1, hq1⟩ next
      obtain ⟨k35, k13, kT⟩ := kp τ hF1
      refine B_X8_fillEquation_62 hL1 ?_
      rw [k13]
      refine ⟨fun h9 => absurd h9 (by omega), fun _ _ => ?_⟩
      let V9 : Nat → Nat → Int := FLp p n T (FLs p n T k)
      have bV : ∀ u v, (V9 u v).natAbs ≤ 241 := fun u v => by
        have := em_rng (p := p) (by omega) (sm (fun w => T u w * FLs p n T k w v) n)
        have e : V9 u v = sm (fun w => T u w * FLs p n T k w v) n % (p : Int) := rfl
        omega
      refine loopU (N := n) (G := fun s τ => GG E mX8_fillEquation 74 [some (vr 54), some (vi ((k : Int) + 1)), some (vi (sm (fun s => V9 s s) s)), some (vi s), none] [] τ 0 0 Q)
        (P := fun m τ => Lay LC g c t τ ∧ Fr frEq (fun _ => False) σ τ ∧ (∀ k', k' ≤ k → gI τ 123 (n - k') = FLq p n T k') ∧ ∀ u v, u < n → v < n → gI τ (96 + u) v = if v < m then V9 u v else FLs p n T k u v) ?_ ?_ 0 τ (by omega) ⟨hL1, hF1, hq1, fun u v hu hv => by rw [if_neg (by omega)]; exact hS1 u v hu hv⟩
      · rintro s τ2 hs ⟨hL2, hF2, hq2, hv2⟩ next2
        obtain ⟨g35, g13, gT⟩ := kp τ2 hF2
        have b1 := sm_bd (f := fun s => V9 s s) (b := 241) s (fun j hj => bV j j)
        have b3 := bV s s
        refine B_X8_fillEquation_74 hL2 ?_
        rw [g13]
        refine ⟨fun h9 => absurd h9 (by omega), fun _ _ => S_multiplyColumn (T := T) (S := FLs p n T k) hL2 g35 hp g13 hn hs (fun u v hu hv => ⟨gT u v hu hv, (hT u v hu hv).2⟩) (fun u hu => ⟨by rw [hv2 u s hu hs, if_neg (by omega)], FLs_rng (by omega) k u s⟩) (fun τ3 hL3 hF3 hc3 hw3 => ⟨hL3, ?_⟩)⟩
        have e121 : gI τ3 121 s = V9 s s := hc3 s hs
        rw [show ((s : Nat) : Int).toNat = s by omega, e121]
        refine ⟨⟨by omega, by omega⟩, ⟨by omega, by omega⟩, ⟨by omega, by omega⟩, fun _ => next2 τ3 ⟨hL3, hF2.trans (hF3.mono (fun a j h9 => by omega) (fun _ h => h)), fun k' hk' => (hF3.i (by omega) (by omega)).trans (hq2 k' hk'), fun u v hu hv => ?_⟩⟩
        rw [hw3 u v hu]
        by_cases hvs : v = s
        · rw [if_pos hvs, if_pos (by omega), hvs]
        · rw [if_neg hvs, hv2 u v hu hv]
          by_cases hlt : v < s
          · rw [if_pos hlt, if_pos (by omega)]
          · rw [if_neg hlt, if_neg (by omega)]
      · rintro τ2 ⟨hL2, hF2, hq2, hv2⟩
        obtain ⟨g35, g13, gT⟩ := kp τ2 hF2
        have b1 := sm_bd (f := fun s => V9 s s) (b := 241) n (fun j hj => bV j j)
        have r1 := em_rng (p := p) (by omega) (-(sm (fun s => V9 s s) n))
        have r2 : 0 ≤ ivV p ((k : Int) + 1) ∧ ivV p ((k : Int) + 1) < (p : Int) := em_rng (by omega) _
        have ec : ((-(sm (fun s => V9 s s) n)) % (p : Int) * ivV p ((k : Int) + 1)) % (p : Int) = FLq p n T (k + 1) := by
          rw [iv_ov]; rfl
        have rc9 := FLq_rng (p := p) (n := n) (T := T) (by omega) (k + 1)
        refine B_X8_fillEquation_74 hL2 ?_
        rw [g13]
        refine ⟨fun _ => ⟨⟨by omega, by omega⟩, fun _ => S_mod2 hL2 g35 (by omega) ⟨hL2, fun _ _ => S_inverse2 hL2 g35 (by omega) ⟨hL2, fun _ _ => S_times2 hL2 g35 (by omega) (by omega) (by omega) ⟨hL2, fun _ => ?_⟩⟩⟩⟩, fun h9 => absurd (by omega) h9⟩
        rw [g13, ec, show ((n : Int) - ((k : Int) + 1)).toNat = n - (k + 1) by omega]
        refine ⟨⟨by omega, by omega⟩, ⟨by omega, by omega⟩, fun τ10 e10 hL10 => ?_⟩
        have q10 : ∀ a j, gI τ10 a j = if a = 123 ∧ j = n - (k + 1) then FLq p n T (k + 1) else gI τ2 a j := fun a j => by rw [e10, gI_sI]
        have hF10 : Fr frEq (fun _ => False) σ τ10 := by rw [e10]; exact hF2.sI (.inr (.inl rfl))
        refine loopU (N := n) (G := fun s τ => GG E mX8_fillEquation 142 [some (vr 54), some (vi ((k : Int) + 1)), none, some (vi (FLq p n T (k + 1))), some (vi s)] [] τ 0 0 Q)
          (P := fun m τ => Lay LC g c t τ ∧ Fr frEq (fun _ => False) σ τ ∧ (∀ k', k' ≤ k + 1 → gI τ 123 (n - k') = FLq p n T k') ∧ ∀ u v, u < n → v < n → gI τ (96 + u) v = if u = v ∧ u < m then (V9 u v + FLq p n T (k + 1)) % (p : Int) else V9 u v) ?_ ?_ 0 τ10 (by omega) ⟨hL10, hF10, fun k' hk' => ?_, fun u v hu hv => ?_⟩
        · rintro s τ3 hs ⟨hL3, hF3, hq3, hv3⟩ next3
          obtain ⟨f35, f13, fT⟩ := kp τ3 hF3
          have b4 := bV s s
          have cur := hv3 s s hs hs
          rw [if_neg (by omega)] at cur
          refine B_X8_fillEquation_142 hL3 ?_
          rw [f13, show ((s : Nat) : Int).toNat = s by omega, cur]
          refine ⟨fun h9 => absurd h9 (by omega), fun _ => ⟨⟨by omega, by omega⟩, ⟨by omega, by omega⟩, fun _ => S_mod2 hL3 f35 (by omega) ⟨hL3, fun _ τ8 e8 => ⟨⟨by omega, by omega⟩, fun hL8 => next3 τ8 ⟨hL8, by rw [e8]; exact hF3.sI (.inr (.inr ⟨by omega, by omega⟩)), fun k' hk' => by rw [e8, gI_sI, if_neg (by omega)]; exact hq3 k' hk', fun u v hu hv => ?_⟩⟩⟩⟩⟩
          rw [e8, gI_sI]
          by_cases hus : u = s
          · by_cases hvs : v = s
            · rw [if_pos ⟨by omega, hvs⟩, if_pos ⟨by omega, by omega⟩, hus, hvs]
            · rw [if_neg (fun h9 => hvs h9.2), hv3 u v hu hv, if_neg (by omega), if_neg (by omega)]
          · rw [if_neg (by omega), hv3 u v hu hv]
            by_cases hc : u = v ∧ u < s
            · rw [if_pos hc, if_pos ⟨hc.1, by omega⟩]
            · rw [if_neg hc, if_neg (by omega)]
        · rintro τ3 ⟨hL3, hF3, hq3, hv3⟩
          obtain ⟨f35, f13, fT⟩ := kp τ3 hF3
          refine B_X8_fillEquation_142 hL3 ?_
          rw [f13]
          refine ⟨fun _ => ⟨⟨by omega, by omega⟩, fun _ => next τ3 ⟨hL3, hF3, fun u v hu hv => ?_, hq3⟩⟩, fun h9 => absurd (by omega) h9⟩
          rw [hv3 u v hu hv]
          show _ = if u = v then (V9 u v + FLc p n V9 (k + 1)) % (p : Int) else V9 u v
          by_cases huv : u = v
          · rw [if_pos ⟨huv, hu⟩, if_pos huv]; rfl
          · rw [if_neg (fun h9 => huv h9.1), if_neg huv]
        · rw [q10]
          by_cases hkk : k' = k + 1
          · rw [if_pos ⟨rfl, by omega⟩, hkk]
          · rw [if_neg (by omega)]; exact hq2 k' (by omega)
        · rw [q10, if_neg (by omega), hv2 u v hu hv, if_pos hv, if_neg (by omega)]
    · rintro τ ⟨hL1, hF1, hS1, hq1⟩
      obtain ⟨k35, k13, kT⟩ := kp τ hF1
      refine B_X8_fillEquation_62 hL1 ?_
      rw [k13]
      exact ⟨fun _ _ => h τ hL1 hF1 hq1, fun h9 => absurd (by omega) h9⟩
  refine C_X8_fillEquation (B_X8_fillEquation_0 hL (fun _ => ?_))
  refine loopU (N := n) (G := fun u τ => GG E mX8_fillEquation 2 [some (vr 54), some (vi u), none, none, none] [] τ 0 0 Q)
    (P := fun m τ => Lay LC g c t τ ∧ Fr frEq (fun _ => False) σ τ ∧ ∀ u v, u < m → v < n → gI τ (96 + u) v = dl u v) ?_ ?_ 0 σ (by omega) ⟨hL, Fr.refl _, fun u v hu => absurd hu (by omega)⟩
  · rintro u τ hu ⟨hL1, hF1, hv1⟩ next
    obtain ⟨k35, k13, kT⟩ := kp τ hF1
    refine B_X8_fillEquation_2 hL1 ?_
    rw [k13]
    refine ⟨fun h9 => absurd h9 (by omega), fun _ _ => ?_⟩
    refine loopU (N := n) (G := fun v τ => GG E mX8_fillEquation 12 [some (vr 54), some (vi u), some (vi v), none, none] [] τ 0 0 Q)
      (P := fun m τ => Lay LC g c t τ ∧ Fr frEq (fun _ => False) σ τ ∧ (∀ u' v, u' < u → v < n → gI τ (96 + u') v = dl u' v) ∧ ∀ v, v < m → gI τ (96 + u) v = dl u v) ?_ ?_ 0 τ (by omega) ⟨hL1, hF1, hv1, fun v hv => absurd hv (by omega)⟩
    · rintro v τ2 hv ⟨hL2, hF2, hv2, hw2⟩ next2
      obtain ⟨g35, g13, gT⟩ := kp τ2 hF2
      have step : ∀ (y : Int) τ5, y = dl u v → τ5 = sI τ2 (96 + u) v y → Lay LC g c t τ5 → GG E mX8_fillEquation 12 [some (vr 54), some (vi u), some (vi ((v : Int) + 1)), none, none] [] τ5 0 0 Q := fun y τ5 hy e5 hL5 => by
        refine next2 τ5 ⟨hL5, by rw [e5]; exact hF2.sI (.inr (.inr ⟨by omega, by omega⟩)), fun u' v' h1 h2 => by rw [e5, gI_sI, if_neg (by omega)]; exact hv2 u' v' h1 h2, fun v' hv' => ?_⟩
        rw [e5, gI_sI]
        by_cases hvv : v' = v
        · rw [if_pos ⟨rfl, hvv⟩, hy, hvv]
        · rw [if_neg (fun h9 => hvv h9.2)]; exact hw2 v' (by omega)
      refine B_X8_fillEquation_12 hL2 ?_
      rw [g13, show ((u : Nat) : Int).toNat = u by omega, show ((v : Nat) : Int).toNat = v by omega]
      refine ⟨fun h9 => absurd h9 (by omega), fun _ => ⟨⟨by omega, by omega⟩, fun hne => ⟨⟨by omega, by omega⟩, fun τ5 e5 => ⟨⟨by omega, by omega⟩, fun hL5 => step 0 τ5 ?_ e5 hL5⟩⟩, fun he => ⟨⟨by omega, by omega⟩, fun τ5 e5 => ⟨⟨by omega, by omega⟩, fun hL5 => step 1 τ5 ?_ e5 hL5⟩⟩⟩⟩
      · unfold dl; rw [if_neg (by omega)]
      · unfold dl; rw [if_pos (by omega)]
    · rintro τ2 ⟨hL2, hF2, hv2, hw2⟩
      obtain ⟨g35, g13, gT⟩ := kp τ2 hF2
      refine B_X8_fillEquation_12 hL2 ?_
      rw [g13]
      refine ⟨fun _ => ⟨⟨by omega, by omega⟩, fun _ => next τ2 ⟨hL2, hF2, fun u' v h1 h2 => ?_⟩⟩, fun h9 => absurd (by omega) h9⟩
      by_cases huu : u' = u
      · rw [huu]; exact hw2 v h2
      · exact hv2 u' v (by omega) h2
  · rintro τ ⟨hL1, hF1, hv1⟩
    obtain ⟨k35, k13, kT⟩ := kp τ hF1
    refine B_X8_fillEquation_2 hL1 ?_
    rw [k13, show ((n : Nat) : Int).toNat = n by omega]
    refine ⟨fun _ => ⟨⟨by omega, by omega⟩, fun τ2 e2 hL2 => ?_⟩, fun h9 => absurd (by omega) h9⟩
    exact main τ2 hL2 (by rw [e2]; exact hF1.sI (.inr (.inl rfl))) (fun u v hu hv => by rw [e2, gI_sI, if_neg (by omega)]; exact hv1 u v hu hv) (by rw [e2, gI_sI, if_pos ⟨rfl, rfl⟩])
theorem S_solves {p n x : Nat} {T : Nat → Nat → Int} (hL : Lay LC g c t σ) (h35 : gI σ 35 0 = (p : Int)) (hp : 2 ≤ p ∧ p ≤ 241) (h13 : gI σ 54 13 = (n : Int)) (hn : n ≤ 12) (hx : x < p) (he : ∀ k, k ≤ n → gI σ 123 (n - k) = FLq p n T k)
    (hq : ∀ y : Int, (FLh p n T x n = 0 → y = 1) → (FLh p n T x n ≠ 0 → y = 0) → Q (.inl (some (vi y))) σ) : CC E mX8_solves [vr 54, vi x] σ Q := by
  have rng : ∀ k, 0 ≤ FLh p n T x k ∧ FLh p n T x k < (p : Int) := fun k => by
    cases k with
    | zero => show (0 : Int) ≤ 1 ∧ (1 : Int) < (p : Int); omega
    | succ k => exact em_rng (by omega) _
  have go : ∀ (d k : Nat) , k + d = n → GG E mX8_solves 7 [some (vr 54), some (vi x), some (vi (FLh p n T x k)), some (vi ((n : Int) - (k : Int) - 1))] [] σ 0 0 Q := by
    intro d
    induction d with
    | zero =>
      intro k hk
      have hkn : k = n := by omega
      subst hkn
      exact B_X8_solves_7 hL ⟨fun _ => ⟨fun hne _ => hq 0 (fun h9 => absurd h9 hne) (fun _ => rfl), fun he9 _ => hq 1 (fun _ => rfl) (fun h9 => absurd he9 h9)⟩, fun h9 => absurd (by omega) h9⟩
    | succ d ih =>
      intro k hk
      have r1 := rng k
      have m1 := m4 (show (FLh p n T x k).natAbs ≤ 241 by omega) (show ((x : Nat) : Int).natAbs ≤ 241 by omega)
      have q1 := FLq_rng (p := p) (n := n) (T := T) (by omega) (k + 1)
      refine B_X8_solves_7 hL ?_
      rw [show ((n : Int) - (k : Int) - 1).toNat = n - (k + 1) by omega, he (k + 1) (by omega)]
      refine ⟨fun h9 => absurd h9 (by omega), fun _ => ⟨⟨by omega, by omega⟩, ⟨by omega, by omega⟩, ⟨by omega, by omega⟩, fun _ => S_mod2 hL h35 (by omega) ⟨hL, fun _ => ⟨⟨by omega, by omega⟩, fun _ => ?_⟩⟩⟩⟩
      have nx := ih (k + 1) (by omega)
      rw [show (n : Int) - ((k + 1 : Nat) : Int) - 1 = (n : Int) - (k : Int) - 1 + -1 by omega] at nx
      exact nx
  refine C_X8_solves (B_X8_solves_0 hL (fun _ => ?_))
  rw [h13]
  refine B_X8_solves_7 hL ?_
  have e0 := he 0 (by omega)
  rw [Nat.sub_zero] at e0
  have q0 : FLq p n T 0 = 1 := rfl
  rw [show ((n : Nat) : Int).toNat = n by omega, e0, q0, Int.zero_mul, Int.zero_add]
  refine ⟨fun h9 => absurd h9 (by omega), fun _ => ⟨⟨by decide, by decide⟩, ⟨by omega, by omega⟩, ⟨by decide, by decide⟩, fun _ => S_mod2 hL h35 (by omega) ⟨hL, fun _ => ⟨⟨by omega, by omega⟩, fun _ => ?_⟩⟩⟩⟩
  have nx := go n 0 (by omega)
  rw [show (n : Int) - ((0 : Nat) : Int) - 1 = (n : Int) + -1 by omega] at nx
  rw [Int.emod_eq_of_lt (by decide) (by omega)]
  exact nx
end SD3
