/-! ===== the reference's keepsGroup ===== -/
/-- the arrays of classes there -/
def MCs (σ : Sg) (N : Nat) (s : CS) : Prop := (∀ j, j < N → gI σ 553 j = s.1 j) ∧ gI σ 172 16 = (s.2.1 : Int) ∧ ∀ j, j < s.2.1 → gI σ 554 j = s.2.2.1 j ∧ gI σ 555 j = s.2.2.2.1 j
def MT (σ : Sg) (N : Nat) (m : Nat → Nat → Nat) : Prop := gI σ 172 15 = (N : Int) ∧ N ≤ 120 ∧ ∀ k l, k < N → l < N → gI σ (431 + k) l = (m k l : Int)
def MV (σ : Sg) (N : Nat) (m : Nat → Nat → Nat) (n : Nat) : Prop := ∀ k, k < n → gI σ 552 k = (iv N m k : Int)
def MO (σ : Sg) (N : Nat) (m : Nat → Nat → Nat) (n : Nat) : Prop := (∀ k, k < n → gI σ 551 k = (od N m k : Int)) ∧ gI σ 172 17 = (expo N m n : Int)
/-- all of the reference's group -/
def MAll (σ : Sg) (D : Int) (els : List (List Int)) (p s : Nat) : Prop :=
  RWs σ 310 D els ∧ MT σ els.length (gmt D els) ∧ MV σ els.length (gmt D els) els.length ∧ MO σ els.length (gmt D els) els.length ∧ MCs σ els.length (clAll els.length (gmt D els) els.length) ∧ gI σ 172 18 = (p : Int) ∧ gI σ 172 19 = (s : Int)
section S27
variable {E : Ev} {σ : Sg} {Q : NO → Sg → Prop} {g : Sg} {c t : Nat}
theorem MT.fr {W : Nat → Nat → Prop} {V : Nat → Prop} {τ : Sg} {N : Nat} {m : Nat → Nat → Nat} (h : MT σ N m) (k : Fr W V σ τ) (w : ¬ W 172 15 ∧ ∀ a j, 431 ≤ a → a < 551 → ¬ W a j) : MT τ N m :=
  ⟨(k.i (by omega) w.1).trans h.1, h.2.1, fun a b ha hb => (k.i (by have := h.2.1; omega) (w.2 _ _ (by omega) (by have := h.2.1; omega))).trans (h.2.2 a b ha hb)⟩
theorem MV.fr {W : Nat → Nat → Prop} {V : Nat → Prop} {τ : Sg} {N n : Nat} {m : Nat → Nat → Nat} (h : MV σ N m n) (k : Fr W V σ τ) (w : ∀ j, ¬ W 552 j) : MV τ N m n :=
  fun a ha => (k.i (by omega) (w _)).trans (h a ha)
theorem MO.fr {W : Nat → Nat → Prop} {V : Nat → Prop} {τ : Sg} {N n : Nat} {m : Nat → Nat → Nat} (h : MO σ N m n) (k : Fr W V σ τ) (w : (∀ j, ¬ W 551 j) ∧ ¬ W 172 17) : MO τ N m n :=
  ⟨fun a ha => (k.i (by omega) (w.1 _)).trans (h.1 a ha), (k.i (by omega) w.2).trans h.2⟩
theorem MCs.fr {W : Nat → Nat → Prop} {V : Nat → Prop} {τ : Sg} {N : Nat} {s : CS} (h : MCs σ N s) (k : Fr W V σ τ) (w : (∀ j, ¬ W 553 j ∧ ¬ W 554 j ∧ ¬ W 555 j) ∧ ¬ W 172 16) : MCs τ N s :=
  ⟨fun a ha => (k.i (by omega) (w.1 _).1).trans (h.1 a ha), (k.i (by omega) w.2).trans h.2.1, fun a ha => ⟨(k.i (by omega) (w.1 _).2.1).trans (h.2.2 a ha).1, (k.i (by omega) (w.1 _).2.2).trans (h.2.2 a ha).2⟩⟩
theorem S_common {a b : Nat} (hq : Q (.inl (some (vi (Nat.gcd a b)))) σ) : CC E mX12_common [vi a, vi b] σ Q := by
  refine C_X12_common (B_X12_common_0 ?_)
  have loop : ∀ (n x y : Nat), y ≤ n → Nat.gcd x y = Nat.gcd a b → GG E mX12_common 4 [none, none, some (vi x), some (vi y), none] [] σ 0 0 Q := by
    intro n
    induction n with
    | zero =>
      intro x y h1 h3
      have : y = 0 := by omega
      subst this
      rw [Nat.gcd_zero_right] at h3
      exact B_X12_common_4 ⟨fun _ => by rw [h3]; exact hq, fun h => absurd rfl h⟩
    | succ n ih =>
      intro x y h1 h3
      refine B_X12_common_4 ⟨fun h => ?_, fun h => ⟨h, ?_⟩⟩
      · have : y = 0 := by omega
        subst this
        rw [Nat.gcd_zero_right] at h3
        rw [h3]; exact hq
      · rw [tmod_nat]
        have hlt := Nat.mod_lt x (show 0 < y by omega)
        refine ih y (x % y) (by omega) ?_
        rw [← h3, Nat.gcd_comm y, ← Nat.gcd_rec, Nat.gcd_comm]
  exact loop b a b (Nat.le_refl _) rfl
/-- copying, products -/
theorem keeps_1 {D : Int} {told els : List (List Int)} (hL : Lay LM g c t σ) (hC : Clo D told els) (hS : ST σ 0 D told) (hR : RWs σ 188 D els) (hN : gI σ 172 12 = (els.length : Int))
    (h : ∀ τ, Lay LM g c t τ → Fr frK (fun _ => False) σ τ → RWs τ 310 D els → MT τ els.length (gmt D els) → gI τ 172 17 = 1 → GG E mX12_keepsGroup 140 [some (vr 172), some (vi 0), none, none, none] [] τ 0 0 Q) : CC E mX12_keepsGroup [vr 172] σ Q := by
  have n120 := hC.1
  have hD2 := hS.2.1
  have hD5 := hS.2.2.1
  refine C_X12_keepsGroup (B_X12_keepsGroup_0 hL (fun τ1 e1 hL1 => ?_))
  rw [hN] at e1
  subst e1
  refine loopU (N := els.length) (G := fun i τ => GG E mX12_keepsGroup 10 [some (vr 172), some (vi i), none, none, none] [] τ 0 0 Q)
    (P := fun i τ => Lay LM g c t τ ∧ Fr frK (fun _ => False) σ τ ∧ gI τ 172 15 = (els.length : Int) ∧ ∀ k, k < i → ∀ j, j < 8 → gI τ (310 + k) j = gd (els.getD k []) j) ?_ ?_ 0 _ (by omega) ⟨hL1, Fr_of1 (by omega), by rw [gI_sI, if_pos ⟨rfl, rfl⟩], fun k hk => absurd hk (by omega)⟩
  · rintro i τ hi ⟨hLτ, hF, h15, hz⟩ next
    refine B_X12_keepsGroup_10 hLτ ?_
    rw [h15]
    refine ⟨fun h => absurd h (by omega), fun _ _ => ?_⟩
    refine loopU (N := 8) (G := fun j τ => GG E mX12_keepsGroup 20 [some (vr 172), some (vi i), some (vi j), none, none] [] τ 0 0 Q)
      (P := fun j τ => Lay LM g c t τ ∧ Fr frK (fun _ => False) σ τ ∧ gI τ 172 15 = (els.length : Int) ∧ (∀ k, k < i → ∀ j, j < 8 → gI τ (310 + k) j = gd (els.getD k []) j) ∧ ∀ l, l < j → gI τ (310 + i) l = gd (els.getD i []) l) ?_ ?_ 0 τ (by omega) ⟨hLτ, hF, h15, hz, fun l hl => absurd hl (by omega)⟩
    · rintro j ρ hj ⟨hLρ, hFρ, h15ρ, hzρ, hwρ⟩ nextj
      refine B_X12_keepsGroup_20 hLρ ⟨fun h => absurd h (by omega), fun _ => ⟨⟨by omega, by omega⟩, ⟨by omega, by omega⟩, fun τ6 e6 => ⟨⟨by omega, by omega⟩, fun hL6 => ?_⟩⟩⟩
      rw [show ((i : Nat) : Int).toNat = i by omega, show ((j : Nat) : Int).toNat = j by omega, hFρ.i (by omega) (by omega), (hR.2 i hi).2 j hj] at e6
      subst e6
      refine nextj _ ⟨hL6, hFρ.sI (by omega), by rw [gI_sI, if_neg (by omega)]; exact h15ρ, fun k hk j2 hj2 => by rw [gI_sI, if_neg (by omega)]; exact hzρ k hk j2 hj2, fun l hl => ?_⟩
      rw [gI_sI]
      by_cases hlj : l = j
      · subst hlj; rw [if_pos ⟨rfl, rfl⟩]
      · rw [if_neg (fun h9 => hlj h9.2)]; exact hwρ l (by omega)
    · rintro ρ ⟨hLρ, hFρ, h15ρ, hzρ, hwρ⟩
      refine B_X12_keepsGroup_20 hLρ ⟨fun _ => ⟨⟨by omega, by omega⟩, fun _ => next ρ ⟨hLρ, hFρ, h15ρ, fun k hk j hj => ?_⟩⟩, fun h => absurd (by omega) h⟩
      by_cases hki : k = i
      · subst hki; exact hwρ j hj
      · exact hzρ k (by omega) j hj
  · rintro τ ⟨hLτ, hF, h15, hz⟩
    refine B_X12_keepsGroup_10 hLτ ?_
    rw [h15]
    refine ⟨fun _ _ => ?_, fun h => absurd (by omega) h⟩
    have hR3 : RWs τ 310 D els := ⟨n120, fun k hk => ⟨(hR.2 k hk).1, hz k hk⟩⟩
    refine loopU (N := els.length) (G := fun i τ => GG E mX12_keepsGroup 56 [some (vr 172), some (vi i), none, none, none] [] τ 0 0 Q)
      (P := fun i τ => Lay LM g c t τ ∧ Fr frK (fun _ => False) σ τ ∧ gI τ 172 15 = (els.length : Int) ∧ RWs τ 310 D els ∧ ∀ k l, k < i → l < els.length → gI τ (431 + k) l = (gmt D els k l : Int)) ?_ ?_ 0 _ (by omega) ⟨hLτ, hF, h15, hR3, fun k l hk => absurd hk (by omega)⟩
    · rintro i ρ hi ⟨hLρ, hFρ, h15ρ, hRρ, hzρ⟩ next
      refine B_X12_keepsGroup_56 hLρ ?_
      rw [h15ρ]
      refine ⟨fun h => absurd h (by omega), fun _ _ => ?_⟩
      refine loopU (N := els.length) (G := fun j τ => GG E mX12_keepsGroup 66 [some (vr 172), some (vi i), some (vi j), none, none] [] τ 0 0 Q)
        (P := fun j τ => Lay LM g c t τ ∧ Fr frK (fun _ => False) σ τ ∧ gI τ 172 15 = (els.length : Int) ∧ RWs τ 310 D els ∧ (∀ k l, k < i → l < els.length → gI τ (431 + k) l = (gmt D els k l : Int)) ∧ ∀ l, l < j → gI τ (431 + i) l = (gmt D els i l : Int)) ?_ ?_ 0 ρ (by omega) ⟨hLρ, hFρ, h15ρ, hRρ, hzρ, fun l hl => absurd hl (by omega)⟩
      · rintro j χ hj ⟨hLχ, hFχ, h15χ, hRχ, hzχ, hwχ⟩ nextj
        have hSχ := hS.fr hFχ (by omega) (fun _ => (by first | omega | (dsimp only [frC, frL, frL2, frP, frK]; omega)))
        refine B_X12_keepsGroup_66 hLχ ?_
        rw [h15χ]
        refine ⟨fun h => absurd h (by omega), fun _ => ⟨⟨by omega, by omega⟩, ⟨by omega, by omega⟩, fun _ => S_root (r := 0) hLχ (by omega) ⟨hLχ, fun _ _ => ?_⟩⟩⟩
        rw [hSχ.1, show ((i : Nat) : Int).toNat = i by omega, show ((j : Nat) : Int).toNat = j by omega]
        have hx := hRχ.2 i hi
        have hy := hRχ.2 j hj
        have hm := hC.gm hi hj
        have hmk := mulL_some hm.2
        refine S_multiplies (xa := 0) (ya := 0) (D := D) (X := gd (els.getD i [])) (Y := gd (els.getD j [])) hLχ (pa_el (by omega)) (pa_el (by omega)) (by omega) (by omega) (by omega) (by omega) (by omega) (fun j hj => by rw [Nat.zero_add]; exact hx.2 j hj) (fun j hj => by rw [Nat.zero_add]; exact hy.2 j hj) (ab4 hx.1 hD2) (ab4 hy.1 hD2) (fun χ1 hL1 hO1 hz1 => ?_) (fun χ1 hL1 hO1 hz1 => ?_)
        · have hF1 : Fr frK (fun _ => False) χ χ1 := Fr.ofOn hO1 (fun _ => .inl rfl)
          have hR1 : RWs χ1 310 D els := ⟨hRχ.1, fun k hk => ⟨(hRχ.2 k hk).1, fun j hj => (hO1.1 _ _ (by omega)).trans ((hRχ.2 k hk).2 j hj)⟩⟩
          have h151 : gI χ1 172 15 = (els.length : Int) := (hO1.1 _ _ (by omega)).trans h15χ
          refine ⟨hL1, fun _ _ => ?_⟩
          rw [h151]
          refine S_placeEl (z := els.getD (gmt D els i j) []) hR1 hC.2.2.2.1 (by omega) (sh_elm hL1) (by omega) (fun k hk => hL1.rx (i := 2) (n := 120) rfl hk) (fun k hk => ⟨by omega, (pa_el hk).sh hL1⟩) ⟨by omega, pa_made.sh hL1, by omega⟩ hmk.1 (fun q hq => ?_) ⟨hL1, fun _ τ13 e13 => ⟨⟨by omega, by omega⟩, fun hL13 => ?_⟩⟩
          · have a1 := hmk.2 (q / 2) (by omega)
            have a2 := hz1 (q / 2) (by omega)
            have hq2 : q = 2 * (q / 2) ∨ q = 2 * (q / 2) + 1 := by omega
            rcases hq2 with e | e
            · rw [e]; omega
            · rw [e]; omega
          · rw [fnd_of hC.2.2.2.1 hm.1] at e13
            subst e13
            refine nextj _ ⟨hL13, (hFχ.trans hF1).sI (by omega), by rw [gI_sI, if_neg (by omega)]; exact h151, ⟨n120, fun k hk => ⟨(hR1.2 k hk).1, fun j hj => by rw [gI_sI, if_neg (by omega)]; exact (hR1.2 k hk).2 j hj⟩⟩, fun k l hk hl => ?_, fun l hl => ?_⟩
            · rw [gI_sI, if_neg (by omega), hO1.1 _ _ (by omega)]; exact hzχ k l hk hl
            · rw [gI_sI]
              by_cases hlj : l = j
              · subst hlj; rw [if_pos ⟨rfl, rfl⟩]
              · rw [if_neg (fun h9 => hlj h9.2), hO1.1 _ _ (by omega)]; exact hwχ l (by omega)
        · exact absurd hm.2 (by rw [mulL_none hz1]; exact fun h => by cases h)
      · rintro χ ⟨hLχ, hFχ, h15χ, hRχ, hzχ, hwχ⟩
        refine B_X12_keepsGroup_66 hLχ ?_
        rw [h15χ]
        refine ⟨fun _ => ⟨⟨by omega, by omega⟩, fun _ => next χ ⟨hLχ, hFχ, h15χ, hRχ, fun k l hk hl => ?_⟩⟩, fun h => absurd (by omega) h⟩
        by_cases hki : k = i
        · subst hki; exact hwχ l hl
        · exact hzχ k l (by omega) hl
    · rintro ρ ⟨hLρ, hFρ, h15ρ, hRρ, hzρ⟩
      refine B_X12_keepsGroup_56 hLρ ?_
      rw [h15ρ]
      refine ⟨fun _ τ1 e1 hL1 => ?_, fun h => absurd (by omega) h⟩
      subst e1
      exact h _ hL1 (hFρ.sI (by omega)) ⟨n120, fun k hk => ⟨(hRρ.2 k hk).1, fun j hj => by rw [gI_sI, if_neg (by omega)]; exact (hRρ.2 k hk).2 j hj⟩⟩ ⟨by rw [gI_sI, if_neg (by omega)]; exact h15ρ, n120, fun k l hk hl => by rw [gI_sI, if_neg (by omega)]; exact hzρ k l hk hl⟩ (by rw [gI_sI, if_pos ⟨rfl, rfl⟩])
end S27
