/-! ===== Group: greatestShared, fillOrders ===== -/
section S21
variable {E : Ev} {σ : Sg} {Q : NO → Sg → Prop} {g : Sg} {c t : Nat}
theorem S_greatestShared {a b : Nat} (ha : 1 ≤ a) (hb : b < 64) (hq : Q (.inl (some (vi (Nat.gcd a b)))) σ) : CC E mX4_greatestShared [vi a, vi b] σ Q := by
  refine C_X4_greatestShared (B_X4_greatestShared_0 (fun v1 e1 v2 e2 => ?_))
  rw [if_neg (by omega)] at e1 e2
  subst e1 e2
  have loop : ∀ (d i x y : Nat), i + d = 64 → y + i < 64 → Nat.gcd x y = Nat.gcd a b → GG E mX4_greatestShared 15 [none, none, some (vi x), some (vi y), some (vi i), none] [] σ 0 0 Q := by
    intro d
    induction d with
    | zero => intro i x y h1 h2; omega
    | succ d ih =>
      intro i x y h1 h2 h3
      refine B_X4_greatestShared_15 ⟨fun h => absurd h (by omega), fun _ => ⟨fun h => ?_, fun h => ⟨by omega, ⟨by omega, by omega⟩, ?_⟩⟩⟩
      · have : y = 0 := by omega
        subst this
        rw [Nat.gcd_zero_right] at h3
        rw [h3]; exact hq
      · have e : (x : Int).tmod (y : Int) = ((x % y : Nat) : Int) := rfl
        rw [e]
        have hlt := Nat.mod_lt x (show 0 < y by omega)
        refine ih (i + 1) y (x % y) (by omega) (by omega) ?_
        rw [← h3, Nat.gcd_comm y, ← Nat.gcd_rec, Nat.gcd_comm]
  exact loop 64 0 a b (by omega) (by omega) rfl
/-- orders that there are -/
def OdB (N : Nat) (m : Nat → Nat → Nat) : Prop := ∀ k, k < N → od N m k ∣ 120 ∧ od N m k ≤ 12
noncomputable def expo (N : Nat) (m : Nat → Nat → Nat) (n : Nat) : Nat := nfold (fun k e => Nat.lcm e (od N m k)) n 1
noncomputable def lng (N : Nat) (m : Nat → Nat → Nat) (n : Nat) : Nat := nfold (fun k e => Nat.max e (od N m k)) n 1
theorem expo_dvd {N : Nat} {m : Nat → Nat → Nat} (h : OdB N m) : ∀ n, n ≤ N → expo N m n ∣ 120 := by
  intro n
  induction n with
  | zero => intro _; exact Nat.one_dvd _
  | succ n ih => intro hn; exact Nat.lcm_dvd (ih (by omega)) (h n (by omega)).1
theorem expo_le {N : Nat} {m : Nat → Nat → Nat} (h : OdB N m) {n : Nat} (hn : n ≤ N) : 1 ≤ expo N m n ∧ expo N m n ≤ 120 := by
  have := expo_dvd h n hn
  exact ⟨Nat.pos_of_dvd_of_pos this (by decide), Nat.le_of_dvd (by decide) this⟩
theorem lcm_div {e o : Nat} : e / Nat.gcd e o * o = Nat.lcm e o := by
  rw [Nat.div_mul_right_comm (Nat.gcd_dvd_left e o)]; rfl
/-- orders, inverses, exponent, the longest -/
def GO (σ : Sg) (N : Nat) (m : Nat → Nat → Nat) : Prop := (∀ k, k < N → gI σ 27 k = (od N m k : Int)) ∧ gI σ 24 9 = (expo N m N : Int) ∧ gI σ 24 10 = (lng N m N : Int)
theorem S_fillOrders {N : Nat} {m : Nat → Nat → Nat} (hL : Lay LC g c t σ) (hI : IsG N m) (hG : GT σ N m) (hB : OdB N m)
    (h : ∀ τ, Lay LC g c t τ → Fr (fun a k => a = 26 ∨ a = 27 ∨ (a = 24 ∧ (k = 9 ∨ k = 10))) (fun _ => False) σ τ → GV τ N m → GO τ N m → Q (.inl none) τ) : CC E mX4_fillOrders [vr 24] σ Q := by
  have n120 := hG.2.1
  refine C_X4_fillOrders (B_X4_fillOrders_0 hL (fun τ1 e1 τ2 e2 hL2 => ?_))
  subst e1 e2
  refine loopU (N := N) (G := fun i τ => GG E mX4_fillOrders 12 [some (vr 24), some (vi i), none, none, none] [] τ 0 0 Q)
    (P := fun i τ => Lay LC g c t τ ∧ Fr (fun a k => a = 26 ∨ a = 27 ∨ (a = 24 ∧ (k = 9 ∨ k = 10))) (fun _ => False) σ τ ∧ (∀ k, k < i → gI τ 26 k = (iv N m k : Int)) ∧ (∀ k, k < i → gI τ 27 k = (od N m k : Int)) ∧ gI τ 24 9 = (expo N m i : Int) ∧ gI τ 24 10 = (lng N m i : Int)) ?_ ?_ 0 _ (by omega) ⟨hL2, ((Fr.refl σ).sI (by first | omega | (dsimp only [frC, frL, frL2, frP, frK]; omega))).sI (by first | omega | (dsimp only [frC, frL, frL2, frP, frK]; omega)), fun k hk => absurd hk (by omega), fun k hk => absurd hk (by omega), rfl, rfl⟩
  · rintro i τ hi ⟨hLτ, hF, hv, ho, he, hl⟩ next
    have hGτ : GT τ N m := ⟨(hF.i (by omega) (by first | omega | (dsimp only [frC, frL, frL2, frP, frK]; omega))).trans hG.1, n120, fun k l hk hl => (hF.i (by omega) (by first | omega | (dsimp only [frC, frL, frL2, frP, frK]; omega))).trans (hG.2.2 k l hk hl)⟩
    have o := od_s hI hi
    refine B_X4_fillOrders_12 hLτ ?_
    rw [hGτ.1]
    refine ⟨fun h => absurd h (by omega), fun _ _ => ?_⟩
    have K := loopU (N := od N m i) (G := fun j τ => GG E mX4_fillOrders 27 [some (vr 24), some (vi i), some (vi j), some (vi (pwr m i (j - 1))), some (vi (pwr m i j))] [] τ 0 0 Q) (P := fun j ρ => 1 ≤ j ∧ ρ = τ) ?_ ?_ 1 τ o.1 ⟨Nat.le_refl _, rfl⟩
    · rw [pwr_1 hI hi] at K
      exact K
    · rintro j ρ hj ⟨hj1, rfl⟩ nextj
      have hne := o.2.2.2 j hj1 hj
      have hlt := pwr_lt hI hi j
      refine B_X4_fillOrders_27 hLτ ?_
      rw [hGτ.1]
      refine ⟨fun h => absurd h (by omega), fun _ => ⟨fun h9 => absurd h9 (by have := o.2.1; omega), fun _ _ => ?_⟩⟩
      refine S_times hLτ hGτ hlt hi ⟨hLτ, fun _ => ⟨⟨by omega, by omega⟩, fun _ => ?_⟩⟩
      exact nextj _ ⟨by omega, rfl⟩
    · rintro ρ ⟨_, rfl⟩
      refine B_X4_fillOrders_27 hLτ ⟨fun _ _ => ?_, fun h9 => absurd (by rw [o.2.2.1]; rfl) h9⟩
      have x1 := expo_le hB (show i ≤ N by omega)
      have x2 := expo_le hB (show i + 1 ≤ N by omega)
      have hb := (hB i hi).2
      refine B_X4_fillOrders_58 hLτ ⟨⟨by omega, by omega⟩, fun τ2 e2 τ3 e3 v4 e4 τ5 e5 hL5 => ?_⟩
      rw [show ((i : Nat) : Int).toNat = i by omega] at e2 e3
      have q3 : gI τ3 24 10 = (lng N m i : Int) := by rw [e3, e2]; simp only [gI_sI]; rw [if_neg (by omega), if_neg (by omega)]; exact hl
      rw [q3] at e4
      have q5 : gI τ5 24 9 = (expo N m i : Int) := by rw [e5, e3, e2]; simp only [gI_sI]; rw [if_neg (by omega), if_neg (by omega), if_neg (by omega)]; exact he
      rw [q5]
      refine S_greatestShared x1.1 (by omega) ⟨hL5, fun _ => ?_⟩
      have hg : 0 < Nat.gcd (expo N m i) (od N m i) := Nat.gcd_pos_of_pos_left _ x1.1
      have e6 : (expo N m i : Int).tdiv (Nat.gcd (expo N m i) (od N m i) : Int) = ((expo N m i / Nat.gcd (expo N m i) (od N m i) : Nat) : Int) := rfl
      have hle : expo N m i / Nat.gcd (expo N m i) (od N m i) ≤ expo N m i := Nat.div_le_self _ _
      have e7 : ((expo N m i / Nat.gcd (expo N m i) (od N m i) : Nat) : Int) * (od N m i : Int) = (expo N m (i + 1) : Int) := by
        rw [← Int.natCast_mul, lcm_div]; rfl
      rw [e6, e7]
      generalize expo N m i / Nat.gcd (expo N m i) (od N m i) = qq at *
      refine ⟨by omega, ⟨by omega, by omega⟩, ⟨by omega, by omega⟩, fun τ11 e11 => ⟨⟨by omega, by omega⟩, fun hL11 => ?_⟩⟩
      have r5 : ∀ b k, ¬ (b = 26 ∨ b = 27 ∨ (b = 24 ∧ (k = 9 ∨ k = 10))) → gI τ11 b k = gI ρ b k := fun b k hb => by
        rw [e11, e5, e3, e2]; simp only [gI_sI]; rw [if_neg (by omega), if_neg (by omega), if_neg (by omega), if_neg (by omega)]
      have rr : ∀ b k, gR τ11 b k = gR ρ b k := fun b k => by rw [e11, e5, e3, e2]; rfl
      refine next τ11 ⟨hL11, hF.trans (fun b _ k => ⟨r5 b k, fun _ => rr b k⟩), fun k hk => ?_, fun k hk => ?_, ?_, ?_⟩
      · rw [e11, e5, e3, e2]; simp only [gI_sI]
        rw [if_neg (by omega), if_neg (by omega), if_neg (by omega)]
        by_cases hk2 : k = i
        · subst hk2; rw [if_pos (by simp)]; rfl
        · rw [if_neg (by omega)]; exact hv k (by omega)
      · rw [e11, e5, e3, e2]; simp only [gI_sI]
        rw [if_neg (by omega), if_neg (by omega)]
        by_cases hk2 : k = i
        · subst hk2; rw [if_pos (by simp)]
        · rw [if_neg (by omega), if_neg (by omega)]; exact ho k (by omega)
      · rw [e11, gI_sI, if_pos ⟨rfl, rfl⟩]
      · rw [e11, e5]; simp only [gI_sI]
        rw [if_neg (by omega), if_pos (by simp), e4]
        show _ = ((Nat.max (lng N m i) (od N m i) : Nat) : Int)
        split
        · rw [show Nat.max (lng N m i) (od N m i) = od N m i from Nat.max_eq_right (by omega)]
        · rw [show Nat.max (lng N m i) (od N m i) = lng N m i from Nat.max_eq_left (by omega)]
  · rintro τ ⟨hLτ, hF, hv, ho, he, hl⟩
    refine B_X4_fillOrders_12 hLτ ?_
    rw [hF.i (by omega) (by first | omega | (dsimp only [frC, frL, frL2, frP, frK]; omega)), hG.1]
    exact ⟨fun _ _ => h τ hLτ hF hv ⟨ho, he, hl⟩, fun h9 => absurd (by omega) h9⟩
end S21
