/-! ===== the class: numbers modulo the prime, rows ===== -/
theorem half9 : ∀ n : Fin 1001, b_iandq (n.val : Int) 1 = ((n.val % 2 : Nat) : Int) ∧ b_ishrq (n.val : Int) 1 = ((n.val / 2 : Nat) : Int) := by decide +kernel
section SD0
variable {E : Ev} {σ : Sg} {Q : NO → Sg → Prop} {g : Sg} {c t : Nat}
theorem S_mod2 {y : Int} {p : Nat} (hL : Lay LC g c t σ) (hp : gI σ 35 0 = (p : Int)) (h0 : 0 < p ∧ p ≤ 100000) (hq : Q (.inl (some (vi (y % (p : Int))))) σ) : CC E mX2_mod [vr 35, vi y] σ Q := by
  obtain ⟨t1, t2, t3, t4⟩ := tm_em (y := y) (p := (p : Int)) (by omega)
  refine C_X2_mod (B_X2_mod_0 hL ?_)
  rw [hp]
  refine ⟨fun _ => ⟨by omega, fun h _ => ?_, fun h => ⟨⟨by omega, by omega⟩, fun _ => ?_⟩⟩, fun h9 => absurd (by omega) h9⟩
  · rw [t1 h]; exact hq
  · rw [t2 h]; exact hq
theorem S_times2 {x y : Int} {p : Nat} (hL : Lay LC g c t σ) (hp : gI σ 35 0 = (p : Int)) (h0 : 0 < p ∧ p ≤ 100000) (hx : x.natAbs ≤ 10000) (hy : y.natAbs ≤ 10000) (hq : Q (.inl (some (vi ((x * y) % (p : Int))))) σ) : CC E mX2_times [vr 35, vi x, vi y] σ Q := by
  have m1 := m4 hx hy
  have r1 := em_rng (p := p) (by omega) (x * y)
  exact C_X2_times (B_X2_times_0 hL ⟨⟨by omega, by omega⟩, fun _ => S_mod2 hL hp h0 ⟨hL, fun _ _ => hq⟩⟩)
theorem S_inverse2 {y : Int} {p : Nat} (hL : Lay LC g c t σ) (hp : gI σ 35 0 = (p : Int)) (h0 : 2 ≤ p ∧ p ≤ 1000) (hq : Q (.inl (some (vi (ivV p y)))) σ) : CC E mX2_inverse [vr 35, vi y] σ Q := by
  have key : ∀ (n : Nat) (so by9 : Int), n ≤ 1000 → so.natAbs ≤ 1000 → by9.natAbs ≤ 1000 → (so * by9 ^ n) % (p : Int) = ivV p y → (n = 0 → 0 ≤ so ∧ so < (p : Int)) → 0 ≤ so → GG E mX2_inverse 16 [some (vr 35), none, some (vi so), some (vi by9), some (vi n)] [] σ 0 0 Q := by
    intro n
    induction n using Nat.strongRecOn with
    | _ n ih =>
      intro so by9 hnn hso hby hR hn0 hs0
      have m2 := m4 hby hby
      have m3 := m4 hso hby
      have r2 := em_rng (p := p) (by omega) (by9 * by9)
      have r3 := em_rng (p := p) (by omega) (so * by9)
      obtain ⟨ha, hs⟩ := half9 ⟨n, by omega⟩
      have ha' : b_iandq (n : Int) 1 = ((n % 2 : Nat) : Int) := ha
      have hs' : b_ishrq (n : Int) 1 = ((n / 2 : Nat) : Int) := hs
      have sq : ((by9 * by9) % (p : Int)) ^ (n / 2) % (p : Int) = (by9 ^ (2 * (n / 2))) % (p : Int) := by
        rw [em_pow (em_id (p : Int) (by9 * by9)) (n / 2), Int.pow_mul, Int.pow_succ, Int.pow_succ, Int.pow_zero, Int.one_mul]
      refine B_X2_inverse_16 hL ?_
      rw [ha', hs']
      refine ⟨fun h _ => ?_, fun h => ⟨fun hne => ⟨⟨by omega, by omega⟩, fun _ => S_mod2 hL hp (by omega) ⟨hL, fun _ _ => ?_⟩⟩, fun he => ⟨⟨by omega, by omega⟩, fun _ => S_mod2 hL hp (by omega) ⟨hL, fun _ => ⟨⟨by omega, by omega⟩, fun _ => S_mod2 hL hp (by omega) ⟨hL, fun _ _ => ?_⟩⟩⟩⟩⟩⟩
      · have hn : n = 0 := by omega
        subst hn
        rw [Int.pow_zero, Int.mul_one] at hR
        have := hn0 rfl
        rw [Int.emod_eq_of_lt this.1 this.2] at hR
        rw [hR]; exact hq
      · have hn : n = 2 * (n / 2) := by omega
        refine ih (n / 2) (by omega) so _ (by omega) hso (by omega) ?_ (fun h9 => by omega) hs0
        rw [em_mul (u := so) rfl sq, ← hn]; exact hR
      · refine ih (n / 2) (by omega) _ _ (by omega) (by omega) (by omega) ?_ (fun _ => r3) r3.1
        have hn : n = 2 * (n / 2) + 1 := by omega
        rw [em_mul (em_id (p : Int) (so * by9)) sq]
        rw [hn, Int.pow_succ] at hR
        rw [← hR]
        congr 1
        have e2 : (2 * (n / 2) + 1) / 2 = n / 2 := by omega
        rw [Int.mul_comm (by9 ^ (2 * (n / 2))) by9, ← Int.mul_assoc]
  refine C_X2_inverse (B_X2_inverse_0 hL (fun _ => S_mod2 hL hp (by omega) ⟨hL, fun _ => ?_⟩))
  rw [hp]
  refine ⟨⟨by omega, by omega⟩, fun _ => ?_⟩
  rw [show ((p : Int) - 2) = ((p - 2 : Nat) : Int) by omega]
  have r1 := em_rng (p := p) (by omega) y
  refine key (p - 2) 1 (y % (p : Int)) (by omega) (by decide) (by omega) ?_ (fun h9 => by omega) (by decide)
  rw [Int.one_mul]
  exact em_pow (em_id (p : Int) y) (p - 2)
/-- a row is stretched -/
theorem S_stretchRow {a n p : Nat} {x : Int} (hL : Lay LC g c t σ) (hP : PA LC a n) (ha : a < 2968 ∧ a ≠ 35) (hp : gI σ 35 0 = (p : Int)) (h0 : 0 < p ∧ p ≤ 1000) (hn : n ≤ 1000) (hx : x.natAbs ≤ 1000) (hb : ∀ j, j < n → (gI σ a j).natAbs ≤ 1000)
    (h : ∀ τ, Lay LC g c t τ → Fr (fun b _ => b = a) (fun _ => False) σ τ → (∀ j, j < n → gI τ a j = (gI σ a j * x) % (p : Int)) → Q (.inl none) τ) : CC E mX8_stretchRow [vr 54, vr a, vi x] σ Q := by
  refine C_X8_stretchRow (B_X8_stretchRow_0 hL hP (fun _ => ?_))
  refine loopU (N := n) (G := fun j τ => GG E mX8_stretchRow 2 [some (vr 54), some (vr a), some (vi x), some (vi j)] [] τ 0 0 Q)
    (P := fun k τ => Lay LC g c t τ ∧ Fr (fun b _ => b = a) (fun _ => False) σ τ ∧ ∀ j, j < n → gI τ a j = if j < k then (gI σ a j * x) % (p : Int) else gI σ a j) ?_ ?_ 0 σ (by omega) ⟨hL, Fr.refl _, fun j hj => by rw [if_neg (by omega)]⟩
  · rintro k τ hk ⟨hL1, hF, hv⟩ next
    have cur := hv k hk
    rw [if_neg (by omega)] at cur
    have hbk := hb k hk
    have m1 := m4 hbk hx
    refine B_X8_stretchRow_2 hL1 hP ?_
    rw [show ((k : Nat) : Int).toNat = k by omega, cur]
    refine ⟨by omega, fun h9 => absurd h9 (by omega), fun _ => ⟨⟨by omega, by omega⟩, ⟨by omega, by omega⟩, fun _ => S_mod2 hL1 ((hF.i (by omega) (by omega)).trans hp) (by omega) ⟨hL1, fun _ τ5 e5 => ⟨⟨by omega, by omega⟩, fun hL5 => next τ5 ⟨hL5, by rw [e5]; exact hF.sI rfl, fun j hj => ?_⟩⟩⟩⟩⟩
    rw [e5, gI_sI]
    by_cases hjk : j = k
    · rw [if_pos ⟨rfl, hjk⟩, if_pos (by omega), hjk]
    · rw [if_neg (fun h9 => hjk h9.2), hv j hj]
      by_cases hlt : j < k
      · rw [if_pos hlt, if_pos (by omega)]
      · rw [if_neg hlt, if_neg (by omega)]
  · rintro τ ⟨hL1, hF, hv⟩
    refine B_X8_stretchRow_2 hL1 hP ⟨by omega, fun _ _ => h τ hL1 hF (fun j hj => by rw [hv j hj, if_pos hj]), fun h9 => absurd (by omega) h9⟩
/-- one row is taken away from another one -/
theorem S_takeAway {a b n p : Nat} {x : Int} (hL : Lay LC g c t σ) (hP : PA LC a n) (hP2 : PA LC b n) (hab : a ≠ b) (ha : a < 2968 ∧ a ≠ 35) (hb9 : b < 2968) (hp : gI σ 35 0 = (p : Int)) (h0 : 0 < p ∧ p ≤ 1000) (hn : n ≤ 1000) (hx : x.natAbs ≤ 1000) (hb : ∀ j, j < n → (gI σ a j).natAbs ≤ 1000) (hb2 : ∀ j, j < n → (gI σ b j).natAbs ≤ 1000)
    (h : ∀ τ, Lay LC g c t τ → Fr (fun d _ => d = a) (fun _ => False) σ τ → (∀ j, j < n → gI τ a j = if x = 0 then gI σ a j else (gI σ a j - x * gI σ b j) % (p : Int)) → Q (.inl none) τ) : CC E mX8_takeAway [vr 54, vr a, vr b, vi x] σ Q := by
  refine C_X8_takeAway (B_X8_takeAway_0 hL hP hP2 (fun _ => ?_))
  by_cases hx0 : x = 0
  · exact B_X8_takeAway_3 hL hP hP2 ⟨fun _ _ => h σ hL (Fr.refl _) (fun j hj => by rw [if_pos hx0]), fun h9 => absurd hx0 h9⟩
  refine loopU (N := n) (G := fun j τ => GG E mX8_takeAway 3 [some (vr 54), some (vr a), some (vr b), some (vi x), some (vi j)] [] τ 0 0 Q)
    (P := fun k τ => Lay LC g c t τ ∧ Fr (fun d _ => d = a) (fun _ => False) σ τ ∧ ∀ j, j < n → gI τ a j = if j < k then (gI σ a j - x * gI σ b j) % (p : Int) else gI σ a j) ?_ ?_ 0 σ (by omega) ⟨hL, Fr.refl _, fun j hj => by rw [if_neg (by omega)]⟩
  · rintro k τ hk ⟨hL1, hF, hv⟩ next
    have cur := hv k hk
    rw [if_neg (by omega)] at cur
    have cur2 : gI τ b k = gI σ b k := hF.i (by omega) (by omega)
    have hbk := hb k hk
    have m1 := m4 hx (hb2 k hk)
    refine B_X8_takeAway_3 hL1 hP hP2 ?_
    rw [show ((k : Nat) : Int).toNat = k by omega, cur, cur2]
    refine ⟨fun h9 => absurd h9 hx0, fun _ => ⟨by omega, fun h9 => absurd h9 (by omega), fun _ => ⟨by omega, fun h9 => absurd h9 (by omega), fun _ => ⟨⟨by omega, by omega⟩, ⟨by omega, by omega⟩, ⟨by omega, by omega⟩, ⟨by omega, by omega⟩, fun v5 e5 _ => ?_⟩⟩⟩⟩
    rw [e5]
    refine S_mod2 hL1 ((hF.i (by omega) (by omega)).trans hp) (by omega) ⟨hL1, fun _ τ5 e5 => ⟨⟨by omega, by omega⟩, fun hL5 => next τ5 ⟨hL5, by rw [e5]; exact hF.sI rfl, fun j hj => ?_⟩⟩⟩
    rw [e5, gI_sI]
    by_cases hjk : j = k
    · rw [if_pos ⟨rfl, hjk⟩, if_pos (by omega), hjk]
    · rw [if_neg (fun h9 => hjk h9.2), hv j hj]
      by_cases hlt : j < k
      · rw [if_pos hlt, if_pos (by omega)]
      · rw [if_neg hlt, if_neg (by omega)]
  · rintro τ ⟨hL1, hF, hv⟩
    exact B_X8_takeAway_3 hL1 hP hP2 ⟨fun h9 => absurd h9 hx0, fun _ => ⟨by omega, fun _ _ => h τ hL1 hF (fun j hj => by rw [hv j hj, if_pos hj, if_neg hx0]), fun h9 => absurd (by omega) h9⟩⟩
end SD0
