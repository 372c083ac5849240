/-! ===== the reference's over ===== -/
theorem em_mul {p x y u v : Int} (h1 : x % p = u % p) (h2 : y % p = v % p) : (x * y) % p = (u * v) % p := by rw [Int.mul_emod, h1, h2, ← Int.mul_emod]
theorem em_pow {p x u : Int} (h : x % p = u % p) : ∀ n : Nat, (x ^ n) % p = (u ^ n) % p := by
  intro n
  induction n with
  | zero => rw [Int.pow_zero, Int.pow_zero]
  | succ n ih => rw [Int.pow_succ, Int.pow_succ]; exact em_mul ih h
theorem em_id (p x : Int) : (x % p) % p = x % p := Int.emod_emod_of_dvd x (Int.dvd_refl p)
def ovV (p : Nat) (a b : Int) : Int := (a * b ^ (p - 2)) % (p : Int)
theorem em_rng {p : Nat} (h0 : 0 < p) (x : Int) : 0 ≤ x % (p : Int) ∧ x % (p : Int) < p := ⟨Int.emod_nonneg _ (by omega), Int.emod_lt_of_pos _ (by omega)⟩
section S9r
variable {E : Ev} {σ : Sg} {Q : NO → Sg → Prop} {g : Sg} {c t : Nat}
theorem M_over {a b : Int} {p : Nat} (hL : Lay LM g c t σ) (hp : gI σ 172 18 = (p : Int)) (h0 : 2 ≤ p ∧ p ≤ 1000) (ha : a.natAbs ≤ 100000) (hb : b.natAbs ≤ 100000) (hq : Q (.inl (some (vi (ovV p a b)))) σ) : CC E mX12_over [vr 172, vi a, vi b] σ Q := by
  have key : ∀ (n : Nat) (so by9 : Int), n ≤ 1000 → so.natAbs ≤ 1000 → by9.natAbs ≤ 100000 → (so * by9 ^ n) % (p : Int) = (b ^ (p - 2)) % (p : Int) → GG E mX12_over 13 [some (vr 172), some (vi a), none, some (vi so), some (vi n), some (vi by9)] [] σ 0 0 Q := by
    intro n
    induction n using Nat.strongRecOn with
    | _ n ih =>
      intro so by9 hnn hso hby hR
      have m1 := m4 ha hso
      have m2 := m4 hby hby
      have m3 := m4 hso hby
      have w1 : wL (a * so) = a * so := wL_id ⟨by omega, by omega⟩
      have w2 : wL (by9 * by9) = by9 * by9 := wL_id ⟨by omega, by omega⟩
      have w3 : wL (so * by9) = so * by9 := wL_id ⟨by omega, by omega⟩
      have r2 := em_rng (p := p) (by omega) (by9 * by9)
      have r3 := em_rng (p := p) (by omega) (so * by9)
      have et : ((n : Nat) : Int).tdiv 2 = ((n / 2 : Nat) : Int) := rfl
      have em : ((n : Nat) : Int).tmod 2 = ((n % 2 : Nat) : Int) := rfl
      have sq : ((by9 * by9) % (p : Int)) ^ (n / 2) % (p : Int) = (by9 ^ (2 * (n / 2))) % (p : Int) := by
        rw [em_pow (em_id (p : Int) (by9 * by9)) (n / 2), Int.pow_mul, Int.pow_succ, Int.pow_succ, Int.pow_zero, Int.one_mul]
      refine B_X12_over_13 hL ?_
      rw [w1, w2, w3, et, em]
      refine ⟨fun h _ => M_mod hL hp (by omega) ⟨hL, fun _ _ => ?_⟩, fun h => ⟨fun hne _ => M_mod hL hp (by omega) ⟨hL, fun _ => ⟨⟨by omega, by omega⟩, fun _ => ?_⟩⟩, fun he _ => M_mod hL hp (by omega) ⟨hL, fun _ _ => M_mod hL hp (by omega) ⟨hL, fun _ => ⟨⟨by omega, by omega⟩, fun _ => ?_⟩⟩⟩⟩⟩
      · have hn : n = 0 := by omega
        subst hn
        rw [Int.pow_zero, Int.mul_one] at hR
        have e : (a * so) % (p : Int) = ovV p a b := em_mul rfl hR
        rw [e]; exact hq
      · refine ih (n / 2) (by omega) so _ (by omega) hso (by omega) ?_
        have hn : n = 2 * (n / 2) := by omega
        rw [em_mul (u := so) rfl sq, ← hn]; exact hR
      · refine ih (n / 2) (by omega) _ _ (by omega) (by omega) (by omega) ?_
        have hn : n = 2 * (n / 2) + 1 := by omega
        rw [em_mul (em_id (p : Int) (so * by9)) sq]
        rw [hn, Int.pow_succ] at hR
        rw [← hR]
        congr 1
        have e2 : (2 * (n / 2) + 1) / 2 = n / 2 := by omega
        rw [Int.mul_comm (by9 ^ (2 * (n / 2))) by9, ← Int.mul_assoc]
  refine C_X12_over (B_X12_over_0 hL ?_)
  rw [hp]
  refine ⟨⟨by omega, by omega⟩, fun _ => ?_⟩
  rw [show ((p : Int) - 2) = ((p - 2 : Nat) : Int) by omega]
  exact key (p - 2) 1 b (by omega) (by decide) hb (by rw [Int.one_mul])
end S9r
