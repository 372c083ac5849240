/-! ===== the reference's sheet ===== -/
theorem tm_em {y p : Int} (hp : 0 < p) : (0 ≤ y.tmod p → y.tmod p = y % p) ∧ (¬ 0 ≤ y.tmod p → y.tmod p + p = y % p) ∧ -p < y.tmod p ∧ y.tmod p < p := by
  have h1 : y.tmod p + p * (y.tdiv p) = y := by rw [Int.add_comm]; exact Int.mul_tdiv_add_tmod y p
  have h2 : (y.tmod p).natAbs < p.natAbs := by rw [Int.natAbs_tmod]; exact Nat.mod_lt _ (by omega)
  have hb : -p < y.tmod p ∧ y.tmod p < p := by omega
  refine ⟨fun h => ?_, fun h => ?_, hb.1, hb.2⟩
  · have e : y % p = (y.tmod p + p * (y.tdiv p)) % p := by rw [h1]
    rw [e, Int.add_mul_emod_self_left, Int.emod_eq_of_lt h hb.2]
  · have e : y % p = ((y.tmod p + p) + p * (y.tdiv p - 1)) % p := by
      congr 1
      rw [Int.mul_sub, Int.mul_one]
      omega
    rw [e, Int.add_mul_emod_self_left, Int.emod_eq_of_lt (by omega) (by omega)]
/-- what stands at c, b of the sheet, before it is brought under p -/
noncomputable def shS (N : Nat) (m : Nat → Nat → Nat) (mx : Nat → Int) (b e : Nat) (s : Int) : Nat → Int
  | 0 => s
  | a + 1 => shS N m mx b e s a + mx a * (cplN N m a b e : Int)
noncomputable def shV (N : Nat) (m : Nat → Nat → Nat) (p : Nat) (mx : Nat → Int) (n e b : Nat) : Int := shS N m mx b e (if b = e then -(n : Int) else 0) (rsN N m) % (p : Int)
section S9q
variable {E : Ev} {σ : Sg} {Q : NO → Sg → Prop} {g : Sg} {c t : Nat}
variable {D : Int} {els : List (List Int)}
theorem M_mod {y : Int} {p : Nat} (hL : Lay LM g c t σ) (hp : gI σ 172 18 = (p : Int)) (h0 : 0 < p ∧ p ≤ 100000) (hq : Q (.inl (some (vi (y % (p : Int))))) σ) : CC E mX12_mod [vr 172, vl y] σ Q := by
  obtain ⟨t1, t2, t3, t4⟩ := tm_em (y := y) (p := (p : Int)) (by omega)
  have w1 : wL (y.tmod (p : Int)) = y.tmod (p : Int) := wL_id ⟨by omega, by omega⟩
  refine C_X12_mod (B_X12_mod_0 hL ?_)
  rw [hp, w1]
  refine ⟨by omega, fun h => ⟨⟨by omega, by omega⟩, fun _ => ?_⟩, fun h v3 e3 => ?_⟩
  · rw [t1 h]; exact hq
  · rw [wL_id ⟨by omega, by omega⟩] at e3
    subst e3
    exact ⟨⟨by omega, by omega⟩, fun _ => by rw [t2 h]; exact hq⟩
end S9q
