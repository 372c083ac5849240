/-! ===== dividing over p ===== -/
theorem inv_ok {p : Nat} (hp : isPr p) (h : p < 242) {y : Int} (hy : 0 < y ∧ y < (p : Int)) : (y * y ^ (p - 2)) % (p : Int) = 1 % (p : Int) := by
  obtain ⟨n, rfl⟩ : ∃ n : Nat, y = n := ⟨y.toNat, by omega⟩
  have f := fermat9 ⟨p, h⟩ (fun k h1 h2 h3 => hp.2 k.val h1 h2 (Nat.dvd_of_mod_eq_zero h3)) ⟨n, by omega⟩ (by show 0 < n; omega) (by show n < p; omega)
  have f' : (n * n ^ (p - 2)) % p = 1 % p := f
  have e : (((n * n ^ (p - 2)) % p : Nat) : Int) = ((1 % p : Nat) : Int) := by rw [f']
  rw [Int.natCast_emod, Int.natCast_mul, Int.natCast_pow, Int.natCast_emod] at e
  exact e
theorem ov_mul {p : Nat} (hp : isPr p) (h : p < 242) {a y : Int} (hy : 0 < y ∧ y < (p : Int)) : (ovV p a y * y) % (p : Int) = a % (p : Int) := by
  unfold ovV
  have e1 : ((a * y ^ (p - 2)) % (p : Int) * y) % (p : Int) = (a * y ^ (p - 2) * y) % (p : Int) := em_mul (em_id _ _) rfl
  have e2 : a * y ^ (p - 2) * y = a * (y * y ^ (p - 2)) := by rw [Int.mul_assoc, Int.mul_comm (y ^ (p - 2)) y]
  rw [e1, e2]
  have := em_mul (p := (p : Int)) (x := a) (u := a) (y := y * y ^ (p - 2)) (v := 1) rfl (inv_ok hp h hy)
  rw [Int.mul_one] at this
  exact this
/-- ovV is a product with what divides -/
theorem ov_e (p : Nat) (a y : Int) : ovV p a y % (p : Int) = (y ^ (p - 2) * a) % (p : Int) := by
  unfold ovV
  rw [em_id, Int.mul_comm]
theorem ov_1 {p : Nat} (hp : isPr p) (h : p < 242) {y : Int} (hy : 0 < y ∧ y < (p : Int)) : ovV p y y = 1 := by
  have e := inv_ok hp h hy
  unfold ovV
  rw [e]
  have := hp.1
  exact Int.emod_eq_of_lt (by decide) (by omega)
theorem ov_0 (p : Nat) (y : Int) : ovV p 0 y = 0 := by
  unfold ovV
  rw [Int.zero_mul, Int.zero_emod]
theorem ov_rng {p : Nat} (h0 : 0 < p) (a y : Int) : 0 ≤ ovV p a y ∧ ovV p a y < (p : Int) := em_rng h0 _
/-- a row is divided by its number at one place: what it sends to 0 stays -/
theorem Slv.ov {p r i : Nat} {A B : Nat → Nat → Int} {y : Int} (hp : isPr p) (h : p < 242) (hy : 0 < y ∧ y < (p : Int)) (hi : i < r) (h1 : ∀ b, b < r → B i b = ovV p (A i b) y) (h2 : ∀ e b, e < r → e ≠ i → b < r → B e b = A e b) (x : Nat → Int) : Slv (p : Int) r A x ↔ Slv (p : Int) r B x :=
  Slv.scl (u := y ^ (p - 2)) (w := y) hi (inv_ok hp h hy) (fun b hb => by rw [h1 b hb]; exact ov_e p (A i b) y) h2 x
/-- two rows change places -/
theorem Slv.swp {p : Int} {r i j : Nat} {A B : Nat → Nat → Int} (hi : i < r) (hj : j < r) (h : ∀ e b, e < r → b < r → B e b = A (if e = i then j else if e = j then i else e) b) (x : Nat → Int) : Slv p r A x ↔ Slv p r B x := by
  refine Slv.perm (f := fun e => if e = i then j else if e = j then i else e) h (fun e he => ?_) (fun e he => ?_) x
  · show (if e = i then j else if e = j then i else e) < r
    split
    · exact hj
    · split
      · exact hi
      · exact he
  · by_cases h1 : e = i
    · refine ⟨j, hj, ?_⟩
      show (if j = i then j else if j = j then i else j) = e
      by_cases h2 : j = i
      · rw [if_pos h2, h1, h2]
      · rw [if_neg h2, if_pos rfl, h1]
    · by_cases h2 : e = j
      · exact ⟨i, hi, by show (if i = i then j else _) = e; rw [if_pos rfl, h2]⟩
      · exact ⟨e, he, by show (if e = i then j else if e = j then i else e) = e; rw [if_neg h1, if_neg h2]⟩
