/-! ===== rows over p ===== -/
def sm (f : Nat → Int) : Nat → Int
  | 0 => 0
  | n + 1 => sm f n + f n
theorem sm_ext {f h : Nat → Int} : ∀ n, (∀ k, k < n → f k = h k) → sm f n = sm h n := by
  intro n
  induction n with
  | zero => intro _; rfl
  | succ n ih =>
    intro e
    show sm f n + f n = sm h n + h n
    rw [ih (fun k hk => e k (by omega)), e n (by omega)]
theorem sm_em {p : Int} {f h : Nat → Int} : ∀ n, (∀ k, k < n → f k % p = h k % p) → sm f n % p = sm h n % p := by
  intro n
  induction n with
  | zero => intro _; rfl
  | succ n ih =>
    intro e
    show (sm f n + f n) % p = (sm h n + h n) % p
    rw [Int.add_emod, ih (fun k hk => e k (by omega)), e n (by omega), ← Int.add_emod]
theorem sm_add (f h : Nat → Int) : ∀ n, sm (fun k => f k + h k) n = sm f n + sm h n := by
  intro n
  induction n with
  | zero => rfl
  | succ n ih =>
    show sm (fun k => f k + h k) n + (f n + h n) = (sm f n + f n) + (sm h n + h n)
    rw [ih]; omega
theorem sm_mul (u : Int) (f : Nat → Int) : ∀ n, sm (fun k => u * f k) n = u * sm f n := by
  intro n
  induction n with
  | zero => show (0 : Int) = u * 0; omega
  | succ n ih =>
    show sm (fun k => u * f k) n + u * f n = u * (sm f n + f n)
    rw [ih, Int.mul_add]
theorem sm_0 {f : Nat → Int} : ∀ n, (∀ k, k < n → f k = 0) → sm f n = 0 := by
  intro n
  induction n with
  | zero => intro _; rfl
  | succ n ih =>
    intro e
    show sm f n + f n = 0
    rw [ih (fun k hk => e k (by omega)), e n (by omega)]; rfl
/-- what the rows of A send to 0 -/
def Slv (p : Int) (r : Nat) (A : Nat → Nat → Int) (x : Nat → Int) : Prop := ∀ e, e < r → sm (fun b => A e b * x b) r % p = 0
theorem Slv.ex {p : Int} {r : Nat} {A B : Nat → Nat → Int} (h : ∀ e b, e < r → b < r → A e b % p = B e b % p) (x : Nat → Int) : Slv p r A x ↔ Slv p r B x := by
  have q : ∀ e, e < r → sm (fun b => A e b * x b) r % p = sm (fun b => B e b * x b) r % p := fun e he => sm_em r (fun b hb => em_mul (h e b he hb) rfl)
  exact ⟨fun k e he => by rw [← q e he]; exact k e he, fun k e he => by rw [q e he]; exact k e he⟩
/-- rows in another order -/
theorem Slv.perm {p : Int} {r : Nat} {A B : Nat → Nat → Int} {f : Nat → Nat} (h : ∀ e b, e < r → b < r → B e b = A (f e) b) (h1 : ∀ e, e < r → f e < r) (h2 : ∀ e, e < r → ∃ e', e' < r ∧ f e' = e) (x : Nat → Int) : Slv p r A x ↔ Slv p r B x := by
  have q : ∀ e, e < r → sm (fun b => B e b * x b) r = sm (fun b => A (f e) b * x b) r := fun e he => sm_ext r (fun b hb => by rw [h e b he hb])
  constructor
  · intro k e he
    rw [q e he]; exact k _ (h1 e he)
  · intro k e he
    obtain ⟨e', he', rfl⟩ := h2 e he
    rw [← q e' he']; exact k e' he'
/-- one row times u, where u has an inverse -/
theorem Slv.scl {p : Int} {r i : Nat} {A B : Nat → Nat → Int} {u w : Int} (hi : i < r) (huw : (w * u) % p = 1 % p) (h : ∀ b, b < r → B i b % p = (u * A i b) % p) (h' : ∀ e b, e < r → e ≠ i → b < r → B e b = A e b) (x : Nat → Int) : Slv p r A x ↔ Slv p r B x := by
  have q1 : sm (fun b => B i b * x b) r % p = (u * sm (fun b => A i b * x b) r) % p := by
    rw [← sm_mul]
    refine sm_em r (fun b hb => ?_)
    rw [← Int.mul_assoc]
    exact em_mul (h b hb) rfl
  have q2 : ∀ e, e < r → e ≠ i → sm (fun b => B e b * x b) r = sm (fun b => A e b * x b) r := fun e he hne => sm_ext r (fun b hb => by rw [h' e b he hne hb])
  constructor
  · intro k e he
    by_cases hei : e = i
    · subst hei
      rw [q1, Int.mul_emod, k e he, Int.mul_zero, Int.zero_emod]
    · rw [q2 e he hei]; exact k e he
  · intro k e he
    by_cases hei : e = i
    · subst hei
      have k1 := k e he
      rw [q1] at k1
      generalize sm (fun b => A e b * x b) r = s at *
      have e1 : (w * (u * s)) % p = s % p := by
        rw [← Int.mul_assoc]
        have := em_mul (x := w * u) (u := 1) (y := s) (v := s) huw rfl
        rw [Int.one_mul] at this
        exact this
      rw [← e1, Int.mul_emod, k1, Int.mul_zero, Int.zero_emod]
    · rw [← q2 e he hei]; exact k e he
/-- from other rows so many times one row -/
theorem Slv.sub {p : Int} {r i : Nat} {A B : Nat → Nat → Int} {t : Nat → Int} (hi : i < r) (h : ∀ e b, e < r → e ≠ i → b < r → B e b % p = (A e b - t e * A i b) % p) (h' : ∀ b, b < r → B i b = A i b) (x : Nat → Int) : Slv p r A x ↔ Slv p r B x := by
  have q2 : sm (fun b => B i b * x b) r = sm (fun b => A i b * x b) r := sm_ext r (fun b hb => by rw [h' b hb])
  have q1 : ∀ e, e < r → e ≠ i → sm (fun b => B e b * x b) r % p = (sm (fun b => A e b * x b) r + (-t e) * sm (fun b => A i b * x b) r) % p := fun e he hne => by
    rw [← sm_mul, ← sm_add]
    refine sm_em r (fun b hb => ?_)
    have e1 : A e b * x b + -t e * (A i b * x b) = (A e b - t e * A i b) * x b := by
      rw [Int.sub_mul, Int.neg_mul, Int.mul_assoc]; omega
    rw [e1]
    exact em_mul (h e b he hne hb) rfl
  constructor
  · intro k e he
    by_cases hei : e = i
    · subst hei; rw [q2]; exact k e he
    · rw [q1 e he hei, Int.add_emod, k e he, Int.mul_emod, k i hi, Int.mul_zero, Int.zero_emod]; rfl
  · intro k e he
    have ki := k i hi
    rw [q2] at ki
    by_cases hei : e = i
    · subst hei; exact ki
    · have k1 := k e he
      rw [q1 e he hei] at k1
      have e2 : (-t e * sm (fun b => A i b * x b) r) % p = 0 := by rw [Int.mul_emod, ki, Int.mul_zero, Int.zero_emod]
      rw [Int.add_emod, e2, Int.add_zero, Int.emod_emod_of_dvd _ (Int.dvd_refl p)] at k1
      exact k1
/-- Fermat's, for small primes -/
theorem fermat9 : ∀ p : Fin 242, (∀ k : Fin 16, 2 ≤ k.val → k.val * k.val ≤ p.val → p.val % k.val ≠ 0) → ∀ y : Fin 242, 0 < y.val → y.val < p.val → (y.val * y.val ^ (p.val - 2)) % p.val = 1 % p.val := by decide +kernel
