/-! ===== checks over words of bytes ===== -/
def btJ (w i : Nat) : Nat := Nat.mod (Nat.shiftRight w (Nat.mul 8 i)) 256
noncomputable def alJ (n : Nat) (f : Nat → Bool) : Bool := Nat.rec (motive := fun _ => Bool) true (fun k ih => f k && ih) n
noncomputable def exJ (n : Nat) (f : Nat → Bool) : Bool := Nat.rec (motive := fun _ => Bool) false (fun k ih => f k || ih) n
noncomputable def smJ (n : Nat) (f : Nat → Nat) : Nat := Nat.rec (motive := fun _ => Nat) 0 (fun k ih => Nat.add ih (f k)) n
theorem alJ_of {f : Nat → Bool} : ∀ {n}, alJ n f = true → ∀ k, k < n → f k = true := by
  intro n
  induction n with
  | zero => intro _ k hk; omega
  | succ n ih =>
    intro h k hk
    have h2 : (f n && alJ n f) = true := h
    rw [Bool.and_eq_true] at h2
    by_cases e : k = n
    · rw [e]; exact h2.1
    · exact ih h2.2 k (by omega)
theorem alJ_in {f : Nat → Bool} : ∀ n, (∀ k, k < n → f k = true) → alJ n f = true := by
  intro n
  induction n with
  | zero => intro _; rfl
  | succ n ih =>
    intro h
    show (f n && alJ n f) = true
    rw [h n (by omega), ih (fun k hk => h k (by omega))]; rfl
theorem exJ_of {f : Nat → Bool} : ∀ {n}, exJ n f = true → ∃ k, k < n ∧ f k = true := by
  intro n
  induction n with
  | zero => intro h; cases h
  | succ n ih =>
    intro h
    have h2 : (f n || exJ n f) = true := h
    rw [Bool.or_eq_true] at h2
    rcases h2 with h2 | h2
    · exact ⟨n, by omega, h2⟩
    · obtain ⟨k, hk, e⟩ := ih h2
      exact ⟨k, by omega, e⟩
theorem exJ_in {f : Nat → Bool} : ∀ n k, k < n → f k = true → exJ n f = true := by
  intro n
  induction n with
  | zero => intro k hk _; omega
  | succ n ih =>
    intro k hk h
    show (f n || exJ n f) = true
    rw [Bool.or_eq_true]
    by_cases e : k = n
    · rw [← e]; exact .inl h
    · exact .inr (ih k (by omega) h)
theorem smJ_s (f : Nat → Nat) (n : Nat) : smJ (n + 1) f = smJ n f + f n := rfl
theorem smJ_sm (f : Nat → Nat) : ∀ n, sm (fun k => (f k : Int)) n = (smJ n f : Int) := by
  intro n
  induction n with
  | zero => rfl
  | succ n ih =>
    show sm (fun k => (f k : Int)) n + (f n : Int) = _
    rw [smJ_s, ih]; omega
theorem smJ_ext {f h : Nat → Nat} : ∀ n, (∀ k, k < n → f k = h k) → smJ n f = smJ n h := by
  intro n
  induction n with
  | zero => intro _; rfl
  | succ n ih =>
    intro e
    rw [smJ_s, smJ_s, ih (fun k hk => e k (by omega)), e n (by omega)]
theorem smJ_le {f : Nat → Nat} {b : Nat} : ∀ n, (∀ k, k < n → f k ≤ b) → smJ n f ≤ n * b := by
  intro n
  induction n with
  | zero => intro _; show 0 ≤ _; omega
  | succ n ih =>
    intro e
    have := ih (fun k hk => e k (by omega))
    have := e n (by omega)
    rw [smJ_s, Nat.succ_mul]; omega
theorem btJ_lt (w i : Nat) : btJ w i < 256 := Nat.mod_lt _ (by decide)
/-! digits -/
def pkJ (b : Nat) (f : Nat → Nat) : Nat → Nat
  | 0 => 0
  | n + 1 => pkJ b f n + f n * 2 ^ (b * n)
theorem pkJ_ext {b : Nat} {f h : Nat → Nat} : ∀ n, (∀ k, k < n → f k = h k) → pkJ b f n = pkJ b h n := by
  intro n
  induction n with
  | zero => intro _; rfl
  | succ n ih =>
    intro e
    show pkJ b f n + f n * _ = pkJ b h n + h n * _
    rw [ih (fun k hk => e k (by omega)), e n (by omega)]
theorem pkJ_lt {b : Nat} {f : Nat → Nat} : ∀ n, (∀ i, i < n → f i < 2 ^ b) → pkJ b f n < 2 ^ (b * n) := by
  intro n
  induction n with
  | zero => intro _; rw [Nat.mul_zero]; show 0 < 1; omega
  | succ n ih =>
    intro h
    have a := ih (fun i hi => h i (by omega))
    have c := h n (by omega)
    show pkJ b f n + f n * 2 ^ (b * n) < _
    rw [Nat.mul_succ, Nat.pow_add, Nat.mul_comm (2 ^ (b * n))]
    have d : (f n + 1) * 2 ^ (b * n) ≤ 2 ^ b * 2 ^ (b * n) := Nat.mul_le_mul_right _ c
    rw [Nat.succ_mul] at d
    omega
theorem pkJ_dig {b : Nat} {f : Nat → Nat} : ∀ n, (∀ i, i < n → f i < 2 ^ b) → ∀ i, i < n → pkJ b f n / 2 ^ (b * i) % 2 ^ b = f i := by
  intro n
  induction n with
  | zero => intro _ i hi; omega
  | succ n ih =>
    intro h i hi
    show (pkJ b f n + f n * 2 ^ (b * n)) / 2 ^ (b * i) % 2 ^ b = f i
    have hpos : ∀ k, 0 < 2 ^ k := fun k => Nat.pow_pos (by decide)
    by_cases e : i = n
    · subst e
      rw [Nat.add_mul_div_right _ _ (hpos _), Nat.div_eq_of_lt (pkJ_lt i (fun j hj => h j (by omega))), Nat.zero_add]
      exact Nat.mod_eq_of_lt (h i (by omega))
    · obtain ⟨k, rfl⟩ : ∃ k, n = i + (k + 1) := ⟨n - i - 1, by omega⟩
      have e1 : f (i + (k + 1)) * 2 ^ (b * (i + (k + 1))) = 2 ^ (b * i) * (2 ^ b * (f (i + (k + 1)) * 2 ^ (b * k))) := by
        rw [Nat.mul_add b i (k + 1), Nat.mul_succ, Nat.pow_add, Nat.pow_add, Nat.mul_left_comm, Nat.mul_comm (2 ^ (b * k)), Nat.mul_left_comm (f _)]
      rw [e1, Nat.add_mul_div_left _ _ (hpos _), Nat.add_mul_mod_self_left]
      exact ih (fun j hj => h j (by omega)) i (by omega)
theorem pkJ_add (b : Nat) (f h : Nat → Nat) : ∀ n, pkJ b (fun i => f i + h i) n = pkJ b f n + pkJ b h n := by
  intro n
  induction n with
  | zero => rfl
  | succ n ih =>
    show pkJ b (fun i => f i + h i) n + (f n + h n) * _ = (pkJ b f n + f n * _) + (pkJ b h n + h n * _)
    rw [ih, Nat.add_mul]; omega
theorem pkJ_mul (b u : Nat) (f : Nat → Nat) : ∀ n, pkJ b (fun i => u * f i) n = u * pkJ b f n := by
  intro n
  induction n with
  | zero => rfl
  | succ n ih =>
    show pkJ b (fun i => u * f i) n + u * f n * _ = u * (pkJ b f n + f n * _)
    rw [ih, Nat.mul_add, Nat.mul_assoc]
theorem pkJ_0 (b : Nat) : ∀ n, pkJ b (fun _ => 0) n = 0 := by
  intro n
  induction n with
  | zero => rfl
  | succ n ih => show pkJ b (fun _ => 0) n + 0 * _ = 0; rw [ih, Nat.zero_mul]
theorem pkJ_one (b u : Nat) : ∀ n, u < n → pkJ b (fun i => if i = u then 1 else 0) n = 2 ^ (b * u) := by
  intro n
  induction n with
  | zero => intro h; omega
  | succ n ih =>
    intro h
    show pkJ b (fun i => if i = u then 1 else 0) n + (if n = u then 1 else 0) * 2 ^ (b * n) = _
    by_cases e : n = u
    · subst e
      rw [if_pos rfl, Nat.one_mul, pkJ_ext (h := fun _ => 0) n (fun k hk => if_neg (by omega)), pkJ_0, Nat.zero_add]
    · rw [ih (by omega), if_neg e, Nat.zero_mul, Nat.add_zero]
theorem pkJ_sm (b : Nat) (m : Nat → Nat) (f : Nat → Nat → Nat) (n : Nat) : ∀ r, smJ r (fun a => m a * pkJ b (f a) n) = pkJ b (fun i => smJ r (fun a => m a * f a i)) n := by
  intro r
  induction r with
  | zero => exact (pkJ_0 b n).symm
  | succ r ih =>
    rw [smJ_s, ih, ← pkJ_mul, ← pkJ_add]
    rfl
/-- a tally -/
theorem pkJ_cn (b : Nat) (F : Nat → Nat) (n : Nat) : ∀ N, (∀ x, x < N → F x < n) → smJ N (fun x => 2 ^ (b * F x)) = pkJ b (fun j => cn (fun x => F x = j) N) n := by
  intro N
  induction N with
  | zero => intro _; exact (pkJ_0 b n).symm
  | succ N ih =>
    intro h
    rw [smJ_s, ih (fun x hx => h x (by omega)), ← pkJ_one b (F N) n (h N (by omega)), ← pkJ_add]
    refine pkJ_ext n (fun j _ => ?_)
    rw [cn_s]
    by_cases e : F N = j
    · rw [if_pos e, if_pos e.symm]
    · rw [if_neg e, if_neg (fun h9 => e h9.symm)]
def dgJ (b w i : Nat) : Nat := Nat.mod (Nat.shiftRight w (Nat.mul b i)) (Nat.pow 2 b)
theorem dgJ_eq (b w i : Nat) : dgJ b w i = w / 2 ^ (b * i) % 2 ^ b := by
  show (w >>> (b * i)) % 2 ^ b = _
  rw [Nat.shiftRight_eq_div_pow]
theorem dgJ_pk {b n : Nat} {f : Nat → Nat} (h : ∀ i, i < n → f i < 2 ^ b) {i : Nat} (hi : i < n) : dgJ b (pkJ b f n) i = f i := by
  rw [dgJ_eq]; exact pkJ_dig n h i hi
theorem btJ_dg (w i : Nat) : btJ w i = dgJ 8 w i := rfl
/-! bits -/
def biJ (m x : Nat) : Bool := Nat.beq (Nat.mod (Nat.shiftRight m x) 2) 1
def stJ (m x : Nat) : Nat := Nat.lor m (Nat.shiftLeft 1 x)
theorem biJ_tb (m x : Nat) : biJ m x = m.testBit x := by
  rw [Nat.testBit_eq_decide_div_mod_eq, ← Nat.shiftRight_eq_div_pow]
  show Nat.beq (m >>> x % 2) 1 = decide (m >>> x % 2 = 1)
  cases hb : Nat.beq (m >>> x % 2) 1
  · have : ¬ (m >>> x % 2 = 1) := fun h9 => by rw [h9] at hb; exact absurd hb (by decide)
    rw [decide_eq_false this]
  · rw [decide_eq_true (Nat.eq_of_beq_eq_true hb)]
theorem biJ_st (m x y : Nat) : biJ (stJ m x) y = (biJ m y || decide (x = y)) := by
  have e : stJ m x = m ||| (1 <<< x) := rfl
  rw [biJ_tb, biJ_tb, e, Nat.testBit_or, Nat.one_shiftLeft, Nat.testBit_two_pow]
theorem biJ_0 (x : Nat) : biJ 0 x = false := by rw [biJ_tb, Nat.zero_testBit]
