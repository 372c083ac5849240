/-! ===== counting; the elements that commute with one ===== -/
noncomputable def cn (P : Nat → Prop) : Nat → Nat
  | 0 => 0
  | n + 1 => cn P n + @ite _ (P n) (Classical.propDecidable _) 1 0
theorem cn_s (P : Nat → Prop) (n : Nat) : cn P (n + 1) = cn P n + @ite _ (P n) (Classical.propDecidable _) 1 0 := rfl
theorem cn_ext {P Q : Nat → Prop} : ∀ n, (∀ k, k < n → (P k ↔ Q k)) → cn P n = cn Q n := by
  intro n
  induction n with
  | zero => intro _; rfl
  | succ n ih =>
    intro h
    rw [cn_s, cn_s, ih (fun k hk => h k (by omega))]
    by_cases hp : P n
    · rw [if_pos hp, if_pos ((h n (by omega)).mp hp)]
    · rw [if_neg hp, if_neg (fun h9 => hp ((h n (by omega)).mpr h9))]
theorem cn_0 {P : Nat → Prop} : ∀ n, (∀ k, k < n → ¬ P k) → cn P n = 0 := by
  intro n
  induction n with
  | zero => intro _; rfl
  | succ n ih =>
    intro h
    rw [cn_s, ih (fun k hk => h k (by omega)), if_neg (h n (by omega))]
theorem cn_all : ∀ n, cn (fun _ => True) n = n := by
  intro n
  induction n with
  | zero => rfl
  | succ n ih => rw [cn_s, ih, if_pos trivial]
theorem cn_le {P : Nat → Prop} : ∀ n, cn P n ≤ n := by
  intro n
  induction n with
  | zero => exact Nat.le_refl _
  | succ n ih => rw [cn_s]; split <;> omega
theorem cn_or {P Q : Nat → Prop} : ∀ n, (∀ k, k < n → ¬ (P k ∧ Q k)) → cn (fun k => P k ∨ Q k) n = cn P n + cn Q n := by
  intro n
  induction n with
  | zero => intro _; rfl
  | succ n ih =>
    intro h
    rw [cn_s, cn_s, cn_s, ih (fun k hk => h k (by omega))]
    have hn := h n (by omega)
    by_cases hp : P n
    · rw [if_pos (.inl hp), if_pos hp, if_neg (fun hq => hn ⟨hp, hq⟩)]; omega
    · by_cases hq : Q n
      · rw [if_pos (.inr hq), if_neg hp, if_pos hq]; omega
      · rw [if_neg (fun h9 => h9.elim hp hq), if_neg hp, if_neg hq]; rfl
theorem cn_one {P : Nat → Prop} : ∀ n a, a < n → P a → (∀ k, k < n → P k → k = a) → cn P n = 1 := by
  intro n
  induction n with
  | zero => intro a ha; omega
  | succ n ih =>
    intro a ha hp hu
    rw [cn_s]
    by_cases han : a = n
    · subst han
      rw [if_pos hp, cn_0 a (fun k hk h9 => by have := hu k (by omega) h9; omega)]
    · rw [ih a (by omega) hp (fun k hk => hu k (by omega)), if_neg (fun h9 => han (hu n (by omega) h9).symm)]
/-- all fibres over B have the same size -/
theorem cn_fib {A B : Nat → Prop} {f : Nat → Nat} {n w : Nat} : ∀ M, (∀ a, a < n → A a → f a < M ∧ B (f a)) → (∀ b, b < M → B b → cn (fun a => A a ∧ f a = b) n = w) → cn A n = cn B M * w := by
  have main : ∀ M, (∀ a, a < n → A a → B (f a)) → (∀ b, b < M → B b → cn (fun a => A a ∧ f a = b) n = w) → cn (fun a => A a ∧ f a < M) n = cn B M * w := by
    intro M
    induction M with
    | zero =>
      intro _ _
      rw [cn_0 n (fun k _ h9 => by have := h9.2; omega)]
      show 0 = 0 * w
      omega
    | succ M ih =>
      intro h1 h2
      have e : cn (fun a => A a ∧ f a < M + 1) n = cn (fun a => (A a ∧ f a < M) ∨ (A a ∧ f a = M)) n := cn_ext n (fun k hk => ⟨fun h9 => by
        by_cases hk2 : f k = M
        · exact .inr ⟨h9.1, hk2⟩
        · exact .inl ⟨h9.1, by have := h9.2; omega⟩, fun h9 => by rcases h9 with h9 | h9 <;> exact ⟨h9.1, by have := h9.2; omega⟩⟩)
      rw [e, cn_or n (fun k hk h9 => by have := h9.1.2; have := h9.2.2; omega), ih h1 (fun b hb => h2 b (by omega)), cn_s]
      by_cases hB : B M
      · rw [if_pos hB, h2 M (by omega) hB, Nat.add_mul, Nat.one_mul]
      · have hz : cn (fun a => A a ∧ f a = M) n = 0 := cn_0 n (fun k hk h9 => hB (by have := h1 k hk h9.1; rw [h9.2] at this; exact this))
        rw [if_neg hB, hz]; rfl
  intro M h1 h2
  rw [← main M (fun a ha h9 => (h1 a ha h9).2) h2]
  exact cn_ext n (fun k hk => ⟨fun h9 => ⟨h9, (h1 k hk h9).1⟩, fun h9 => h9.1⟩)
theorem cn_bij {A B : Nat → Prop} {n M : Nat} (f : Nat → Nat) (h1 : ∀ a, a < n → A a → f a < M ∧ B (f a)) (h2 : ∀ a b, a < n → b < n → A a → A b → f a = f b → a = b) (h3 : ∀ b, b < M → B b → ∃ a, a < n ∧ A a ∧ f a = b) : cn A n = cn B M := by
  rw [cn_fib (w := 1) M h1 (fun b hb hB => ?_), Nat.mul_one]
  obtain ⟨a, ha, hA, hf⟩ := h3 b hb hB
  exact cn_one n a ha ⟨hA, hf⟩ (fun k hk h9 => h2 k a hk ha h9.1 hA (by rw [h9.2, hf]))
theorem cntF_cn (f : Nat → Int) (c : Int) : ∀ n, cntF f c n = cn (fun k => f k = c) n := by
  intro n
  induction n with
  | zero => rfl
  | succ n ih =>
    show cntF f c n + (if f n = c then 1 else 0) = _
    rw [cn_s, ih]
    by_cases h : f n = c
    · rw [if_pos h, if_pos h]
    · rw [if_neg h, if_neg h]
/-- what commutes with e -/
def Zc (N : Nat) (m : Nat → Nat → Nat) (e z : Nat) : Prop := tn N m e z = e
theorem Zc_iff {N : Nat} {m : Nat → Nat → Nat} (h : IsG N m) {e z : Nat} (he : e < N) (hz : z < N) : Zc N m e z ↔ m e z = m z e := by
  have iz := iv_lt h hz
  unfold Zc tn
  constructor
  · intro h1
    have h2 : m z (m (m (iv N m z) e) z) = m z e := by rw [h1]
    rw [h.2.2.2.1 _ _ _ iz he hz, ← h.2.2.2.1 _ _ _ hz iz (h.2.1 _ _ he hz), iv_r h hz, (h.2.2.1 _ (h.2.1 _ _ he hz)).1] at h2
    exact h2
  · intro h1
    have il : m (iv N m z) z = 0 := by
      have q := iv_r h iz
      have : iv N m (iv N m z) = z := (iv_un h iz hz (by
        have e1 : m (m (iv N m z) z) (iv N m z) = m 0 (iv N m z) := by rw [h.2.2.2.1 _ _ _ iz hz iz, iv_r h hz, (h.2.2.1 _ iz).2, (h.2.2.1 _ iz).1]
        exact h.2.2.2.2 _ _ _ (h.2.1 _ _ iz hz) h.1 iz e1)).symm
      rw [this] at q; exact q
    rw [h.2.2.2.1 _ _ _ iz he hz, h1, ← h.2.2.2.1 _ _ _ iz hz he, il, (h.2.2.1 _ he).1]
theorem orbit {N : Nat} {m : Nat → Nat → Nat} (h : IsG N m) {e : Nat} (he : e < N) : N = zsN N m (csN N m e) * cn (Zc N m e) N := by
  have ec : zsN N m (csN N m e) = cn (fun b => csN N m b = csN N m e) N := by
    unfold zsN
    rw [cntF_cn]
    refine cn_ext N (fun k hk => ?_)
    rw [(csN_s h hk).1]
    omega
  rw [ec]
  have main : cn (fun _ => True) N = cn (fun b => csN N m b = csN N m e) N * cn (Zc N m e) N := by
    refine cn_fib (f := fun x => tn N m e x) N (fun a ha _ => ⟨tn_lt h he ha, ((csN_tn h he (tn_lt h he ha)).mpr ⟨a, ha, rfl⟩).symm⟩) (fun b hb hB => ?_)
    obtain ⟨g, hg, hbg⟩ := (csN_tn h he hb).mp hB.symm
    have ig := iv_lt h hg
    have il : m (iv N m g) g = 0 := by
      have e1 : m (m (iv N m g) g) (iv N m g) = m 0 (iv N m g) := by rw [h.2.2.2.1 _ _ _ ig hg ig, iv_r h hg, (h.2.2.1 _ ig).2, (h.2.2.1 _ ig).1]
      exact h.2.2.2.2 _ _ _ (h.2.1 _ _ ig hg) h.1 ig e1
    have b1 : ∀ z, z < N → Zc N m e z → m z g < N ∧ (True ∧ tn N m e (m z g) = b) := fun z hz hZ =>
      ⟨h.2.1 _ _ hz hg, trivial, by rw [← tn_tn h he hz hg, show tn N m e z = e from hZ, hbg]⟩
    have b3 : ∀ x, x < N → (True ∧ tn N m e x = b) → ∃ z, z < N ∧ Zc N m e z ∧ m z g = x := fun x hx hX =>
      ⟨m x (iv N m g), h.2.1 _ _ hx ig, by
        show tn N m e (m x (iv N m g)) = e
        rw [← tn_tn h he hx ig, hX.2, hbg, tn_back h he hg], by rw [h.2.2.2.1 _ _ _ hx ig hg, il, (h.2.2.1 _ hx).2]⟩
    exact (cn_bij (A := Zc N m e) (B := fun x => True ∧ tn N m e x = b) (fun z => m z g) b1 (fun a b ha hb _ _ hab => h.2.2.2.2 _ _ _ ha hb hg hab) b3).symm
  rw [cn_all] at main
  exact main
