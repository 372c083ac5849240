/-! ===== back from a group to its list; classes of the list ===== -/
/-- the same with the way back: f from the list, q to it -/
def ISO2 (N : Nat) (m : Nat → Nat → Nat) (t : Nat → P2) (T : Nat → Nat → Nat) (tt : Nat → P2) (f q : Nat → Nat) : Prop :=
  f 0 = 0 ∧ (∀ k, k < N → f k < N ∧ q k < N ∧ q (f k) = k ∧ f (q k) = k) ∧ (∀ k l, k < N → l < N → T k l < N ∧ m (f k) (f l) = f (T k l)) ∧ ∀ k, k < N → t (f k) = tt k
theorem ISO.two {N : Nat} {m : Nat → Nat → Nat} {t : Nat → P2} {n : Nat} {T : Nat → Nat → Nat} {tt : Nat → P2} (h : ISO N m t n T tt) : N = n ∧ ∃ f q, ISO2 N m t T tt f q := by
  obtain ⟨f, rfl, h0, h1, h2, h3, h4⟩ := h
  have sur : ∀ z, z < N → ∃ k, k < N ∧ f k = z := fun z hz => by
    apply Classical.byContradiction
    intro h9
    have ne : ∀ k, k < N → f k ≠ z := fun k hk e => h9 ⟨k, hk, e⟩
    obtain ⟨i, j, hij, hj, e⟩ := pigeon N (fun k => if k = N then z else f k) (fun i hi => by
      split
      · exact hz
      · exact h1 i (by omega))
    rw [if_neg (by omega)] at e
    by_cases hjN : j = N
    · rw [if_pos hjN] at e
      exact ne i (by omega) e
    · rw [if_neg hjN] at e
      have := h2 i j (by omega) (by omega) e
      omega
  refine ⟨rfl, f, fun z => theN (fun k => k < N ∧ f k = z), h0, fun k hk => ?_, h3, h4⟩
  have a := theN_of (sur k hk)
  have b := theN_of (sur (f k) (h1 k hk))
  exact ⟨h1 k hk, a.1, h2 _ _ b.1 hk b.2, a.2⟩
section SH1
variable {N : Nat} {m : Nat → Nat → Nat} {t : Nat → P2} {T : Nat → Nat → Nat} {tt : Nat → P2} {f q : Nat → Nat}
theorem ISO2.iv (h : ISO2 N m t T tt f q) (hI : IsG N m) {k j : Nat} (hk : k < N) (hj : j < N) (e : T k j = 0) : iv N m (f k) = f j := by
  obtain ⟨h0, h1, h2, h3⟩ := h
  refine (iv_un hI (h1 k hk).1 (h1 j hj).1 ?_).symm
  rw [(h2 k j hk hj).2, e, h0]
theorem ISO2.cn (h : ISO2 N m t T tt f q) (P : Nat → Prop) : cn (fun x => P (q x)) N = cn P N := by
  obtain ⟨h0, h1, h2, h3⟩ := h
  exact cn_bij q (fun a ha hp => ⟨(h1 a ha).2.1, hp⟩) (fun a b ha hb _ _ e => by rw [← (h1 a ha).2.2.2, ← (h1 b hb).2.2.2, e]) (fun b hb hp => ⟨f b, (h1 b hb).1, by
    show P (q (f b))
    rw [(h1 b hb).2.2.1]; exact hp, (h1 b hb).2.2.1⟩)
/-- classes of the list are classes of the group -/
theorem ISO2.cls (h : ISO2 N m t T tt f q) (hI : IsG N m) {rr : Nat} {CL IV : Nat → Nat} (hv : ∀ k, k < N → IV k < N ∧ T k (IV k) = 0) (c1 : ∀ k, k < N → CL k < rr) (c2 : ∀ k x, k < N → x < N → CL (T (T (IV x) k) x) = CL k) (c3 : ∀ k l, k < N → l < N → CL k = CL l → ∃ x, x < N ∧ l = T (T (IV x) k) x) (c4 : ∀ c, c < rr → ∃ k, k < N ∧ CL k = c) : CLS N m rr (fun z => CL (q z)) := by
  have h' := h
  obtain ⟨h0, h1, h2, h3⟩ := h
  have tnf : ∀ k x, k < N → x < N → T (T (IV x) k) x < N ∧ tn N m (f k) (f x) = f (T (T (IV x) k) x) := fun k x hk hx => by
    have v := hv x hx
    have a := h2 (IV x) k v.1 hk
    have b := h2 _ x a.1 hx
    unfold tn
    rw [h'.iv hI hx v.1 v.2, a.2, b.2]
    exact ⟨b.1, rfl⟩
  refine ⟨fun k hk => c1 _ (h1 k hk).2.1, fun k l hk hl => ⟨fun e => ?_, fun ⟨x, hx, e⟩ => ?_⟩, fun c hc => ?_⟩
  · obtain ⟨x, hx, ex⟩ := c3 _ _ (h1 k hk).2.1 (h1 l hl).2.1 e
    refine ⟨f x, (h1 x hx).1, ?_⟩
    have := (tnf (q k) x (h1 k hk).2.1 hx).2
    rw [(h1 k hk).2.2.2, ← ex, (h1 l hl).2.2.2] at this
    exact this.symm
  · have g := tnf (q k) (q x) (h1 k hk).2.1 (h1 x hx).2.1
    rw [(h1 k hk).2.2.2, (h1 x hx).2.2.2, ← e] at g
    show CL (q k) = CL (q l)
    rw [g.2, (h1 _ g.1).2.2.1]
    exact (c2 _ _ (h1 k hk).2.1 (h1 x hx).2.1).symm
  · obtain ⟨k, hk, e⟩ := c4 c hc
    exact ⟨f k, (h1 k hk).1, by show CL (q (f k)) = c; rw [(h1 k hk).2.2.1]; exact e⟩
end SH1
