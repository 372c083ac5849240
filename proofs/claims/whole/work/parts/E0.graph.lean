/-! ===== the class: the graph ===== -/
/-- lengths by ways between -/
noncomputable def fwN (D : Int) (els : List (List Int)) : Nat → Nat → Nat → Int
  | 0, a, b => if a = b then 0 else if waN D els a b ≤ 0 then -1 else 1
  | m + 1, a, b => if fwN D els m a m ≠ -1 ∧ fwN D els m m b ≠ -1 ∧ (fwN D els m a b = -1 ∨ fwN D els m a m + fwN D els m m b < fwN D els m a b) then fwN D els m a m + fwN D els m m b else fwN D els m a b
theorem rch_add {D : Int} {els : List (List Int)} {a b n : Nat} (h : rch D els a n b) : ∀ k c, rch D els b k c → rch D els a (n + k) c := by
  intro k
  induction k with
  | zero =>
    intro c hc
    have : c = b := hc
    rw [this]; exact h
  | succ k ih =>
    rintro c ⟨e, he, h1, h2⟩
    exact ⟨e, he, ih e h1, h2⟩
theorem fw_ok {D : Int} {els : List (List Int)} {r : Nat} (hr : r = rG D els) : ∀ m, m ≤ r → ∀ a b, a < r → b < r → fwN D els m a b = -1 ∨ ∃ n : Nat, fwN D els m a b = n ∧ n ≤ 2 ^ m ∧ rch D els a n b := by
  intro m
  induction m with
  | zero =>
    intro _ a b ha hb
    show (if a = b then (0 : Int) else if waN D els a b ≤ 0 then -1 else 1) = -1 ∨ ∃ n : Nat, (if a = b then (0 : Int) else if waN D els a b ≤ 0 then -1 else 1) = n ∧ n ≤ 2 ^ 0 ∧ rch D els a n b
    by_cases h : a = b
    · rw [if_pos h]; exact .inr ⟨0, rfl, by decide, h.symm⟩
    · rw [if_neg h]
      by_cases h2 : waN D els a b ≤ 0
      · rw [if_pos h2]; exact .inl rfl
      · rw [if_neg h2]; exact .inr ⟨1, rfl, by decide, a, by omega, rfl, by omega⟩
  | succ m ih =>
    intro hm a b ha hb
    have i1 := ih (by omega) a m ha (by omega)
    have i2 := ih (by omega) m b (by omega) hb
    have i3 := ih (by omega) a b ha hb
    have e : fwN D els (m + 1) a b = if fwN D els m a m ≠ -1 ∧ fwN D els m m b ≠ -1 ∧ (fwN D els m a b = -1 ∨ fwN D els m a m + fwN D els m m b < fwN D els m a b) then fwN D els m a m + fwN D els m m b else fwN D els m a b := rfl
    rw [e]
    have e2 : 2 ^ (m + 1) = 2 ^ m + 2 ^ m := by rw [Nat.pow_succ]; omega
    split
    · rename_i h
      obtain ⟨n1, a1, a2, a3⟩ := i1.resolve_left h.1
      obtain ⟨n2, b1, b2, b3⟩ := i2.resolve_left h.2.1
      exact .inr ⟨n1 + n2, by rw [a1, b1]; rfl, by omega, rch_add a3 n2 b b3⟩
    · rcases i3 with h | ⟨n, c1, c2, c3⟩
      · exact .inl h
      · exact .inr ⟨n, c1, by omega, c3⟩
theorem fw_dg {D : Int} {els : List (List Int)} {r : Nat} (hr : r = rG D els) : ∀ m, m ≤ r → ∀ a, a < r → fwN D els m a a = 0 := by
  intro m
  induction m with
  | zero => intro _ a _; exact if_pos rfl
  | succ m ih =>
    intro hm a ha
    have e : fwN D els (m + 1) a a = if fwN D els m a m ≠ -1 ∧ fwN D els m m a ≠ -1 ∧ (fwN D els m a a = -1 ∨ fwN D els m a m + fwN D els m m a < fwN D els m a a) then fwN D els m a m + fwN D els m m a else fwN D els m a a := rfl
    have i0 := ih (by omega) a ha
    rw [e, if_neg, i0]
    rintro ⟨h1, h2, h3⟩
    rcases fw_ok hr m (by omega) a m ha (by omega) with h | ⟨n1, a1, _⟩
    · exact h1 h
    · rcases fw_ok hr m (by omega) m a (by omega) ha with h | ⟨n2, b1, _⟩
      · exact h2 h
      · rw [i0] at h3; omega
/-- in its own row and column nothing changes -/
theorem fw_rc {D : Int} {els : List (List Int)} {r : Nat} (hr : r = rG D els) {m : Nat} (hm : m < r) {a : Nat} (ha : a < r) : fwN D els (m + 1) a m = fwN D els m a m ∧ fwN D els (m + 1) m a = fwN D els m m a := by
  have d := fw_dg hr m (by omega) m hm
  have e : ∀ x y, fwN D els (m + 1) x y = if fwN D els m x m ≠ -1 ∧ fwN D els m m y ≠ -1 ∧ (fwN D els m x y = -1 ∨ fwN D els m x m + fwN D els m m y < fwN D els m x y) then fwN D els m x m + fwN D els m m y else fwN D els m x y := fun x y => rfl
  rw [e, e, d]
  constructor
  · rw [if_neg (by rintro ⟨h1, _, h3⟩; rcases h3 with h3 | h3; exact h1 h3; omega)]
  · rw [if_neg (by rintro ⟨_, h1, h3⟩; rcases h3 with h3 | h3; exact h1 h3; omega)]
/-- walks with all between below m -/
def WK (D : Int) (els : List (List Int)) (m a : Nat) : Nat → Nat → Prop
  | 0, b => a = b
  | n + 1, b => (n = 0 ∧ 0 < waN D els a b) ∨ ∃ k, k < m ∧ k < rG D els ∧ WK D els m a n k ∧ 0 < waN D els k b
theorem wk_s {D : Int} {els : List (List Int)} {m a : Nat} : ∀ n b, WK D els (m + 1) a n b → WK D els m a n b ∨ ∃ n1 n2, n1 + n2 ≤ n ∧ WK D els m a n1 m ∧ WK D els m m n2 b := by
  intro n
  induction n with
  | zero => intro b h; exact .inl h
  | succ n ih =>
    rintro b (⟨h1, h2⟩ | ⟨k, k1, k2, k3, k4⟩)
    · exact .inl (.inl ⟨h1, h2⟩)
    · rcases ih k k3 with h | ⟨n1, n2, h1, h2, h3⟩
      · by_cases hk : k < m
        · exact .inl (.inr ⟨k, hk, k2, h, k4⟩)
        · have : k = m := by omega
          subst this
          exact .inr ⟨n, 1, by omega, h, .inl ⟨rfl, k4⟩⟩
      · by_cases hk : k < m
        · exact .inr ⟨n1, n2 + 1, by omega, h2, .inr ⟨k, hk, k2, h3, k4⟩⟩
        · have : k = m := by omega
          subst this
          exact .inr ⟨n1, 1, by omega, h2, .inl ⟨rfl, k4⟩⟩
theorem wk_r {D : Int} {els : List (List Int)} {a : Nat} : ∀ n b, rch D els a n b → WK D els (rG D els) a n b := by
  intro n
  induction n with
  | zero => intro b h; exact (show b = a from h).symm
  | succ n ih =>
    rintro b ⟨k, k1, k2, k3⟩
    by_cases hn : n = 0
    · subst hn
      have : k = a := k2
      rw [this] at k3
      exact .inl ⟨rfl, k3⟩
    · exact .inr ⟨k, k1, k1, ih k k2, k3⟩
theorem fw_le {D : Int} {els : List (List Int)} {r : Nat} (hr : r = rG D els) : ∀ m, m ≤ r → ∀ n a b, a < r → b < r → WK D els m a n b → fwN D els m a b ≠ -1 ∧ fwN D els m a b ≤ n := by
  intro m
  induction m with
  | zero =>
    intro _ n a b ha hb h
    show (if a = b then (0 : Int) else if waN D els a b ≤ 0 then -1 else 1) ≠ -1 ∧ (if a = b then (0 : Int) else if waN D els a b ≤ 0 then -1 else 1) ≤ n
    cases n with
    | zero => rw [if_pos (show a = b from h)]; omega
    | succ n =>
      rcases h with ⟨h1, h2⟩ | ⟨k, hk, _⟩
      · by_cases hab : a = b
        · rw [if_pos hab]; omega
        · rw [if_neg hab, if_neg (by omega)]; omega
      · omega
  | succ m ih =>
    intro hm n a b ha hb h
    have e : fwN D els (m + 1) a b = if fwN D els m a m ≠ -1 ∧ fwN D els m m b ≠ -1 ∧ (fwN D els m a b = -1 ∨ fwN D els m a m + fwN D els m m b < fwN D els m a b) then fwN D els m a m + fwN D els m m b else fwN D els m a b := rfl
    have p1 := fw_ok hr m (by omega) a m ha (by omega)
    have p2 := fw_ok hr m (by omega) m b (by omega) hb
    rw [e]
    rcases wk_s n b h with h | ⟨n1, n2, h1, h2, h3⟩
    · have i := ih (by omega) n a b ha hb h
      split
      · rename_i hc
        obtain ⟨x1, y1, _⟩ := p1.resolve_left hc.1
        obtain ⟨x2, y2, _⟩ := p2.resolve_left hc.2.1
        rcases hc.2.2 with h9 | h9
        · exact absurd h9 i.1
        · omega
      · exact i
    · have i1 := ih (by omega) n1 a m ha (by omega) h2
      have i2 := ih (by omega) n2 m b (by omega) hb h3
      obtain ⟨x1, y1, _⟩ := p1.resolve_left i1.1
      obtain ⟨x2, y2, _⟩ := p2.resolve_left i2.1
      split
      · omega
      · rename_i hc
        have h5 : fwN D els m a b ≠ -1 := fun h9 => hc ⟨i1.1, i2.1, .inl h9⟩
        have h6 : ¬ (fwN D els m a m + fwN D els m m b < fwN D els m a b) := fun h9 => hc ⟨i1.1, i2.1, .inr h9⟩
        exact ⟨h5, by omega⟩
theorem fw_lch {D : Int} {els : List (List Int)} {a b n : Nat} (ha : a < rG D els) (hb : b < rG D els) (h : lch D els a n b) : fwN D els (rG D els) a b = n := by
  have i := fw_le rfl (rG D els) (Nat.le_refl _) n a b ha hb (wk_r n b h.1)
  obtain ⟨n', y1, _, y3⟩ := (fw_ok rfl (rG D els) (Nat.le_refl _) a b ha hb).resolve_left i.1
  have : ¬ n' < n := fun h9 => h.2 n' h9 y3
  omega
section SE0
variable {E : Ev} {σ : Sg} {Q : NO → Sg → Prop} {g : Sg} {c t : Nat}
variable {D : Int} {told els : List (List Int)}
theorem S_inRowOf {i x n : Nat} {f : Nat → Int} (hL : Lay LC g c t σ) (hX : FX D told els) (hB : BCh σ D els) (hCh : ChC σ D els) (hP : PA LC x n) (hn : rG D els ≤ n) (hi : i < rG D els) (hf : ∀ a, a < rG D els → gI σ x a = f a ∧ 0 ≤ f a ∧ f a < (pN D els : Int)) (hq : Q (.inl (some (vi (ofN D els f i)))) σ) : CC E mX0_inRowOf [vr 34, vr x, vi i] σ Q := by
  obtain ⟨hC, hG, hp, h242, hN, hs, hD⟩ := hX
  have hI := hC.isG
  obtain ⟨k7, k8, k9, kp, ks, k6⟩ := hB
  have p1 := hp.1
  have n120 := hC.1
  have r12 : rG D els ≤ 12 := hG.1
  obtain ⟨rw9, _, rowv⟩ := hCh i hi
  have zs : ∀ a, zG D els a ≤ 120 := fun a => Nat.le_trans (zsN_le _ _ a) n120
  let S9 : Nat → Int := fun k => sm (fun a => (zG D els a : Int) * ((f a * vlC D els i (iG D els a)) % (pN D els : Int))) k
  have bS : ∀ a, a < rG D els → ((zG D els a : Int) * ((f a * vlC D els i (iG D els a)) % (pN D els : Int))).natAbs ≤ 120 * 241 := fun a _ => by
    have r1 := em_rng (p := pN D els) (by omega) (f a * vlC D els i (iG D els a))
    exact m4 (by have := zs a; omega) (by omega)
  have eS : S9 (rG D els) % (pN D els : Int) = sm (fun a => (zG D els a : Int) * (f a * vlC D els i (iG D els a))) (rG D els) % (pN D els : Int) := sm_em (rG D els) (fun a _ => em_mul rfl (em_id _ _))
  refine C_X0_inRowOf (B_X0_inRowOf_0 hL hP (fun _ => ?_))
  refine loopU (N := rG D els) (G := fun a τ => GG E mX0_inRowOf 5 [some (vr 34), some (vr x), some (vi i), some (vi (S9 a)), some (vi a)] [] τ 0 0 Q) (P := fun _ τ => τ = σ) ?_ ?_ 0 σ (by omega) rfl
  · rintro a τ ha rfl next
    have b1 := sm_bd (f := fun a => (zG D els a : Int) * ((f a * vlC D els i (iG D els a)) % (pN D els : Int))) (b := 120 * 241) a (fun j hj => bS j (by omega))
    have b1' : (S9 a).natAbs ≤ 120 * 241 * a := b1
    have b3 := bS a ha
    have e9 : S9 (a + 1) = S9 a + (zG D els a : Int) * ((f a * vlC D els i (iG D els a)) % (pN D els : Int)) := rfl
    obtain ⟨f1, f2, f3⟩ := hf a ha
    obtain ⟨q1, q2, q3⟩ := k6 a ha
    have iia : iG D els a < rG D els := ivc_lt hI ha
    have v9 := vlC_rng (D := D) (els := els) (by omega) i (iG D els a)
    refine B_X0_inRowOf_5 hL hP ?_
    rw [k7, show ((a : Nat) : Int).toNat = a by omega, show ((i : Nat) : Int).toNat = i by omega, q3, f1, q2]
    refine ⟨fun h9 => absurd h9 (by omega), fun _ => ⟨⟨by omega, by omega⟩, ⟨by omega, by omega⟩, ⟨by omega, by omega⟩, fun b8 e8 hb8 _ => ?_⟩⟩
    refine S_atN (by omega) (hL.1 (37, 49, 20, 12) (by decide) b8 hb8.1 hb8.2) (by decide) (by omega) ⟨hL, fun _ _ => ?_⟩
    rw [e8, rowv _ iia]
    refine S_times2 hL kp (by omega) (by omega) (by omega) ⟨hL, fun _ => ⟨⟨by omega, by omega⟩, ⟨by omega, by omega⟩, ⟨by omega, by omega⟩, fun _ => next τ rfl⟩⟩
  · rintro τ rfl
    have r1 := em_rng (p := pN D els) (by omega) (S9 (rG D els))
    have r2 : 0 ≤ ivV (pN D els) (els.length : Int) ∧ ivV (pN D els) (els.length : Int) < (pN D els : Int) := em_rng (by omega) _
    refine B_X0_inRowOf_5 hL hP ?_
    rw [k7]
    refine ⟨fun _ _ => S_mod2 hL kp (by omega) ⟨hL, fun _ _ => ?_⟩, fun h9 => absurd (by omega) h9⟩
    rw [k9]
    refine S_times2 hL kp (by omega) (by omega) (by omega) ⟨hL, fun _ _ => ?_⟩
    rw [iv_ov, eS]
    exact hq
abbrev frMx : Nat → Nat → Prop := fun a _ => a = 53
theorem ChC.fr {W : Nat → Nat → Prop} {V : Nat → Prop} {τ : Sg} (h : ChC σ D els) (k : Fr W V σ τ) (w : (∀ a j, 37 ≤ a → a ≤ 49 → ¬ W a j) ∧ ¬ V 36) : ChC τ D els := fun j hj => by
  obtain ⟨h1, h2, h3⟩ := h j hj
  have e : gR τ 36 j = gR σ 36 j := k.r (by omega) w.2
  rw [e]
  exact ⟨h1, (k.i (by omega) (w.1 _ _ (by omega) (by omega))).trans h2, fun a ha => (k.i (by omega) (w.1 _ _ (by omega) (by omega))).trans (h3 a ha)⟩
theorem S_inProduct {x y n m i : Nat} {f h9 : Nat → Int} (hL : Lay LC g c t σ) (hX : FX D told els) (hB : BCh σ D els) (hCh : ChC σ D els) (hP : PA LC x n) (hP2 : PA LC y m) (hn : rG D els ≤ n ∧ rG D els ≤ m) (hx : x ≠ 53 ∧ y ≠ 53 ∧ x < 2968 ∧ y < 2968) (hi : i < rG D els) (hf : ∀ a, a < rG D els → gI σ x a = f a ∧ 0 ≤ f a ∧ f a < (pN D els : Int)) (hf2 : ∀ a, a < rG D els → gI σ y a = h9 a ∧ 0 ≤ h9 a ∧ h9 a < (pN D els : Int))
    (hq : ∀ τ, Lay LC g c t τ → Fr frMx (fun _ => False) σ τ → Q (.inl (some (vi (ofN D els (fun k => (f k * h9 k) % (pN D els : Int)) i)))) τ) : CC E mX0_inProduct [vr 34, vr x, vr y, vi i] σ Q := by
  have hX' := hX
  obtain ⟨hC, hG, hp, h242, hN, hs, hD⟩ := hX
  have p1 := hp.1
  have r12 : rG D els ≤ 12 := hG.1
  have kb : ∀ τ, Fr frMx (fun _ => False) σ τ → BCh τ D els := fun τ hF => hB.fr hF ⟨fun j h1 h2 => by omega, fun j => by omega, fun j => ⟨by omega, by omega, by omega⟩⟩
  refine C_X0_inProduct (B_X0_inProduct_0 hL hP hP2 (fun _ => ?_))
  refine loopU (N := rG D els) (G := fun a τ => GG E mX0_inProduct 3 [some (vr 34), some (vr x), some (vr y), some (vi i), some (vi a)] [] τ 0 0 Q)
    (P := fun k τ => Lay LC g c t τ ∧ Fr frMx (fun _ => False) σ τ ∧ ∀ a, a < k → gI τ 53 a = (f a * h9 a) % (pN D els : Int)) ?_ ?_ 0 σ (by omega) ⟨hL, Fr.refl _, fun a ha => absurd ha (by omega)⟩
  · rintro a τ ha ⟨hL1, hF, hv⟩ next
    obtain ⟨k7, k8, k9, kp, ks, k6⟩ := kb τ hF
    obtain ⟨f1, f2, f3⟩ := hf a ha
    obtain ⟨g1, g2, g3⟩ := hf2 a ha
    have q1 : gI τ x a = f a := (hF.i (by omega) (by omega)).trans f1
    have q2 : gI τ y a = h9 a := (hF.i (by omega) (by omega)).trans g1
    refine B_X0_inProduct_3 hL1 hP hP2 ?_
    rw [k7, show ((a : Nat) : Int).toNat = a by omega, q1, q2]
    refine ⟨fun h9 => absurd h9 (by omega), fun _ => ⟨⟨by omega, by omega⟩, ⟨by omega, by omega⟩, fun _ => S_times2 hL1 kp (by omega) (by omega) (by omega) ⟨hL1, fun _ => ⟨⟨by omega, by omega⟩, fun τ8 e8 => ⟨⟨by omega, by omega⟩, fun hL8 => next τ8 ⟨hL8, by rw [e8]; exact hF.sI rfl, fun b hb => ?_⟩⟩⟩⟩⟩⟩
    rw [e8, gI_sI]
    by_cases hba : b = a
    · rw [if_pos ⟨rfl, hba⟩, hba]
    · rw [if_neg (fun h9 => hba h9.2)]; exact hv b (by omega)
  · rintro τ ⟨hL1, hF, hv⟩
    have hB1 := kb τ hF
    have hCh1 : ChC τ D els := hCh.fr hF ⟨fun a j h1 h2 => by omega, id⟩
    refine B_X0_inProduct_3 hL1 hP hP2 ?_
    rw [hB1.1]
    exact ⟨fun _ _ => S_inRowOf hL1 hX' hB1 hCh1 (n := 12) ⟨by decide, by decide, by decide, by decide, (53, 54, 20, 12), by decide, by decide, by decide, rfl⟩ r12 hi (fun k hk => ⟨hv k hk, em_rng (by omega) _⟩) ⟨hL1, fun _ _ => hq τ hL1 hF⟩, fun h9 => absurd (by omega) h9⟩
theorem S_shortenBy {m : Nat} (hL : Lay LC g c t σ) (h2 : gI σ 125 2 = (rG D els : Int)) (r12 : rG D els ≤ 12) (hm : m < rG D els) (hd : ∀ a b, a < rG D els → b < rG D els → gI σ (140 + a) b = fwN D els m a b)
    (h : ∀ τ, Lay LC g c t τ → Fr (fun a _ => 140 ≤ a ∧ a < 152) (fun _ => False) σ τ → (∀ a b, a < rG D els → b < rG D els → gI τ (140 + a) b = fwN D els (m + 1) a b) → Q (.inl none) τ) : CC E mX3_shortenBy [vr 125, vi m] σ Q := by
  have k2 : ∀ τ, Fr (fun a _ => 140 ≤ a ∧ a < 152) (fun _ => False) σ τ → gI τ 125 2 = (rG D els : Int) := fun τ hF => (hF.i (by omega) (by omega)).trans h2
  have pw9 : 2 ^ m ≤ 4096 := Nat.le_trans (Nat.pow_le_pow_right (by decide) (show m ≤ 12 by omega)) (by decide)
  have rng : ∀ a b, a < rG D els → b < rG D els → -1 ≤ fwN D els m a b ∧ fwN D els m a b ≤ 4096 := fun a b ha hb => by
    rcases fw_ok rfl m (by omega) a b ha hb with h | ⟨n, e1, e2, _⟩
    · omega
    · omega
  refine C_X3_shortenBy (B_X3_shortenBy_0 hL (fun _ => ?_))
  refine loopU (N := rG D els) (G := fun a τ => GG E mX3_shortenBy 2 [some (vr 125), some (vi m), some (vi a), none, none, none, none] [] τ 0 0 Q)
    (P := fun k τ => Lay LC g c t τ ∧ Fr (fun a _ => 140 ≤ a ∧ a < 152) (fun _ => False) σ τ ∧ ∀ a b, a < rG D els → b < rG D els → gI τ (140 + a) b = if a < k then fwN D els (m + 1) a b else fwN D els m a b) ?_ ?_ 0 σ (by omega) ⟨hL, Fr.refl _, fun a b ha hb => by rw [if_neg (by omega)]; exact hd a b ha hb⟩
  · rintro a τ ha ⟨hL1, hF1, hv⟩ next
    refine B_X3_shortenBy_2 hL1 ?_
    rw [k2 τ hF1]
    refine ⟨fun h9 => absurd h9 (by omega), fun _ _ => ?_⟩
    refine loopU (N := rG D els) (G := fun b τ => GG E mX3_shortenBy 12 [some (vr 125), some (vi m), some (vi a), some (vi b), none, none, none] [] τ 0 0 Q)
      (P := fun k τ => Lay LC g c t τ ∧ Fr (fun a _ => 140 ≤ a ∧ a < 152) (fun _ => False) σ τ ∧ ∀ a' b', a' < rG D els → b' < rG D els → gI τ (140 + a') b' = if a' < a ∨ (a' = a ∧ b' < k) then fwN D els (m + 1) a' b' else fwN D els m a' b') ?_ ?_ 0 τ (by omega) ⟨hL1, hF1, fun a' b' h1 h2 => by
        rw [hv a' b' h1 h2]
        by_cases hc : a' < a
        · rw [if_pos hc, if_pos (.inl hc)]
        · rw [if_neg hc, if_neg (by omega)]⟩
    · rintro b τ2 hb ⟨hL2, hF2, hv2⟩ next2
      have e1 : gI τ2 (140 + a) m = fwN D els m a m := by
        rw [hv2 a m ha hm]
        split
        · exact (fw_rc rfl hm ha).1
        · rfl
      have e2 : gI τ2 (140 + m) b = fwN D els m m b := by
        rw [hv2 m b hm hb]
        split
        · exact (fw_rc rfl hm hb).2
        · rfl
      have e3 : gI τ2 (140 + a) b = fwN D els m a b := by rw [hv2 a b ha hb, if_neg (by omega)]
      have g1 := rng a m ha hm
      have g2 := rng m b hm hb
      have g3 := rng a b ha hb
      have ef : fwN D els (m + 1) a b = if fwN D els m a m ≠ -1 ∧ fwN D els m m b ≠ -1 ∧ (fwN D els m a b = -1 ∨ fwN D els m a m + fwN D els m m b < fwN D els m a b) then fwN D els m a m + fwN D els m m b else fwN D els m a b := rfl
      have keep : fwN D els (m + 1) a b = fwN D els m a b → GG E mX3_shortenBy 12 [some (vr 125), some (vi m), some (vi a), some (vi ((b : Int) + 1)), none, none, none] [] τ2 0 0 Q := fun he => next2 τ2 ⟨hL2, hF2, fun a' b' h1 h2 => by
        rw [hv2 a' b' h1 h2]
        by_cases hc : a' < a ∨ (a' = a ∧ b' < b)
        · rw [if_pos hc, if_pos (by omega)]
        · rw [if_neg hc]
          by_cases hc2 : a' = a ∧ b' = b
          · obtain ⟨rfl, rfl⟩ := hc2
            rw [if_pos (by omega)]; exact he.symm
          · rw [if_neg (by omega)]⟩
      have put : fwN D els (m + 1) a b = fwN D els m a m + fwN D els m m b → ∀ τ7, τ7 = sI τ2 (140 + a) b (fwN D els m a m + fwN D els m m b) → Lay LC g c t τ7 → GG E mX3_shortenBy 12 [some (vr 125), some (vi m), some (vi a), some (vi ((b : Int) + 1)), none, none, none] [] τ7 0 0 Q := fun he τ7 e7 hL7 => next2 τ7 ⟨hL7, by rw [e7]; exact hF2.sI ⟨by omega, by omega⟩, fun a' b' h1 h2 => by
        rw [e7, gI_sI]
        by_cases hc2 : a' = a ∧ b' = b
        · obtain ⟨rfl, rfl⟩ := hc2
          rw [if_pos ⟨rfl, rfl⟩, if_pos (by omega)]; exact he.symm
        · rw [if_neg (by omega), hv2 a' b' h1 h2]
          by_cases hc : a' < a ∨ (a' = a ∧ b' < b)
          · rw [if_pos hc, if_pos (by omega)]
          · rw [if_neg hc, if_neg (by omega)]⟩
      refine B_X3_shortenBy_12 hL2 ?_
      rw [k2 τ2 hF2, show ((a : Nat) : Int).toNat = a by omega, show ((b : Nat) : Int).toNat = b by omega, show ((m : Nat) : Int).toNat = m by omega, e1, e2]
      refine ⟨fun h9 => absurd h9 (by omega), fun _ => ⟨⟨by omega, by omega⟩, ⟨by omega, by omega⟩, ⟨by omega, by omega⟩, fun hx _ => ?_, fun hx => ⟨fun hy _ => ?_, fun hy _ => ?_⟩⟩⟩
      · exact B_X3_shortenBy_59 hL2 ⟨fun _ => ⟨⟨by omega, by omega⟩, fun _ => keep (by rw [ef, if_neg (fun h9 => h9.1 hx)])⟩, fun h9 => absurd rfl h9⟩
      · exact B_X3_shortenBy_59 hL2 ⟨fun _ => ⟨⟨by omega, by omega⟩, fun _ => keep (by rw [ef, if_neg (fun h9 => h9.2.1 hy)])⟩, fun h9 => absurd rfl h9⟩
      · refine B_X3_shortenBy_59 hL2 ?_
        rw [show ((a : Nat) : Int).toNat = a by omega, show ((b : Nat) : Int).toNat = b by omega, e3]
        refine ⟨fun h9 => absurd h9 (by decide), fun _ => ⟨⟨by omega, by omega⟩, ⟨by omega, by omega⟩, fun hn => ⟨⟨by omega, by omega⟩, fun τ7 e7 => ⟨⟨by omega, by omega⟩, fun hL7 => put (by rw [ef, if_pos ⟨hx, hy, .inl hn⟩]) τ7 e7 hL7⟩⟩, fun hn => ⟨⟨by omega, by omega⟩, fun hle => ⟨⟨by omega, by omega⟩, fun _ => keep (by rw [ef, if_neg (fun h9 => by omega)])⟩, fun hlt τ13 e13 => ⟨⟨by omega, by omega⟩, fun hL13 => put (by rw [ef, if_pos ⟨hx, hy, .inr (by omega)⟩]) τ13 e13 hL13⟩⟩⟩⟩
    · rintro τ2 ⟨hL2, hF2, hv2⟩
      refine B_X3_shortenBy_12 hL2 ?_
      rw [k2 τ2 hF2]
      refine ⟨fun _ => ⟨⟨by omega, by omega⟩, fun _ => next τ2 ⟨hL2, hF2, fun a' b' h1 h2 => ?_⟩⟩, fun h9 => absurd (by omega) h9⟩
      rw [hv2 a' b' h1 h2]
      by_cases hc : a' < a + 1
      · rw [if_pos (by omega), if_pos hc]
      · rw [if_neg (by omega), if_neg hc]
  · rintro τ ⟨hL1, hF1, hv⟩
    refine B_X3_shortenBy_2 hL1 ?_
    rw [k2 τ hF1]
    exact ⟨fun _ _ => h τ hL1 hF1 (fun a b ha hb => by rw [hv a b ha hb, if_pos ha]), fun h9 => absurd (by omega) h9⟩
/-- the graph lies there -/
def GrC (σ : Sg) (D : Int) (els : List (List Int)) : Prop := gI σ 125 2 = (rG D els : Int) ∧ ∀ a b, a < rG D els → b < rG D els → gI σ (127 + a) b = waN D els a b ∧ gI σ (140 + a) b = fwN D els (rG D els) a b
abbrev frGr : Nat → Nat → Prop := fun a _ => a = 53 ∨ (125 ≤ a ∧ a < 152)
theorem S_gbuild (hL : Lay LC g c t σ) (hX : FX D told els) (hB : BCh σ D els) (hCh : ChC σ D els)
    (h : ∀ τ, Lay LC g c t τ → Fr frGr (fun _ => False) σ τ → GrC τ D els → Q (.inl none) τ) : CC E mX3_build [vr 125, vr 34] σ Q := by
  have hX' := hX
  obtain ⟨hC, hG, hp, h242, hN, hs, hD⟩ := hX
  have p1 := hp.1
  have r12 : rG D els ≤ 12 := hG.1
  have kb : ∀ τ, Fr frGr (fun _ => False) σ τ → BCh τ D els ∧ ChC τ D els := fun τ hF => ⟨hB.fr hF ⟨fun j h1 h2 => by omega, fun j => by omega, fun j => ⟨by omega, by omega, by omega⟩⟩, hCh.fr hF ⟨fun a j h1 h2 => by omega, id⟩⟩
  -- shortened
  have fin : ∀ τ, Lay LC g c t τ → Fr frGr (fun _ => False) σ τ → gI τ 125 2 = (rG D els : Int) → (∀ a b, a < rG D els → b < rG D els → gI τ (127 + a) b = waN D els a b ∧ gI τ (140 + a) b = fwN D els 0 a b) → GG E mX3_build 98 [some (vr 125), none, some (vi (0 : Nat)), none] [] τ 0 0 Q := by
    intro τ0 hL0 hF0 h20 hv0
    refine loopU (N := rG D els) (G := fun m τ => GG E mX3_build 98 [some (vr 125), none, some (vi m), none] [] τ 0 0 Q)
      (P := fun m τ => Lay LC g c t τ ∧ Fr frGr (fun _ => False) σ τ ∧ gI τ 125 2 = (rG D els : Int) ∧ ∀ a b, a < rG D els → b < rG D els → gI τ (127 + a) b = waN D els a b ∧ gI τ (140 + a) b = fwN D els m a b) ?_ ?_ 0 τ0 (by omega) ⟨hL0, hF0, h20, hv0⟩
    · rintro m τ hm ⟨hL1, hF1, h21, hv⟩ next
      refine B_X3_build_98 hL1 ?_
      rw [h21]
      refine ⟨fun h9 => absurd h9 (by omega), fun _ _ => S_shortenBy hL1 h21 r12 hm (fun a b ha hb => (hv a b ha hb).2) (fun τ2 hL2 hF2 hv2 => ⟨hL2, ⟨by omega, by omega⟩, fun _ => next τ2 ⟨hL2, hF1.trans (hF2.mono (fun a j h9 => by omega) (fun _ h => h)), (hF2.i (by omega) (by omega)).trans h21, fun a b ha hb => ⟨(hF2.i (by omega) (by omega)).trans (hv a b ha hb).1, hv2 a b ha hb⟩⟩⟩)⟩
    · rintro τ ⟨hL1, hF1, h21, hv⟩
      refine B_X3_build_98 hL1 ?_
      rw [h21]
      exact ⟨fun _ _ => h τ hL1 hF1 ⟨h21, hv⟩, fun h9 => absurd (by omega) h9⟩
  refine C_X3_build (B_X3_build_0 hL (fun τ1 e1 hL1 => ?_))
  rw [hB.1] at e1
  refine loopU (N := rG D els) (G := fun a τ => GG E mX3_build 10 [some (vr 125), some (vr 34), some (vi a), none] [] τ 0 0 Q)
    (P := fun m τ => Lay LC g c t τ ∧ Fr frGr (fun _ => False) σ τ ∧ gI τ 125 2 = (rG D els : Int) ∧ ∀ a b, a < m → b < rG D els → gI τ (127 + a) b = waN D els a b ∧ gI τ (140 + a) b = fwN D els 0 a b) ?_ ?_ 0 τ1 (by omega) ⟨hL1, by rw [e1]; exact Fr_of1 (.inr ⟨by omega, by omega⟩), by rw [e1, gI_sI, if_pos ⟨rfl, rfl⟩], fun a b ha => absurd ha (by omega)⟩
  · rintro a τ ha ⟨hL2, hF2, h22, hv⟩ next
    refine B_X3_build_10 hL2 ?_
    rw [h22]
    refine ⟨fun h9 => absurd h9 (by omega), fun _ _ => ?_⟩
    refine loopU (N := rG D els) (G := fun b τ => GG E mX3_build 20 [some (vr 125), some (vr 34), some (vi a), some (vi b)] [] τ 0 0 Q)
      (P := fun m τ => Lay LC g c t τ ∧ Fr frGr (fun _ => False) σ τ ∧ gI τ 125 2 = (rG D els : Int) ∧ (∀ a' b, a' < a → b < rG D els → gI τ (127 + a') b = waN D els a' b ∧ gI τ (140 + a') b = fwN D els 0 a' b) ∧ ∀ b, b < m → gI τ (127 + a) b = waN D els a b ∧ gI τ (140 + a) b = fwN D els 0 a b) ?_ ?_ 0 τ (by omega) ⟨hL2, hF2, h22, hv, fun b hb => absurd hb (by omega)⟩
    · rintro b τ2 hb ⟨hL3, hF3, h23, hv3, hw3⟩ next2
      obtain ⟨hB3, hCh3⟩ := kb τ2 hF3
      obtain ⟨rw9, _, rowv⟩ := hCh3 a ha
      have paR : PA LC (gR τ2 36 a) 12 := by
        have h1 : ∀ q ∈ yX LC, q.1 < 37 ∨ 49 ≤ q.1 := by decide
        exact ⟨by show 16 ≤ gR τ2 36 a; omega, by show gR τ2 36 a < 172; omega, by omega, fun q hq => by have := h1 q hq; omega, (37, 49, 20, 12), by decide, rw9.1, rw9.2, rfl⟩
      have pa50 : PA LC 50 12 := ⟨by decide, by decide, by decide, by decide, (50, 51, 20, 12), by decide, by decide, by decide, rfl⟩
      refine B_X3_build_20 hL3 ?_
      rw [h23, show ((a : Nat) : Int).toNat = a by omega, show ((b : Nat) : Int).toNat = b by omega]
      refine ⟨fun h9 => absurd h9 (by omega), fun _ => ⟨⟨by omega, by omega⟩, fun b4 e4 _ _ => ?_⟩⟩
      rw [e4]
      refine S_inProduct (f := natN D els) (h9 := vlC D els a) hL3 hX' hB3 hCh3 pa50 paR (by omega) (by omega) hb (fun k hk => ⟨(hB3.2.2.2.2.2 k hk).1, natN_rng (by omega) k⟩) (fun k hk => ⟨rowv k hk, vlC_rng (by omega) a k⟩) (fun τ7 hL7 hF7 => ⟨hL7, fun _ => ⟨⟨by omega, by omega⟩, fun τ9 e9 => ?_⟩⟩)
      have ew : ofN D els (fun k => (natN D els k * vlC D els a k) % (pN D els : Int)) b = waN D els a b := rfl
      rw [ew] at e9
      have q9 : gI τ9 (127 + a) b = waN D els a b := by rw [e9, gI_sI, if_pos ⟨rfl, rfl⟩]
      have step : ∀ (y : Int) τ12, y = fwN D els 0 a b → τ12 = sI τ9 (140 + a) b y → Lay LC g c t τ12 → GG E mX3_build 20 [some (vr 125), some (vr 34), some (vi a), some (vi ((b : Int) + 1))] [] τ12 0 0 Q := fun y τ12 hy e12 hL12 => by
        have q12 : ∀ x j, gI τ12 x j = if x = 140 + a ∧ j = b then y else if x = 127 + a ∧ j = b then waN D els a b else gI τ7 x j := fun x j => by rw [e12, gI_sI, e9, gI_sI]
        refine next2 τ12 ⟨hL12, ?_, ?_, fun a' b' h1 h2 => ?_, fun b' hb' => ?_⟩
        · rw [e12, e9]
          exact ((hF3.trans (hF7.mono (fun a j h9 => .inl h9) (fun _ h => h))).sI (.inr ⟨by omega, by omega⟩)).sI (.inr ⟨by omega, by omega⟩)
        · rw [q12, if_neg (by omega), if_neg (by omega), hF7.i (by omega) (by omega)]; exact h23
        · rw [q12, if_neg (by omega), if_neg (by omega), q12, if_neg (by omega), if_neg (by omega), hF7.i (by omega) (by omega), hF7.i (by omega) (by omega)]
          exact hv3 a' b' h1 h2
        · by_cases hbb : b' = b
          · rw [q12, if_neg (by omega), if_pos ⟨rfl, hbb⟩, q12, if_pos ⟨rfl, hbb⟩, hy, hbb]
            exact ⟨rfl, rfl⟩
          · rw [q12, if_neg (by omega), if_neg (by omega), q12, if_neg (by omega), if_neg (by omega), hF7.i (by omega) (by omega), hF7.i (by omega) (by omega)]
            exact hw3 b' (by omega)
      have e0 : fwN D els 0 a b = if a = b then 0 else if waN D els a b ≤ 0 then -1 else 1 := rfl
      refine ⟨fun hne => ?_, fun he τ16 e16 => ⟨⟨by omega, by omega⟩, fun hL16 => step 0 τ16 (by rw [e0, if_pos (by omega)]) e16 hL16⟩⟩
      rw [q9]
      exact ⟨fun hle τ12 e12 => ⟨⟨by omega, by omega⟩, fun hL12 => step (-1) τ12 (by rw [e0, if_neg (by omega), if_pos hle]) e12 hL12⟩, fun hgt τ14 e14 => ⟨⟨by omega, by omega⟩, fun hL14 => step 1 τ14 (by rw [e0, if_neg (by omega), if_neg hgt]) e14 hL14⟩⟩
    · rintro τ2 ⟨hL3, hF3, h23, hv3, hw3⟩
      refine B_X3_build_20 hL3 ?_
      rw [h23]
      refine ⟨fun _ => ⟨⟨by omega, by omega⟩, fun _ => next τ2 ⟨hL3, hF3, h23, fun a' b h1 h2 => ?_⟩⟩, fun h9 => absurd (by omega) h9⟩
      by_cases haa : a' = a
      · rw [haa]; exact hw3 b h2
      · exact hv3 a' b (by omega) h2
  · rintro τ ⟨hL2, hF2, h22, hv⟩
    refine B_X3_build_10 hL2 ?_
    rw [h22]
    exact ⟨fun _ _ => fin τ hL2 hF2 h22 hv, fun h9 => absurd (by omega) h9⟩
end SE0
