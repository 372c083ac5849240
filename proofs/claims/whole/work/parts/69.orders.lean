/-! ===== orders by traces ===== -/
set_option maxHeartbeats 4000000 in
theorem tr_pol (D : Int) (y x : Nat → Int) : pw D (prF D y x) x 0 = 2 * (x 0 * prF D y x 0 + D * x 1 * prF D y x 1) - (zN D x * y 0 + 2 * D * zM x * y 1) ∧ pp (prF D y x) x 0 = 2 * (x 0 * prF D y x 1 + x 1 * prF D y x 0) - (zN D x * y 1 + 2 * zM x * y 0) := by
  constructor
  all_goals simp only [zN, zM, pwE0, pwE1, pwE2, pwE3, ppE0, ppE1, ppE2, ppE3, prF0, prF1, prF2, prF3, prF4, prF5, prF6, prF7]
  all_goals grind
theorem tr_rec {D : Int} {y x u v : List Int} (hx : isTL D x) (h1 : mulL D y x = some u) (h2 : mulL D u x = some v) :
    2 * gd v 0 = gd x 0 * gd u 0 + D * gd x 1 * gd u 1 - 2 * gd y 0 ∧ 2 * gd v 1 = gd x 0 * gd u 1 + gd x 1 * gd u 0 - 2 * gd y 1 := by
  have n1 : zN D (gd x) = 16 := hx.2.1
  have n2 : zM (gd x) = 0 := hx.2.2
  have u4 := mulL_prF h1
  have u0 := u4 0 (by omega)
  have u1 := u4 1 (by omega)
  have v4 := (mulL_some h2).2 0 (by omega)
  have e1 := pw_l4 (D := D) (y := gd x) u4 0 (by omega)
  have e2 := pp_l4 (y := gd x) u4 0 (by omega)
  have e3 := tr_pol D (gd y) (gd x)
  rw [n1, n2, ← u0, ← u1] at e3
  simp only [Nat.mul_zero, Nat.zero_add] at v4
  generalize gd v 0 = v0 at *
  generalize gd v 1 = v1 at *
  generalize pw D (gd u) (gd x) 0 = p0 at *
  generalize pp (gd u) (gd x) 0 = p1 at *
  obtain ⟨e3a, e3b⟩ := e3
  rw [← e1, ← v4.1] at e3a
  rw [← e2, ← v4.2] at e3b
  clear e1 e2 v4 u4 u0 u1 n1 n2 h1 h2 hx
  constructor
  · grind
  · grind
/-- an element whose whole part is one is one -/
theorem one_of {D : Int} {x : List Int} (hx : isTL D x) (hD : 1 ≤ D) (h0 : gd x 0 = 4) (h1 : gd x 1 = 0) : x = oneL := by
  have h : (gd x 0 * gd x 0 + D * (gd x 1 * gd x 1)) + (gd x 2 * gd x 2 + D * (gd x 3 * gd x 3)) + (gd x 4 * gd x 4 + D * (gd x 5 * gd x 5)) + (gd x 6 * gd x 6 + D * (gd x 7 * gd x 7)) = 16 := hx.2.1
  rw [h0, h1] at h
  have s : ∀ b : Int, b * b ≤ D * (b * b) := fun b => by
    have := Int.mul_le_mul_of_nonneg_right hD (sq_nn b)
    omega
  have n2 := sq_nn (gd x 2)
  have n3 := sq_nn (gd x 3)
  have n4 := sq_nn (gd x 4)
  have n5 := sq_nn (gd x 5)
  have n6 := sq_nn (gd x 6)
  have n7 := sq_nn (gd x 7)
  have s3 := s (gd x 3)
  have s5 := s (gd x 5)
  have s7 := s (gd x 7)
  have z : ∀ a : Int, a * a ≤ 0 → a = 0 := fun a h9 => by
    have h8 : a * a = 0 := by have := sq_nn a; omega
    rcases Int.mul_eq_zero.mp h8 with h7 | h7 <;> exact h7
  refine gd_ext hx.1 rfl (fun j hj => ?_)
  rw [gd_one]
  have : j = 0 ∨ j = 1 ∨ j = 2 ∨ j = 3 ∨ j = 4 ∨ j = 5 ∨ j = 6 ∨ j = 7 := by omega
  rcases this with rfl | rfl | rfl | rfl | rfl | rfl | rfl | rfl
  · exact h0
  · exact h1
  all_goals exact z _ (by omega)
/-- how soon the trace is that of one: 0, if it leaves what there is -/
def trGo (D a b : Int) : Nat → Int → Int → Int → Int → Nat → Option Nat
  | 0, _, _, _, _, _ => none
  | f + 1, a0, b0, a1, b1, j =>
    if a1 = 4 ∧ b1 = 0 then some j
    else if a1 < -4 ∨ 4 < a1 ∨ b1 < -4 ∨ 4 < b1 then some 0
    else if (a * a1 + D * b * b1) % 2 ≠ 0 ∨ (a * b1 + b * a1) % 2 ≠ 0 then some 0
    else trGo D a b f a1 b1 ((a * a1 + D * b * b1) / 2 - a0) ((a * b1 + b * a1) / 2 - b0) (j + 1)
def trO (D a b : Int) : Option Nat := trGo D a b 14 4 0 a b 1
theorem trO_chk : (List.range 9).all (fun i => (List.range 9).all (fun j => ([2, 3, 5] : List Int).all (fun D => match trO D ((i : Int) - 4) ((j : Int) - 4) with
    | none => false
    | some k => k == 0 || (120 % k == 0 && decide (k ≤ 12))))) = true := by decide +kernel
theorem trO_ok {D a b : Int} (hD : D = 2 ∨ D = 3 ∨ D = 5) (ha : -4 ≤ a ∧ a ≤ 4) (hb : -4 ≤ b ∧ b ≤ 4) : ∃ k, trO D a b = some k ∧ (k = 0 ∨ (k ∣ 120 ∧ k ≤ 12)) := by
  have h1 := List.all_eq_true.mp trO_chk (a + 4).toNat (List.mem_range.mpr (by omega))
  have h2 := List.all_eq_true.mp h1 (b + 4).toNat (List.mem_range.mpr (by omega))
  have h3 := List.all_eq_true.mp h2 D (by rcases hD with rfl | rfl | rfl <;> simp)
  rw [show (((a + 4).toNat : Nat) : Int) - 4 = a by omega, show (((b + 4).toNat : Nat) : Int) - 4 = b by omega] at h3
  generalize trO D a b = o at h3
  match o, h3 with
  | some k, h3 =>
    refine ⟨k, rfl, ?_⟩
    simp only [Bool.or_eq_true, Bool.and_eq_true, beq_iff_eq, decide_eq_true_eq] at h3
    rcases h3 with h3 | h3
    · exact .inl h3
    · exact .inr ⟨Nat.dvd_of_mod_eq_zero h3.1, h3.2⟩
theorem Clo.pw_mul {D : Int} {told els : List (List Int)} (hC : Clo D told els) {k : Nat} (hk : k < els.length) (j : Nat) : mulL D (els.getD (pwr (gmt D els) k j) []) (els.getD k []) = some (els.getD (pwr (gmt D els) k (j + 1)) []) :=
  (hC.gm (pwr_lt hC.isG hk j) hk).2
theorem trGo_od {D : Int} {told els : List (List Int)} (hC : Clo D told els) (hD : 2 ≤ D) {k : Nat} (hk : k < els.length) : ∀ (f j : Nat) (a0 b0 a1 b1 : Int), 1 ≤ j → (∀ i, 1 ≤ i → i < j → pwr (gmt D els) k i ≠ 0) →
    a0 = gd (els.getD (pwr (gmt D els) k (j - 1)) []) 0 → b0 = gd (els.getD (pwr (gmt D els) k (j - 1)) []) 1 → a1 = gd (els.getD (pwr (gmt D els) k j) []) 0 → b1 = gd (els.getD (pwr (gmt D els) k j) []) 1 →
    trGo D (gd (els.getD k []) 0) (gd (els.getD k []) 1) f a0 b0 a1 b1 j = none ∨ trGo D (gd (els.getD k []) 0) (gd (els.getD k []) 1) f a0 b0 a1 b1 j = some (od els.length (gmt D els) k) := by
  intro f
  induction f with
  | zero => intro j a0 b0 a1 b1 _ _ _ _ _ _; exact .inl rfl
  | succ f ih =>
    intro j a0 b0 a1 b1 hj hne ea0 eb0 ea1 eb1
    have hG := hC.isG
    have hT := hC.2.2.2.2.1
    have h1 := hC.2.2.1
    have hlt := pwr_lt hG hk j
    have hTj := hT _ hlt
    have bd := hTj.2.bd (show 1 ≤ D by omega)
    have b0' := bd 0 (by omega)
    have b1' := bd 1 (by omega)
    unfold trGo
    by_cases hone : a1 = 4 ∧ b1 = 0
    · rw [if_pos hone]
      right
      have e := one_of hTj (by omega) (by rw [← ea1]; exact hone.1) (by rw [← eb1]; exact hone.2)
      have e0 : pwr (gmt D els) k j = 0 := getD_inj hC.2.2.2.1 hlt hC.2.1 (by rw [e, h1])
      have o := od_s hG hk
      congr 1
      apply Nat.le_antisymm
      · exact Nat.not_lt.mp (fun h9 => hne _ o.1 h9 o.2.2.1)
      · exact Nat.not_lt.mp (fun h9 => o.2.2.2 j hj h9 e0)
    · rw [if_neg hone, if_neg (by omega)]
      have hn0 : pwr (gmt D els) k j ≠ 0 := by
        intro e0
        rw [e0, h1] at ea1 eb1
        exact hone ⟨ea1, eb1⟩
      have r := tr_rec (hT k hk) (hC.pw_mul hk (j - 1)) (by rw [show j - 1 + 1 = j by omega]; exact hC.pw_mul hk j)
      rw [show j - 1 + 1 = j by omega, ← ea0, ← eb0, ← ea1, ← eb1] at r
      rw [if_neg (by
        have r1 := r.1
        have r2 := r.2
        generalize gd (els.getD k []) 0 * a1 + D * gd (els.getD k []) 1 * b1 = e9 at *
        generalize gd (els.getD k []) 0 * b1 + gd (els.getD k []) 1 * a1 = e8 at *
        omega)]
      refine ih (j + 1) _ _ _ _ (by omega) (fun i h2 h3 => ?_) ?_ ?_ ?_ ?_
      · by_cases hij : i = j
        · rw [hij]; exact hn0
        · exact hne i h2 (by omega)
      · rw [Nat.add_sub_cancel]; exact ea1
      · rw [Nat.add_sub_cancel]; exact eb1
      · have r1 := r.1
        generalize gd (els.getD k []) 0 * a1 + D * gd (els.getD k []) 1 * b1 = e9 at *
        omega
      · have r2 := r.2
        generalize gd (els.getD k []) 0 * b1 + gd (els.getD k []) 1 * a1 = e9 at *
        omega
theorem Clo.od_tr {D : Int} {told els : List (List Int)} (hC : Clo D told els) (hD : D = 2 ∨ D = 3 ∨ D = 5) {k : Nat} (hk : k < els.length) : trO D (gd (els.getD k []) 0) (gd (els.getD k []) 1) = some (od els.length (gmt D els) k) := by
  have hG := hC.isG
  have bd := (hC.2.2.2.2.1 k hk).2.bd (show 1 ≤ D by omega)
  obtain ⟨q, hq, -⟩ := trO_ok hD (bd 0 (by omega)) (bd 1 (by omega))
  have h := trGo_od hC (by omega) hk 14 1 4 0 _ _ (Nat.le_refl _) (fun i h1 h2 => absurd h1 (by omega)) (by show 4 = gd (els.getD 0 []) 0; rw [hC.2.2.1]; rfl) (by show 0 = gd (els.getD 0 []) 1; rw [hC.2.2.1]; rfl) rfl rfl
  rw [pwr_1 hG hk] at h
  rcases h with h | h
  · exact absurd (hq.symm.trans h) (by simp)
  · exact h
theorem Clo.odB {D : Int} {told els : List (List Int)} (hC : Clo D told els) (hD : D = 2 ∨ D = 3 ∨ D = 5) : OdB els.length (gmt D els) := by
  intro k hk
  have bd := (hC.2.2.2.2.1 k hk).2.bd (show 1 ≤ D by omega)
  obtain ⟨q, hq, h⟩ := trO_ok hD (bd 0 (by omega)) (bd 1 (by omega))
  have e := (hC.od_tr hD hk).symm.trans hq
  have e2 : od els.length (gmt D els) k = q := by simpa using e
  have o := (od_s hC.isG hk).1
  rw [e2] at o ⊢
  rcases h with h | h
  · omega
  · exact h
