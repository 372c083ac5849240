/-! ===== axes: both counts are one ===== -/
noncomputable def shr (D : Int) (els : List (List Int)) (n : Nat) : Nat → Nat
  | 0 => 0
  | k + 1 => shr D els n k + if 1 ≤ k ∧ (lsN els.length (gmt D els) k : Int) ≠ fnd els (wholeL (-4)) ∧ els.length / zsN els.length (gmt D els) k = n * hv els then zsN els.length (gmt D els) k else 0
noncomputable def tur (D : Int) (els : List (List Int)) (e : Nat) : Nat := if fnd els (wholeL (-4)) = -1 then abt D els e + 1 else abt D els e / 2 + 1
def fst9 (D : Int) (els : List (List Int)) (e : Nat) : Prop := ∀ l, l < els.length → ¬ stl els l → prE D els e l → e ≤ l
noncomputable def axN (D : Int) (els : List (List Int)) (n : Nat) : Nat := cn (fun e => ¬ stl els e ∧ tur D els e = n ∧ fst9 D els e) els.length
theorem zs_cn {N : Nat} {m : Nat → Nat → Nat} (h : IsG N m) (c : Nat) : zsN N m c = cn (fun b => csN N m b = c) N := by
  unfold zsN
  rw [cntF_cn]
  refine cn_ext N (fun k hk => ?_)
  rw [(csN_s h hk).1]
  omega
theorem cs_0 {N : Nat} {m : Nat → Nat → Nat} (h : IsG N m) : csN N m 0 = 0 ∧ ∀ e, e < N → csN N m e = 0 → e = 0 := by
  obtain ⟨c1, c2⟩ := csN_s h h.1
  have e0 : csN N m 0 = 0 := by
    apply Classical.byContradiction
    intro hne
    have l0 := lsN_s h (c := 0) (by omega)
    have lc := lsN_s h c2
    have z := lc.2.2.2 0 h.1 rfl
    have i7 := (clAll_ok h N (Nat.le_refl _)).2.2.2.2.2.2 0 (csN N m 0) (by omega) c2
    rw [l0.1, lc.1] at i7
    omega
  refine ⟨e0, fun e he h0 => ?_⟩
  obtain ⟨x, hx, e1⟩ := (csN_tn h h.1 he).mp (by rw [e0, h0])
  have : Zc N m 0 x := (Zc_iff h h.1 hx).mpr (by rw [(h.2.2.1 x hx).1, (h.2.2.1 x hx).2])
  rw [e1]; exact this
section S9c
variable {D : Int} {told els : List (List Int)}
theorem mn_ctr (hC : Clo D told els) {x y : Nat} (hx : x < els.length) (e : els.getD x [] = wholeL (-4)) (hy : y < els.length) : tn els.length (gmt D els) x y = x := by
  refine (Zc_iff hC.isG hx hy).mpr ?_
  have a := mn_mul hC hx e hy
  refine getD_inj hC.2.2.2.1 (hC.gm hx hy).1 (hC.gm hy hx).1 (gd_ext (mulL_some (hC.gm hx hy).2).1 (mulL_some (hC.gm hy hx).2).1 (fun j hj => ?_))
  rw [(a j hj).1, (a j hj).2]
theorem shr_cn (hC : Clo D told els) (hD : D = 2 ∨ D = 3 ∨ D = 5) {n : Nat} : ∀ k, k ≤ rsN els.length (gmt D els) → shr D els n k = cn (fun e => (¬ stl els e ∧ abt D els e + hv els = n * hv els) ∧ csN els.length (gmt D els) e < k) els.length := by
  have hG := hC.isG
  intro k
  induction k with
  | zero => intro _; exact (cn_0 _ (fun e _ h9 => by have := h9.2; omega)).symm
  | succ k ih =>
    intro hk
    have e1 : shr D els n (k + 1) = shr D els n k + if 1 ≤ k ∧ (lsN els.length (gmt D els) k : Int) ≠ fnd els (wholeL (-4)) ∧ els.length / zsN els.length (gmt D els) k = n * hv els then zsN els.length (gmt D els) k else 0 := rfl
    have e2 : cn (fun e => (¬ stl els e ∧ abt D els e + hv els = n * hv els) ∧ csN els.length (gmt D els) e < k + 1) els.length = cn (fun e => ((¬ stl els e ∧ abt D els e + hv els = n * hv els) ∧ csN els.length (gmt D els) e < k) ∨ ((¬ stl els e ∧ abt D els e + hv els = n * hv els) ∧ csN els.length (gmt D els) e = k)) els.length := cn_ext _ (fun e he => ⟨fun h9 => by
      by_cases h8 : csN els.length (gmt D els) e = k
      · exact .inr ⟨h9.1, h8⟩
      · exact .inl ⟨h9.1, by have := h9.2; omega⟩, fun h9 => by rcases h9 with h9 | h9 <;> exact ⟨h9.1, by have := h9.2; omega⟩⟩)
    rw [e1, e2, cn_or _ (fun e he h9 => by have := h9.1.2; have := h9.2.2; omega), ih (by omega)]
    congr 1
    obtain ⟨l1, l2, l3, l4⟩ := lsN_s hG (c := k) (by omega)
    -- elements of class k
    have el : ∀ e, e < els.length → csN els.length (gmt D els) e = k → els.length / zsN els.length (gmt D els) k = abt D els e + hv els := by
      intro e he hc
      have o := orbit hG he
      rw [hc, cn_Z hC hD he] at o
      have hz : 0 < zsN els.length (gmt D els) k := by
        apply Nat.pos_of_ne_zero
        intro h9
        rw [h9, Nat.zero_mul] at o
        omega
      generalize zsN els.length (gmt D els) k = z at *
      generalize abt D els e + hv els = w at *
      rw [o]
      exact Nat.mul_div_cancel_left w hz
    have es : ∀ e, e < els.length → csN els.length (gmt D els) e = k → (stl els e ↔ ¬ (1 ≤ k ∧ (lsN els.length (gmt D els) k : Int) ≠ fnd els (wholeL (-4)))) := by
      intro e he hc
      constructor
      · rintro (h | h) ⟨h1, h2⟩
        · rw [h, (cs_0 hG).1] at hc; omega
        · have ew := (fnd_iff hC.2.2.2.1 he).mp h
          obtain ⟨y, hy, e9⟩ := (csN_tn hG he l2).mp (by rw [hc, l3])
          rw [mn_ctr hC he ew hy] at e9
          rw [e9] at h2
          exact h2 h
      · intro h
        by_cases hk1 : 1 ≤ k
        · have h2 : (lsN els.length (gmt D els) k : Int) = fnd els (wholeL (-4)) := Classical.byContradiction (fun h9 => h ⟨hk1, h9⟩)
          have ew := (fnd_iff hC.2.2.2.1 l2).mp h2
          obtain ⟨y, hy, e9⟩ := (csN_tn hG l2 he).mp (by rw [hc, l3])
          rw [mn_ctr hC l2 ew hy] at e9
          rw [e9]; exact .inr h2
        · exact .inl ((cs_0 hG).2 e he (by omega))
    by_cases hcond : 1 ≤ k ∧ (lsN els.length (gmt D els) k : Int) ≠ fnd els (wholeL (-4)) ∧ els.length / zsN els.length (gmt D els) k = n * hv els
    · rw [if_pos hcond, zs_cn hG]
      refine cn_ext _ (fun e he => ⟨fun h9 => ⟨⟨fun h8 => (es e he h9).mp h8 ⟨hcond.1, hcond.2.1⟩, ?_⟩, h9⟩, fun h9 => h9.2⟩)
      rw [← el e he h9]; exact hcond.2.2
    · rw [if_neg hcond]
      refine (cn_0 _ (fun e he h9 => hcond ?_)).symm
      have h8 : 1 ≤ k ∧ (lsN els.length (gmt D els) k : Int) ≠ fnd els (wholeL (-4)) := Classical.byContradiction (fun h7 => h9.1.1 ((es e he h9.2).mpr h7))
      exact ⟨h8.1, h8.2, by rw [el e he h9.2]; exact h9.1.2⟩
theorem abt_even (hC : Clo D told els) (hD : D = 2 ∨ D = 3 ∨ D = 5) {k : Nat} (hk : k < els.length) (hm : fnd els (wholeL (-4)) ≠ -1) : ∃ w, abt D els k = 2 * w := by
  have hG := hC.isG
  obtain ⟨x, hx, hxl⟩ := (fnd_rg els (wholeL (-4))).resolve_left hm
  have ew := (fnd_iff hC.2.2.2.1 hxl).mp hx.symm
  have hx0 : x ≠ 0 := fun h9 => by
    rw [h9, hC.2.2.1] at ew
    exact absurd ew (by decide)
  have mx : ∀ z, z < els.length → gmt D els x z < els.length := fun z hz => (hC.gm hxl hz).1
  have xx : ∀ z, z < els.length → gmt D els x (gmt D els x z) = z := fun z hz => by
    refine getD_inj hC.2.2.2.1 (mx _ (mx z hz)) hz (gd_ext (mulL_some (hC.gm hxl (mx z hz)).2).1 (hC.2.2.2.2.1 z hz).1 (fun j hj => ?_))
    rw [(mn_mul hC hxl ew (mx z hz) j hj).1, (mn_mul hC hxl ew hz j hj).1, Int.neg_neg]
  have xn : ∀ z, z < els.length → gmt D els x z ≠ z := fun z hz h9 => hx0 (hG.2.2.2.2 _ _ _ hxl hG.1 hz (by rw [h9, (hG.2.2.1 z hz).1]))
  have xk : ∀ z, z < els.length → gmt D els x z = gmt D els z x := fun z hz => (Zc_iff hG hxl hz).mp (mn_ctr hC hxl ew hz)
  have zx : ∀ z, z < els.length → Zc els.length (gmt D els) k z → Zc els.length (gmt D els) k (gmt D els x z) := fun z hz h => by
    refine (Zc_iff hG hk (mx z hz)).mpr ?_
    have h9 := (Zc_iff hG hk hz).mp h
    rw [← hG.2.2.2.1 _ _ _ hk hxl hz, ← xk k hk, hG.2.2.2.1 _ _ _ hxl hk hz, h9, ← hG.2.2.2.1 _ _ _ hxl hz hk]
  have main : cn (Zc els.length (gmt D els) k) els.length = cn (fun b => Zc els.length (gmt D els) k b ∧ b < gmt D els x b) els.length * 2 := by
    refine cn_fib (f := fun z => if z < gmt D els x z then z else gmt D els x z) els.length (fun a ha hA => ?_) (fun b hb hB => ?_)
    · have h1 := mx a ha
      have h2 := xn a ha
      by_cases h : a < gmt D els x a
      · rw [if_pos h]; exact ⟨ha, hA, h⟩
      · rw [if_neg h]
        refine ⟨h1, zx a ha hA, ?_⟩
        rw [xx a ha]; omega
    · have h1 := mx b hb
      have h2 := xn b hb
      have e : cn (fun a => Zc els.length (gmt D els) k a ∧ (if a < gmt D els x a then a else gmt D els x a) = b) els.length = cn (fun a => a = b ∨ a = gmt D els x b) els.length := cn_ext _ (fun a ha => by
        constructor
        · rintro ⟨_, h⟩
          by_cases h3 : a < gmt D els x a
          · rw [if_pos h3] at h; exact .inl h
          · rw [if_neg h3] at h
            right
            rw [← h, xx a ha]
        · rintro (h | h)
          · subst h
            exact ⟨hB.1, by rw [if_pos hB.2]⟩
          · subst h
            exact ⟨zx b hb hB.1, by rw [xx b hb, if_neg (by have := hB.2; omega)]⟩)
      rw [e, cn_or _ (fun a ha h9 => h2 (by rw [← h9.2, h9.1])), cn_one (P := fun a => a = b) _ b hb rfl (fun a ha h9 => h9), cn_one (P := fun a => a = gmt D els x b) _ _ h1 rfl (fun a ha h9 => h9)]
  rw [cn_Z hC hD hk] at main
  have h2 : hv els = 2 := by unfold hv; rw [if_neg hm]
  exact ⟨cn (fun b => Zc els.length (gmt D els) k b ∧ b < gmt D els x b) els.length - 1, by omega⟩
theorem axes_eq (hC : Clo D told els) (hD : D = 2 ∨ D = 3 ∨ D = 5) {n : Nat} (hn : 2 ≤ n) : shr D els n (rsN els.length (gmt D els)) = axN D els n * ((n - 1) * hv els) := by
  have hG := hC.isG
  have hh : (fnd els (wholeL (-4)) = -1 ∧ hv els = 1) ∨ (fnd els (wholeL (-4)) ≠ -1 ∧ hv els = 2) := by
    unfold hv
    by_cases h : fnd els (wholeL (-4)) = -1
    · rw [if_pos h]; exact .inl ⟨h, rfl⟩
    · rw [if_neg h]; exact .inr ⟨h, rfl⟩
  have sy : ∀ {a b : Nat}, prE D els a b → prE D els b a := fun h => prl_sy h
  have same : ∀ {a b : Nat}, a < els.length → b < els.length → ¬ stl els a → ¬ stl els b → prE D els a b → abt D els a = abt D els b := fun ha hb ha2 hb2 h => cn_ext _ (fun l hl => ⟨fun h9 => ⟨h9.1, prE_tr hC hD ha ha2 (sy h) h9.2⟩, fun h9 => ⟨h9.1, prE_tr hC hD hb hb2 h h9.2⟩⟩)
  have tu : ∀ e, e < els.length → (abt D els e + hv els = n * hv els ↔ tur D els e = n) := fun e he => by
    unfold tur
    rcases hh with ⟨h1, h2⟩ | ⟨h1, h2⟩
    · rw [if_pos h1, h2, Nat.mul_one]
    · rw [if_neg h1, h2]
      obtain ⟨w, hw⟩ := abt_even hC hD he h1
      rw [hw]
      omega
  rw [shr_cn hC hD _ (Nat.le_refl _)]
  unfold axN
  -- the least of those parallel
  have lf : ∀ e, e < els.length → ¬ stl els e → ∃ b, b < els.length ∧ ¬ stl els b ∧ prE D els e b ∧ ∀ l, l < els.length → ¬ stl els l → prE D els e l → b ≤ l := fun e he hs => by
    obtain ⟨d, d1, d2, d3⟩ := least_of (p := fun b => b < els.length ∧ ¬ stl els b ∧ prE D els e b) e ⟨he, hs, prl_rf D _⟩
    exact ⟨d, d2.1, d2.2.1, d2.2.2, fun l q1 q2 q3 => Nat.not_lt.mp (fun h9 => d3 l h9 ⟨q1, q2, q3⟩)⟩
  refine cn_fib (f := fun e => theN (fun b => b < els.length ∧ ¬ stl els b ∧ prE D els e b ∧ ∀ l, l < els.length → ¬ stl els l → prE D els e l → b ≤ l)) els.length (fun e he hA => ?_) (fun b hb hB => ?_)
  · obtain ⟨b1, b2, b3, b4⟩ := theN_of (p := fun b => b < els.length ∧ ¬ stl els b ∧ prE D els e b ∧ ∀ l, l < els.length → ¬ stl els l → prE D els e l → b ≤ l) (lf e he hA.1.1)
    generalize theN (fun b => b < els.length ∧ ¬ stl els b ∧ prE D els e b ∧ ∀ l, l < els.length → ¬ stl els l → prE D els e l → b ≤ l) = b at *
    refine ⟨b1, b2, (tu b b1).mp ?_, fun l q1 q2 q3 => b4 l q1 q2 (prE_tr hC hD b1 b2 b3 q3)⟩
    rw [← same he b1 hA.1.1 b2 b3]; exact hA.1.2
  · obtain ⟨hs, ht, hf⟩ := hB
    have ha := (tu b hb).mpr ht
    have e : cn (fun a => ((¬ stl els a ∧ abt D els a + hv els = n * hv els) ∧ csN els.length (gmt D els) a < rsN els.length (gmt D els)) ∧ theN (fun b => b < els.length ∧ ¬ stl els b ∧ prE D els a b ∧ ∀ l, l < els.length → ¬ stl els l → prE D els a l → b ≤ l) = b) els.length = abt D els b := cn_ext _ (fun a hal => by
      constructor
      · rintro ⟨⟨⟨q1, q2⟩, q3⟩, q4⟩
        have := theN_of (lf a hal q1)
        rw [q4] at this
        exact ⟨q1, sy this.2.2.1⟩
      · rintro ⟨q1, q2⟩
        refine ⟨⟨⟨q1, ?_⟩, (csN_s hG hal).2⟩, ?_⟩
        · rw [← same hb hal hs q1 q2]; exact ha
        · obtain ⟨b1, b2, b3, b4⟩ := theN_of (p := fun b => b < els.length ∧ ¬ stl els b ∧ prE D els a b ∧ ∀ l, l < els.length → ¬ stl els l → prE D els a l → b ≤ l) (lf a hal q1)
          have c1 := b4 b hb hs (sy q2)
          have c2 := hf _ b1 b2 (prE_tr hC hD hal q1 q2 b3)
          omega)
    rw [e]
    rcases hh with ⟨h1, h2⟩ | ⟨h1, h2⟩
    · rw [h2] at ha ⊢; omega
    · rw [h2] at ha ⊢; omega
end S9c
