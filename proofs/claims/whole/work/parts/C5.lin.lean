/-! ===== rows over p: rectangular ones, cleared against one another ===== -/
def dt (w : Nat) (x y : Nat → Int) : Int := sm (fun j => x j * y j) w
theorem dt_em {p : Int} {w : Nat} {x x' y : Nat → Int} (h : ∀ j, j < w → x j % p = x' j % p) : dt w x y % p = dt w x' y % p := sm_em w (fun j hj => em_mul (h j hj) rfl)
theorem dt_sub (w : Nat) (x z y : Nat → Int) (u : Int) : dt w (fun j => x j - u * z j) y = dt w x y - u * dt w z y := by
  unfold dt
  rw [← sm_mul, Int.sub_eq_add_neg, ← Int.neg_one_mul, ← sm_mul, ← sm_add]
  refine sm_ext w (fun j _ => ?_)
  rw [Int.sub_mul, Int.mul_assoc]; omega
theorem dt_mul (w : Nat) (x y : Nat → Int) (u : Int) : dt w (fun j => u * x j) y = u * dt w x y := by
  unfold dt
  rw [← sm_mul]
  exact sm_ext w (fun j _ => Int.mul_assoc _ _ _)
/-- what n rows send to 0 -/
def SlR (p : Int) (n w : Nat) (A : Nat → Nat → Int) (y : Nat → Int) : Prop := ∀ s, s < n → dt w (A s) y % p = 0
/-- n rows of which none comes of the others -/
def IND (p : Int) (n w : Nat) (A : Nat → Nat → Int) : Prop := ∀ d : Nat → Int, (∀ j, j < w → sm (fun s => d s * A s j) n % p = 0) → ∀ s, s < n → d s % p = 0
theorem sm_swp (f : Nat → Int) {k q n : Nat} (hk : k < n) (hq : q < n) : sm (fun e => f (swI k q e)) n = sm f n := by
  by_cases hkq : k = q
  · refine sm_ext n (fun e _ => ?_)
    unfold swI
    rw [hkq]
    by_cases h : e = q
    · rw [if_pos h, h]
    · rw [if_neg h, if_neg h]
  · have e1 : ∀ e, e < n → f (swI k q e) = f e + ((if e = k then f q - f k else 0) + (if e = q then f k - f q else 0)) := fun e _ => by
      unfold swI
      by_cases h1 : e = k
      · rw [if_pos h1, if_pos h1, if_neg (by omega), h1]; omega
      · by_cases h2 : e = q
        · rw [if_neg h1, if_pos h2, if_neg h1, if_pos h2, h2]; omega
        · rw [if_neg h1, if_neg h2, if_neg h1, if_neg h2]; omega
    rw [sm_ext n e1, sm_add, sm_add, sm_del, sm_del, if_pos hk, if_pos hq]
    omega
theorem swI_2 (k q e : Nat) : swI k q (swI k q e) = e := by
  unfold swI
  by_cases a : e = k <;> by_cases b : e = q <;> simp_all
/-- rows on the way: columns below c are cleared by k rows -/
def CLR (p n w : Nat) (A0 A : Nat → Nat → Int) (c k : Nat) : Prop :=
  k ≤ n ∧ (∀ e j, e < n → j < w → 0 ≤ A e j ∧ A e j < (p : Int)) ∧ (∀ y, SlR (p : Int) n w A0 y ↔ SlR (p : Int) n w A y) ∧ (IND (p : Int) n w A0 → IND (p : Int) n w A) ∧
  (∃ col : Nat → Nat, ∀ q, q < k → col q < c ∧ A q (col q) = 1 ∧ (∀ e, e < n → e ≠ q → A e (col q) = 0) ∧ ∀ j, j < col q → A q j = 0) ∧ ∀ e j, k ≤ e → e < n → j < c → A e j = 0
theorem CLR.skip {p n w : Nat} {A0 A : Nat → Nat → Int} {c k : Nat} (h : CLR p n w A0 A c k) (hz : ∀ e, k ≤ e → e < n → A e c = 0) : CLR p n w A0 A (c + 1) k := by
  obtain ⟨h1, h2, h3, h4, ⟨col, h5⟩, h6⟩ := h
  refine ⟨h1, h2, h3, h4, ⟨col, fun q hq => ⟨by have := (h5 q hq).1; omega, (h5 q hq).2⟩⟩, fun e j a b hj => ?_⟩
  by_cases hjc : j = c
  · rw [hjc]; exact hz e a b
  · exact h6 e j a b (by omega)
theorem CLR.piv {p n w : Nat} {A0 A U : Nat → Nat → Int} {c k q : Nat} (h : CLR p n w A0 A c k) (hp : isPr p) (h242 : p < 242) (hc : c < w) (hkq : k ≤ q) (hq : q < n) (hne : A q c ≠ 0)
    (hk : ∀ j, j < w → U k j = ovV p (A q j) (A q c)) (hU : ∀ e j, e < n → j < w → e ≠ k → U e j = (A (swI k q e) j - A (swI k q e) c * U k j) % (p : Int)) : CLR p n w A0 U (c + 1) (k + 1) := by
  obtain ⟨h1, h2, h3, h4, ⟨col, h5⟩, h6⟩ := h
  have hkn : k < n := by omega
  have p1 := hp.1
  have y1 := h2 q c hq hc
  have hy : 0 < A q c ∧ A q c < (p : Int) := ⟨by omega, y1.2⟩
  have sk : swI k q k = q := by unfold swI; rw [if_pos rfl]
  have sw1 : ∀ e, e < n → swI k q e < n := fun e he => swI_lt hkn hq he
  have sw2 : ∀ e, e < k → swI k q e = e := fun e he => by unfold swI; rw [if_neg (by omega), if_neg (by omega)]
  have sw3 : ∀ e, k ≤ e → k ≤ swI k q e := fun e he => by unfold swI; split; exact hkq; split; exact Nat.le_refl _; exact he
  have zz : ∀ j, j < w → A q j = 0 → U k j = 0 := fun j hj e => by rw [hk j hj, e, ov_0]
  have Ukc : U k c = 1 := by rw [hk c hc]; exact ov_1 hp h242 hy
  have nz : ∀ e j, e < n → j < w → e ≠ k → U k j = 0 → U e j = A (swI k q e) j := fun e j he hj hne2 e0 => by
    rw [hU e j he hj hne2, e0, Int.mul_zero, Int.sub_zero]
    have := h2 _ j (sw1 e he) hj
    exact Int.emod_eq_of_lt this.1 this.2
  -- the rows as products
  have dk : ∀ y, (dt w (U k) y * A q c) % (p : Int) = dt w (A q) y % (p : Int) := fun y => by
    rw [Int.mul_comm, ← dt_mul]
    refine dt_em (fun j hj => ?_)
    rw [hk j hj, Int.mul_comm]
    exact ov_mul hp h242 hy
  have de : ∀ e y, e < n → e ≠ k → dt w (U e) y % (p : Int) = (dt w (A (swI k q e)) y - A (swI k q e) c * dt w (U k) y) % (p : Int) := fun e y he hek => by
    rw [← dt_sub]
    exact dt_em (fun j hj => by rw [hU e j he hj hek, em_id])
  refine ⟨by omega, fun e j he hj => ?_, fun y => (h3 y).trans ⟨fun hA e he => ?_, fun hU9 f hf => ?_⟩, fun h0 d hd => ?_, ⟨fun i => if i = k then c else col i, fun i hi => ?_⟩, fun e j hke he hj => ?_⟩
  · by_cases hek : e = k
    · rw [hek, hk j hj]; exact ov_rng (by omega) _ _
    · rw [hU e j he hj hek]; exact em_rng (by omega) _
  · have uk : dt w (U k) y % (p : Int) = 0 := by
      have := dk y
      rw [hA q hq] at this
      rw [Int.mul_comm] at this
      exact pr_0 hp h242 this (by rw [Int.emod_eq_of_lt y1.1 y1.2]; exact hne)
    by_cases hek : e = k
    · rw [hek]; exact uk
    · rw [de e y he hek, Int.sub_emod, hA _ (sw1 e he), Int.mul_emod, uk, Int.mul_zero, Int.zero_emod]; rfl
  · have uk := hU9 k hkn
    have aq : dt w (A q) y % (p : Int) = 0 := by rw [← dk y]; exact em_0 uk
    by_cases hfq : f = q
    · rw [hfq]; exact aq
    · have hek : swI k q f ≠ k := fun h9 => hfq (by rw [← swI_2 k q f, h9, sk])
      have e1 := de (swI k q f) y (sw1 f hf) hek
      rw [swI_2, hU9 _ (sw1 f hf)] at e1
      have e2 : (dt w (A f) y - A f c * dt w (U k) y + A f c * dt w (U k) y) % (p : Int) = 0 := by
        rw [Int.add_emod, ← e1, Int.mul_emod, uk, Int.mul_zero, Int.zero_emod]; rfl
      rw [← e2]; congr 1; omega
  · -- independence
    have hi := h4 h0
    -- what each row of A has
    let S9 : Int := sm (fun e => if e = k then 0 else d e * A (swI k q e) c) n
    let inv := A q c ^ (p - 2)
    let d' : Nat → Int := fun f => if f = q then (d k - S9) * inv else d (swI k q f)
    have key : ∀ j, j < w → sm (fun f => d' f * A f j) n % (p : Int) = sm (fun s => d s * U s j) n % (p : Int) := fun j hj => by
      rw [← sm_swp _ hkn hq]
      have ek : U k j % (p : Int) = (inv * A q j) % (p : Int) := by rw [hk j hj]; exact ov_e p _ _
      have e1 : sm (fun s => d s * U s j) n % (p : Int) = sm (fun e => (if e = k then 0 else d e * A (swI k q e) j) + ((if e = k then d k * U k j else 0) + (-U k j) * (if e = k then 0 else d e * A (swI k q e) c))) n % (p : Int) := by
        refine sm_em n (fun e he => ?_)
        by_cases hek : e = k
        · rw [if_pos hek, if_pos hek, if_pos hek, hek, Int.mul_zero, Int.zero_add, Int.add_zero]
        · rw [if_neg hek, if_neg hek, if_neg hek, hU e j he hj hek, em_mul (u := d e) rfl (em_id _ _), Int.zero_add, Int.mul_sub]
          congr 1
          rw [Int.neg_mul, Int.mul_comm (U k j), Int.mul_assoc, Int.sub_eq_add_neg]
      rw [e1, sm_add, sm_add, sm_mul, sm_ext (f := fun e => if e = k then d k * U k j else 0) (h := fun e => if e = k then d k * U k j else 0) n (fun _ _ => rfl), sm_del, if_pos hkn]
      have e2 : sm (fun e => d' (swI k q e) * A (swI k q e) j) n = sm (fun e => (if e = k then 0 else d e * A (swI k q e) j) + (if e = k then (d k - S9) * inv * A q j else 0)) n := by
        refine sm_ext n (fun e he => ?_)
        by_cases hek : e = k
        · show (if swI k q e = q then (d k - S9) * inv else d (swI k q (swI k q e))) * A (swI k q e) j = _
          rw [if_pos hek, if_pos hek, hek, sk, if_pos rfl, Int.zero_add]
        · show (if swI k q e = q then (d k - S9) * inv else d (swI k q (swI k q e))) * A (swI k q e) j = _
          rw [if_neg hek, if_neg hek, if_neg (fun h9 => hek (swI_inj (h9.trans sk.symm))), swI_2, Int.add_zero]
      rw [e2, sm_add, sm_del, if_pos hkn]
      have e3 : (d k * U k j + -U k j * S9) % (p : Int) = ((d k - S9) * inv * A q j) % (p : Int) := by
        rw [show d k * U k j + -U k j * S9 = (d k - S9) * U k j by rw [Int.sub_mul, Int.neg_mul, Int.mul_comm (U k j)]; omega]
        rw [em_mul (u := d k - S9) rfl ek, Int.mul_assoc]
      rw [Int.add_emod, ← e3, ← Int.add_emod]
    have dz := hi d' (fun j hj => (key j hj).trans (hd j hj))
    have de0 : ∀ e, e < n → e ≠ k → d e % (p : Int) = 0 := fun e he hek => by
      have := dz _ (sw1 e he)
      have e9 : d' (swI k q e) = d e := by
        show (if swI k q e = q then _ else d (swI k q (swI k q e))) = _
        rw [if_neg (fun h9 => hek (swI_inj (h9.trans sk.symm))), swI_2]
      rwa [e9] at this
    intro s hs
    by_cases hsk : s = k
    · rw [hsk]
      have s0 : S9 % (p : Int) = 0 := by
        show sm _ n % (p : Int) = 0
        rw [sm_em (h := fun _ => 0) n (fun e he => ?_), sm_0 n (fun _ _ => rfl), Int.zero_emod]
        by_cases hek : e = k
        · rw [if_pos hek]
        · rw [if_neg hek, em_0 (de0 e he hek), Int.zero_emod]
      have q0 := dz q hq
      have e9 : d' q = (d k - S9) * inv := if_pos rfl
      rw [e9, Int.mul_comm] at q0
      have i0 : inv % (p : Int) ≠ 0 := fun h9 => by
        have := inv_ok hp h242 hy
        have h9' : (A q c * inv) % (p : Int) = 0 := by rw [Int.mul_emod, h9, Int.mul_zero, Int.zero_emod]
        rw [h9', Int.emod_eq_of_lt (by decide) (by omega)] at this
        omega
      have q1 := pr_0 hp h242 q0 i0
      have : (d k - S9 + S9) % (p : Int) = 0 := by rw [Int.add_emod, q1, s0]; rfl
      rw [← this]; congr 1; omega
    · exact de0 s hs hsk
  · show (if i = k then c else col i) < c + 1 ∧ U i (if i = k then c else col i) = 1 ∧ (∀ e, e < n → e ≠ i → U e (if i = k then c else col i) = 0) ∧ ∀ j, j < (if i = k then c else col i) → U i j = 0
    by_cases hik : i = k
    · rw [if_pos hik, hik]
      refine ⟨by omega, Ukc, fun e he hek => ?_, fun j hj => ?_⟩
      · rw [hU e c he hc hek, Ukc, Int.mul_one, Int.sub_self, Int.zero_emod]
      · exact zz j (by omega) (h6 q j hkq hq hj)
    · rw [if_neg hik]
      obtain ⟨g1, g2, g3, g4⟩ := h5 i (by omega)
      have u0 := zz (col i) (by omega) (g3 q hq (by omega))
      refine ⟨by omega, ?_, fun e he hei => ?_, fun j hj => ?_⟩
      · rw [nz i (col i) (by omega) (by omega) hik u0, sw2 i (by omega)]; exact g2
      · by_cases hek : e = k
        · rw [hek]; exact u0
        · rw [nz e (col i) he (by omega) hek u0]
          refine g3 _ (sw1 e he) (fun h9 => hei ?_)
          rw [← sw2 i (by omega)] at h9
          exact swI_inj h9
      · rw [nz i j (by omega) (by omega) hik (zz j (by omega) (h6 q j hkq hq (by omega))), sw2 i (by omega)]
        exact g4 j hj
  · by_cases hjc : j = c
    · rw [hjc, hU e c he hc (by omega), Ukc, Int.mul_one, Int.sub_self, Int.zero_emod]
    · rw [nz e j he (by omega) (by omega) (zz j (by omega) (h6 q j hkq hq (by omega)))]
      exact h6 _ j (sw3 e (by omega)) (sw1 e he) (by omega)
/-- fewer conditions than unknowns -/
theorem under {p : Nat} (hp : isPr p) (h242 : p < 242) : ∀ (m q : Nat) (A : Nat → Nat → Int), m < q → ∃ d : Nat → Int, (∃ t, t < q ∧ d t % (p : Int) ≠ 0) ∧ ∀ i, i < m → sm (fun t => A i t * d t) q % (p : Int) = 0 := by
  have p1 := hp.1
  intro m
  induction m with
  | zero =>
    intro q A hq
    exact ⟨fun _ => 1, ⟨0, hq, by show (1 : Int) % (p : Int) ≠ 0; rw [Int.emod_eq_of_lt (by decide) (by omega)]; decide⟩, fun i hi => absurd hi (by omega)⟩
  | succ m ih =>
    intro q A hq
    by_cases hz : ∀ t, t < q → A m t % (p : Int) = 0
    · obtain ⟨d, h1, h2⟩ := ih q A (by omega)
      refine ⟨d, h1, fun i hi => ?_⟩
      by_cases him : i = m
      · rw [him, sm_em (h := fun _ => 0) q (fun t ht => by rw [em_0 (hz t ht), Int.zero_emod]), sm_0 q (fun _ _ => rfl), Int.zero_emod]
      · exact h2 i (by omega)
    · have hz' : ∃ t, t < q ∧ A m t % (p : Int) ≠ 0 := Classical.byContradiction (fun h9 => hz (fun t ht => Classical.byContradiction (fun h8 => h9 ⟨t, ht, h8⟩)))
      obtain ⟨t0, ht0, hne⟩ := hz'
      obtain ⟨q', rfl⟩ : ∃ q', q = q' + 1 := ⟨q - 1, by omega⟩
      have st : swI t0 q' q' = t0 := by
        unfold swI
        by_cases h : q' = t0
        · rw [if_pos h, h]
        · rw [if_neg h, if_pos rfl]
      let y := A m t0 % (p : Int)
      have ry := em_rng (p := p) (by omega) (A m t0)
      have yp : 0 < y ∧ y < (p : Int) := ⟨by show 0 < A m t0 % (p : Int); omega, ry.2⟩
      let w := y ^ (p - 2)
      have hw : (A m t0 * w) % (p : Int) = 1 % (p : Int) := by
        rw [← inv_ok hp h242 yp]
        exact em_mul (em_id (p : Int) (A m t0)).symm rfl
      obtain ⟨d, ⟨t1, ht1, hd1⟩, hd2⟩ := ih q' (fun i t => A i (swI t0 q' t) - A i t0 * w * A m (swI t0 q' t)) (by omega)
      let S9 : Int := sm (fun t => A m (swI t0 q' t) * d t) q'
      let d' : Nat → Int := fun t => if t = q' then -w * S9 else d t
      have ext : ∀ i, sm (fun t => A i t * d' (swI t0 q' t)) (q' + 1) = sm (fun t => A i (swI t0 q' t) * d t) q' + A i t0 * (-w * S9) := fun i => by
        rw [← sm_swp (fun t => A i t * d' (swI t0 q' t)) ht0 (show q' < q' + 1 by omega)]
        rw [sm_ext (h := fun e => A i (swI t0 q' e) * d' e) (q' + 1) (fun e _ => by rw [swI_2])]
        show sm (fun e => A i (swI t0 q' e) * d' e) q' + A i (swI t0 q' q') * d' q' = _
        rw [st, sm_ext (h := fun t => A i (swI t0 q' t) * d t) q' (fun e he => ?_)]
        · have : d' q' = -w * S9 := if_pos rfl
          rw [this]
        · have : d' e = d e := if_neg (by omega)
          rw [this]
      refine ⟨fun t => d' (swI t0 q' t), ⟨swI t0 q' t1, swI_lt ht0 (by omega) (by omega), ?_⟩, fun i hi => ?_⟩
      · show d' (swI t0 q' (swI t0 q' t1)) % (p : Int) ≠ 0
        rw [swI_2]
        have : d' t1 = d t1 := if_neg (by omega)
        rw [this]; exact hd1
      · show sm (fun t => A i t * d' (swI t0 q' t)) (q' + 1) % (p : Int) = 0
        rw [ext i]
        by_cases him : i = m
        · rw [him]
          have : S9 + A m t0 * (-w * S9) = S9 - (A m t0 * w) * S9 := by rw [Int.neg_mul, Int.mul_neg, Int.mul_assoc]; omega
          show (S9 + A m t0 * (-w * S9)) % (p : Int) = 0
          rw [this, Int.sub_emod, em_mul hw rfl, Int.one_mul, Int.sub_self, Int.zero_emod]
        · have e1 := hd2 i (by omega)
          have e2 : sm (fun t => (A i (swI t0 q' t) - A i t0 * w * A m (swI t0 q' t)) * d t) q' = sm (fun t => A i (swI t0 q' t) * d t) q' + A i t0 * (-w * S9) := by
            rw [show A i t0 * (-w * S9) = (-(A i t0 * w)) * S9 by rw [Int.neg_mul, Int.mul_neg, Int.neg_mul, Int.mul_assoc], ← sm_mul, ← sm_add]
            refine sm_ext q' (fun t _ => ?_)
            rw [Int.sub_mul, Int.neg_mul, Int.mul_assoc (A i t0 * w)]; omega
          rw [← e2]; exact e1
