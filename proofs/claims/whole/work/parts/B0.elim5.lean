/-! ===== elimination over p, as a pure picture ===== -/
theorem sm_del (u : Nat) (z : Int) : ∀ n, sm (fun b => if b = u then z else 0) n = if u < n then z else 0 := by
  intro n
  induction n with
  | zero => rfl
  | succ n ih =>
    show sm (fun b => if b = u then z else 0) n + (if n = u then z else 0) = _
    rw [ih]
    by_cases h1 : u < n
    · rw [if_pos h1, if_neg (by omega), if_pos (by omega)]; omega
    · by_cases h2 : n = u
      · rw [if_neg h1, if_pos h2, if_pos (by omega)]; omega
      · rw [if_neg h1, if_neg h2, if_neg (by omega)]; rfl
theorem sm_one9 {p : Int} {f : Nat → Int} {u n : Nat} (hu : u < n) (h : ∀ b, b < n → b ≠ u → f b % p = 0) : sm f n % p = f u % p := by
  rw [sm_em (h := fun b => if b = u then f u else 0) n (fun b hb => ?_), sm_del, if_pos hu]
  show f b % p = (if b = u then f u else 0) % p
  by_cases hbu : b = u
  · rw [if_pos hbu, hbu]
  · rw [if_neg hbu, h b hb hbu, Int.zero_emod]
theorem sm_two9 {p : Int} {f : Nat → Int} {u v n : Nat} (hu : u < n) (hv : v < n) (huv : u ≠ v) (h : ∀ b, b < n → b ≠ u → b ≠ v → f b % p = 0) : sm f n % p = (f u + f v) % p := by
  rw [sm_em (h := fun b => (if b = u then f u else 0) + (if b = v then f v else 0)) n (fun b hb => ?_), sm_add, sm_del, sm_del, if_pos hu, if_pos hv]
  show f b % p = ((if b = u then f u else 0) + (if b = v then f v else 0)) % p
  by_cases hbu : b = u
  · rw [if_pos hbu, if_neg (by omega), hbu, Int.add_zero]
  · by_cases hbv : b = v
    · rw [if_neg hbu, if_pos hbv, hbv, Int.zero_add]
    · rw [if_neg hbu, if_neg hbv, h b hb hbu hbv, Int.add_zero, Int.zero_emod]
/-- columns below b are done, by k rows; free ones; the last free one -/
def ELc (r : Nat) (A : Nat → Nat → Int) (pv : Nat → Int) (b k : Nat) : Prop := ∀ i, i < b → (pv i = -1 ∧ ∀ e, k ≤ e → e < r → A e i = 0) ∨ ∃ q : Nat, pv i = q ∧ q < k ∧ A q i = 1 ∧ ∀ e, e < r → e ≠ q → A e i = 0
def ELf (pv : Nat → Int) (b f : Nat) (lf : Int) : Prop := (f = 0 ∧ lf = -1 ∧ ∀ i, i < b → pv i ≠ -1) ∨ (1 ≤ f ∧ ∃ l : Nat, lf = l ∧ l < b ∧ pv l = -1 ∧ (f = 1 → ∀ i, i < b → pv i = -1 → i = l) ∧ (2 ≤ f → ∃ l2, l2 < b ∧ l2 ≠ l ∧ pv l2 = -1))
def EL (p r : Nat) (A0 A : Nat → Nat → Int) (pv : Nat → Int) (b k f : Nat) (lf : Int) : Prop :=
  b = k + f ∧ b ≤ r ∧ (∀ e i, e < r → i < r → 0 ≤ A e i ∧ A e i < (p : Int)) ∧ (∀ x, Slv (p : Int) r A0 x ↔ Slv (p : Int) r A x) ∧ ELc r A pv b k ∧ (∀ i j, i < b → j < b → pv i ≠ -1 → pv i = pv j → i = j) ∧ (∀ q, q < k → ∃ i, i < b ∧ pv i = (q : Int)) ∧ ELf pv b f lf
theorem EL.free {p r : Nat} {A0 A : Nat → Nat → Int} {pv pv' : Nat → Int} {b k f : Nat} {lf : Int} (h : EL p r A0 A pv b k f lf) (hb : b < r) (hz : ∀ e, k ≤ e → e < r → A e b = 0) (hp : ∀ j, j < r → pv' j = if j = b then -1 else pv j) : EL p r A0 A pv' (b + 1) k (f + 1) (b : Int) := by
  obtain ⟨h1, h2, h3, h4, h5, h6, h7, h8⟩ := h
  have q : ∀ i, i < b → pv' i = pv i := fun i hi => by rw [hp i (by omega), if_neg (by omega)]
  have qb : pv' b = -1 := by rw [hp b hb, if_pos rfl]
  refine ⟨by omega, by omega, h3, h4, fun i hi => ?_, fun i j hi hj hn he => ?_, fun q' hq' => ?_, .inr ⟨by omega, b, rfl, by omega, qb, fun hf i hi hpi => ?_, fun hf => ?_⟩⟩
  · by_cases hib : i = b
    · subst hib; exact .inl ⟨qb, hz⟩
    · rw [q i (by omega)]; exact h5 i (by omega)
  · have hib : i ≠ b := fun h9 => hn (by rw [h9]; exact qb)
    have hjb : j ≠ b := fun h9 => hn (by rw [he, h9]; exact qb)
    rw [q i (by omega)] at hn he
    rw [q j (by omega)] at he
    exact h6 i j (by omega) (by omega) hn he
  · obtain ⟨i, hi, e⟩ := h7 q' hq'
    exact ⟨i, by omega, by rw [q i hi]; exact e⟩
  · by_cases hib : i = b
    · exact hib
    · rw [q i (by omega)] at hpi
      rcases h8 with ⟨_, _, h9⟩ | ⟨h9, _⟩
      · exact absurd hpi (h9 i (by omega))
      · omega
  · rcases h8 with ⟨h9, _⟩ | ⟨_, l, _, hl, hpl, _⟩
    · omega
    · exact ⟨l, by omega, by omega, by rw [q l hl]; exact hpl⟩
theorem EL.piv {p r : Nat} {A0 A U : Nat → Nat → Int} {pv pv' : Nat → Int} {b k f q : Nat} {lf : Int} (h : EL p r A0 A pv b k f lf) (hp : isPr p) (h242 : p < 242) (hb : b < r) (hkq : k ≤ q) (hq : q < r) (hne : A q b ≠ 0)
    (hk : ∀ i, i < r → U k i = ovV p (A q i) (A q b)) (hU : ∀ e i, e < r → i < r → e ≠ k → U e i = (A (swI k q e) i - A (swI k q e) b * U k i) % (p : Int)) (hpv : ∀ j, j < r → pv' j = if j = b then (k : Int) else pv j) : EL p r A0 U pv' (b + 1) (k + 1) f lf := by
  obtain ⟨h1, h2, h3, h4, h5, h6, h7, h8⟩ := h
  have hkr : k < r := by omega
  have p1 := hp.1
  have y1 := h3 q b hq hb
  have qq : ∀ i, i < b → pv' i = pv i := fun i hi => by rw [hpv i (by omega), if_neg (by omega)]
  have qb : pv' b = k := by rw [hpv b hb, if_pos rfl]
  have pk : ∀ i, i < b → pv i ≠ -1 → pv i < (k : Int) := fun i hi hn => by
    rcases h5 i hi with ⟨h9, _⟩ | ⟨q', e, hq', _⟩
    · exact absurd h9 hn
    · omega
  have sw1 : ∀ e, e < r → swI k q e < r := fun e he => swI_lt hkr hq he
  have sw2 : ∀ e, e < k → swI k q e = e := fun e he => by unfold swI; rw [if_neg (by omega), if_neg (by omega)]
  have sw3 : ∀ e, k ≤ e → k ≤ swI k q e := fun e he => by unfold swI; split; exact hkq; split; exact Nat.le_refl _; exact he
  have zz : ∀ i, i < r → A q i = 0 → U k i = 0 := fun i hi e => by rw [hk i hi, e, ov_0]
  have Ukb : U k b = 1 := by rw [hk b hb]; exact ov_1 hp h242 ⟨by omega, y1.2⟩
  have nz : ∀ e i, e < r → i < r → e ≠ k → U k i = 0 → U e i = A (swI k q e) i := fun e i he hi hne2 e0 => by
    rw [hU e i he hi hne2, e0, Int.mul_zero, Int.sub_zero]
    have := h3 _ i (sw1 e he) hi
    exact Int.emod_eq_of_lt this.1 this.2
  refine ⟨by omega, by omega, fun e i he hi => ?_, fun x => ?_, fun i hi => ?_, fun i j hi hj hn he => ?_, fun q' hq' => ?_, ?_⟩
  · by_cases hek : e = k
    · rw [hek, hk i hi]; exact ov_rng (by omega) _ _
    · rw [hU e i he hi hek]; exact em_rng (by omega) _
  · rw [h4 x]
    have s1 : Slv (p : Int) r A x ↔ Slv (p : Int) r (fun e i => A (swI k q e) i) x := Slv.perm (f := swI k q) (fun e i _ _ => rfl) sw1 (fun e he => ⟨swI k q e, sw1 e he, by unfold swI; by_cases a : e = k <;> by_cases b : e = q <;> simp_all⟩) x
    have s2 : Slv (p : Int) r (fun e i => A (swI k q e) i) x ↔ Slv (p : Int) r (fun e i => if e = k then U k i else A (swI k q e) i) x := Slv.ov (i := k) hp h242 ⟨by omega, y1.2⟩ hkr (fun i hi => by
      show (if k = k then _ else _) = _
      rw [if_pos rfl, hk i hi]
      unfold swI; rw [if_pos rfl]) (fun e i he hne2 hi => by
      show (if e = k then _ else _) = _
      rw [if_neg hne2]) x
    have s3 : Slv (p : Int) r (fun e i => if e = k then U k i else A (swI k q e) i) x ↔ Slv (p : Int) r U x := Slv.sub (i := k) (t := fun e => A (swI k q e) b) hkr (fun e i he hne2 hi => by
      show U e i % (p : Int) = ((if e = k then U k i else A (swI k q e) i) - A (swI k q e) b * (if k = k then U k i else A (swI k q k) i)) % (p : Int)
      rw [if_neg hne2, if_pos rfl, hU e i he hi hne2, em_id]) (fun i hi => by
      show U k i = (if k = k then U k i else A (swI k q k) i)
      rw [if_pos rfl]) x
    exact (s1.trans s2).trans s3
  · by_cases hib : i = b
    · subst hib
      refine .inr ⟨k, qb, by omega, Ukb, fun e he hek => ?_⟩
      rw [hU e i he hb hek, Ukb, Int.mul_one, Int.sub_self, Int.zero_emod]
    · rw [qq i (by omega)]
      rcases h5 i (by omega) with ⟨g1, g2⟩ | ⟨q', g1, g2, g3, g4⟩
      · refine .inl ⟨g1, fun e hke he => ?_⟩
        rw [nz e i he (by omega) (by omega) (zz i (by omega) (g2 q hkq hq))]
        exact g2 _ (sw3 e (by omega)) (sw1 e he)
      · have u0 := zz i (by omega) (g4 q hq (by omega))
        refine .inr ⟨q', g1, by omega, ?_, fun e he hne2 => ?_⟩
        · rw [nz q' i (by omega) (by omega) (by omega) u0, sw2 q' g2]; exact g3
        · by_cases hek : e = k
          · rw [hek]; exact u0
          · rw [nz e i he (by omega) hek u0]
            refine g4 _ (sw1 e he) (fun h9 => hne2 ?_)
            rw [← sw2 q' g2] at h9
            exact swI_inj h9
  · by_cases hib : i = b
    · by_cases hjb : j = b
      · omega
      · exfalso
        rw [hib, qb, qq j (by omega)] at he
        have := pk j (by omega) (by omega)
        omega
    · by_cases hjb : j = b
      · exfalso
        rw [hjb, qb, qq i (by omega)] at he
        have := pk i (by omega) (by omega)
        omega
      · rw [qq i (by omega)] at hn he
        rw [qq j (by omega)] at he
        exact h6 i j (by omega) (by omega) hn he
  · by_cases hqk : q' = k
    · exact ⟨b, by omega, by rw [qb, hqk]⟩
    · obtain ⟨i, hi, e⟩ := h7 q' (by omega)
      exact ⟨i, by omega, by rw [qq i hi]; exact e⟩
  · rcases h8 with ⟨g1, g2, g3⟩ | ⟨g1, l, g2, g3, g4, g5, g6⟩
    · refine .inl ⟨g1, g2, fun i hi => ?_⟩
      by_cases hib : i = b
      · rw [hib, qb]; omega
      · rw [qq i (by omega)]; exact g3 i (by omega)
    · refine .inr ⟨g1, l, g2, by omega, by rw [qq l g3]; exact g4, fun hf i hi hpi => ?_, fun hf => ?_⟩
      · by_cases hib : i = b
        · rw [hib, qb] at hpi; omega
        · rw [qq i (by omega)] at hpi
          exact g5 hf i (by omega) hpi
      · obtain ⟨l2, a1, a2, a3⟩ := g6 hf
        exact ⟨l2, by omega, a2, by rw [qq l2 a1]; exact a3⟩
/-- what belongs to a free column solves -/
theorem EL.ker {p r : Nat} {A0 A : Nat → Nat → Int} {pv : Nat → Int} {k f l : Nat} {lf : Int} (h : EL p r A0 A pv r k f lf) (hl : l < r) (hpl : pv l = -1) : Slv (p : Int) r A0 (kerV p A pv l) := by
  obtain ⟨h1, h2, h3, h4, h5, h6, h7, h8⟩ := h
  rw [h4]
  intro e he
  by_cases hek : e < k
  · obtain ⟨i, hi, ei⟩ := h7 e hek
    have hil : i ≠ l := fun h9 => by rw [h9, hpl] at ei; omega
    rcases h5 i hi with ⟨g1, _⟩ | ⟨q', g1, g2, g3, g4⟩
    · omega
    · have hq : q' = e := by omega
      subst hq
      rw [sm_two9 hi hl hil (fun b hb hbi hbl => ?_)]
      · unfold kerV
        rw [if_neg hil, if_neg (by omega), if_pos rfl, ei, show ((q' : Nat) : Int).toNat = q' by omega, g3, Int.one_mul, Int.mul_one, Int.add_emod, em_id, ← Int.add_emod]
        rw [show -A q' l + A q' l = 0 by omega, Int.zero_emod]
      · rcases h5 b hb with ⟨f1, _⟩ | ⟨q2, f1, f2, f3, f4⟩
        · unfold kerV
          rw [if_neg hbl, if_pos f1, Int.mul_zero, Int.zero_emod]
        · have : q2 ≠ q' := fun h9 => hbi (h6 b i hb hi (by omega) (by omega))
          rw [f4 q' he (by omega), Int.zero_mul, Int.zero_emod]
  · rw [sm_em (h := fun _ => 0) r (fun b hb => ?_), sm_0 r (fun _ _ => rfl), Int.zero_emod]
    rcases h5 b hb with ⟨_, g2⟩ | ⟨q', g1, g2, g3, g4⟩
    · rw [g2 e (by omega) he, Int.zero_mul]
    · rw [g4 e he (by omega), Int.zero_mul]
/-- any solution, by what it has at free columns: none, or one -/
theorem EL.sol0 {p r : Nat} {A0 A : Nat → Nat → Int} {pv : Nat → Int} {k : Nat} {lf : Int} (h : EL p r A0 A pv r k 0 lf) {x : Nat → Int} (hx : Slv (p : Int) r A0 x) : ∀ b, b < r → x b % (p : Int) = 0 := by
  obtain ⟨h1, h2, h3, h4, h5, h6, h7, h8⟩ := h
  rw [h4] at hx
  have hn : ∀ i, i < r → pv i ≠ -1 := by
    rcases h8 with ⟨_, _, h9⟩ | ⟨h9, _⟩
    · exact h9
    · omega
  intro b hb
  rcases h5 b hb with ⟨g1, _⟩ | ⟨q, g1, g2, g3, g4⟩
  · exact absurd g1 (hn b hb)
  · have e := hx q (by omega)
    rw [sm_one9 hb (fun i hi hib => ?_), g3, Int.one_mul] at e
    · exact e
    · rcases h5 i hi with ⟨f1, _⟩ | ⟨q2, f1, f2, f3, f4⟩
      · exact absurd f1 (hn i hi)
      · have : q2 ≠ q := fun h9 => hib (h6 i b hi hb (by omega) (by omega))
        rw [f4 q (by omega) (by omega), Int.zero_mul, Int.zero_emod]
theorem EL.sol1 {p r : Nat} {A0 A : Nat → Nat → Int} {pv : Nat → Int} {k l : Nat} (h : EL p r A0 A pv r k 1 (l : Int)) {x : Nat → Int} (hx : Slv (p : Int) r A0 x) : ∀ b, b < r → x b % (p : Int) = (x l * kerV p A pv l b) % (p : Int) := by
  obtain ⟨h1, h2, h3, h4, h5, h6, h7, h8⟩ := h
  rw [h4] at hx
  have hl : l < r ∧ pv l = -1 ∧ ∀ i, i < r → pv i = -1 → i = l := by
    rcases h8 with ⟨h9, _⟩ | ⟨_, l', e, h9, g1, g2, _⟩
    · omega
    · have : l' = l := by omega
      subst this
      exact ⟨h9, g1, g2 rfl⟩
  obtain ⟨hl, hpl, hn⟩ := hl
  intro b hb
  rcases h5 b hb with ⟨g1, _⟩ | ⟨q, g1, g2, g3, g4⟩
  · rw [hn b hb g1]
    unfold kerV
    rw [if_pos rfl, Int.mul_one]
  · have hbl : b ≠ l := fun h9 => by rw [h9, hpl] at g1; omega
    have e := hx q (by omega)
    rw [sm_two9 hb hl hbl (fun i hi hib hil => ?_), g3, Int.one_mul] at e
    · unfold kerV
      rw [if_neg hbl, if_neg (by omega), g1, show ((q : Nat) : Int).toNat = q by omega]
      rw [em_mul (u := x l) (v := -A q l) rfl (em_id _ _)]
      have e2 : x b = (x b + A q l * x l) + x l * -A q l := by
        rw [Int.mul_neg, Int.mul_comm (x l)]; omega
      rw [e2, Int.add_emod, e, Int.zero_add, em_id]
    · rcases h5 i hi with ⟨f1, _⟩ | ⟨q2, f1, f2, f3, f4⟩
      · exact absurd (hn i hi f1) hil
      · have : q2 ≠ q := fun h9 => hib (h6 i b hi hb (by omega) (by omega))
        rw [f4 q (by omega) (by omega), Int.zero_mul, Int.zero_emod]
/-- what the elimination tells -/
def FO (p r : Nat) (A0 : Nat → Nat → Int) (f : Nat) (ker : Nat → Int) : Prop :=
  (f = 0 ∧ ∀ x, Slv (p : Int) r A0 x → ∀ b, b < r → x b % (p : Int) = 0) ∨
  (f = 1 ∧ Slv (p : Int) r A0 ker ∧ (∀ b, b < r → 0 ≤ ker b ∧ ker b < (p : Int)) ∧ ∃ l, l < r ∧ ker l = 1 ∧ ∀ x, Slv (p : Int) r A0 x → ∀ b, b < r → x b % (p : Int) = (x l * ker b) % (p : Int)) ∨
  (2 ≤ f ∧ ∃ l1 l2 y1 y2, l1 < r ∧ l2 < r ∧ Slv (p : Int) r A0 y1 ∧ Slv (p : Int) r A0 y2 ∧ y1 l1 = 1 ∧ y1 l2 = 0 ∧ y2 l1 = 0 ∧ y2 l2 = 1)
theorem EL.fo {p r : Nat} {A0 A : Nat → Nat → Int} {pv : Nat → Int} {k f : Nat} {lf : Int} (h : EL p r A0 A pv r k f lf) (hp : 1 < p) {ker : Nat → Int} (hk : ∀ l : Nat, lf = l → ∀ b, b < r → ker b = kerV p A pv l b) : FO p r A0 f ker := by
  have rng : ∀ l b, 0 ≤ kerV p A pv l b ∧ kerV p A pv l b < (p : Int) := fun l b => by
    unfold kerV
    split
    · omega
    · split
      · omega
      · exact em_rng (by omega) _
  have h8 := h.2.2.2.2.2.2.2
  rcases h8 with ⟨rfl, _, _⟩ | ⟨g1, l, g2, g3, g4, g5, g6⟩
  · exact .inl ⟨rfl, fun x hx => h.sol0 hx⟩
  · by_cases hf : f = 1
    · subst hf
      subst g2
      have e := hk l rfl
      refine .inr (.inl ⟨rfl, ?_, fun b hb => by rw [e b hb]; exact rng l b, l, g3, by rw [e l g3]; unfold kerV; rw [if_pos rfl], fun x hx b hb => by rw [e b hb]; exact h.sol1 hx b hb⟩)
      intro e9 he9
      have := h.ker g3 g4 e9 he9
      rw [sm_ext (h := fun b => A0 e9 b * kerV p A pv l b) r (fun b hb => by rw [e b hb])]
      exact this
    · obtain ⟨l2, a1, a2, a3⟩ := g6 (by omega)
      refine .inr (.inr ⟨by omega, l, l2, kerV p A pv l, kerV p A pv l2, g3, a1, h.ker g3 g4, h.ker a1 a3, ?_, ?_, ?_, ?_⟩)
      · unfold kerV; rw [if_pos rfl]
      · unfold kerV; rw [if_neg a2, if_pos a3]
      · unfold kerV; rw [if_neg (fun h9 => a2 h9.symm), if_pos g4]
      · unfold kerV; rw [if_pos rfl]
