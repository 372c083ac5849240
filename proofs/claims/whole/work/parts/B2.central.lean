/-! ===== central rows ===== -/
theorem sm_swap (f : Nat → Nat → Int) (m : Nat) : ∀ n, sm (fun i => sm (fun j => f i j) m) n = sm (fun j => sm (fun i => f i j) n) m := by
  intro n
  induction n with
  | zero => exact (sm_0 m (fun _ _ => rfl)).symm
  | succ n ih =>
    show sm (fun i => sm (fun j => f i j) m) n + sm (fun j => f n j) m = sm (fun j => sm (fun i => f i j) n + f n j) m
    rw [ih, sm_add]
theorem sm_mulr (f : Nat → Int) (u : Int) (n : Nat) : sm (fun k => f k * u) n = sm f n * u := by
  rw [sm_ext (h := fun k => u * f k) n (fun k _ => Int.mul_comm _ _), sm_mul, Int.mul_comm]
theorem em_0 {p x y : Int} (h : x % p = 0) : (x * y) % p = 0 := by rw [Int.mul_emod, h, Int.zero_mul, Int.zero_emod]
/-- a prime that divides a product -/
theorem pr_0 {p : Nat} (hp : isPr p) (h : p < 242) {x y : Int} (e : (x * y) % (p : Int) = 0) (hx : x % (p : Int) ≠ 0) : y % (p : Int) = 0 := by
  have p1 := hp.1
  have rx := em_rng (p := p) (by omega) x
  have k := inv_ok hp h (y := x % (p : Int)) ⟨by omega, rx.2⟩
  generalize hw : (x % (p : Int)) ^ (p - 2) = w at k
  have e1 : ((w * x) * y) % (p : Int) = 0 := by
    rw [Int.mul_assoc, Int.mul_emod, e, Int.mul_zero, Int.zero_emod]
  have e2 : (w * x) % (p : Int) = 1 % (p : Int) := by
    rw [Int.mul_comm, ← k]
    exact em_mul (em_id _ _).symm rfl
  rw [em_mul e2 rfl, Int.one_mul] at e1
  exact e1
def Cen (p r : Nat) (cp : Nat → Nat → Nat → Int) (v : Nat → Int) : Prop := v 0 = 1 ∧ (∀ a, a < r → 0 ≤ v a ∧ v a < (p : Int)) ∧ ∀ a b, a < r → b < r → (v a * v b) % (p : Int) = sm (fun k => cp a b k * v k) r % (p : Int)
def dl (i j : Nat) : Int := if i = j then 1 else 0
/-- as many central rows as classes, and what takes them apart -/
def SPEC (p r : Nat) (cp : Nat → Nat → Nat → Int) (om ev : Nat → Nat → Int) : Prop :=
  (∀ i, i < r → Cen p r cp (om i)) ∧ (∀ i j, i < r → j < r → sm (fun b => ev i b * om j b) r % (p : Int) = dl i j % (p : Int)) ∧ (∀ b c, b < r → c < r → sm (fun i => om i b * ev i c) r % (p : Int) = dl b c % (p : Int))
theorem sm_dl (f : Nat → Int) {u n : Nat} (hu : u < n) : sm (fun b => f b * dl b u) n = f u := by
  rw [sm_ext (h := fun b => if b = u then f u else 0) n (fun b _ => ?_), sm_del, if_pos hu]
  show f b * (if b = u then 1 else 0) = _
  by_cases h : b = u
  · rw [if_pos h, if_pos h, h, Int.mul_one]
  · rw [if_neg h, if_neg h, Int.mul_zero]
theorem sm_dl' (f : Nat → Int) {u n : Nat} (hu : u < n) : sm (fun b => f b * dl u b) n = f u := by
  rw [sm_ext (h := fun b => f b * dl b u) n (fun b _ => ?_), sm_dl f hu]
  unfold dl
  by_cases h : u = b
  · rw [if_pos h, if_pos h.symm]
  · rw [if_neg h, if_neg (fun h9 => h h9.symm)]
section SB2
variable {p r : Nat} {cp : Nat → Nat → Nat → Int} {om ev : Nat → Nat → Int}
/-- any row, told by what it is with the central ones -/
theorem SPEC.ex (h : SPEC p r cp om ev) (y : Nat → Int) {c : Nat} (hc : c < r) : y c % (p : Int) = sm (fun j => sm (fun b => y b * om j b) r * ev j c) r % (p : Int) := by
  have e1 : sm (fun j => sm (fun b => y b * om j b) r * ev j c) r = sm (fun b => y b * sm (fun j => om j b * ev j c) r) r := by
    rw [sm_ext (h := fun j => sm (fun b => y b * om j b * ev j c) r) r (fun j _ => (sm_mulr _ _ r).symm), sm_swap]
    refine sm_ext r (fun b _ => ?_)
    rw [← sm_mul]
    exact sm_ext r (fun j _ => Int.mul_assoc _ _ _)
  rw [e1, sm_em (h := fun b => y b * dl b c) r (fun b hb => em_mul rfl (h.2.2 b c hb hc)), sm_dl y hc]
theorem SPEC.zero (h : SPEC p r cp om ev) {y : Nat → Int} (hy : ∀ j, j < r → sm (fun b => y b * om j b) r % (p : Int) = 0) : ∀ c, c < r → y c % (p : Int) = 0 := fun c hc => by
  rw [h.ex y hc, sm_em (h := fun _ => 0) r (fun j hj => ?_), sm_0 r (fun _ _ => rfl), Int.zero_emod]
  rw [em_0 (hy j hj), Int.zero_emod]
/-- what a class makes of what takes apart -/
theorem SPEC.left (h : SPEC p r cp om ev) {i a : Nat} (hi : i < r) (ha : a < r) {c : Nat} (hc : c < r) : sm (fun b => ev i b * cp a b c) r % (p : Int) = (om i a * ev i c) % (p : Int) := by
  rw [h.ex (fun c => sm (fun b => ev i b * cp a b c) r) hc]
  have e1 : ∀ j, j < r → sm (fun c => sm (fun b => ev i b * cp a b c) r * om j c) r % (p : Int) = (om j a * dl i j) % (p : Int) := fun j hj => by
    have e2 : sm (fun c => sm (fun b => ev i b * cp a b c) r * om j c) r = sm (fun b => ev i b * sm (fun c => cp a b c * om j c) r) r := by
      rw [sm_ext (h := fun c => sm (fun b => ev i b * cp a b c * om j c) r) r (fun c _ => (sm_mulr _ _ r).symm), sm_swap]
      refine sm_ext r (fun b _ => ?_)
      rw [← sm_mul]
      exact sm_ext r (fun c _ => Int.mul_assoc _ _ _)
    rw [e2, sm_em (h := fun b => om j a * (ev i b * om j b)) r (fun b hb => ?_), sm_mul]
    · exact em_mul rfl (h.2.1 i j hi hj)
    · rw [em_mul (u := ev i b) (v := om j a * om j b) rfl ((h.1 j hj).2.2 a b ha hb).symm]
      congr 1
      rw [← Int.mul_assoc, ← Int.mul_assoc, Int.mul_comm (ev i b)]
  rw [sm_em (h := fun j => (om j a * ev j c) * dl i j) r (fun j hj => ?_), sm_dl' (fun j => om j a * ev j c) hi]
  rw [em_mul (e1 j hj) rfl]
  congr 1
  rw [Int.mul_assoc, Int.mul_assoc, Int.mul_comm (dl i j)]
/-- a central row is one of these -/
theorem SPEC.all (h : SPEC p r cp om ev) (hp : isPr p) (h242 : p < 242) (hr : 0 < r) {v : Nat → Int} (hv : Cen p r cp v) : ∃ i, i < r ∧ ∀ a, a < r → v a = om i a := by
  have p1 := hp.1
  by_cases hn : ∃ i, i < r ∧ sm (fun b => ev i b * v b) r % (p : Int) ≠ 0
  · obtain ⟨i, hi, hne⟩ := hn
    refine ⟨i, hi, fun a ha => ?_⟩
    have e1 : (sm (fun b => ev i b * v b) r * (v a - om i a)) % (p : Int) = 0 := by
      have e2 : sm (fun b => sm (fun b' => ev i b' * cp a b' b) r * v b) r % (p : Int) = (om i a * sm (fun b => ev i b * v b) r) % (p : Int) := by
        rw [sm_em (h := fun b => om i a * (ev i b * v b)) r (fun b hb => ?_), sm_mul]
        rw [em_mul (h.left hi ha hb) rfl, Int.mul_assoc]
      have e3 : sm (fun b => sm (fun b' => ev i b' * cp a b' b) r * v b) r % (p : Int) = (v a * sm (fun b => ev i b * v b) r) % (p : Int) := by
        have e4 : sm (fun b => sm (fun b' => ev i b' * cp a b' b) r * v b) r = sm (fun b' => ev i b' * sm (fun b => cp a b' b * v b) r) r := by
          rw [sm_ext (h := fun b => sm (fun b' => ev i b' * cp a b' b * v b) r) r (fun b _ => (sm_mulr _ _ r).symm), sm_swap]
          refine sm_ext r (fun b _ => ?_)
          rw [← sm_mul]
          exact sm_ext r (fun c _ => Int.mul_assoc _ _ _)
        rw [e4, sm_em (h := fun b => v a * (ev i b * v b)) r (fun b hb => ?_), sm_mul]
        rw [em_mul (u := ev i b) (v := v a * v b) rfl (hv.2.2 a b ha hb).symm]
        congr 1
        rw [← Int.mul_assoc, ← Int.mul_assoc, Int.mul_comm (ev i b)]
      rw [e2] at e3
      rw [Int.mul_sub, Int.sub_emod, Int.mul_comm _ (v a), Int.mul_comm _ (om i a), e3, Int.sub_self, Int.zero_emod]
    have e5 := pr_0 hp h242 e1 hne
    have r1 := hv.2.1 a ha
    have r2 := (h.1 i hi).2.1 a ha
    have e6 : v a % (p : Int) = om i a % (p : Int) := Int.emod_eq_emod_iff_emod_sub_eq_zero.mpr e5
    rwa [Int.emod_eq_of_lt r1.1 r1.2, Int.emod_eq_of_lt r2.1 r2.2] at e6
  · exfalso
    have z : ∀ i, i < r → sm (fun b => ev i b * v b) r % (p : Int) = 0 := fun i hi => Classical.byContradiction (fun h9 => hn ⟨i, hi, h9⟩)
    have e : v 0 % (p : Int) = sm (fun i => om i 0 * sm (fun b => ev i b * v b) r) r % (p : Int) := by
      have e1 : sm (fun i => om i 0 * sm (fun b => ev i b * v b) r) r = sm (fun b => sm (fun i => om i 0 * ev i b) r * v b) r := by
        rw [sm_ext (h := fun i => sm (fun b => om i 0 * ev i b * v b) r) r (fun i _ => ?_), sm_swap]
        · exact sm_ext r (fun b _ => sm_mulr _ _ r)
        · rw [← sm_mul]
          exact sm_ext r (fun b _ => (Int.mul_assoc _ _ _).symm)
      rw [e1, sm_em (h := fun b => v b * dl 0 b) r (fun b hb => ?_), sm_dl' v hr]
      rw [em_mul (h.2.2 0 b hr hb) rfl, Int.mul_comm]
    rw [sm_em (h := fun _ => 0) r (fun i hi => ?_), sm_0 r (fun _ _ => rfl), Int.zero_emod, hv.1, Int.emod_eq_of_lt (by decide) (by omega)] at e
    · omega
    · rw [Int.mul_emod, z i hi, Int.mul_zero, Int.zero_emod]
/-- the mixed sums -/
def mxS (r : Nat) (om : Nat → Nat → Int) (mx : Nat → Int) (i : Nat) : Int := sm (fun a => mx a * om i a) r
/-- rows of the sheet: at c, b -/
def ShA (p r : Nat) (cp : Nat → Nat → Nat → Int) (mx : Nat → Int) (n : Int) (A : Nat → Nat → Int) : Prop := ∀ c b, c < r → b < r → A c b % (p : Int) = (sm (fun a => mx a * cp a b c) r - n * dl b c) % (p : Int)
theorem SPEC.shl (h : SPEC p r cp om ev) {mx : Nat → Int} {n : Int} {A : Nat → Nat → Int} (hA : ShA p r cp mx n A) {x : Nat → Int} (hx : Slv (p : Int) r A x) {j : Nat} (hj : j < r) : ((mxS r om mx j - n) * sm (fun b => x b * om j b) r) % (p : Int) = 0 := by
  have e1 : sm (fun c => om j c * sm (fun b => A c b * x b) r) r % (p : Int) = 0 := by
    rw [sm_em (h := fun _ => 0) r (fun c hc => ?_), sm_0 r (fun _ _ => rfl), Int.zero_emod]
    rw [Int.mul_emod, hx c hc, Int.mul_zero, Int.zero_emod]
  have e2 : sm (fun c => om j c * sm (fun b => A c b * x b) r) r = sm (fun b => x b * sm (fun c => A c b * om j c) r) r := by
    rw [sm_ext (h := fun c => sm (fun b => x b * (A c b * om j c)) r) r (fun c _ => ?_), sm_swap]
    · exact sm_ext r (fun b _ => sm_mul _ _ r)
    · rw [← sm_mul]
      refine sm_ext r (fun b _ => ?_)
      rw [Int.mul_comm (om j c), Int.mul_comm (A c b) (x b), Int.mul_assoc]
  have e3 : ∀ b, b < r → sm (fun c => A c b * om j c) r % (p : Int) = ((mxS r om mx j - n) * om j b) % (p : Int) := fun b hb => by
    rw [sm_em (h := fun c => sm (fun a => mx a * cp a b c) r * om j c + (-n) * (om j c * dl b c)) r (fun c hc => ?_), sm_add, sm_mul, sm_dl' _ hb]
    · have e4 : sm (fun c => sm (fun a => mx a * cp a b c) r * om j c) r = sm (fun a => mx a * sm (fun c => cp a b c * om j c) r) r := by
        rw [sm_ext (h := fun c => sm (fun a => mx a * cp a b c * om j c) r) r (fun c _ => (sm_mulr _ _ r).symm), sm_swap]
        refine sm_ext r (fun a _ => ?_)
        rw [← sm_mul]
        exact sm_ext r (fun c _ => Int.mul_assoc _ _ _)
      have e5 : sm (fun a => mx a * sm (fun c => cp a b c * om j c) r) r % (p : Int) = (mxS r om mx j * om j b) % (p : Int) := by
        unfold mxS
        rw [← sm_mulr]
        refine sm_em r (fun a ha => ?_)
        rw [em_mul (u := mx a) (v := om j a * om j b) rfl ((h.1 j hj).2.2 a b ha hb).symm, Int.mul_assoc]
      rw [e4, Int.add_emod, e5, ← Int.add_emod, Int.sub_mul, Int.neg_mul]
      rfl
    · rw [em_mul (hA c b hc hb) rfl]
      congr 1
      rw [Int.sub_mul, Int.neg_mul, Int.mul_assoc, Int.mul_comm (dl b c)]
      rfl
  rw [e2] at e1
  rw [← e1, ← sm_mul]
  refine sm_em r (fun b hb => ?_)
  rw [em_mul (u := x b) rfl (e3 b hb)]
  congr 1
  rw [← Int.mul_assoc, ← Int.mul_assoc, Int.mul_comm (x b), Int.mul_assoc]
theorem SPEC.shr (h : SPEC p r cp om ev) {mx : Nat → Int} {n : Int} {A : Nat → Nat → Int} (hA : ShA p r cp mx n A) {i : Nat} (hi : i < r) (hn : mxS r om mx i % (p : Int) = n % (p : Int)) : Slv (p : Int) r A (ev i) := by
  intro c hc
  rw [sm_em (h := fun b => sm (fun a => mx a * (ev i b * cp a b c)) r + (-n) * (ev i b * dl b c)) r (fun b hb => ?_), sm_add, sm_mul, sm_dl _ hc, sm_swap]
  · have e1 : sm (fun a => sm (fun b => mx a * (ev i b * cp a b c)) r) r % (p : Int) = (mxS r om mx i * ev i c) % (p : Int) := by
      unfold mxS
      rw [← sm_mulr]
      refine sm_em r (fun a ha => ?_)
      rw [sm_mul, em_mul (u := mx a) rfl (h.left hi ha hc), Int.mul_assoc]
    rw [Int.add_emod, e1, em_mul hn rfl, ← Int.add_emod, Int.neg_mul]
    rw [show n * ev i c + -(n * ev i c) = 0 by omega, Int.zero_emod]
  · rw [em_mul (hA c b hc hb) rfl]
    congr 1
    rw [Int.sub_mul, Int.neg_mul, ← sm_mulr, Int.mul_assoc, Int.mul_comm (dl b c), sm_ext (h := fun a => mx a * (ev i b * cp a b c)) r (fun a _ => ?_)]
    · rfl
    · rw [Int.mul_assoc, Int.mul_comm (ev i b)]
/-- how many rows have this number: none, one, more -/
theorem SPEC.fo (h : SPEC p r cp om ev) (hp : isPr p) (h242 : p < 242) {mx : Nat → Int} {n : Int} {A : Nat → Nat → Int} (hA : ShA p r cp mx n A) {f : Nat} {ker : Nat → Int} (hf : FO p r A f ker) :
    (f = 0 ∧ ∀ i, i < r → mxS r om mx i % (p : Int) ≠ n % (p : Int)) ∨
    (f = 1 ∧ ∃ i u, i < r ∧ mxS r om mx i % (p : Int) = n % (p : Int) ∧ (∀ j, j < r → mxS r om mx j % (p : Int) = n % (p : Int) → j = i) ∧ (∀ b, b < r → 0 ≤ ker b ∧ ker b < (p : Int) ∧ ker b % (p : Int) = (u * ev i b) % (p : Int)) ∧ ∃ l, l < r ∧ ker l = 1) ∨
    (2 ≤ f ∧ ∃ i j, i < r ∧ j < r ∧ i ≠ j ∧ mxS r om mx i % (p : Int) = n % (p : Int) ∧ mxS r om mx j % (p : Int) = n % (p : Int)) := by
  have p1 := hp.1
  have one : (1 : Int) % (p : Int) = 1 := Int.emod_eq_of_lt (by decide) (by omega)
  -- a row other than with this number is not in a solution
  have off : ∀ x, Slv (p : Int) r A x → ∀ j, j < r → mxS r om mx j % (p : Int) ≠ n % (p : Int) → sm (fun b => x b * om j b) r % (p : Int) = 0 := fun x hx j hj hne =>
    pr_0 hp h242 (h.shl hA hx hj) (fun h9 => hne (Int.emod_eq_emod_iff_emod_sub_eq_zero.mpr h9))
  have evn : ∀ i, i < r → ¬ ∀ b, b < r → ev i b % (p : Int) = 0 := fun i hi hz => by
    have e := h.2.1 i i hi hi
    rw [sm_em (h := fun _ => 0) r (fun b hb => by rw [em_0 (hz b hb), Int.zero_emod]), sm_0 r (fun _ _ => rfl), Int.zero_emod] at e
    unfold dl at e
    rw [if_pos rfl, one] at e
    omega
  -- with one row alone
  have line : ∀ i, i < r → (∀ j, j < r → mxS r om mx j % (p : Int) = n % (p : Int) → j = i) → ∀ x, Slv (p : Int) r A x → ∀ b, b < r → x b % (p : Int) = (sm (fun b => x b * om i b) r * ev i b) % (p : Int) := fun i hi hun x hx b hb => by
    rw [h.ex x hb, sm_one9 hi (fun j hj hji => ?_)]
    exact em_0 (off x hx j hj (fun h9 => hji (hun j hj h9)))
  by_cases h0 : ∃ i, i < r ∧ mxS r om mx i % (p : Int) = n % (p : Int)
  · obtain ⟨i, hi, hin⟩ := h0
    have si := h.shr hA hi hin
    by_cases h1 : ∀ j, j < r → mxS r om mx j % (p : Int) = n % (p : Int) → j = i
    · have ln := line i hi h1
      rcases hf with ⟨_, f2⟩ | ⟨f1, f2, f3, l, f4, f5, f6⟩ | ⟨_, l1, l2, y1, y2, f1, f2, f3, f4, f5, f6, f7, f8⟩
      · exact absurd (f2 _ si) (evn i hi)
      · exact .inr (.inl ⟨f1, i, sm (fun b => ker b * om i b) r, hi, hin, h1, fun b hb => ⟨(f3 b hb).1, (f3 b hb).2, ln ker f2 b hb⟩, l, f4, f5⟩)
      · exfalso
        have a1 := ln y1 f3 l1 f1
        have a2 := ln y1 f3 l2 f2
        have a3 := ln y2 f4 l2 f2
        rw [f5, one] at a1
        rw [f6, Int.zero_emod] at a2
        rw [f8, one] at a3
        have c1 : sm (fun b => y1 b * om i b) r % (p : Int) ≠ 0 := fun h9 => by rw [em_0 h9] at a1; omega
        have c2 := pr_0 hp h242 a2.symm c1
        rw [Int.mul_emod, c2, Int.mul_zero, Int.zero_emod] at a3
        omega
    · have h2 : ∃ j, j < r ∧ mxS r om mx j % (p : Int) = n % (p : Int) ∧ j ≠ i := Classical.byContradiction (fun h9 => h1 (fun j hj e => Classical.byContradiction (fun h8 => h9 ⟨j, hj, e, h8⟩)))
      obtain ⟨j, hj, hjn, hji⟩ := h2
      have sj := h.shr hA hj hjn
      rcases hf with ⟨_, f2⟩ | ⟨f1, f2, f3, l, f4, f5, f6⟩ | ⟨f1, _⟩
      · exact absurd (f2 _ si) (evn i hi)
      · exfalso
        have a : ∀ i', i' < r → Slv (p : Int) r A (ev i') → ∀ j', j' < r → (ev i' l * sm (fun b => ker b * om j' b) r) % (p : Int) = dl i' j' % (p : Int) := fun i' hi' hs j' hj' => by
          rw [← h.2.1 i' j' hi' hj', ← sm_mul]
          refine sm_em r (fun b hb => ?_)
          rw [em_mul (f6 _ hs b hb) rfl, Int.mul_assoc]
        have a1 := a i hi si i hi
        have a2 := a j hj sj i hi
        unfold dl at a1 a2
        rw [if_pos rfl, one] at a1
        rw [if_neg hji, Int.zero_emod] at a2
        have c1 : sm (fun b => ker b * om i b) r % (p : Int) ≠ 0 := fun h9 => by rw [Int.mul_comm, em_0 h9] at a1; omega
        rw [Int.mul_comm] at a2
        have c2 := pr_0 hp h242 a2 c1
        refine evn j hj (fun b hb => ?_)
        rw [f6 _ sj b hb]
        exact em_0 c2
      · exact .inr (.inr ⟨f1, i, j, hi, hj, fun h9 => hji h9.symm, hin, hjn⟩)
  · have hno : ∀ i, i < r → mxS r om mx i % (p : Int) ≠ n % (p : Int) := fun i hi h9 => h0 ⟨i, hi, h9⟩
    have zz : ∀ x, Slv (p : Int) r A x → ∀ b, b < r → x b % (p : Int) = 0 := fun x hx => h.zero (fun j hj => off x hx j hj (hno j hj))
    rcases hf with ⟨f1, _⟩ | ⟨f1, f2, f3, l, f4, f5, f6⟩ | ⟨_, l1, l2, y1, y2, f1, f2, f3, f4, f5, f6, f7, f8⟩
    · exact .inl ⟨f1, hno⟩
    · exfalso
      have := zz ker f2 l f4
      rw [f5, one] at this
      omega
    · exfalso
      have := zz y1 f3 l1 f1
      rw [f5, one] at this
      omega
end SB2
