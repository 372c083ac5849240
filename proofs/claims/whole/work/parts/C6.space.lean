/-! ===== spaces of central rows ===== -/
/-- n rows, each with 1 at its first place, where the others have 0 -/
def ECH (p r n : Nat) (A : Nat → Nat → Int) (col : Nat → Nat) : Prop :=
  (∀ s j, s < n → j < r → 0 ≤ A s j ∧ A s j < (p : Int)) ∧ ∀ s, s < n → col s < r ∧ A s (col s) = 1 ∧ (∀ j, j < col s → A s j = 0) ∧ ∀ e, e < n → e ≠ s → A e (col s) = 0
/-- they and these central rows send the same to 0 -/
def ANB (p r n : Nat) (A : Nat → Nat → Int) (B : Nat → Prop) (om : Nat → Nat → Int) : Prop := ∀ y, SlR (p : Int) n r A y ↔ ∀ i, i < r → B i → dt r (om i) y % (p : Int) = 0
/-- what is sent to 0 wherever they all are -/
def INA (p r n : Nat) (A : Nat → Nat → Int) (x : Nat → Int) : Prop := ∀ y, SlR (p : Int) n r A y → dt r x y % (p : Int) = 0
def INB (p r : Nat) (ev : Nat → Nat → Int) (B : Nat → Prop) (x : Nat → Int) : Prop := ∀ j, j < r → ¬ B j → dt r (ev j) x % (p : Int) = 0
section SC6
variable {p r n : Nat} {cp : Nat → Nat → Nat → Int} {om ev A : Nat → Nat → Int} {B : Nat → Prop} {col : Nat → Nat}
theorem ECH.ex (h : ECH p r n A col) {x : Nat → Int} (hx : INA p r n A x) {j : Nat} (hj : j < r) : x j % (p : Int) = sm (fun s => x (col s) * A s j) n % (p : Int) := by
  let y : Nat → Int := fun b => dl b j + (-1) * sm (fun s => A s j * dl b (col s)) n
  have dy : ∀ z : Nat → Int, dt r z y = z j - sm (fun s => z (col s) * A s j) n := fun z => by
    have e1 : dt r z y = sm (fun b => z b * dl b j + (-1) * sm (fun s => z b * (A s j * dl b (col s))) n) r := by
      refine sm_ext r (fun b _ => ?_)
      show z b * (dl b j + (-1) * sm (fun s => A s j * dl b (col s)) n) = _
      rw [sm_mul, Int.mul_add]
      congr 1
      rw [← Int.mul_assoc, Int.mul_comm (z b), Int.mul_assoc]
    rw [e1, sm_add, sm_dl z hj, sm_mul, sm_swap]
    rw [sm_ext (f := fun s => sm (fun b => z b * (A s j * dl b (col s))) r) (h := fun s => z (col s) * A s j) n (fun s hs => ?_)]
    · omega
    · rw [sm_ext (h := fun b => (z b * A s j) * dl b (col s)) r (fun b _ => (Int.mul_assoc _ _ _).symm), sm_dl (fun b => z b * A s j) (h.2 s hs).1]
  have hy : SlR (p : Int) n r A y := fun e he => by
    rw [dy, sm_ext (h := fun s => if s = e then A e j else 0) n (fun s hs => ?_), sm_del, if_pos he, Int.sub_self, Int.zero_emod]
    by_cases hse : s = e
    · rw [if_pos hse, hse, (h.2 e he).2.1, Int.one_mul]
    · rw [if_neg hse, (h.2 s hs).2.2.2 e he (fun h9 => hse h9.symm), Int.zero_mul]
  have := hx y hy
  rw [dy] at this
  exact Int.emod_eq_emod_iff_emod_sub_eq_zero.mpr this
theorem dt_comm (w : Nat) (x y : Nat → Int) : dt w x y = dt w y x := sm_ext w (fun j _ => Int.mul_comm _ _)
/-- any row, told by what the others take of it -/
theorem SPEC.ex2 (h : SPEC p r cp om ev) (x : Nat → Int) {a : Nat} (ha : a < r) : x a % (p : Int) = sm (fun j => dt r (ev j) x * om j a) r % (p : Int) := by
  have e1 : sm (fun j => dt r (ev j) x * om j a) r = sm (fun b => sm (fun j => om j a * ev j b) r * x b) r := by
    rw [sm_ext (h := fun j => sm (fun b => om j a * ev j b * x b) r) r (fun j _ => ?_), sm_swap]
    · exact sm_ext r (fun b _ => sm_mulr _ _ r)
    · unfold dt
      rw [← sm_mulr]
      refine sm_ext r (fun b _ => ?_)
      rw [Int.mul_comm _ (om j a), Int.mul_assoc]
  rw [e1, sm_em (h := fun b => x b * dl a b) r (fun b hb => ?_), sm_dl' x ha]
  rw [em_mul (h.2.2 a b ha hb) rfl, Int.mul_comm]
theorem SPEC.inb (h : SPEC p r cp om ev) {x : Nat → Int} (hx : INB p r ev B x) {y : Nat → Int} (hy : ∀ i, i < r → B i → dt r (om i) y % (p : Int) = 0) : dt r x y % (p : Int) = 0 := by
  have e1 : dt r x y % (p : Int) = sm (fun b => sm (fun j => dt r (ev j) x * om j b) r * y b) r % (p : Int) := sm_em r (fun b hb => em_mul (h.ex2 x hb) rfl)
  have e2 : sm (fun b => sm (fun j => dt r (ev j) x * om j b) r * y b) r = sm (fun j => dt r (ev j) x * dt r (om j) y) r := by
    rw [sm_ext (h := fun b => sm (fun j => dt r (ev j) x * om j b * y b) r) r (fun b _ => (sm_mulr _ _ r).symm), sm_swap]
    refine sm_ext r (fun j _ => ?_)
    show _ = dt r (ev j) x * sm (fun b => om j b * y b) r
    rw [← sm_mul]
    exact sm_ext r (fun b _ => Int.mul_assoc _ _ _)
  rw [e1, e2, sm_em (h := fun _ => 0) r (fun j hj => ?_), sm_0 r (fun _ _ => rfl), Int.zero_emod]
  by_cases hB : B j
  · rw [Int.mul_emod, hy j hj hB, Int.mul_zero]
  · rw [em_0 (hx j hj hB), Int.zero_emod]
theorem ANB.ina (h : ANB p r n A B om) (hS : SPEC p r cp om ev) {x : Nat → Int} (hx : INB p r ev B x) : INA p r n A x := fun y hy => hS.inb hx ((h y).mp hy)
theorem ANB.cen (h : ANB p r n A B om) {i : Nat} (hi : i < r) (hB : B i) : INA p r n A (om i) := fun y hy => (h y).mp hy i hi hB
/-- the rows themselves are in the space -/
theorem ANB.inb (h : ANB p r n A B om) (hS : SPEC p r cp om ev) {s : Nat} (hs : s < n) : INB p r ev B (A s) := fun j hj hB => by
  have := (h (ev j)).mpr (fun i hi hBi => by
    rw [dt_comm]
    show sm (fun b => ev j b * om i b) r % (p : Int) = 0
    rw [hS.2.1 j i hj hi]
    unfold dl
    rw [if_neg (fun h9 => hB (by rw [h9]; exact hBi)), Int.zero_emod])
  rw [dt_comm]; exact this s hs
/-- what class a makes of a row -/
def imR (r : Nat) (cp : Nat → Nat → Nat → Int) (a : Nat) (x : Nat → Int) (b : Nat) : Int := sm (fun k => cp a b k * x k) r
theorem SPEC.im (h : SPEC p r cp om ev) {a j : Nat} (ha : a < r) (hj : j < r) (x : Nat → Int) : dt r (ev j) (imR r cp a x) % (p : Int) = (om j a * dt r (ev j) x) % (p : Int) := by
  have e1 : dt r (ev j) (imR r cp a x) = sm (fun k => sm (fun b => ev j b * cp a b k) r * x k) r := by
    show sm (fun b => ev j b * sm (fun k => cp a b k * x k) r) r = _
    rw [sm_ext (h := fun b => sm (fun k => ev j b * cp a b k * x k) r) r (fun b _ => ?_), sm_swap]
    · exact sm_ext r (fun k _ => sm_mulr _ _ r)
    · rw [← sm_mul]
      exact sm_ext r (fun k _ => (Int.mul_assoc _ _ _).symm)
  rw [e1, ← dt_mul]
  refine sm_em r (fun k hk => ?_)
  rw [em_mul (h.left hj ha hk) rfl]
theorem INB.im (h : SPEC p r cp om ev) {a : Nat} (ha : a < r) {x : Nat → Int} (hx : INB p r ev B x) : INB p r ev B (imR r cp a x) := fun j hj hB => by
  rw [h.im ha hj, Int.mul_emod, hx j hj hB, Int.mul_zero, Int.zero_emod]
/-- the table of a space by a class -/
def tbR (r : Nat) (cp : Nat → Nat → Nat → Int) (a : Nat) (A : Nat → Nat → Int) (col : Nat → Nat) (t s : Nat) : Int := imR r cp a (A t) (col s)
theorem tb_row (hE : ECH p r n A col) (hN : ANB p r n A B om) (hS : SPEC p r cp om ev) {a t j : Nat} (ha : a < r) (ht : t < n) (hj : j < r) : imR r cp a (A t) j % (p : Int) = sm (fun s => tbR r cp a A col t s * A s j) n % (p : Int) :=
  hE.ex (hN.ina hS ((hN.inb hS ht).im hS ha)) hj
/-- each central row is stretched by the table -/
theorem tb_eig (hE : ECH p r n A col) (hN : ANB p r n A B om) (hS : SPEC p r cp om ev) {a i s : Nat} (ha : a < r) (hi : i < r) (hB : B i) (hs : s < n) : sm (fun t => om i (col t) * tbR r cp a A col t s) n % (p : Int) = (om i a * om i (col s)) % (p : Int) := by
  have cs := (hE.2 s hs).1
  have e1 : sm (fun t => om i (col t) * tbR r cp a A col t s) n = sm (fun k => cp a (col s) k * sm (fun t => om i (col t) * A t k) n) r := by
    show sm (fun t => om i (col t) * sm (fun k => cp a (col s) k * A t k) r) n = _
    rw [sm_ext (h := fun t => sm (fun k => cp a (col s) k * (om i (col t) * A t k)) r) n (fun t _ => ?_), sm_swap]
    · exact sm_ext r (fun k _ => sm_mul _ _ n)
    · rw [← sm_mul]
      refine sm_ext r (fun k _ => ?_)
      rw [← Int.mul_assoc, ← Int.mul_assoc, Int.mul_comm (om i (col t))]
  rw [e1, (hS.1 i hi).2.2 a (col s) ha cs]
  exact sm_em r (fun k hk => em_mul rfl (hE.ex (hN.cen hi hB) hk).symm)
/-- what the rows take of the central ones -/
def hR (r : Nat) (ev A : Nat → Nat → Int) (t i : Nat) : Int := dt r (ev i) (A t)
theorem hR_dl (hE : ECH p r n A col) (hS : SPEC p r cp om ev) {s t : Nat} (hs : s < n) (ht : t < n) : sm (fun i => hR r ev A s i * om i (col t)) r % (p : Int) = dl s t % (p : Int) := by
  show sm (fun i => dt r (ev i) (A s) * om i (col t)) r % (p : Int) = _
  rw [← hS.ex2 (A s) (hE.2 t ht).1]
  unfold dl
  by_cases h : s = t
  · rw [if_pos h, h, (hE.2 t ht).2.1]
  · rw [if_neg h, (hE.2 t ht).2.2.2 s hs h]
theorem hR_1 (hE : ECH p r n A col) (hN : ANB p r n A B om) (hS : SPEC p r cp om ev) {i : Nat} (hi : i < r) (hB : B i) : sm (fun t => hR r ev A t i * om i (col t)) n % (p : Int) = 1 % (p : Int) := by
  have e1 : sm (fun t => hR r ev A t i * om i (col t)) n = sm (fun b => ev i b * sm (fun t => om i (col t) * A t b) n) r := by
    rw [sm_ext (h := fun t => sm (fun b => ev i b * (om i (col t) * A t b)) r) n (fun t _ => ?_), sm_swap]
    · exact sm_ext r (fun b _ => sm_mul _ _ n)
    · show sm (fun b => ev i b * A t b) r * om i (col t) = _
      rw [← sm_mulr]
      refine sm_ext r (fun b _ => ?_)
      rw [Int.mul_assoc, Int.mul_comm (A t b)]
  have e2 := hS.2.1 i i hi hi
  unfold dl at e2
  rw [if_pos rfl] at e2
  rw [e1, ← e2]
  exact sm_em r (fun b hb => em_mul rfl (hE.ex (hN.cen hi hB) hb).symm)
/-- counting: a list of those that have a property -/
theorem cn_list {P : Nat → Prop} : ∀ n, ∃ e : Nat → Nat, (∀ i, i < cn P n → e i < n ∧ P (e i)) ∧ (∀ i j, i < cn P n → j < cn P n → e i = e j → i = j) ∧ ∀ k, k < n → P k → ∃ i, i < cn P n ∧ e i = k := by
  intro n
  induction n with
  | zero => exact ⟨fun i => i, fun i hi => absurd hi (by show ¬ i < 0; omega), fun i j hi => absurd hi (by show ¬ i < 0; omega), fun k hk => absurd hk (by omega)⟩
  | succ n ih =>
    obtain ⟨e, h1, h2, h3⟩ := ih
    by_cases hP : P n
    · have hc : cn P (n + 1) = cn P n + 1 := by rw [cn_s, if_pos hP]
      rw [hc]
      refine ⟨fun i => if i = cn P n then n else e i, fun i hi => ?_, fun i j hi hj he => ?_, fun k hk hk2 => ?_⟩
      · by_cases h : i = cn P n
        · show (if i = cn P n then n else e i) < n + 1 ∧ P (if i = cn P n then n else e i)
          rw [if_pos h]; exact ⟨by omega, hP⟩
        · show (if i = cn P n then n else e i) < n + 1 ∧ P (if i = cn P n then n else e i)
          rw [if_neg h]
          have := h1 i (by omega)
          exact ⟨by omega, this.2⟩
      · have he' : (if i = cn P n then n else e i) = (if j = cn P n then n else e j) := he
        by_cases h : i = cn P n
        · by_cases h' : j = cn P n
          · omega
          · rw [if_pos h, if_neg h'] at he'
            have := h1 j (by omega); omega
        · by_cases h' : j = cn P n
          · rw [if_neg h, if_pos h'] at he'
            have := h1 i (by omega); omega
          · rw [if_neg h, if_neg h'] at he'
            exact h2 i j (by omega) (by omega) he'
      · by_cases hkn : k = n
        · exact ⟨cn P n, by omega, by show (if cn P n = cn P n then n else _) = k; rw [if_pos rfl, hkn]⟩
        · obtain ⟨i, hi, e9⟩ := h3 k (by omega) hk2
          exact ⟨i, by omega, by show (if i = cn P n then n else e i) = k; rw [if_neg (by omega)]; exact e9⟩
    · have hc : cn P (n + 1) = cn P n := by rw [cn_s, if_neg hP]; rfl
      rw [hc]
      refine ⟨e, fun i hi => ⟨by have := (h1 i hi).1; omega, (h1 i hi).2⟩, h2, fun k hk hk2 => h3 k ?_ hk2⟩
      by_cases hkn : k = n
      · rw [hkn] at hk2; exact absurd hk2 hP
      · omega
/-- no more rows than central ones, if none comes of the others -/
theorem dim_le (hp : isPr p) (h242 : p < 242) (hS : SPEC p r cp om ev) {q : Nat} {X : Nat → Nat → Int} (hI : IND (p : Int) q r X) (hX : ∀ s, s < q → INB p r ev B (X s)) : q ≤ cn B r := by
  apply Nat.not_lt.mp
  intro hlt
  obtain ⟨e, h1, h2, h3⟩ := cn_list (P := B) r
  obtain ⟨d, ⟨t, ht, hd⟩, hz⟩ := under hp h242 (cn B r) q (fun i s => dt r (ev (e i)) (X s)) hlt
  refine hd (hI d (fun j hj => ?_) t ht)
  have ev0 : ∀ i, i < r → dt r (ev i) (fun b => sm (fun s => d s * X s b) q) % (p : Int) = 0 := fun i hi => by
    have e1 : dt r (ev i) (fun b => sm (fun s => d s * X s b) q) = sm (fun s => dt r (ev i) (X s) * d s) q := by
      show sm (fun b => ev i b * sm (fun s => d s * X s b) q) r = _
      rw [sm_ext (h := fun b => sm (fun s => ev i b * X s b * d s) q) r (fun b _ => ?_), sm_swap]
      · exact sm_ext q (fun s _ => sm_mulr _ _ r)
      · rw [← sm_mul]
        refine sm_ext q (fun s _ => ?_)
        rw [Int.mul_comm (d s), Int.mul_assoc]
    rw [e1]
    by_cases hB : B i
    · obtain ⟨k, hk, ek⟩ := h3 i hi hB
      have := hz k hk
      rw [ek] at this
      exact this
    · rw [sm_em (h := fun _ => 0) q (fun s hs => by rw [em_0 (hX s hs i hi hB), Int.zero_emod]), sm_0 q (fun _ _ => rfl), Int.zero_emod]
  rw [hS.ex2 (fun b => sm (fun s => d s * X s b) q) hj, sm_em (h := fun _ => 0) r (fun i hi => by rw [em_0 (ev0 i hi), Int.zero_emod]), sm_0 r (fun _ _ => rfl), Int.zero_emod]
/-- no fewer, if each central one comes of them -/
theorem dim_ge (hp : isPr p) (h242 : p < 242) (hS : SPEC p r cp om ev) (hE : ECH p r n A col) (hN : ANB p r n A B om) : cn B r ≤ n := by
  have p1 := hp.1
  apply Nat.not_lt.mp
  intro hlt
  obtain ⟨e, h1, h2, h3⟩ := cn_list (P := B) r
  obtain ⟨d, ⟨t, ht, hd⟩, hz⟩ := under hp h242 n (cn B r) (fun s i => om (e i) (col s)) hlt
  apply hd
  -- the mixture is 0 everywhere
  have z : ∀ j, j < r → sm (fun i => d i * om (e i) j) (cn B r) % (p : Int) = 0 := fun j hj => by
    rw [sm_em (h := fun i => d i * sm (fun s => om (e i) (col s) * A s j) n) (cn B r) (fun i hi => em_mul rfl (hE.ex (hN.cen (h1 i hi).1 (h1 i hi).2) hj))]
    rw [sm_ext (h := fun i => sm (fun s => A s j * (om (e i) (col s) * d i)) n) (cn B r) (fun i _ => ?_), sm_swap, sm_em (h := fun _ => 0) n (fun s hs => ?_), sm_0 n (fun _ _ => rfl), Int.zero_emod]
    · rw [sm_mul, Int.mul_emod, hz s hs, Int.mul_zero]
    · rw [← sm_mul]
      refine sm_ext n (fun s _ => ?_)
      rw [← Int.mul_assoc, Int.mul_comm]
      congr 1
      exact Int.mul_comm _ _
  have e1 : sm (fun i => d i * dl (e t) (e i)) (cn B r) % (p : Int) = 0 := by
    rw [sm_em (h := fun i => d i * sm (fun b => ev (e t) b * om (e i) b) r) (cn B r) (fun i hi => em_mul rfl (hS.2.1 (e t) (e i) (h1 t ht).1 (h1 i hi).1).symm)]
    rw [sm_ext (h := fun i => sm (fun b => ev (e t) b * (d i * om (e i) b)) r) (cn B r) (fun i _ => ?_), sm_swap, sm_em (h := fun _ => 0) r (fun b hb => ?_), sm_0 r (fun _ _ => rfl), Int.zero_emod]
    · rw [sm_mul, Int.mul_emod, z b hb, Int.mul_zero]
    · rw [← sm_mul]
      refine sm_ext r (fun b _ => ?_)
      rw [← Int.mul_assoc, ← Int.mul_assoc, Int.mul_comm (d i)]
  rw [sm_one9 ht (fun i hi hit => ?_)] at e1
  · have : dl (e t) (e t) = 1 := if_pos rfl
    rw [this, Int.mul_one] at e1
    exact e1
  · have : dl (e t) (e i) = 0 := if_neg (fun h9 => hit (h2 t i ht hi h9).symm)
    rw [this, Int.mul_zero, Int.zero_emod]
end SC6
