/-! ===== the equation that a table's stretches solve ===== -/
noncomputable def bI (B : Nat → Prop) (i : Nat) : Int := @ite _ (B i) (Classical.propDecidable _) 1 0
theorem bI_1 {B : Nat → Prop} {i : Nat} (h : B i) : bI B i = 1 := if_pos h
theorem bI_0 {B : Nat → Prop} {i : Nat} (h : ¬ B i) : bI B i = 0 := if_neg h
theorem bI_sm (B : Nat → Prop) : ∀ n, sm (bI B) n = (cn B n : Int) := by
  intro n
  induction n with
  | zero => rfl
  | succ n ih =>
    show sm (bI B) n + bI B n = _
    rw [ih, cn_s]
    by_cases h : B n
    · rw [bI_1 h, if_pos h]; rfl
    · rw [bI_0 h, if_neg h]; omega
/-- what comes of factors x less these -/
noncomputable def elm (B : Nat → Prop) (l : Nat → Int) : Nat → Nat → Int
  | 0, k => if k = 0 then 1 else 0
  | m + 1, k => elm B l m k - bI B m * l m * (if k = 0 then 0 else elm B l m (k - 1))
def syn (a : Nat → Int) (x : Int) : Nat → Int
  | 0 => a 0
  | k + 1 => x * syn a x k + a (k + 1)
theorem elm_0 (B : Nat → Prop) (l : Nat → Int) : ∀ m, elm B l m 0 = 1 := by
  intro m
  induction m with
  | zero => rfl
  | succ m ih =>
    show elm B l m 0 - bI B m * l m * (if 0 = 0 then 0 else _) = 1
    rw [if_pos rfl, Int.mul_zero, ih]; rfl
theorem elm_s (B : Nat → Prop) (l : Nat → Int) (m k : Nat) : elm B l (m + 1) (k + 1) = elm B l m (k + 1) - bI B m * l m * elm B l m k := by
  show elm B l m (k + 1) - bI B m * l m * (if k + 1 = 0 then 0 else elm B l m (k + 1 - 1)) = _
  rw [if_neg (by omega)]; rfl
theorem syn_s (B : Nat → Prop) (l : Nat → Int) (m : Nat) (x : Int) : ∀ k, syn (elm B l (m + 1)) x (k + 1) = syn (elm B l m) x (k + 1) - bI B m * l m * syn (elm B l m) x k := by
  intro k
  induction k with
  | zero =>
    show x * elm B l (m + 1) 0 + elm B l (m + 1) 1 = x * elm B l m 0 + elm B l m 1 - bI B m * l m * elm B l m 0
    have e1 : elm B l (m + 1) 1 = elm B l m 1 - bI B m * l m * elm B l m 0 := elm_s B l m 0
    rw [e1, elm_0, elm_0]; omega
  | succ k ih =>
    show x * syn (elm B l (m + 1)) x (k + 1) + elm B l (m + 1) (k + 2) = (x * syn (elm B l m) x (k + 1) + elm B l m (k + 2)) - bI B m * l m * (x * syn (elm B l m) x k + elm B l m (k + 1))
    rw [ih, elm_s]
    generalize syn (elm B l m) x (k + 1) = s1
    generalize syn (elm B l m) x k = s0
    generalize elm B l m (k + 2) = a2
    generalize elm B l m (k + 1) = a1
    generalize bI B m * l m = u
    grind
theorem syn_l (B : Nat → Prop) (l : Nat → Int) (m : Nat) (h : B m) (k : Nat) : syn (elm B l (m + 1)) (l m) (k + 1) = elm B l m (k + 1) := by
  rw [syn_s, bI_1 h]
  show l m * syn (elm B l m) (l m) k + elm B l m (k + 1) - 1 * l m * syn (elm B l m) (l m) k = _
  rw [Int.one_mul]; omega
/-- Newton's: sums of what is left by each -/
theorem newton (B : Nat → Prop) (l : Nat → Int) : ∀ m k, sm (fun i => bI B i * syn (elm B l m) (l i) k) m = ((cn B m : Int) - (k : Int)) * elm B l m k := by
  intro m
  induction m with
  | zero =>
    intro k
    show (0 : Int) = (((0 : Nat) : Int) - (k : Int)) * (if k = 0 then 1 else 0)
    by_cases h : k = 0
    · rw [h]; rfl
    · rw [if_neg h, Int.mul_zero]
  | succ m ih =>
    intro k
    show sm (fun i => bI B i * syn (elm B l (m + 1)) (l i) k) m + bI B m * syn (elm B l (m + 1)) (l m) k = _
    have hc : (cn B (m + 1) : Int) = (cn B m : Int) + bI B m := by
      rw [← bI_sm, ← bI_sm]; rfl
    rw [hc]
    cases k with
    | zero =>
      have e0 : ∀ x, syn (elm B l (m + 1)) x 0 = 1 := fun x => elm_0 B l (m + 1)
      rw [sm_ext (h := bI B) m (fun i _ => by rw [e0, Int.mul_one]), bI_sm, e0, elm_0]; omega
    | succ k =>
      rw [sm_ext (h := fun i => bI B i * syn (elm B l m) (l i) (k + 1) + (-(bI B m * l m)) * (bI B i * syn (elm B l m) (l i) k)) m (fun i _ => ?_), sm_add, sm_mul, ih, ih]
      · by_cases h : B m
        · rw [syn_l B l m h, elm_s, bI_1 h]
          generalize elm B l m (k + 1) = a1
          generalize elm B l m k = a0
          generalize (cn B m : Int) = cc
          rw [show ((k + 1 : Nat) : Int) = (k : Int) + 1 by omega]
          generalize (k : Int) = kk
          grind
        · rw [bI_0 h, elm_s, bI_0 h]
          generalize elm B l m (k + 1) = a1
          generalize elm B l m k = a0
          generalize (cn B m : Int) = cc
          grind
      · rw [syn_s]
        generalize syn (elm B l m) (l i) (k + 1) = s1
        generalize syn (elm B l m) (l i) k = s0
        generalize bI B m * l m = u
        grind
/-- each of them solves -/
theorem elm_z (B : Nat → Prop) (l : Nat → Int) : ∀ m, (∀ k, cn B m < k → elm B l m k = 0) ∧ ∀ i, i < m → B i → ∀ k, cn B m ≤ k → syn (elm B l m) (l i) k = 0 := by
  intro m
  induction m with
  | zero => exact ⟨fun k hk => if_neg (by have : cn B 0 = 0 := rfl; omega), fun i hi => absurd hi (by omega)⟩
  | succ m ih =>
    obtain ⟨i1, i2⟩ := ih
    by_cases h : B m
    · have hc : cn B (m + 1) = cn B m + 1 := by rw [cn_s, if_pos h]
      refine ⟨fun k hk => ?_, fun i hi hB k hk => ?_⟩
      · obtain ⟨k', rfl⟩ : ∃ k', k = k' + 1 := ⟨k - 1, by omega⟩
        rw [elm_s, i1 _ (by omega), i1 _ (by omega), Int.mul_zero]; rfl
      · obtain ⟨k', rfl⟩ : ∃ k', k = k' + 1 := ⟨k - 1, by omega⟩
        by_cases him : i = m
        · rw [him, syn_l B l m h, i1 _ (by omega)]
        · rw [syn_s, i2 i (by omega) hB _ (by omega), i2 i (by omega) hB _ (by omega), Int.mul_zero]; rfl
    · have hc : cn B (m + 1) = cn B m := by rw [cn_s, if_neg h]; rfl
      have e : ∀ k, elm B l (m + 1) k = elm B l m k := fun k => by
        cases k with
        | zero => rw [elm_0, elm_0]
        | succ k => rw [elm_s, bI_0 h, Int.zero_mul, Int.zero_mul]; omega
      have e2 : elm B l (m + 1) = elm B l m := funext e
      rw [e2, hc]
      refine ⟨i1, fun i hi hB k hk => i2 i ?_ hB k hk⟩
      by_cases him : i = m
      · rw [him] at hB; exact absurd hB h
      · omega
/-- a number's inverse, by its power -/
def ivV (p : Nat) (y : Int) : Int := (y ^ (p - 2)) % (p : Int)
theorem iv_ov (p : Nat) (x y : Int) : (x * ivV p y) % (p : Int) = ovV p x y := em_mul rfl (em_id _ _)
theorem ov_can {p : Nat} (hp : isPr p) (h : p < 242) {y : Int} (hy : 0 < y ∧ y < (p : Int)) (x : Int) : ovV p (x * y) y % (p : Int) = x % (p : Int) := by
  unfold ovV
  rw [em_id, Int.mul_assoc]
  have := em_mul (p := (p : Int)) (x := x) (u := x) rfl (inv_ok hp h hy)
  rw [Int.mul_one] at this
  exact this
/-- the sums and coefficients -/
def FLp (p n : Nat) (T S : Nat → Nat → Int) (t s : Nat) : Int := sm (fun u => T t u * S u s) n % (p : Int)
def FLc (p n : Nat) (V : Nat → Nat → Int) (k : Nat) : Int := ovV p ((-(sm (fun s => V s s) n)) % (p : Int)) (k : Int)
def FLs (p n : Nat) (T : Nat → Nat → Int) : Nat → Nat → Nat → Int
  | 0 => fun t s => dl t s
  | k + 1 => fun t s => if t = s then (FLp p n T (FLs p n T k) t s + FLc p n (FLp p n T (FLs p n T k)) (k + 1)) % (p : Int) else FLp p n T (FLs p n T k) t s
def FLq (p n : Nat) (T : Nat → Nat → Int) : Nat → Int
  | 0 => 1
  | k + 1 => FLc p n (FLp p n T (FLs p n T k)) (k + 1)
/-- by which solves goes -/
def FLh (p n : Nat) (T : Nat → Nat → Int) (x : Int) : Nat → Int
  | 0 => 1
  | k + 1 => (FLh p n T x k * x + FLq p n T (k + 1)) % (p : Int)
section SC7
variable {p r n : Nat} {cp : Nat → Nat → Nat → Int} {om ev A : Nat → Nat → Int} {B : Nat → Prop} {col : Nat → Nat}
theorem FL_ok (hp : isPr p) (h242 : p < 242) (hE : ECH p r n A col) (hN : ANB p r n A B om) (hS : SPEC p r cp om ev) (hn : n = cn B r) (hnp : n < p) {a : Nat} (ha : a < r) {T : Nat → Nat → Int} (hT : ∀ t s, t < n → s < n → T t s % (p : Int) = tbR r cp a A col t s % (p : Int)) :
    ∀ k, k ≤ n → FLq p n T k % (p : Int) = elm B (fun i => om i a) r k % (p : Int) ∧ ∀ i s, i < r → B i → s < n → sm (fun t => om i (col t) * FLs p n T k t s) n % (p : Int) = (syn (elm B (fun i => om i a) r) (om i a) k * om i (col s)) % (p : Int) := by
  have p1 := hp.1
  intro k
  induction k with
  | zero =>
    intro _
    refine ⟨by rw [elm_0]; rfl, fun i s hi hB hs => ?_⟩
    show sm (fun t => om i (col t) * dl t s) n % (p : Int) = (elm B (fun i => om i a) r 0 * om i (col s)) % (p : Int)
    rw [sm_dl (fun t => om i (col t)) hs, elm_0, Int.one_mul]
  | succ k ih =>
    intro hk
    obtain ⟨ih1, ih2⟩ := ih (by omega)
    generalize hSe : FLs p n T k = S at *
    -- the product
    have vg : ∀ i s, i < r → B i → s < n → sm (fun t => om i (col t) * FLp p n T S t s) n % (p : Int) = (om i a * syn (elm B (fun i => om i a) r) (om i a) k * om i (col s)) % (p : Int) := fun i s hi hB hs => by
      have e1 : sm (fun t => om i (col t) * FLp p n T S t s) n % (p : Int) = sm (fun t => sm (fun u => om i (col t) * (T t u * S u s)) n) n % (p : Int) := by
        refine sm_em n (fun t ht => ?_)
        rw [sm_mul]
        exact em_mul rfl (em_id _ _)
      rw [e1, sm_swap]
      have e2 : sm (fun u => sm (fun t => om i (col t) * (T t u * S u s)) n) n % (p : Int) = sm (fun u => om i a * (om i (col u) * S u s)) n % (p : Int) := by
        refine sm_em n (fun u hu => ?_)
        rw [sm_ext (h := fun t => (om i (col t) * T t u) * S u s) n (fun t _ => (Int.mul_assoc _ _ _).symm), sm_mulr, ← Int.mul_assoc]
        refine em_mul ?_ rfl
        rw [← tb_eig hE hN hS ha hi hB hu]
        exact sm_em n (fun t ht => em_mul rfl (hT t u ht hu))
      rw [e2, sm_mul, em_mul (u := om i a) rfl (ih2 i s hi hB hs), Int.mul_assoc]
    -- its trace
    have tr : sm (fun t => FLp p n T S t t) n % (p : Int) = sm (fun i => bI B i * (om i a * syn (elm B (fun i => om i a) r) (om i a) k)) r % (p : Int) := by
      have e1 : ∀ t, t < n → FLp p n T S t t % (p : Int) = sm (fun i => bI B i * (om i a * syn (elm B (fun i => om i a) r) (om i a) k) * (hR r ev A t i * om i (col t))) r % (p : Int) := fun t ht => by
        have e2 : FLp p n T S t t % (p : Int) = sm (fun s => sm (fun i => hR r ev A t i * om i (col s)) r * FLp p n T S s t) n % (p : Int) := by
          rw [sm_em (h := fun s => FLp p n T S s t * dl t s) n (fun s hs => ?_), sm_dl' (fun s => FLp p n T S s t) ht]
          rw [em_mul (hR_dl hE hS ht hs) rfl, Int.mul_comm]
        rw [e2, sm_ext (h := fun s => sm (fun i => hR r ev A t i * (om i (col s) * FLp p n T S s t)) r) n (fun s _ => ?_), sm_swap]
        · refine sm_em r (fun i hi => ?_)
          rw [sm_mul]
          by_cases hB : B i
          · rw [em_mul (u := hR r ev A t i) rfl (vg i t hi hB ht), bI_1 hB, Int.one_mul]
            congr 1
            rw [← Int.mul_assoc, Int.mul_comm (hR r ev A t i), Int.mul_assoc]
          · have h0 : hR r ev A t i % (p : Int) = 0 := hN.inb hS ht i hi hB
            rw [em_0 h0, bI_0 hB, Int.zero_mul, Int.zero_mul]; rfl
        · rw [← sm_mulr]
          exact sm_ext r (fun i _ => Int.mul_assoc _ _ _)
      rw [sm_em n e1, sm_swap]
      refine sm_em r (fun i hi => ?_)
      rw [sm_mul]
      by_cases hB : B i
      · rw [em_mul (u := bI B i * (om i a * syn (elm B (fun i => om i a) r) (om i a) k)) rfl (hR_1 hE hN hS hi hB), Int.mul_one]
      · rw [bI_0 hB, Int.zero_mul, Int.zero_mul]
    -- Newton's
    have nw9 : sm (fun i => bI B i * (om i a * syn (elm B (fun i => om i a) r) (om i a) k)) r = -(((k + 1 : Nat) : Int) * elm B (fun i => om i a) r (k + 1)) := by
      have e1 := newton B (fun i => om i a) r (k + 1)
      have e2 : sm (fun i => bI B i * syn (elm B (fun i => om i a) r) (om i a) (k + 1)) r = sm (fun i => bI B i * (om i a * syn (elm B (fun i => om i a) r) (om i a) k)) r + sm (bI B) r * elm B (fun i => om i a) r (k + 1) := by
        rw [← sm_mulr, ← sm_add]
        exact sm_ext r (fun i _ => Int.mul_add _ _ _)
      have e3 : sm (fun i => bI B i * syn (elm B (fun i => om i a) r) (om i a) (k + 1)) r = ((cn B r : Int) - ((k + 1 : Nat) : Int)) * elm B (fun i => om i a) r (k + 1) := e1
      rw [e2, bI_sm, Int.sub_mul] at e3
      omega
    have ck : FLq p n T (k + 1) % (p : Int) = elm B (fun i => om i a) r (k + 1) % (p : Int) := by
      have e0 : FLq p n T (k + 1) = FLc p n (FLp p n T S) (k + 1) := by rw [← hSe]; rfl
      rw [e0]
      unfold FLc
      have e1 : (-(sm (fun s => FLp p n T S s s) n)) % (p : Int) % (p : Int) = (elm B (fun i => om i a) r (k + 1) * ((k + 1 : Nat) : Int)) % (p : Int) := by
        rw [em_id, show -(sm (fun s => FLp p n T S s s) n) = (-1) * sm (fun s => FLp p n T S s s) n by omega, em_mul (u := -1) rfl tr, nw9]
        congr 1
        rw [Int.mul_comm (elm B (fun i => om i a) r (k + 1))]; omega
      rw [ovV_cg ((k + 1 : Nat) : Int) e1]
      exact ov_can hp h242 ⟨by omega, by omega⟩ _
    refine ⟨ck, fun i s hi hB hs => ?_⟩
    have e1 : ∀ t, t < n → FLs p n T (k + 1) t s % (p : Int) = (FLp p n T S t s + FLq p n T (k + 1) * dl t s) % (p : Int) := fun t ht => by
      have e0 : FLs p n T (k + 1) t s = if t = s then (FLp p n T S t s + FLq p n T (k + 1)) % (p : Int) else FLp p n T S t s := by rw [← hSe]; rfl
      rw [e0]
      unfold dl
      by_cases hts : t = s
      · rw [if_pos hts, if_pos hts, em_id, Int.mul_one]
      · rw [if_neg hts, if_neg hts, Int.mul_zero, Int.add_zero]
    rw [sm_em (h := fun t => om i (col t) * FLp p n T S t s + FLq p n T (k + 1) * (om i (col t) * dl t s)) n (fun t ht => ?_), sm_add, sm_mul, sm_dl (fun t => om i (col t)) hs, Int.add_emod, vg i s hi hB hs, em_mul ck rfl, ← Int.add_emod]
    · congr 1
      show _ = (om i a * syn (elm B (fun i => om i a) r) (om i a) k + elm B (fun i => om i a) r (k + 1)) * om i (col s)
      rw [Int.add_mul]
    · rw [em_mul (u := om i (col t)) rfl (e1 t ht)]
      congr 1
      rw [Int.mul_add, ← Int.mul_assoc, ← Int.mul_assoc, Int.mul_comm (om i (col t)) (FLq p n T (k + 1))]
/-- each stretch solves -/
theorem FL_sol (hp : isPr p) (h242 : p < 242) (hE : ECH p r n A col) (hN : ANB p r n A B om) (hS : SPEC p r cp om ev) (hn : n = cn B r) (hnp : n < p) {a : Nat} (ha : a < r) {T : Nat → Nat → Int} (hT : ∀ t s, t < n → s < n → T t s % (p : Int) = tbR r cp a A col t s % (p : Int)) {i : Nat} (hi : i < r) (hB : B i) : FLh p n T (om i a) n % (p : Int) = 0 := by
  have h : ∀ k, k ≤ n → FLh p n T (om i a) k % (p : Int) = syn (elm B (fun i => om i a) r) (om i a) k % (p : Int) := by
    intro k
    induction k with
    | zero =>
      intro _
      show (1 : Int) % (p : Int) = elm B (fun i => om i a) r 0 % (p : Int)
      rw [elm_0]
    | succ k ih =>
      intro hk
      show (FLh p n T (om i a) k * om i a + FLq p n T (k + 1)) % (p : Int) % (p : Int) = (om i a * syn (elm B (fun i => om i a) r) (om i a) k + elm B (fun i => om i a) r (k + 1)) % (p : Int)
      rw [em_id, Int.add_emod, em_mul (ih (by omega)) rfl, (FL_ok hp h242 hE hN hS hn hnp ha hT (k + 1) hk).1, ← Int.add_emod, Int.mul_comm]
  rw [h n (Nat.le_refl _), (elm_z B (fun i => om i a) r).2 i hi hB n (by omega), Int.zero_emod]
end SC7
