/-! ===== a space comes apart by a stretch ===== -/
theorem sm_app (f : Nat → Int) (n : Nat) : ∀ m, sm f (n + m) = sm f n + sm (fun u => f (n + u)) m := by
  intro m
  induction m with
  | zero => show sm f n = sm f n + 0; omega
  | succ m ih =>
    show sm f (n + m) + f (n + m) = sm f n + (sm (fun u => f (n + u)) m + f (n + m))
    rw [ih]; omega
/-- rows cleared as far as it goes -/
def CLE (p n w : Nat) (A0 A : Nat → Nat → Int) (C k : Nat) : Prop := ∃ c, c ≤ C ∧ (c = C ∨ k = n) ∧ CLR p n w A0 A c k
/-- the table less a stretch, and beside it ones -/
def lnR (p n : Nat) (T : Nat → Nat → Int) (x : Int) (t j : Nat) : Int := if j < n then (if t = j then (T t j - x) % (p : Int) else T t j) else dl t (j - n)
section SC8
variable {p r n : Nat} {cp : Nat → Nat → Nat → Int} {om ev A T L L' P' : Nat → Nat → Int} {B : Nat → Prop} {col : Nat → Nat} {a k k2 : Nat} {x : Int}
theorem lnR_l {t j : Nat} (hj : j < n) (hT : 0 ≤ T t j ∧ T t j < (p : Int)) : lnR p n T x t j % (p : Int) = (T t j - x * dl t j) % (p : Int) := by
  unfold lnR dl
  rw [if_pos hj]
  by_cases h : t = j
  · rw [if_pos h, if_pos h, em_id, Int.mul_one]
  · rw [if_neg h, if_neg h, Int.mul_zero, Int.sub_zero]
theorem lnR_r (t u : Nat) : lnR p n T x t (n + u) = dl t u := by
  unfold lnR
  rw [if_neg (by omega), show n + u - n = u by omega]
/-- left and right of a doubled row -/
def dbl (n : Nat) (y z : Nat → Int) (j : Nat) : Int := if j < n then y j else z (j - n)
theorem dt_dbl (X y z : Nat → Int) : dt (n + n) X (dbl n y z) = dt n X y + sm (fun u => X (n + u) * z u) n := by
  unfold dt
  rw [sm_app]
  congr 1
  · refine sm_ext n (fun j hj => ?_)
    unfold dbl
    rw [if_pos hj]
  · refine sm_ext n (fun u _ => ?_)
    unfold dbl
    rw [if_neg (by omega), show n + u - n = u by omega]
/-- the mixture of rows -/
def mxR (p n : Nat) (L A : Nat → Nat → Int) (k s j : Nat) : Int := sm (fun u => L (k + s) (n + u) * A u j) n % (p : Int)
theorem ps_left (hp : 0 < p) (hT : ∀ t s, t < n → s < n → 0 ≤ T t s ∧ T t s < (p : Int)) (hC : CLE p n (n + n) (lnR p n T x) L' n k) {e s : Nat} (hke : k ≤ e) (he : e < n) (hs : s < n) : sm (fun u => L' e (n + u) * T u s) n % (p : Int) = (x * L' e (n + s)) % (p : Int) := by
  obtain ⟨c, c1, c2, h1, h2, h3, h4, h5, h6⟩ := hC
  have hcn : c = n := by omega
  subst hcn
  have hk := (h3 (dbl c (fun j => dl j s) (fun t => (-1) * (T t s - x * dl t s)))).mp (fun t ht => by
    rw [dt_dbl]
    have e1 : dt c (lnR p c T x t) (fun j => dl j s) = lnR p c T x t s := sm_dl (lnR p c T x t) hs
    rw [e1, sm_ext (h := fun u => (-1) * (T u s - x * dl u s) * dl t u) c (fun u _ => by rw [lnR_r, Int.mul_comm]), sm_dl' (fun u => (-1) * (T u s - x * dl u s)) ht, Int.add_emod, lnR_l hs (hT t s ht hs), ← Int.add_emod]
    rw [show T t s - x * dl t s + (-1) * (T t s - x * dl t s) = 0 by omega, Int.zero_emod]) e he
  rw [dt_dbl] at hk
  have z : dt c (L' e) (fun j => dl j s) = 0 := sm_0 c (fun j hj => by rw [h6 e j hke he hj, Int.zero_mul])
  rw [z, Int.zero_add] at hk
  have e2 : sm (fun u => L' e (c + u) * ((-1) * (T u s - x * dl u s))) c = (-1) * (sm (fun u => L' e (c + u) * T u s) c + (-x) * L' e (c + s)) := by
    have e3 : sm (fun u => L' e (c + u) * dl u s) c = L' e (c + s) := sm_dl (fun u => L' e (c + u)) hs
    rw [← e3, ← sm_mul, ← sm_add, ← sm_mul]
    refine sm_ext c (fun u _ => ?_)
    generalize L' e (c + u) = l
    generalize T u s = tt
    generalize dl u s = d
    grind
  rw [e2, Int.mul_emod] at hk
  have e4 : (sm (fun u => L' e (c + u) * T u s) c + -x * L' e (c + s)) % (p : Int) = 0 := by
    have := Int.dvd_of_emod_eq_zero (show ((-1) * (sm (fun u => L' e (c + u) * T u s) c + -x * L' e (c + s))) % (p : Int) = 0 by rw [Int.mul_emod]; exact hk)
    rw [show (-1) * (sm (fun u => L' e (c + u) * T u s) c + -x * L' e (c + s)) = -(sm (fun u => L' e (c + u) * T u s) c + -x * L' e (c + s)) by omega] at this
    exact Int.emod_eq_zero_of_dvd (Int.dvd_neg.mp this)
  refine Int.emod_eq_emod_iff_emod_sub_eq_zero.mpr ?_
  rw [← e4]; congr 1
  rw [Int.neg_mul]; omega
/-- what is mixed is stretched so -/
theorem ps_inb (hp : isPr p) (h242 : p < 242) (hE : ECH p r n A col) (hN : ANB p r n A B om) (hS : SPEC p r cp om ev) (ha : a < r) (hT : ∀ t s, t < n → s < n → 0 ≤ T t s ∧ T t s < (p : Int)) (hTt : ∀ t s, t < n → s < n → T t s % (p : Int) = tbR r cp a A col t s % (p : Int)) (hC : CLE p n (n + n) (lnR p n T x) L' n k) {s : Nat} (hs : k + s < n) : INB p r ev (fun i => B i ∧ om i a % (p : Int) = x % (p : Int)) (mxR p n L' A k s) := by
  have p1 := hp.1
  have dl9 : ∀ j, j < r → dt r (ev j) (mxR p n L' A k s) % (p : Int) = sm (fun u => L' (k + s) (n + u) * dt r (ev j) (A u)) n % (p : Int) := fun j hj => by
    have e1 : dt r (ev j) (mxR p n L' A k s) % (p : Int) = sm (fun b => sm (fun u => L' (k + s) (n + u) * (ev j b * A u b)) n) r % (p : Int) := by
      refine sm_em r (fun b _ => ?_)
      rw [sm_ext (h := fun u => ev j b * (L' (k + s) (n + u) * A u b)) n (fun u _ => ?_), sm_mul]
      · exact em_mul rfl (em_id _ _)
      · rw [← Int.mul_assoc, ← Int.mul_assoc, Int.mul_comm (ev j b)]
    rw [e1, sm_swap]
    congr 1
    exact sm_ext n (fun u _ => sm_mul _ _ r)
  intro j hj hnB
  by_cases hB : B j
  · have hx : om j a % (p : Int) ≠ x % (p : Int) := fun h9 => hnB ⟨hB, h9⟩
    -- the image
    have e1 : dt r (ev j) (imR r cp a (mxR p n L' A k s)) % (p : Int) = (x * dt r (ev j) (mxR p n L' A k s)) % (p : Int) := by
      rw [← Int.mul_comm (dt r (ev j) _) x]
      unfold dt
      rw [← sm_mulr]
      refine sm_em r (fun b hb => ?_)
      have e2 : imR r cp a (mxR p n L' A k s) b % (p : Int) = (x * mxR p n L' A k s b) % (p : Int) := by
        have e3 : imR r cp a (mxR p n L' A k s) b % (p : Int) = sm (fun u => L' (k + s) (n + u) * imR r cp a (A u) b) n % (p : Int) := by
          have e4 : imR r cp a (mxR p n L' A k s) b % (p : Int) = sm (fun c => sm (fun u => L' (k + s) (n + u) * (cp a b c * A u c)) n) r % (p : Int) := by
            refine sm_em r (fun c _ => ?_)
            rw [sm_ext (h := fun u => cp a b c * (L' (k + s) (n + u) * A u c)) n (fun u _ => ?_), sm_mul]
            · exact em_mul rfl (em_id _ _)
            · rw [← Int.mul_assoc, ← Int.mul_assoc, Int.mul_comm (cp a b c)]
          rw [e4, sm_swap]
          congr 1
          exact sm_ext n (fun u _ => sm_mul _ _ r)
        rw [e3, sm_em (h := fun u => sm (fun v => L' (k + s) (n + u) * T u v * A v b) n) n (fun u hu => ?_), sm_swap]
        · have e5 : (x * mxR p n L' A k s b) % (p : Int) = sm (fun v => x * L' (k + s) (n + v) * A v b) n % (p : Int) := by
            have e7 : mxR p n L' A k s b = sm (fun u => L' (k + s) (n + u) * A u b) n % (p : Int) := rfl
            rw [e7, em_mul (u := x) rfl (em_id _ _), ← sm_mul]
            congr 1
            exact sm_ext n (fun v _ => (Int.mul_assoc _ _ _).symm)
          rw [e5]
          refine sm_em n (fun v hv => ?_)
          rw [sm_mulr]
          exact em_mul (ps_left (by omega) hT hC (by omega) hs hv) rfl
        · rw [em_mul (u := L' (k + s) (n + u)) rfl (tb_row hE hN hS ha hu hb), ← sm_mul]
          refine sm_em n (fun v hv => ?_)
          rw [Int.mul_assoc]
          exact em_mul rfl (em_mul (hTt u v hu hv).symm rfl)
      rw [em_mul (u := ev j b) rfl e2]
      congr 1
      rw [Int.mul_comm x, Int.mul_assoc]
    rw [hS.im ha hj] at e1
    have e6 : ((om j a - x) * dt r (ev j) (mxR p n L' A k s)) % (p : Int) = 0 := by
      rw [Int.sub_mul, Int.sub_emod, e1, Int.sub_self, Int.zero_emod]
    exact pr_0 hp h242 e6 (fun h9 => hx (Int.emod_eq_emod_iff_emod_sub_eq_zero.mpr h9))
  · rw [dl9 j hj, sm_em (h := fun _ => 0) n (fun u hu => ?_), sm_0 n (fun _ _ => rfl), Int.zero_emod]
    rw [Int.mul_emod, hN.inb hS hu j hj hB, Int.mul_zero]
/-- and whatever is stretched so is of what is mixed -/
theorem ps_out (hp : isPr p) (hE : ECH p r n A col) (hN : ANB p r n A B om) (hS : SPEC p r cp om ev) (ha : a < r) (hT : ∀ t s, t < n → s < n → 0 ≤ T t s ∧ T t s < (p : Int)) (hTt : ∀ t s, t < n → s < n → T t s % (p : Int) = tbR r cp a A col t s % (p : Int)) (hC : CLE p n (n + n) (lnR p n T x) L' n k) {y : Nat → Int} (hy : ∀ s, k + s < n → dt r (mxR p n L' A k s) y % (p : Int) = 0) {i : Nat} (hi : i < r) (hB : B i) (hx : om i a % (p : Int) = x % (p : Int)) : dt r (om i) y % (p : Int) = 0 := by
  obtain ⟨c, c1, c2, h1, h2, h3, h4, ⟨cl, h5⟩, h6⟩ := hC
  let z : Nat → Int := fun u => dt r (A u) y
  let wz : Nat → Int := fun e => sm (fun u => L' e (n + u) * z u) n
  have hw : ∀ e, k ≤ e → e < n → wz e % (p : Int) = 0 := fun e hke he => by
    obtain ⟨s, rfl⟩ : ∃ s, e = k + s := ⟨e - k, by omega⟩
    rw [← hy s he]
    have e1 : dt r (mxR p n L' A k s) y % (p : Int) = sm (fun b => sm (fun u => L' (k + s) (n + u) * (A u b * y b)) n) r % (p : Int) := by
      refine sm_em r (fun b _ => ?_)
      rw [sm_ext (h := fun u => L' (k + s) (n + u) * A u b * y b) n (fun u _ => (Int.mul_assoc _ _ _).symm), sm_mulr]
      exact em_mul (em_id _ _) rfl
    rw [e1, sm_swap]
    congr 1
    exact sm_ext n (fun u _ => (sm_mul _ _ r).symm)
  let Y : Nat → Int := fun j => sm (fun q => (-wz q) * dl j (cl q)) k
  have kill : SlR (p : Int) n (n + n) (lnR p n T x) (dbl n Y z) := by
    refine (h3 _).mpr (fun t ht => ?_)
    rw [dt_dbl]
    by_cases htk : t < k
    · have e1 : dt n (L' t) Y = -wz t := by
        show sm (fun j => L' t j * sm (fun q => (-wz q) * dl j (cl q)) k) n = _
        rw [sm_ext (h := fun j => sm (fun q => L' t j * (-wz q) * dl j (cl q)) k) n (fun j _ => ?_), sm_swap, sm_ext (h := fun q => if q = t then -wz t else 0) k (fun q hq => ?_), sm_del, if_pos htk]
        · have hq5 := h5 q hq
          rw [sm_dl (fun j => L' t j * (-wz q)) (show cl q < n by omega)]
          by_cases hqt : q = t
          · rw [if_pos hqt, hqt, (h5 t htk).2.1, Int.one_mul]
          · rw [if_neg hqt, hq5.2.2.1 t ht (fun h9 => hqt h9.symm), Int.zero_mul]
        · rw [← sm_mul]
          exact sm_ext k (fun q _ => (Int.mul_assoc _ _ _).symm)
      rw [e1, show -wz t + sm (fun u => L' t (n + u) * z u) n = 0 by show -wz t + wz t = 0; omega, Int.zero_emod]
    · have hcn : c = n := by omega
      have e1 : dt n (L' t) Y = 0 := sm_0 n (fun j hj => by rw [h6 t j (by omega) ht (by omega), Int.zero_mul])
      rw [e1, Int.zero_add]
      exact hw t (by omega) ht
  have row : ∀ t, t < n → (sm (fun j => (T t j - x * dl t j) * Y j) n + z t) % (p : Int) = 0 := fun t ht => by
    have := kill t ht
    rw [dt_dbl, sm_ext (h := fun u => z u * dl t u) n (fun u _ => by rw [lnR_r, Int.mul_comm]), sm_dl' z ht] at this
    rw [← this, Int.add_emod, Int.add_emod (dt n (lnR p n T x t) Y)]
    congr 2
    exact sm_em n (fun j hj => em_mul (lnR_l hj (hT t j ht hj)).symm rfl)
  -- of the row itself
  have e1 : dt r (om i) y % (p : Int) = sm (fun t => om i (col t) * z t) n % (p : Int) := by
    have e2 : dt r (om i) y % (p : Int) = sm (fun b => sm (fun t => om i (col t) * (A t b * y b)) n) r % (p : Int) := by
      refine sm_em r (fun b hb => ?_)
      rw [sm_ext (h := fun t => om i (col t) * A t b * y b) n (fun t _ => (Int.mul_assoc _ _ _).symm), sm_mulr]
      exact em_mul (hE.ex (hN.cen hi hB) hb) rfl
    rw [e2, sm_swap]
    congr 1
    exact sm_ext n (fun t _ => sm_mul _ _ r)
  have e3 : sm (fun t => om i (col t) * (sm (fun j => (T t j - x * dl t j) * Y j) n + z t)) n % (p : Int) = 0 := by
    rw [sm_em (h := fun _ => 0) n (fun t ht => ?_), sm_0 n (fun _ _ => rfl), Int.zero_emod]
    rw [Int.mul_emod, row t ht, Int.mul_zero]
  have e4 : sm (fun t => om i (col t) * (sm (fun j => (T t j - x * dl t j) * Y j) n + z t)) n = sm (fun j => sm (fun t => om i (col t) * (T t j - x * dl t j)) n * Y j) n + sm (fun t => om i (col t) * z t) n := by
    rw [sm_ext (h := fun t => sm (fun j => om i (col t) * (T t j - x * dl t j) * Y j) n + om i (col t) * z t) n (fun t _ => ?_), sm_add, sm_swap]
    · congr 1
      exact sm_ext n (fun j _ => sm_mulr _ _ n)
    · rw [Int.mul_add, ← sm_mul]
      congr 1
      exact sm_ext n (fun j _ => (Int.mul_assoc _ _ _).symm)
  have e5 : sm (fun j => sm (fun t => om i (col t) * (T t j - x * dl t j)) n * Y j) n % (p : Int) = 0 := by
    rw [sm_em (h := fun _ => 0) n (fun j hj => ?_), sm_0 n (fun _ _ => rfl), Int.zero_emod]
    have e6 : sm (fun t => om i (col t) * (T t j - x * dl t j)) n % (p : Int) = 0 := by
      have e7 : sm (fun t => om i (col t) * (T t j - x * dl t j)) n = sm (fun t => om i (col t) * T t j) n + (-x) * sm (fun t => om i (col t) * dl t j) n := by
        rw [← sm_mul, ← sm_add]
        refine sm_ext n (fun t _ => ?_)
        generalize om i (col t) = g9
        generalize T t j = t9
        generalize dl t j = d9
        grind
      have e8 : sm (fun t => om i (col t) * T t j) n % (p : Int) = (x * om i (col j)) % (p : Int) := by
        rw [← em_mul (x := om i a) (y := om i (col j)) hx rfl, ← tb_eig hE hN hS ha hi hB hj]
        exact sm_em n (fun t ht => em_mul rfl (hTt t j ht hj))
      rw [e7, sm_dl (fun t => om i (col t)) hj, Int.add_emod, e8, ← Int.add_emod, Int.neg_mul]
      rw [show x * om i (col j) + -(x * om i (col j)) = 0 by omega, Int.zero_emod]
    rw [em_0 e6, Int.zero_emod]
  rw [e4, Int.add_emod, e5, Int.zero_add, em_id] at e3
  rw [e1]; exact e3
theorem ps_ind (hp : isPr p) (hE : ECH p r n A col) (hC : CLE p n (n + n) (lnR p n T x) L' n k) : IND (p : Int) (n - k) r (mxR p n L' A k) := by
  obtain ⟨c, c1, c2, h1, h2, h3, h4, h5, h6⟩ := hC
  have hI := h4 (fun d hd s hs => by
    have := hd (n + s) (by omega)
    rwa [sm_ext (h := fun t => d t * dl t s) n (fun t _ => by rw [lnR_r]), sm_dl d hs] at this)
  intro d hd s hs
  let D : Nat → Int := fun e => if e < k then 0 else d (e - k)
  have sp : ∀ f : Nat → Int, sm (fun e => D e * f e) n = sm (fun s => d s * f (k + s)) (n - k) := fun f => by
    have e0 : n = k + (n - k) := by omega
    have e1 : sm (fun e => D e * f e) n = sm (fun e => D e * f e) (k + (n - k)) := by rw [← e0]
    rw [e1, sm_app, sm_0 k (fun e he => ?_), Int.zero_add]
    · refine sm_ext _ (fun s _ => ?_)
      show (if k + s < k then 0 else d (k + s - k)) * f (k + s) = _
      rw [if_neg (by omega), show k + s - k = s by omega]
    · show (if e < k then 0 else d (e - k)) * f e = 0
      rw [if_pos he, Int.zero_mul]
  have z := hI D (fun j hj => ?_) (k + s) (by omega)
  · have : D (k + s) = d s := by
      show (if k + s < k then 0 else d (k + s - k)) = d s
      rw [if_neg (by omega), show k + s - k = s by omega]
    rwa [this] at z
  · rw [sp]
    by_cases hjn : j < n
    · rw [sm_em (h := fun _ => 0) (n - k) (fun s hs2 => ?_), sm_0 _ (fun _ _ => rfl), Int.zero_emod]
      rw [h6 (k + s) j (by omega) (by omega) (by omega), Int.mul_zero]
    · obtain ⟨u, rfl⟩ : ∃ u, j = n + u := ⟨j - n, by omega⟩
      have hu : u < n := by omega
      rw [← hd (col u) (hE.2 u hu).1]
      refine sm_em (n - k) (fun s _ => em_mul rfl ?_)
      show _ = sm (fun v => L' (k + s) (n + v) * A v (col u)) n % (p : Int) % (p : Int)
      rw [em_id, sm_ext (h := fun v => L' (k + s) (n + v) * dl v u) n (fun v hv => ?_), sm_dl (fun v => L' (k + s) (n + v)) hu]
      unfold dl
      by_cases h : v = u
      · rw [if_pos h, h, (hE.2 u hu).2.1]
      · rw [if_neg h, (hE.2 u hu).2.2.2 v hv h]
/-- a part of the space, as its rows lie -/
theorem ps_end (hp : isPr p) (h242 : p < 242) (hE : ECH p r n A col) (hN : ANB p r n A B om) (hS : SPEC p r cp om ev) (ha : a < r) (hT : ∀ t s, t < n → s < n → 0 ≤ T t s ∧ T t s < (p : Int)) (hTt : ∀ t s, t < n → s < n → T t s % (p : Int) = tbR r cp a A col t s % (p : Int)) (hC : CLE p n (n + n) (lnR p n T x) L' n k) :
    n - k ≤ cn (fun i => B i ∧ om i a % (p : Int) = x % (p : Int)) r ∧ ∀ P' k2, CLE p (n - k) r (mxR p n L' A k) P' r k2 → k2 = n - k ∧ n - k = cn (fun i => B i ∧ om i a % (p : Int) = x % (p : Int)) r ∧ ∃ col2, ECH p r (n - k) P' col2 ∧ ANB p r (n - k) P' (fun i => B i ∧ om i a % (p : Int) = x % (p : Int)) om := by
  have p1 := hp.1
  have hI := ps_ind (T := T) (x := x) hp hE hC
  have hX : ∀ s, s < n - k → INB p r ev (fun i => B i ∧ om i a % (p : Int) = x % (p : Int)) (mxR p n L' A k s) := fun s hs => ps_inb hp h242 hE hN hS ha hT hTt hC (by omega)
  have hle := dim_le hp h242 hS hI hX
  refine ⟨hle, fun P' k2 hC2 => ?_⟩
  have hAN : ∀ y, SlR (p : Int) (n - k) r (mxR p n L' A k) y ↔ ∀ i, i < r → (B i ∧ om i a % (p : Int) = x % (p : Int)) → dt r (om i) y % (p : Int) = 0 := fun y =>
    ⟨fun hy i hi hB => ps_out hp hE hN hS ha hT hTt hC (fun s hs => hy s (by omega)) hi hB.1 hB.2, fun hy s hs => hS.inb (hX s hs) hy⟩
  obtain ⟨c, c1, c2, h1, h2, h3, h4, ⟨cl, h5⟩, h6⟩ := hC2
  have hI2 := h4 hI
  have hk2 : k2 = n - k := by
    apply Classical.byContradiction
    intro hne
    have hc : c = r := by omega
    have := hI2 (fun s => dl s k2) (fun j hj => ?_) k2 (by omega)
    · have e1 : dl k2 k2 = 1 := if_pos rfl
      have this' : dl k2 k2 % (p : Int) = 0 := this
      rw [e1, Int.emod_eq_of_lt (by decide) (by omega)] at this'
      omega
    · rw [sm_ext (h := fun s => P' s j * dl s k2) (n - k) (fun s _ => Int.mul_comm _ _), sm_dl (fun s => P' s j) (by omega), h6 k2 j (Nat.le_refl _) (by omega) (by omega), Int.zero_emod]
  subst hk2
  have hE2 : ECH p r (n - k) P' cl := ⟨h2, fun s hs => ⟨by have := (h5 s hs).1; omega, (h5 s hs).2.1, (h5 s hs).2.2.2, (h5 s hs).2.2.1⟩⟩
  have hN2 : ANB p r (n - k) P' (fun i => B i ∧ om i a % (p : Int) = x % (p : Int)) om := fun y => (h3 y).symm.trans (hAN y)
  exact ⟨rfl, Nat.le_antisymm hle (dim_ge hp h242 hS hE2 hN2), cl, hE2, hN2⟩
end SC8
