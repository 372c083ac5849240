/-! ===== finite groups as tables ===== -/
def IsG (N : Nat) (m : Nat → Nat → Nat) : Prop :=
  0 < N ∧ (∀ a b, a < N → b < N → m a b < N) ∧ (∀ a, a < N → m 0 a = a ∧ m a 0 = a) ∧ (∀ a b c, a < N → b < N → c < N → m (m a b) c = m a (m b c)) ∧ (∀ a b c, a < N → b < N → c < N → m a c = m b c → a = b)
theorem pigeon : ∀ (N : Nat) (f : Nat → Nat), (∀ i, i ≤ N → f i < N) → ∃ i j, i < j ∧ j ≤ N ∧ f i = f j := by
  intro N
  induction N with
  | zero => intro f h; exact absurd (h 0 (Nat.le_refl _)) (by omega)
  | succ N ih =>
    intro f h
    by_cases h1 : ∃ i, i ≤ N ∧ f i = f (N + 1)
    · obtain ⟨i, hi, h2⟩ := h1
      exact ⟨i, N + 1, by omega, by omega, h2⟩
    · have h3 : ∀ i, i ≤ N → f i ≠ f (N + 1) := fun i hi h9 => h1 ⟨i, hi, h9⟩
      have hv := h (N + 1) (Nat.le_refl _)
      obtain ⟨i, j, q1, q2, q3⟩ := ih (fun i => if f i = N then f (N + 1) else f i) (fun i hi => by
        have := h i (by omega)
        have := h3 i hi
        split <;> omega)
      refine ⟨i, j, q1, by omega, ?_⟩
      have a := h3 i (by omega)
      have b := h3 j (by omega)
      split at q3 <;> split at q3 <;> omega
/-- powers: k to the n-th -/
def pwr (m : Nat → Nat → Nat) (k : Nat) : Nat → Nat
  | 0 => 0
  | n + 1 => m (pwr m k n) k
theorem pwr_lt {N : Nat} {m : Nat → Nat → Nat} (h : IsG N m) {k : Nat} (hk : k < N) : ∀ n, pwr m k n < N := by
  intro n
  induction n with
  | zero => exact h.1
  | succ n ih => exact h.2.1 _ _ ih hk
theorem pwr_add {N : Nat} {m : Nat → Nat → Nat} (h : IsG N m) {k : Nat} (hk : k < N) (a : Nat) : ∀ b, pwr m k (a + b) = m (pwr m k a) (pwr m k b) := by
  intro b
  induction b with
  | zero => exact ((h.2.2.1 _ (pwr_lt h hk a)).2).symm
  | succ b ih =>
    show m (pwr m k (a + b)) k = m (pwr m k a) (m (pwr m k b) k)
    rw [ih, h.2.2.2.1 _ _ _ (pwr_lt h hk a) (pwr_lt h hk b) hk]
theorem pwr_1 {N : Nat} {m : Nat → Nat → Nat} (h : IsG N m) {k : Nat} (hk : k < N) : pwr m k 1 = k := (h.2.2.1 k hk).1
/-- the least n above 0 by which the n-th power is 0 -/
def IsOd (N : Nat) (m : Nat → Nat → Nat) (k d : Nat) : Prop := 1 ≤ d ∧ d ≤ N ∧ pwr m k d = 0 ∧ ∀ j, 1 ≤ j → j < d → pwr m k j ≠ 0
theorem least_of {p : Nat → Prop} : ∀ (n : Nat), p n → ∃ d, d ≤ n ∧ p d ∧ ∀ j, j < d → ¬ p j := by
  intro n
  induction n using Nat.strongRecOn with
  | _ n ih =>
    intro hn
    by_cases h : ∃ j, j < n ∧ p j
    · obtain ⟨j, hj, hp⟩ := h
      obtain ⟨d, q1, q2, q3⟩ := ih j hj hp
      exact ⟨d, by omega, q2, q3⟩
    · exact ⟨n, Nat.le_refl _, hn, fun j hj hp => h ⟨j, hj, hp⟩⟩
theorem od_ex {N : Nat} {m : Nat → Nat → Nat} (h : IsG N m) {k : Nat} (hk : k < N) : ∃ d, IsOd N m k d := by
  obtain ⟨i, j, q1, q2, q3⟩ := pigeon N (pwr m k) (fun i _ => pwr_lt h hk i)
  have e : pwr m k (j - i) = 0 := by
    have e1 := pwr_add h hk (j - i) i
    rw [show j - i + i = j by omega, ← q3] at e1
    refine (h.2.2.2.2 _ _ _ h.1 (pwr_lt h hk (j - i)) (pwr_lt h hk i) ?_).symm
    rw [(h.2.2.1 _ (pwr_lt h hk i)).1]
    exact e1
  obtain ⟨d, r1, r2, r3⟩ := least_of (p := fun d => 1 ≤ d ∧ pwr m k d = 0) (j - i) ⟨by omega, e⟩
  exact ⟨d, r2.1, by omega, r2.2, fun j h1 h2 h3 => r3 j h2 ⟨h1, h3⟩⟩
theorem od_un {N : Nat} {m : Nat → Nat → Nat} {k d e : Nat} (h1 : IsOd N m k d) (h2 : IsOd N m k e) : d = e := by
  apply Nat.le_antisymm
  · apply Nat.not_lt.mp
    intro h
    exact h1.2.2.2 e h2.1 h h2.2.2.1
  · apply Nat.not_lt.mp
    intro h
    exact h2.2.2.2 d h1.1 h h1.2.2.1
noncomputable def theN (p : Nat → Prop) : Nat := Classical.epsilon p
theorem theN_of {p : Nat → Prop} (h : ∃ n, p n) : p (theN p) := Classical.epsilon_spec h
/-- the order, the inverse -/
noncomputable def od (N : Nat) (m : Nat → Nat → Nat) (k : Nat) : Nat := theN (IsOd N m k)
theorem od_s {N : Nat} {m : Nat → Nat → Nat} (h : IsG N m) {k : Nat} (hk : k < N) : IsOd N m k (od N m k) := theN_of (od_ex h hk)
noncomputable def iv (N : Nat) (m : Nat → Nat → Nat) (k : Nat) : Nat := pwr m k (od N m k - 1)
theorem iv_lt {N : Nat} {m : Nat → Nat → Nat} (h : IsG N m) {k : Nat} (hk : k < N) : iv N m k < N := pwr_lt h hk _
theorem iv_l {N : Nat} {m : Nat → Nat → Nat} (h : IsG N m) {k : Nat} (hk : k < N) : m (iv N m k) k = 0 := by
  have o := od_s h hk
  have : pwr m k (od N m k - 1 + 1) = 0 := by rw [Nat.sub_add_cancel o.1]; exact o.2.2.1
  exact this
theorem iv_r {N : Nat} {m : Nat → Nat → Nat} (h : IsG N m) {k : Nat} (hk : k < N) : m k (iv N m k) = 0 := by
  have o := od_s h hk
  have := pwr_add h hk 1 (od N m k - 1)
  rw [pwr_1 h hk, show 1 + (od N m k - 1) = od N m k by have := o.1; omega, o.2.2.1] at this
  exact this.symm
theorem lcan {N : Nat} {m : Nat → Nat → Nat} (h : IsG N m) {a b c : Nat} (ha : a < N) (hb : b < N) (hc : c < N) (e : m c a = m c b) : a = b := by
  have h1 := h.2.2.2.1 (iv N m c) c a (iv_lt h hc) hc ha
  have h2 := h.2.2.2.1 (iv N m c) c b (iv_lt h hc) hc hb
  rw [iv_l h hc, (h.2.2.1 a ha).1] at h1
  rw [iv_l h hc, (h.2.2.1 b hb).1] at h2
  rw [h1, h2, e]
theorem iv_un {N : Nat} {m : Nat → Nat → Nat} (h : IsG N m) {a b : Nat} (ha : a < N) (hb : b < N) (e : m a b = 0) : b = iv N m a := lcan h hb (iv_lt h ha) ha (e.trans (iv_r h ha).symm)
/-- the group of a closing -/
def gmt (D : Int) (els : List (List Int)) (k l : Nat) : Nat := match mulL D (els.getD k []) (els.getD l []) with
  | some v => els.idxOf v
  | none => 0
theorem idx_getD {els : List (List Int)} {m : Nat} (hn : els.Nodup) (hm : m < els.length) : els.idxOf (els.getD m []) = m := by
  rw [List.getD_eq_getElem?_getD, List.getElem?_eq_getElem hm]
  exact List.Nodup.idxOf_getElem hn m hm
theorem getD_inj {els : List (List Int)} {k l : Nat} (hn : els.Nodup) (hk : k < els.length) (hl : l < els.length) (e : els.getD k [] = els.getD l []) : k = l := by
  have a := idx_getD hn hk
  have b := idx_getD hn hl
  rw [e] at a
  omega
theorem Clo.mul {D : Int} {told els : List (List Int)} (h : Clo D told els) {k : Nat} (hk : k < els.length) : ∀ l, l < els.length → ∃ m, m < els.length ∧ mulL D (els.getD k []) (els.getD l []) = some (els.getD m []) := by
  intro l
  induction l using Nat.strongRecOn with
  | _ l ih =>
    intro hl
    obtain ⟨h1, h2, h3, h4, h5, h6, h7⟩ := h
    by_cases hl0 : l = 0
    · subst hl0
      exact ⟨k, hk, by rw [h3]; exact mulL_r1 (h5 k hk).1⟩
    · obtain ⟨k', u, q1, q2, q3⟩ := h7 l (by omega) hl
      obtain ⟨m', r1, r2⟩ := ih k' q1 (by omega)
      obtain ⟨m, s1, s2⟩ := h6 m' u r1 q2
      exact ⟨m, s1, mulL_as r2 s2 q3⟩
theorem Clo.gm {D : Int} {told els : List (List Int)} (h : Clo D told els) {k l : Nat} (hk : k < els.length) (hl : l < els.length) : gmt D els k l < els.length ∧ mulL D (els.getD k []) (els.getD l []) = some (els.getD (gmt D els k l) []) := by
  obtain ⟨m, hm, e⟩ := h.mul hk l hl
  have : gmt D els k l = m := by
    unfold gmt
    rw [e]
    exact idx_getD h.2.2.2.1 hm
  rw [this]
  exact ⟨hm, e⟩
theorem Clo.gm_of {D : Int} {told els : List (List Int)} (h : Clo D told els) {k l m : Nat} (hm : m < els.length) (e : mulL D (els.getD k []) (els.getD l []) = some (els.getD m [])) : gmt D els k l = m := by
  unfold gmt
  rw [e]
  exact idx_getD h.2.2.2.1 hm
theorem Clo.isG {D : Int} {told els : List (List Int)} (h : Clo D told els) : IsG els.length (gmt D els) := by
  obtain ⟨h1, h2, h3, h4, h5, h6, h7⟩ := id h
  refine ⟨h2, fun a b ha hb => (h.gm ha hb).1, fun a ha => ⟨h.gm_of ha (by rw [h3]; exact mulL_l1 (h5 a ha).1), h.gm_of ha (by rw [h3]; exact mulL_r1 (h5 a ha).1)⟩, fun a b c ha hb hc => ?_, fun a b c ha hb hc e => ?_⟩
  · have ab := h.gm ha hb
    have bc := h.gm hb hc
    have abc := h.gm ab.1 hc
    exact (h.gm_of abc.1 (mulL_as ab.2 abc.2 bc.2)).symm
  · have ac := h.gm ha hc
    have bc := h.gm hb hc
    rw [e] at ac
    exact getD_inj h4 ha hb (mulL_inj (h5 a ha).1 (h5 b hb).1 (h5 c hc) ac.2 bc.2)
