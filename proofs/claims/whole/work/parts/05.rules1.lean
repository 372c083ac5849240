/-! ===== rules of the nice machine: numbers, stack, locals ===== -/
theorem ii_bmod {n : Int} (h1 : -2147483648 ≤ n) (h2 : n ≤ 2147483647) : n.bmod (2 ^ 32) = n := by
  rw [Int.bmod_def]; omega
theorem ii_toInt {x : Int} (h : inR x) : (Int32.ofInt x).toInt = x := by
  rw [Int32.toInt_ofInt]
  exact ii_bmod h.1 h.2
theorem ii_inj {x y : Int} (hx : inR x) (hy : inR y) : Int32.ofInt x = Int32.ofInt y ↔ x = y :=
  ⟨fun h => by rw [← ii_toInt hx, ← ii_toInt hy, h], fun h => by rw [h]⟩
theorem ii_lt {x y : Int} (hx : inR x) (hy : inR y) : Int32.ofInt x < Int32.ofInt y ↔ x < y := by
  rw [Int32.lt_iff_toInt_lt, ii_toInt hx, ii_toInt hy]
theorem ii_le {x y : Int} (hx : inR x) (hy : inR y) : Int32.ofInt x ≤ Int32.ofInt y ↔ x ≤ y := by
  rw [Int32.le_iff_toInt_le, ii_toInt hx, ii_toInt hy]
theorem ii_of {x : Int} {v : Int32} (h : v.toInt = x) : v = Int32.ofInt x := by
  rw [← h, Int32.ofInt_toInt]
theorem ii_add (x y : Int) : Int32.ofInt x + Int32.ofInt y = Int32.ofInt (x + y) := (Int32.ofInt_add ..).symm
theorem ii_sub (x y : Int) : Int32.ofInt x - Int32.ofInt y = Int32.ofInt (x - y) := (Int32.ofInt_sub ..).symm
theorem ii_mul (x y : Int) : Int32.ofInt x * Int32.ofInt y = Int32.ofInt (x * y) := (Int32.ofInt_mul ..).symm
theorem ii_neg (x : Int) : - Int32.ofInt x = Int32.ofInt (-x) := (Int32.ofInt_neg ..).symm
theorem ii_0 : Int32.ofInt 0 = 0 := rfl
theorem inR_0 : inR 0 := ⟨by decide, by decide⟩
theorem ii_div {x y : Int} (hx : inR x) (hy : inR y) (h : inR (x.tdiv y)) : Int32.ofInt x / Int32.ofInt y = Int32.ofInt (x.tdiv y) := by
  apply ii_of
  rw [Int32.toInt_div, ii_toInt hx, ii_toInt hy]
  exact ii_bmod h.1 h.2
theorem ii_cl {x : Int} (h : inR x) (h0 : 0 ≤ x) : (Int32.ofInt x).toNatClampNeg = x.toNat := by
  rw [Int32.toNatClampNeg, ii_toInt h]
theorem ii_in {x : Int} {n : Nat} (h : inR x) (h0 : 0 ≤ x) (hn : x.toNat < n) : vp_in (Int32.ofInt x) n := by
  rw [vp_in_iff, ii_toInt h]
  omega
/-! the locals -/
def asc (E : Ev) (l : List (Option NV)) : List (Nat × Value) := l.zipIdx.filterMap fun q => q.1.map fun v => (q.2, rv E v)
theorem asc_mem {E : Ev} {l : List (Option NV)} {q : Nat × Value} : q ∈ asc E l ↔ ∃ v, l[q.1]? = some (some v) ∧ q.2 = rv E v := by
  unfold asc
  rw [List.mem_filterMap]
  constructor
  · rintro ⟨⟨o, i⟩, hm, he⟩
    rw [List.mem_zipIdx_iff_getElem?] at hm
    cases o with
    | none => simp at he
    | some v =>
      simp at he
      exact ⟨v, by rw [← he]; exact hm, by rw [← he]⟩
  · rintro ⟨v, h1, h2⟩
    refine ⟨(some v, q.1), ?_, ?_⟩
    · rw [List.mem_zipIdx_iff_getElem?]; exact h1
    · simp [← h2]
theorem lvR.has {E : Ev} {ls : Array Slot} {nL : Nat} {l : List (Option NV)} (h : lvR E ls nL l) : lv_has ls nL (asc E l) := by
  refine ⟨h.1, h.2.2.1, fun q hq => ?_⟩
  obtain ⟨v, h1, h2⟩ := asc_mem.mp hq
  rw [h2]
  exact (h.2.2.2 q.1 v h1).1
theorem lvR.of {E : Ev} {ls : Array Slot} {nL : Nat} {l : List (Option NV)} {lv : List (Nat × Value)} (h : lv_has ls nL lv) (hl : l.length = nL) (hm : ∀ (i : Nat) (v : NV), l[i]? = some (some v) → (i, rv E v) ∈ lv ∧ okV v) : lvR E ls nL l :=
  ⟨h.1, hl, h.2.1, fun i v hv => ⟨h.2.2 _ (hm i v hv).1, (hm i v hv).2⟩⟩
/-- a local that begins a long just below is gone -/
def clr (l : List (Option NV)) : Nat → List (Option NV)
  | 0 => l
  | j + 1 => match l[j]? with
    | some (some (.inr (.inr _))) => l.set j none
    | _ => l
def st1q (l : List (Option NV)) (i : Nat) (v : NV) : List (Option NV) := (clr l i).set i (some v)
def st2q (l : List (Option NV)) (i : Nat) (v : NV) : List (Option NV) := ((clr l i).set i (some v)).set (i + 1) none
theorem clr_len (l : List (Option NV)) (i : Nat) : (clr l i).length = l.length := by
  cases i with
  | zero => rfl
  | succ j =>
    simp only [clr]
    split <;> simp
theorem clr_get {l : List (Option NV)} {i j : Nat} {v : NV} (h : (clr l i)[j]? = some (some v)) : l[j]? = some (some v) ∧ (j + 1 = i → ∀ x, v ≠ .inr (.inr x)) := by
  cases i with
  | zero => exact ⟨h, fun h0 => by omega⟩
  | succ k =>
    simp only [clr] at h
    split at h
    · rename_i y hy
      by_cases hjk : j = k
      · subst hjk
        have hlt : j < l.length := (List.getElem?_eq_some_iff.mp hy).1
        rw [List.getElem?_set_self hlt] at h
        simp at h
      · rw [List.getElem?_set_ne (Ne.symm hjk)] at h
        exact ⟨h, fun h0 => by omega⟩
    · rename_i hy
      refine ⟨h, fun h0 x hx => ?_⟩
      have : j = k := by omega
      subst this
      subst hx
      exact hy x h
theorem rr_cat (E : Ev) (a : Nat) : (rr E a).category = 1 := by
  unfold rr
  split
  · rfl
  · split
    · split <;> rfl
    · rfl
theorem rv_cat {E : Ev} {v : NV} (h : (rv E v).category = 2) : ∃ x, v = .inr (.inr x) := by
  rcases v with x | a | x
  · cases h
  · have := rr_cat E a
    change (rr E a).category = 2 at h
    omega
  · exact ⟨x, rfl⟩
theorem lvR.st1 {E : Ev} {ls : Array Slot} {nL : Nat} {l : List (Option NV)} {i : Nat} {v : NV} (h : lvR E ls nL l) (hv : okV v) {ls' : Array Slot}
    (h' : lv_has ls' nL ((i, rv E v) :: (asc E l).filter (fun q => !(q.1 == i) && !(q.1 + 1 == i && q.2.category == 2)))) : lvR E ls' nL (st1q l i v) := by
  refine lvR.of h' (by simp [st1q, clr_len, h.2.1]) fun j w hw => ?_
  unfold st1q at hw
  by_cases hij : i = j
  · subst hij
    have hlt : i < (clr l i).length := by
      have := (List.getElem?_eq_some_iff.mp hw).1
      simpa using this
    rw [List.getElem?_set_self hlt] at hw
    cases hw
    exact ⟨List.mem_cons_self, hv⟩
  · rw [List.getElem?_set_ne hij] at hw
    obtain ⟨h1, h2⟩ := clr_get hw
    refine ⟨List.mem_cons_of_mem _ (List.mem_filter.mpr ⟨asc_mem.mpr ⟨w, h1, rfl⟩, ?_⟩), (h.2.2.2 j w h1).2⟩
    simp only [Bool.and_eq_true, Bool.not_eq_true', beq_eq_false_iff_ne, ne_eq, Bool.and_eq_false_iff]
    refine ⟨fun z => hij z.symm, ?_⟩
    by_cases hj : j + 1 = i
    · refine Or.inr fun z => ?_
      obtain ⟨x, hx⟩ := rv_cat z
      exact h2 hj x hx
    · exact Or.inl hj
theorem lvR.st2 {E : Ev} {ls : Array Slot} {nL : Nat} {l : List (Option NV)} {i : Nat} {v : NV} (h : lvR E ls nL l) (hv : okV v) {ls' : Array Slot}
    (h' : lv_has ls' nL ((i, rv E v) :: (asc E l).filter (fun q => !(q.1 == i) && (!(q.1 == i + 1) && !(q.1 + 1 == i && q.2.category == 2))))) : lvR E ls' nL (st2q l i v) := by
  refine lvR.of h' (by simp [st2q, clr_len, h.2.1]) fun j w hw => ?_
  unfold st2q at hw
  by_cases hi1 : i + 1 = j
  · subst hi1
    have hlt : i + 1 < ((clr l i).set i (some v)).length := by
      have := (List.getElem?_eq_some_iff.mp hw).1
      simpa using this
    rw [List.getElem?_set_self hlt] at hw
    cases hw
  rw [List.getElem?_set_ne hi1] at hw
  by_cases hij : i = j
  · subst hij
    have hlt : i < (clr l i).length := by
      have := (List.getElem?_eq_some_iff.mp hw).1
      simpa using this
    rw [List.getElem?_set_self hlt] at hw
    cases hw
    exact ⟨List.mem_cons_self, hv⟩
  · rw [List.getElem?_set_ne hij] at hw
    obtain ⟨h1, h2⟩ := clr_get hw
    refine ⟨List.mem_cons_of_mem _ (List.mem_filter.mpr ⟨asc_mem.mpr ⟨w, h1, rfl⟩, ?_⟩), (h.2.2.2 j w h1).2⟩
    simp only [Bool.and_eq_true, Bool.not_eq_true', beq_eq_false_iff_ne, ne_eq, Bool.and_eq_false_iff]
    refine ⟨fun z => hij z.symm, fun z => hi1 z.symm, ?_⟩
    by_cases hj : j + 1 = i
    · refine Or.inr fun z => ?_
      obtain ⟨x, hx⟩ := rv_cat z
      exact h2 hj x hx
    · exact Or.inl hj
