/-! ===== the start: tables and strings that lie outside ===== -/
theorem tab_of {args : Array Value} {s : State} {tm : Term} {ty : FieldType} {L : List Int} (hN : L.length < 2 ^ 31) (harr : (Cond.arrayOf tm ty).before args s = true) (hle : (Cond.eq (.length tm) (.int (Int32.ofNat L.length))).before args s = true)
    (hel : ∀ j : Nat, j < L.length → (Cond.eq (.elem tm (.int (Int32.ofNat j))) (.int (Int32.ofInt (L.getD j 0)))).before args s = true) :
    ∃ (t : Nat) (cell : Cell), tm.eval args s none [] s = some (.ref t) ∧ t < s.heap.size ∧ s.heap[t]? = some cell ∧ s.isArrayOf cell ty ∧ cell.vm ≠ .unknown ∧ cell.slots.size = L.length ∧ ∀ j : Nat, j < L.length → cell.slots[j]? = some (.int (Int32.ofInt (L.getD j 0))) := by
  have hlen := va_eqt hle
  obtain ⟨t, cell, ht, hat, hv⟩ := Term.length_spec hlen
  obtain ⟨hcell, hkn, -, -⟩ := State.arrayAt?_spec hat
  obtain ⟨hof, -⟩ := Cond.arrayOf_spec harr ht hcell
  have hsz : cell.slots.size < 2 ^ 31 := by
    simp only [Term.eval, ht, hat, Option.bind_eq_bind, Option.bind_some] at hlen
    by_cases hlt : cell.slots.size < 2147483648
    · exact hlt
    · simp [hlt] at hlen
  have h1 := Value.int.inj hv
  have h2 := congrArg Int32.toInt h1
  rw [Int32.toInt_ofNat_small hN] at h2
  have h3 : (cell.slots.size.toInt32).toInt = (cell.slots.size : Int) := Int32.toInt_ofNat_small hsz
  rw [h3] at h2
  refine ⟨t, cell, ht, (Array.getElem?_eq_some_iff.mp hcell).1, hcell, hof, hkn, by omega, ?_⟩
  intro j hj
  obtain ⟨a, i, cell2, e1, e2, e3, e4, e5⟩ := Term.elem_spec (va_eqt (hel j hj))
  cases ht.symm.trans e1
  cases hat.symm.trans e3
  have hi : i = Int32.ofNat j := by
    have e : (Term.int (Int32.ofNat j)).eval args s none [] s = some (.int (Int32.ofNat j)) := rfl
    cases e2.symm.trans e
    rfl
  have hc : i.toNatClampNeg = j := by rw [hi]; exact Int32.toNatClampNeg_ofNat_of_lt (Nat.lt_trans hj hN)
  rw [hc] at e5
  exact e5
theorem str_of {args : Array Value} {s : State} {tm : Term} {L : List Int} {A : Nat → Prop} (hN : L.length < 2 ^ 31) (hex : (Cond.exactly tm "java/lang/String").before args s = true) (hco : (Cond.eq (.field tm "java/lang/String" "coder" "B") (.int 0)).before args s = true)
    (harr : (Cond.arrayOf (.field tm "java/lang/String" "value" "[B") .byte).before args s = true) (hle : (Cond.eq (.length (.field tm "java/lang/String" "value" "[B")) (.int (Int32.ofNat L.length))).before args s = true)
    (hel : ∀ j : Nat, j < L.length → (Cond.eq (.elem (.field tm "java/lang/String" "value" "[B") (.int (Int32.ofNat j))) (.int (Int32.ofInt (L.getD j 0)))).before args s = true) (hA : ∀ a : Nat, a < s.heap.size → ¬ A a) :
    ∃ (a t : Nat) (cell : Cell), tm.eval args s none [] s = some (.ref a) ∧ va_O "java/lang/String" a A s s.heap ∧ va_OF "java/lang/String" "value" "[B" (.ref t) a A s s.heap ∧ va_OF "java/lang/String" "coder" "B" (.int 0) a A s s.heap ∧
      t < s.heap.size ∧ s.heap[t]? = some cell ∧ s.isArrayOf cell .byte ∧ cell.vm ≠ .unknown ∧ cell.slots.size = L.length ∧ ∀ j : Nat, j < L.length → cell.slots[j]? = some (.int (Int32.ofInt (L.getD j 0))) := by
  obtain ⟨a, c, cA, kA, q1, q2, q3, q4, q5, q6, -⟩ := Cond.exactly_spec (args := args) (first := s) (o := none) (s := s) (idx := []) (t := tm) (cls := "java/lang/String") hex
  obtain ⟨t, cell, ht, h1, h2, h3, h4, h5, h6⟩ := tab_of hN harr hle hel
  exact ⟨a, t, cell, q1, ⟨cA, q3, q5, by rw [q6]; exact q2, hA a (Array.getElem?_eq_some_iff.mp q3).1⟩, vk_OFof q1 ht hA, vk_OFof q1 (va_eqt hco) hA, h1, h2, h3, h4, h5, h6⟩
/-- the array classes -/
theorem arr_of {args : Array Value} {s : State} {ty : FieldType} (hty : ∀ C, ty ≠ .object C) (h : (Cond.arrayClass ty).before args s = true) : ∃ c : ClassId, ArrOfT s c ty ∧ s.vm.findClass ("[" ++ ty.toString) = some c := by
  obtain ⟨c, k, comp, h1, h2, h3⟩ := Cond.arrayClass_spec h
  exact ⟨c, fun n z => ⟨fun k h => (by cases h), k, h2, comp, h3⟩, h1⟩
theorem arr2_of {args : Array Value} {s : State} (hi : (Cond.arrayClass .int).before args s = true) (h : (Cond.arrayOver (.array .int)).before args s = true) : ∃ (c2 c : ClassId) (kA kC : Class), ArrOfT s c .int ∧ s.vm.findClass ("[" ++ (FieldType.int).toString) = some c ∧ ArrOfT s c2 (.array .int) ∧ s.vm.findClass ("[" ++ (FieldType.array .int).toString) = some c2 ∧ s.vm.classes[c2]? = some kA ∧ kA.kind = .array c (.array .int) ∧ s.vm.classes[c]? = some kC ∧ va_AOA .int s := by
  obtain ⟨comp, c, k, h1, h2, h3, h4, h5⟩ := Stand.arrayOver_specB h
  obtain ⟨c1, k1, comp1, g1, g2, g3⟩ := Cond.arrayClass_spec hi
  have e : comp = c1 := Option.some.inj (h1.symm.trans g1)
  subst e
  exact ⟨c, comp, k, k1, fun n z => ⟨fun k h => (by cases h), k1, g2, comp1, g3⟩, g1, fun n z => ⟨fun k h => (by cases h), k, h3, comp, h4⟩, h5, h3, h4, g2, h⟩
