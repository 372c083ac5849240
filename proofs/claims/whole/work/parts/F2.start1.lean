/-! ===== the start: what is fixed, and the machine's words ===== -/
def stS (L : Nat) : List (Nat × Nat) := [(0, 0), (30, 16), (30, 16), (30, 16), (30, 16), (30, L), (32, 0), (32, 0), (31, 4), (31, 4), (32, 0), (32, 0), (31, 4), (31, 4), (0, 0), (0, 0)]
def stI (xs : Nat → Int32) (a j : Nat) : Int := if a = 1 then xSg.getD j 0 else if a = 2 then xLf.getD j 0 else if a = 3 then xRt.getD j 0 else if a = 4 then xSn.getD j 0 else if a = 5 then (xs j).toInt else if a = 8 ∨ a = 12 then (xts 0).getD j 0 else if a = 9 ∨ a = 13 then (xts 1).getD j 0 else 0
def stR (a j : Nat) : Nat := if j = 0 then (if a = 6 then 8 else if a = 7 then 9 else if a = 10 then 12 else if a = 11 then 13 else 0) else 0
def stE (d : va_G) (A : Nat → ClassId) (s : State) (X : List Value) (L : Nat) (xs : Nat → Int32) (l : Launch) : Ev := (d, A, s.heap.size, s.heap, fun a => X.getD a .null, fun a => (stS L).getD a (0, 0), stI xs, stR, l)
def stG (L : Nat) (xs : Nat → Int32) : Sg := (stI xs, stR, fun a => (stS L).getD a (0, 0), 16)
theorem stS_hi {L a : Nat} (h : 16 ≤ a) : (stS L).getD a (0, 0) = (0, 0) := by
  rw [List.getD_eq_getElem?_getD, List.getElem?_eq_none (show (stS L).length ≤ a from h)]; rfl
theorem st_XT (L : Nat) (xs : Nat → Int32) : XT (stG L xs) := by
  refine ⟨⟨rfl, fun j hj => rfl⟩, ⟨rfl, fun j hj => rfl⟩, ⟨rfl, fun j hj => rfl⟩, ⟨rfl, fun j hj => rfl⟩, fun q hq => ?_⟩
  have h4 : q = (6, 0) ∨ q = (7, 1) ∨ q = (10, 0) ∨ q = (11, 1) := by simpa using hq
  rcases h4 with rfl | rfl | rfl | rfl
  · exact ⟨rfl, rfl, by show 0 < 8; decide, by show 8 < 16; decide, rfl, fun j hj => rfl⟩
  · exact ⟨rfl, rfl, by show 0 < 9; decide, by show 9 < 16; decide, rfl, fun j hj => rfl⟩
  · exact ⟨rfl, rfl, by show 0 < 12; decide, by show 12 < 16; decide, rfl, fun j hj => rfl⟩
  · exact ⟨rfl, rfl, by show 0 < 13; decide, by show 13 < 16; decide, rfl, fun j hj => rfl⟩
theorem st_Rel (d : va_G) (A : Nat → ClassId) (s : State) (X : List Value) (L : Nat) (xs : Nat → Int32) (l : Launch) : Rel (stE d A s X L xs l) (stG L xs) s.heap :=
  ⟨⟨rfl, Nat.le_refl _, fun _ _ => rfl⟩, Nat.le_refl 16, rfl, fun a h1 h2 => absurd (show a < 16 from h2) (by omega), fun a _ => ⟨rfl, fun _ => ⟨rfl, rfl⟩⟩, fun a ha => stS_hi ha, fun a ha => by
    show ((stS L).getD a (0, 0)).1 < 30
    rw [stS_hi ha]; decide⟩
theorem c16 {P : Nat → Prop} (h0 : P 0) (h1 : P 1) (h2 : P 2) (h3 : P 3) (h4 : P 4) (h5 : P 5) (h6 : P 6) (h7 : P 7) (h8 : P 8) (h9 : P 9) (h10 : P 10) (h11 : P 11) (h12 : P 12) (h13 : P 13) (h14 : P 14) (h15 : P 15) : ∀ a, a < 16 → P a := fun a ha =>
  match a, ha with
  | 0, _ => h0
  | 1, _ => h1
  | 2, _ => h2
  | 3, _ => h3
  | 4, _ => h4
  | 5, _ => h5
  | 6, _ => h6
  | 7, _ => h7
  | 8, _ => h8
  | 9, _ => h9
  | 10, _ => h10
  | 11, _ => h11
  | 12, _ => h12
  | 13, _ => h13
  | 14, _ => h14
  | 15, _ => h15
  | n + 16, h => absurd h (by omega)
/-- a place outside with nothing of a kind -/
theorem x_no {E : Ev} {s : State} {a : Nat} (h : (eS E a).1 = 0) : xOK E s a := ⟨fun h9 => absurd (h.symm.trans h9) (by decide), fun h9 => absurd (h.symm.trans h9) (by decide), fun h9 => absurd (h.symm.trans h9) (by decide)⟩
theorem x_30 {E : Ev} {s : State} {a b : Nat} {cell : Cell} (h : (eS E a).1 = 30) (hX : eX E a = .ref b) (h1 : b < eB E) (h2 : (eH E)[b]? = some cell) (h3 : s.isArrayOf cell .int) (h4 : cell.vm ≠ .unknown) (h5 : cell.slots.size = (eS E a).2) (h6 : ∀ j, j < (eS E a).2 → cell.slots[j]? = some (.int (Int32.ofInt (eI E a j))) ∧ inR (eI E a j)) : xOK E s a :=
  ⟨fun _ => ⟨b, cell, hX, h1, h2, h3, h4, h5, h6⟩, fun h9 => absurd (h.symm.trans h9) (by decide), fun h9 => absurd (h.symm.trans h9) (by decide)⟩
theorem x_31 {E : Ev} {s : State} {a b : Nat} {cell : Cell} (h : (eS E a).1 = 31) (hX : eX E a = .ref b) (h1 : b < eB E) (h2 : (eH E)[b]? = some cell) (h3 : s.isArrayOf cell .byte) (h4 : cell.vm ≠ .unknown) (h5 : cell.slots.size = (eS E a).2) (h6 : ∀ j, j < (eS E a).2 → cell.slots[j]? = some (.int (Int32.ofInt (eI E a j))) ∧ inR (eI E a j)) : xOK E s a :=
  ⟨fun h9 => absurd (h.symm.trans h9) (by decide), fun _ => ⟨b, cell, hX, h1, h2, h3, h4, h5, h6⟩, fun h9 => absurd (h.symm.trans h9) (by decide)⟩
theorem x_32 {E : Ev} {s : State} {a b : Nat} (h : (eS E a).1 = 32) (hX : eX E a = .ref b) (h1 : va_O "java/lang/String" b (fre E) s (eH E)) (h2 : va_OF "java/lang/String" "value" "[B" (rr E (eR E a 0)) b (fre E) s (eH E)) (h3 : va_OF "java/lang/String" "coder" "B" (.int (Int32.ofInt (eI E a 1))) b (fre E) s (eH E)) (h4 : inR (eI E a 1)) : xOK E s a :=
  ⟨fun h9 => absurd (h.symm.trans h9) (by decide), fun h9 => absurd (h.symm.trans h9) (by decide), fun _ => ⟨b, hX, h1, h2, h3, h4⟩⟩
theorem isref_ev {args : Array Value} {s : State} {t : Term} (h : (Cond.isRef t).before args s = true) : t.eval args s none [] s = some .null ∨ ∃ a, t.eval args s none [] s = some (.ref a) := by
  obtain ⟨v, hv, hr⟩ := Cond.isRef_spec h
  cases v with
  | ref a => exact .inr ⟨a, hv⟩
  | null => exact .inl hv
  | _ => simp [Value.isRef] at hr
/-- the classes -/
theorem st_cls {args : Array Value} {s : State} (hts : ∀ w ∈ lw_tbl, w.before args s = true) : ∃ d : va_G, va_K d CLs [] s := by
  have hw : ∀ w ∈ lwW, w.before args s = true := fun w h => hts w (List.mem_filter.mp h).1
  have g : ∀ {ci : Nat} {C : String} {T : u_T} {N : Nat} {ty : Nat → FieldType}, CLk ci C T N ty → ∃ (c : ClassId) (iS : Nat → Nat), u_Kn s C T N c iS := fun h => u_known (ws := lwW) hw h.2.1 (hw _ h.2.2.2.2.2.1)
  have e : ∀ {C : String} {n : Nat}, (Cond.instantiable C n).before args s = true → ∃ (c : ClassId) (iS : Nat → Nat), u_Kn s C TX2 0 c iS := fun h => u_known (ws := lwW) hw (fun w h9 => by simp [u_ws] at h9) h
  have hk : ∀ (k : Nat) (q : vw_C), CLs[k]? = some q → ∃ (c : ClassId) (iS : Nat → Nat), u_Kn s q.1 q.2.1 q.2.2 c iS := by
    intro k q hq
    match k, hq with
    | 0, hq => cases hq; exact g CL_0
    | 1, hq => cases hq; exact g CL_1
    | 2, hq => cases hq; exact g CL_2
    | 3, hq => cases hq; exact g CL_3
    | 4, hq => cases hq; exact g CL_4
    | 5, hq => cases hq; exact g CL_5
    | 6, hq => cases hq; exact g CL_6
    | 7, hq => cases hq; exact g CL_7
    | 8, hq => cases hq; exact g CL_8
    | 9, hq => cases hq; exact g CL_9
    | 10, hq => cases hq; exact g CL_10
    | 11, hq => cases hq; exact g CL_11
    | 12, hq => cases hq; exact g CL_12
    | 13, hq => cases hq; exact e (hts (.instantiable "java/util/NoSuchElementException" 6) (List.mem_of_getElem? (i := 951) (by decide +kernel)))
    | 14, hq => cases hq; exact e (hts (.instantiable "java/lang/IllegalArgumentException" 6) (List.mem_of_getElem? (i := 712) (by decide +kernel)))
    | 15, hq => cases hq; exact e (hts (.instantiable "java/lang/IllegalStateException" 6) (List.mem_of_getElem? (i := 906) (by decide +kernel)))
    | k + 16, hq => simp at hq
  have h0 : ∀ k : Nat, ∃ z : ClassId × (Nat → Nat), ∀ q : vw_C, CLs[k]? = some q → u_Kn s q.1 q.2.1 q.2.2 z.1 z.2 := fun k => by
    cases h : CLs[k]? with
    | none => exact ⟨(0, fun _ => 0), fun q h9 => by cases h9⟩
    | some q =>
      obtain ⟨c, i, hh⟩ := hk k q h
      exact ⟨(c, i), fun q' h9 => by cases h9; exact hh⟩
  obtain ⟨f, hf⟩ := Classical.axiomOfChoice h0
  exact ⟨(fun k => (f k).1, fun k => (f k).2), fun k q hq => hf k q hq, fun k q h => by simp at h⟩
