/-! ===== the start: KK ===== -/
theorem st_KK {args : Array Value} {s : State} {l : Launch} (hfl : l.stackTraces = false) {b L : Nat} {xs : Nat → Int32} (hts : ∀ w ∈ lw_tbl, w.before args s = true) (hX : va_X b L xs s s.heap) (hgv : (Jvm.Cond.and given_1 narrow_1).before args s = true) :
    ∃ (d : va_G) (A : Nat → ClassId) (X : List Value), X.getD 5 .null = .ref b ∧ KK (stE d A s X L xs l) s := by
  have hs := flat_of_before _ hgv
  have hA : ∀ {B : Nat}, B = s.heap.size → ∀ a : Nat, a < s.heap.size → ¬ (B ≤ a) := fun e a ha => by omega
  obtain ⟨d, hd⟩ := st_cls hts
  obtain ⟨c2, c0, kA, kC, ar1, ar2, ar3, ar4, ar5, ar6, ar7, ar8⟩ := arr2_of (s := s) (hts (.arrayClass .int) (List.mem_of_getElem? (i := 175) (by decide +kernel))) (hts (.arrayOver (.array .int)) (List.mem_of_getElem? (i := 310) (by decide +kernel)))
  obtain ⟨cb, by1, by2⟩ := arr_of (s := s) (ty := .byte) (fun C h => by cases h) (hts (.arrayClass .byte) (List.mem_of_getElem? (i := 147) (by decide +kernel)))
  obtain ⟨cz, bo1, bo2⟩ := arr_of (s := s) (ty := .boolean) (fun C h => by cases h) (hts (.arrayClass .boolean) (List.mem_of_getElem? (i := 1542) (by decide +kernel)))
  obtain ⟨cl, lo1, lo2⟩ := arr_of (s := s) (ty := .long) (fun C h => by cases h) (hts (.arrayClass .long) (List.mem_of_getElem? (i := 1868) (by decide +kernel)))
  obtain ⟨t1, k1, e1, i1, g1, j1, v1, z1, s1⟩ := tab_of (s := s) (args := args) (tm := (.static "DoubleTurns" "SIGNS" "[I")) (ty := .int) (L := xSg) (by decide) (hs _ (by decide +kernel)) (hs _ (by decide +kernel)) (fun j hj => hs _ (by revert hj; revert j; decide +kernel))
  obtain ⟨t2, k2, e2, i2, g2, j2, v2, z2, s2⟩ := tab_of (s := s) (args := args) (tm := (.static "DoubleTurnsModel" "LEFT" "[I")) (ty := .int) (L := xLf) (by decide) (hs _ (by decide +kernel)) (hs _ (by decide +kernel)) (fun j hj => hs _ (by revert hj; revert j; decide +kernel))
  obtain ⟨t3, k3, e3, i3, g3, j3, v3, z3, s3⟩ := tab_of (s := s) (args := args) (tm := (.static "DoubleTurnsModel" "RIGHT" "[I")) (ty := .int) (L := xRt) (by decide) (hs _ (by decide +kernel)) (hs _ (by decide +kernel)) (fun j hj => hs _ (by revert hj; revert j; decide +kernel))
  obtain ⟨t4, k4, e4, i4, g4, j4, v4, z4, s4⟩ := tab_of (s := s) (args := args) (tm := (.static "DoubleTurnsModel" "SIGN" "[I")) (ty := .int) (L := xSn) (by decide) (hs _ (by decide +kernel)) (hs _ (by decide +kernel)) (fun j hj => hs _ (by revert hj; revert j; decide +kernel))
  obtain ⟨a6, t6, k6, e6, o6, w6, c6, i6, g6, j6, v6, z6, s6⟩ := str_of (s := s) (args := args) (tm := (.string "DoubleTurns$Reader" 32)) (L := xts 0) (A := fun q => s.heap.size ≤ q) (by decide) (hs _ (by decide +kernel)) (hs _ (by decide +kernel)) (hs _ (by decide +kernel)) (hs _ (by decide +kernel)) (fun j hj => hs _ (by revert hj; revert j; decide +kernel)) (hA rfl)
  obtain ⟨a7, t7, k7, e7, o7, w7, c7, i7, g7, j7, v7, z7, s7⟩ := str_of (s := s) (args := args) (tm := (.string "DoubleTurns$Reader" 70)) (L := xts 1) (A := fun q => s.heap.size ≤ q) (by decide) (hs _ (by decide +kernel)) (hs _ (by decide +kernel)) (hs _ (by decide +kernel)) (hs _ (by decide +kernel)) (fun j hj => hs _ (by revert hj; revert j; decide +kernel)) (hA rfl)
  obtain ⟨a10, t10, k10, e10, o10, w10, c10, i10, g10, j10, v10, z10, s10⟩ := str_of (s := s) (args := args) (tm := (.string "DoubleTurnsModel" 181)) (L := xts 0) (A := fun q => s.heap.size ≤ q) (by decide) (hs _ (by decide +kernel)) (hs _ (by decide +kernel)) (hs _ (by decide +kernel)) (hs _ (by decide +kernel)) (fun j hj => hs _ (by revert hj; revert j; decide +kernel)) (hA rfl)
  obtain ⟨a11, t11, k11, e11, o11, w11, c11, i11, g11, j11, v11, z11, s11⟩ := str_of (s := s) (args := args) (tm := (.string "DoubleTurnsModel" 157)) (L := xts 1) (A := fun q => s.heap.size ≤ q) (by decide) (hs _ (by decide +kernel)) (hs _ (by decide +kernel)) (hs _ (by decide +kernel)) (hs _ (by decide +kernel)) (fun j hj => hs _ (by revert hj; revert j; decide +kernel)) (hA rfl)
  have hfo := isref_ev (hs (.isRef (.static "jdk/internal/util/Preconditions" "SIOOBE_FORMATTER" "Ljava/util/function/BiFunction;")) (by decide +kernel))
  obtain ⟨fo, hfo1, hfo2⟩ : ∃ fo : Value, (Term.static "jdk/internal/util/Preconditions" "SIOOBE_FORMATTER" "Ljava/util/function/BiFunction;").eval args s none [] s = some fo ∧ (fo = .null ∨ ∃ a, fo = .ref a) := by
    rcases hfo with h | ⟨a, h⟩
    · exact ⟨_, h, .inl rfl⟩
    · exact ⟨_, h, .inr ⟨a, rfl⟩⟩
  obtain ⟨scr, x1, x2, x3, x4, x5⟩ := hX
  refine ⟨d, fun c => if c = 24 then c2 else if c = 20 then c0 else if c = 21 then cb else if c = 22 then cz else cl, [.null, .ref t1, .ref t2, .ref t3, .ref t4, .ref b, .ref a6, .ref a7, .ref t6, .ref t7, .ref a10, .ref a11, .ref t10, .ref t11, fo, .null], rfl, ?_⟩
  have inT : ∀ {T : List Int} {n : Nat}, T.length = n → (∀ j, j < T.length → -2147483648 ≤ T.getD j 0 ∧ T.getD j 0 ≤ 2147483647) → ∀ j, j < n → inR (T.getD j 0) := fun e h j hj => h j (by omega)
  have ini : ∀ (C : String), (Cond.initialized C) ∈ lw_tbl → (Cond.initialized C).before args s = true := fun C h => hts _ h
  refine ⟨hd, fun c h1 h2 => ?_, c16 (x_no rfl) ?_ ?_ ?_ ?_ ?_ ?_ ?_ ?_ ?_ ?_ ?_ ?_ ?_ (x_no rfl) (x_no rfl), ?_, fun w hw hn => ?_, ?_, ?_, ?_, ?_, ?_, fun w hw hn => ?_, ⟨kA, kC, ar5, ar6, ar7, va_asg _ _, ar8⟩, ?_, hfl⟩
  · have h3 : c = 20 ∨ c = 21 ∨ c = 22 ∨ c = 23 ∨ c = 24 := by omega
    rcases h3 with rfl | rfl | rfl | rfl | rfl
    · exact ⟨ar1, ar2⟩
    · exact ⟨by1, by2⟩
    · exact ⟨bo1, bo2⟩
    · exact ⟨lo1, lo2⟩
    · exact ⟨ar3, ar4⟩
  · exact x_30 (b := t1) (cell := k1) rfl rfl i1 g1 j1 v1 z1 (fun j hj => ⟨s1 j hj, inT (T := xSg) rfl (by decide +kernel) j hj⟩)
  · exact x_30 (b := t2) (cell := k2) rfl rfl i2 g2 j2 v2 z2 (fun j hj => ⟨s2 j hj, inT (T := xLf) rfl (by decide +kernel) j hj⟩)
  · exact x_30 (b := t3) (cell := k3) rfl rfl i3 g3 j3 v3 z3 (fun j hj => ⟨s3 j hj, inT (T := xRt) rfl (by decide +kernel) j hj⟩)
  · exact x_30 (b := t4) (cell := k4) rfl rfl i4 g4 j4 v4 z4 (fun j hj => ⟨s4 j hj, inT (T := xSn) rfl (by decide +kernel) j hj⟩)
  · refine x_30 (b := b) (cell := scr) rfl rfl (Array.getElem?_eq_some_iff.mp x1).1 x1 x2 x3 x4 (fun j hj => ⟨?_, ?_⟩)
    · have : Int32.ofInt (eI (stE d (fun c => if c = 24 then c2 else if c = 20 then c0 else if c = 21 then cb else if c = 22 then cz else cl) s [.null, .ref t1, .ref t2, .ref t3, .ref t4, .ref b, .ref a6, .ref a7, .ref t6, .ref t7, .ref a10, .ref a11, .ref t10, .ref t11, fo, .null] L xs l) 5 j) = xs j := Int32.ofInt_toInt (xs j)
      rw [this]; exact x5 j hj
    · exact ⟨Int32.le_toInt (xs j), by have := Int32.toInt_lt (xs j); show (xs j).toInt ≤ _; omega⟩
  · exact x_32 (b := a6) rfl rfl o6 w6 c6 ⟨by show (-2147483648 : Int) ≤ 0; decide, by show (0 : Int) ≤ _; decide⟩
  · exact x_32 (b := a7) rfl rfl o7 w7 c7 ⟨by show (-2147483648 : Int) ≤ 0; decide, by show (0 : Int) ≤ _; decide⟩
  · exact x_31 (b := t6) (cell := k6) rfl rfl i6 g6 j6 v6 z6 (fun j hj => ⟨s6 j hj, inT (T := xts 0) rfl (by decide +kernel) j hj⟩)
  · exact x_31 (b := t7) (cell := k7) rfl rfl i7 g7 j7 v7 z7 (fun j hj => ⟨s7 j hj, inT (T := xts 1) rfl (by decide +kernel) j hj⟩)
  · exact x_32 (b := a10) rfl rfl o10 w10 c10 ⟨by show (-2147483648 : Int) ≤ 0; decide, by show (0 : Int) ≤ _; decide⟩
  · exact x_32 (b := a11) rfl rfl o11 w11 c11 ⟨by show (-2147483648 : Int) ≤ 0; decide, by show (0 : Int) ≤ _; decide⟩
  · exact x_31 (b := t10) (cell := k10) rfl rfl i10 g10 j10 v10 z10 (fun j hj => ⟨s10 j hj, inT (T := xts 0) rfl (by decide +kernel) j hj⟩)
  · exact x_31 (b := t11) (cell := k11) rfl rfl i11 g11 j11 v11 z11 (fun j hj => ⟨s11 j hj, inT (T := xts 1) rfl (by decide +kernel) j hj⟩)
  · intro q hq
    have h6 : q = STs[0] ∨ q = STs[1] ∨ q = STs[2] ∨ q = STs[3] ∨ q = STs[4] ∨ q = STs[5] := by simpa using hq
    rcases h6 with rfl | rfl | rfl | rfl | rfl | rfl
    · exact va_Zof (hts _ (List.mem_of_getElem? (i := 524) (by decide +kernel))) (hts _ (List.mem_of_getElem? (i := 98) (by decide +kernel))) e1 (hA rfl)
    · exact va_Zof (hts _ (List.mem_of_getElem? (i := 1386) (by decide +kernel))) (hts _ (List.mem_of_getElem? (i := 112) (by decide +kernel))) e2 (hA rfl)
    · exact va_Zof (hts _ (List.mem_of_getElem? (i := 1388) (by decide +kernel))) (hts _ (List.mem_of_getElem? (i := 112) (by decide +kernel))) e3 (hA rfl)
    · exact va_Zof (hts _ (List.mem_of_getElem? (i := 1390) (by decide +kernel))) (hts _ (List.mem_of_getElem? (i := 112) (by decide +kernel))) e4 (hA rfl)
    · exact va_Zof (hts _ (List.mem_of_getElem? (i := 807) (by decide +kernel))) (hts _ (List.mem_of_getElem? (i := 117) (by decide +kernel))) (va_eqt (z := 1) (hs _ (by decide +kernel))) (hA rfl)
    · have e : rv (stE d (fun c => if c = 24 then c2 else if c = 20 then c0 else if c = 21 then cb else if c = 22 then cz else cl) s [.null, .ref t1, .ref t2, .ref t3, .ref t4, .ref b, .ref a6, .ref a7, .ref t6, .ref t7, .ref a10, .ref a11, .ref t10, .ref t11, fo, .null] L xs l) (vr 14) = fo := by
        rcases hfo2 with rfl | ⟨a, rfl⟩ <;> rfl
      show va_Z "jdk/internal/util/Preconditions" "SIOOBE_FORMATTER" "Ljava/util/function/BiFunction;" (rv _ (vr 14)) _ _ _
      rw [e]
      exact va_Zof (hts _ (List.mem_of_getElem? (i := 823) (by decide +kernel))) (hts _ (List.mem_of_getElem? (i := 119) (by decide +kernel))) hfo1 (hA rfl)
  · cases w <;> first | exact Bool.noConfusion hn | exact va_Nw.of rfl (hts _ hw)
  · exact vx_Zqof (hts _ (List.mem_of_getElem? (i := 738) (by decide +kernel))) (hts _ (List.mem_of_getElem? (i := 113) (by decide +kernel))) (hs _ (by decide +kernel)) (hA rfl)
  · exact vx_Zqof (hts _ (List.mem_of_getElem? (i := 740) (by decide +kernel))) (hts _ (List.mem_of_getElem? (i := 113) (by decide +kernel))) (hs _ (by decide +kernel)) (hA rfl)
  · intro q hq
    have h4 : q = SCs[0] ∨ q = SCs[1] ∨ q = SCs[2] ∨ q = SCs[3] := by simpa using hq
    rcases h4 with rfl | rfl | rfl | rfl
    · exact ⟨a6, rfl, vk_R.of (hts _ (List.mem_of_getElem? (i := 782) (by decide +kernel))) e6⟩
    · exact ⟨a7, rfl, vk_R.of (hts _ (List.mem_of_getElem? (i := 871) (by decide +kernel))) e7⟩
    · exact ⟨a11, rfl, vk_R.of (hts _ (List.mem_of_getElem? (i := 1611) (by decide +kernel))) e11⟩
    · exact ⟨a10, rfl, vk_R.of (hts _ (List.mem_of_getElem? (i := 1574) (by decide +kernel))) e10⟩
  · intro q hq
    have st : ∀ {own tx : String} {k : Nat}, (Cond.stringRef own k tx).before args s = true → (Cond.exactly (.string own k) "java/lang/String").before args s = true → ∃ a, vk_R own k tx a s := fun h1 h2 => by
      obtain ⟨a, c, cA, kA, q1, -⟩ := Cond.exactly_spec (args := args) (first := s) (o := none) (s := s) (idx := []) h2
      exact ⟨a, vk_R.of h1 q1⟩
    have h5 : q = ("DoubleTurns", 364, "no such one") ∨ q = ("DoubleTurns", 367, "another argument") ∨ q = ("DoubleTurns", 168, "no turn") ∨ q = ("DoubleTurns", 178, "there are four") ∨ q = ("DoubleTurns", 188, "it does not close") := by simpa using hq
    rcases h5 with rfl | rfl | rfl | rfl | rfl
    · exact st (hts _ (List.mem_of_getElem? (i := 959) (by decide +kernel))) (hs _ (by decide +kernel))
    · exact st (hts _ (List.mem_of_getElem? (i := 752) (by decide +kernel))) (hs _ (by decide +kernel))
    · exact st (hts _ (List.mem_of_getElem? (i := 904) (by decide +kernel))) (hs _ (by decide +kernel))
    · exact st (hts _ (List.mem_of_getElem? (i := 914) (by decide +kernel))) (hs _ (by decide +kernel))
    · exact st (hts _ (List.mem_of_getElem? (i := 928) (by decide +kernel))) (hs _ (by decide +kernel))
  · intro q hq
    have h6 : q = (0, 1) ∨ q = (0, 2) ∨ q = (1, 0) ∨ q = (1, 2) ∨ q = (2, 0) ∨ q = (2, 1) := by simpa using hq
    rcases h6 with rfl | rfl | rfl | rfl | rfl | rfl
    · exact va_Nc.of (hs _ (by decide +kernel))
    · exact va_Nc.of (hs _ (by decide +kernel))
    · exact va_Nc.of (hs _ (by decide +kernel))
    · exact va_Nc.of (hs _ (by decide +kernel))
    · exact va_Nc.of (hs _ (by decide +kernel))
    · exact va_Nc.of (hs _ (by decide +kernel))
  · cases w <;> first | exact Bool.noConfusion hn | exact va_Nw.of rfl (hts _ hw)
  · exact c16 (.inl rfl) (.inr (by show 30 ≤ 30; decide)) (.inr (by show 30 ≤ 30; decide)) (.inr (by show 30 ≤ 30; decide)) (.inr (by show 30 ≤ 30; decide)) (.inr (by show 30 ≤ 30; decide)) (.inr (by show 30 ≤ 32; decide)) (.inr (by show 30 ≤ 32; decide)) (.inr (by show 30 ≤ 31; decide)) (.inr (by show 30 ≤ 31; decide)) (.inr (by show 30 ≤ 32; decide)) (.inr (by show 30 ≤ 32; decide)) (.inr (by show 30 ≤ 31; decide)) (.inr (by show 30 ≤ 31; decide)) (.inl rfl) (.inl rfl)
