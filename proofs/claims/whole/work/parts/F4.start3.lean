/-! ===== the law's walk from its entry, over what types must show ===== -/
theorem start_go (hg : TYPES) {p : Program} {e : Env} {s : State} {m : MethodId} {below : List Frame} {meth : Method} {c : Code} (l : Launch) (hflags : l.flags = flags0) {b L : Nat} {xs : Nat → Int32} (hL : L ≤ 4608) (hexc : c.exceptionTable.toList = []) (C0 : lw_At p s m meth c b L xs) : W p l e room_1 s m #[Value.ref b] below meth c s.heap [] 0 0 (lw_Z below #[Value.ref b] s) (entryFrame m ([Value.ref b] : List Value).toArray 7) := by
  obtain ⟨hx, hb, hr, hml, hown, hts, hX, hbl, hlocks, hgv⟩ := C0
  have hfl : l.stackTraces = false := by
    unfold Launch.stackTraces
    rw [hflags]; decide +kernel
  obtain ⟨d, A, X, hX5, hKK⟩ := st_KK (l := l) hfl hts hX hgv
  have g : GG (stE d A s X L xs l) mL_law 0 [some (vr 5), none, none, none, none, none, none] [] (stG L xs) 601024 7293034 (fun _ _ => True) :=
    law_all hg rfl (st_XT L xs) rfl hL (fun j hj => ⟨Int32.le_toInt (xs j), by have := Int32.toInt_lt (xs j); show (xs j).toInt ≤ _; omega⟩) (Nat.le_of_ble_eq_true rfl) (Nat.le_of_ble_eq_true rfl)
  have e5 : rv (stE d A s X L xs l) (vr 5) = .ref b := by
    show (match X.getD 5 .null with | .ref b => Value.ref b | _ => .null) = .ref b
    rw [hX5]
  have C : MCx (stE d A s X L xs l) mL_law p s m #[Value.ref b] meth c := ⟨hx, hb, hr, hml, hown, fun w hw => hts w (List.mem_filter.mp hw).1, hlocks, (fun h => Bool.noConfusion h), hexc, hfl⟩
  have le := lvR.ent (E := stE d A s X L xs l) (n := 7) (av := [vr 5]) (by decide) (fun v hv => by
    have : v = vr 5 := by simpa using hv
    subst this; exact trivial)
  have em : ([vr 5] : List NV).map (rv (stE d A s X L xs l)) = [Value.ref b] := by
    show [rv (stE d A s X L xs l) (vr 5)] = _
    rw [e5]
  rw [em] at le
  rw [lg_entry_eq]
  have kk := g p e s m #[Value.ref b] below meth c s.heap [] 0 0 _ C hKK ⟨rfl, Nat.le_refl _, fun _ _ => rfl⟩ (Nat.le_refl _) (st_Rel d A s X L xs l) le (fun v hv => by cases hv) (fun z hz => by cases hz) (Nat.le_of_ble_eq_true rfl) (Nat.le_of_ble_eq_true rfl)
  intro T hT XX
  obtain ⟨t, st, q⟩ := kk T hT XX
  refine ⟨t, st, ?_⟩
  unfold FQ at q
  rw [if_pos (show (dY mL_law).name = "law" from rfl)] at q
  exact q rfl
