/-! ===== rules of the nice machine: fields, new cells, constants ===== -/
/-- what is known of a class of ours -/
def CLk (ci : Nat) (C : String) (T : u_T) (N : Nat) (ty : Nat → FieldType) : Prop :=
  CLs[ci]? = some (C, T, N) ∧ (∀ w ∈ u_ws C T N, w ∈ lwW) ∧ (∀ k, k < N → parseFieldDescriptor (T k).2.2.1 = some (ty k)) ∧ (∀ a, a < N → ∀ b, b < N → a ≠ b → (T a).2.1 ≠ (T b).2.1) ∧
  (∀ k, k < N → if isIF (T k).2.2.1 = true then (defaultValue (ty k) = .int 0 ∧ (ty k = .int ∨ ((T k).2.2.1 = "Z" ∧ ty k = .boolean))) else ((∃ n, ty k = .object n) ∨ ∃ t, ty k = .array t)) ∧
  Cond.instantiable C N ∈ lwW ∧ Cond.initialized C ∈ lwW
def okO (σ : Sg) (a ci : Nat) : Prop := 16 ≤ a ∧ (gS σ a).1 = ci + 1
section R4
variable {E : Ev} {M : MD} {pc : Nat} {l : List (Option NV)} {st : List NV} {σ : Sg} {rc rs : Nat} {Q : NO → Sg → Prop}
variable {ci k9 idx N : Nat} {C : String} {T : u_T} {ty : Nat → FieldType}
theorem r_getI {a : Nat} (d : decode (dB M) pc = .ok (.getfield idx, 3)) (hC : CLk ci C T N ty) (hci : ci < 16) (hk : k9 < N) (hl9 : Cond.fieldLink (dY M).cls idx (T k9).1 (T k9).2.1 (T k9).2.2.1 ∈ lwW) (hi : isIF (T k9).2.2.1 = true) (h : okO σ a ci) (k : ((T k9).2.2.1 = "Z" → gI σ a k9 = 0 ∨ gI σ a k9 = 1) → GG E M (pc + 3) l (vi (gI σ a k9) :: st) σ rc rs Q) : GG E M pc l (vr a :: st) σ rc rs Q := by
  intro p e s m args below meth c H locs cells slots ls Cx K L hz hR hl hst hlo hc hs
  obtain ⟨ha, hsh⟩ := h
  obtain ⟨q, hq, hob, hok⟩ := hR.obj ha hsh (by omega)
  cases hC.1.symm.trans hq
  show W p (eL E) e (rmM M) s m args below meth c H locs cells slots (FQ E M below args s Q) (F0 m pc ls (rr E a :: st.map (rv E)))
  rw [rr_hi ha]
  obtain ⟨cell, q1, q2, q3, q4⟩ := hob
  obtain ⟨hS, hfc, kC, hkC, hkind⟩ := K.1.1 ci _ hC.1
  obtain ⟨cf, kf, fi, f, hif, hsl⟩ := hS k9 hk
  refine W.getf Cx.1 Cx.2.1 Cx.2.2.2.2.1 (Cx.2.2.2.2.2.1 _ hl9) hif (u_facts hfc hkC (u_lays Cx.2.2.2.2.2.1 hC.2.1 hk) hif).1 q1 (by rw [q3]; exact fun h => by cases h) (v := .int (Int32.ofInt (gI σ a k9))) ?_ rfl rfl d ?_
  · rw [hsl, q4 k9 hk]
    unfold fvl
    rw [if_pos hi]
  · exact k (hok k9 hk).2 p e s m args below meth c H locs cells slots ls Cx K L hz hR hl (ok_cons (v := vi _) (hok k9 hk).1 (ok_tl hst)) hlo hc hs
theorem r_getR {a : Nat} (d : decode (dB M) pc = .ok (.getfield idx, 3)) (hC : CLk ci C T N ty) (hci : ci < 16) (hk : k9 < N) (hl9 : Cond.fieldLink (dY M).cls idx (T k9).1 (T k9).2.1 (T k9).2.2.1 ∈ lwW) (hi : isIF (T k9).2.2.1 = false) (h : okO σ a ci) (k : GG E M (pc + 3) l (vr (gR σ a k9) :: st) σ rc rs Q) : GG E M pc l (vr a :: st) σ rc rs Q := by
  intro p e s m args below meth c H locs cells slots ls Cx K L hz hR hl hst hlo hc hs
  obtain ⟨ha, hsh⟩ := h
  obtain ⟨q, hq, hob, hok⟩ := hR.obj ha hsh (by omega)
  cases hC.1.symm.trans hq
  show W p (eL E) e (rmM M) s m args below meth c H locs cells slots (FQ E M below args s Q) (F0 m pc ls (rr E a :: st.map (rv E)))
  rw [rr_hi ha]
  obtain ⟨cell, q1, q2, q3, q4⟩ := hob
  obtain ⟨hS, hfc, kC, hkC, hkind⟩ := K.1.1 ci _ hC.1
  obtain ⟨cf, kf, fi, f, hif, hsl⟩ := hS k9 hk
  refine W.getf Cx.1 Cx.2.1 Cx.2.2.2.2.1 (Cx.2.2.2.2.2.1 _ hl9) hif (u_facts hfc hkC (u_lays Cx.2.2.2.2.2.1 hC.2.1 hk) hif).1 q1 (by rw [q3]; exact fun h => by cases h) (v := rr E (gR σ a k9)) ?_ rfl rfl d ?_
  · rw [hsl, q4 k9 hk]
    unfold fvl
    rw [if_neg (by rw [hi]; decide)]
  · exact k p e s m args below meth c H locs cells slots ls Cx K L hz hR hl (ok_cons (v := vr _) trivial (ok_tl hst)) hlo hc hs
/-- a store into a field -/
theorem Rel.stO {H H' : Heap} {a : Nat} {s : State} {args : Array Value} {own : String} {m : MethodId} {σ' : Sg} {v : Value} (hR : Rel E σ H) (hC : CLk ci C T N ty) (hci : ci < 16) (hts : ∀ w ∈ lwW, w.before args s = true) (K : KK E s) (hk : k9 < N) (ha : 16 ≤ a) (hsh : (gS σ a).1 = ci + 1)
    {cell : Cell} (q1 : H[nad E a]? = some cell) (e : H'[nad E a]? = some (cell.setSlot ((eD E).2 ci k9) v)) (z : H'.size = H.size) (oq : ∀ q, q ≠ nad E a → H'[q]? = H[q]?)
    (hg : gz σ' = gz σ) (hS : ∀ b, gS σ' b = gS σ b) (hI : ∀ b j, b ≠ a ∨ j ≠ k9 → gI σ' b j = gI σ b j) (hRr : ∀ b j, b ≠ a ∨ j ≠ k9 → gR σ' b j = gR σ b j) (hv : v = fvl E σ' a T k9) (hf : fok σ' a T k9) : Rel E σ' H' := by
  obtain ⟨q, hq, hob, hok⟩ := hR.obj ha hsh (by omega)
  cases hC.1.symm.trans hq
  obtain ⟨cell', q1', q2, q3, q4⟩ := hob
  cases q1.symm.trans q1'
  have hap := va_apart (own := C) hts hC.2.1 ty hC.2.2.1 hC.2.2.2.1 K.1 hC.1
  refine hR.put ha z oq hg hS (fun b j hb => hI b j (Or.inl hb)) (fun b j hb => hRr b j (Or.inl hb)) ⟨fun w => ?_, fun _ => ?_⟩
  · rw [hS, hsh] at w; omega
  · unfold cO
    rw [hS, hsh]
    refine ⟨(C, T, N), hC.1, ⟨_, e, q2, q3, fun j hj => ?_⟩, fun j hj => ?_⟩
    · have h1 := t_set q4 hap hk v j hj
      show (cell.setSlot ((eD E).2 ci k9) v).slots[(eD E).2 ci j]? = _
      rw [h1]
      refine congrArg some ?_
      by_cases hjk : j = k9
      · subst hjk
        simp only [updV, if_true]
        exact hv
      · simp only [updV, hjk, if_false]
        unfold fvl
        rw [hI a j (Or.inr hjk), hRr a j (Or.inr hjk)]
    · by_cases hjk : j = k9
      · subst hjk; exact hf
      · have := hok j hj
        unfold fok at this ⊢
        rw [hI a j (Or.inr hjk)]
        exact this
theorem nar_int {t : FieldType} {x : Int} (ht : t = .int ∨ (t = .boolean ∧ (x = 0 ∨ x = 1))) : narrow t (.int (Int32.ofInt x)) = .int (Int32.ofInt x) ∧ fits t (.int (Int32.ofInt x)) = true := by
  rcases ht with rfl | ⟨rfl, rfl | rfl⟩
  · exact ⟨rfl, rfl⟩
  · decide
  · decide
theorem nar_ref {t : FieldType} {v : Value} (ht : (∃ n, t = .object n) ∨ ∃ u, t = .array u) (hv : v = .null ∨ ∃ a, v = .ref a) : narrow t v = v ∧ fits t v = true := by
  rcases ht with ⟨n, rfl⟩ | ⟨u, rfl⟩ <;> rcases hv with rfl | ⟨a, rfl⟩ <;> exact ⟨rfl, rfl⟩
theorem isIF_of {d : String} (h : isIF d = true) : d = "I" ∨ d = "Z" := by
  unfold isIF at h
  rw [Bool.or_eq_true, beq_iff_eq, beq_iff_eq] at h
  exact h
theorem CLk.tyI {x : Int} (hC : CLk ci C T N ty) (hk : k9 < N) (hi : isIF (T k9).2.2.1 = true) (hx : (T k9).2.2.1 = "Z" → x = 0 ∨ x = 1) : narrow (ty k9) (.int (Int32.ofInt x)) = .int (Int32.ofInt x) ∧ fits (ty k9) (.int (Int32.ofInt x)) = true := by
  have h := hC.2.2.2.2.1 k9 hk
  rw [if_pos hi] at h
  refine nar_int ?_
  rcases h.2 with h1 | ⟨h1, h2⟩
  · exact Or.inl h1
  · exact Or.inr ⟨h2, hx h1⟩
theorem CLk.tyR (hC : CLk ci C T N ty) (hk : k9 < N) (hi : isIF (T k9).2.2.1 = false) (b : Nat) : narrow (ty k9) (rr E b) = rr E b ∧ fits (ty k9) (rr E b) = true := by
  have h := hC.2.2.2.2.1 k9 hk
  rw [if_neg (by rw [hi]; decide)] at h
  exact nar_ref h (rr_or E b)
theorem ap_ok {L9 : List Loc} {a : Nat} {j : Nat} (h : ∀ z ∈ L9, fre E z.base) : ∀ z ∈ L9 ++ [⟨nad E a, j⟩], fre E z.base := by
  intro q hq
  rcases List.mem_append.mp hq with w | w
  · exact h q w
  · rw [List.mem_singleton.mp w]; exact nad_fre E a
theorem r_putI {a : Nat} {x : Int} (d : decode (dB M) pc = .ok (.putfield idx, 3)) (hC : CLk ci C T N ty) (hci : ci < 16) (hk : k9 < N) (hl9 : Cond.fieldLink (dY M).cls idx (T k9).1 (T k9).2.1 (T k9).2.2.1 ∈ lwW) (hi : isIF (T k9).2.2.1 = true) (hfin : (T k9).2.2.2 = false) (hx9 : (T k9).2.2.1 = "Z" → x = 0 ∨ x = 1) (h : okO σ a ci) (k : GG E M (pc + 3) l st (sI σ a k9 x) rc rs Q) : GG E M pc l (vi x :: vr a :: st) σ rc rs Q := by
  intro p e s m args below meth c H locs cells slots ls Cx K L hz hR hl hst hlo hc hs
  have hx : inR x := ok_hd hst
  obtain ⟨ha, hsh⟩ := h
  obtain ⟨q, hq, hob, hok⟩ := hR.obj ha hsh (by omega)
  cases hC.1.symm.trans hq
  show W p (eL E) e (rmM M) s m args below meth c H locs cells slots (FQ E M below args s Q) (F0 m pc ls (.int (Int32.ofInt x) :: rr E a :: st.map (rv E)))
  rw [rr_hi ha]
  obtain ⟨cell, q1, q2, q3, q4⟩ := hob
  obtain ⟨hS, hfc, kC, hkC, hkind⟩ := K.1.1 ci _ hC.1
  obtain ⟨cf, kf, fi, f, hif, hsl⟩ := hS k9 hk
  have hlay := Cx.2.2.2.2.2.1 _ (hC.2.1 _ (u_in_lay hk))
  unfold u_lay at hlay
  rw [if_neg (by rw [hfin]; decide)] at hlay
  have hnf := hC.tyI (x := x) hk hi hx9
  have hst9 := (u_facts hfc hkC (u_lays Cx.2.2.2.2.2.1 hC.2.1 hk) hif).1
  have h6 := u_store hfc hkC hkind hlay hif (hC.2.2.1 k9 hk) hnf.1 hnf.2
  refine W.putK Cx.1 Cx.2.1 (f := f) ⟨Cx.2.2.2.2.1, Cx.2.2.2.2.2.1 _ hl9, ⟨_, _, _, hif⟩, hst9⟩ (by rw [q2]; exact h6) q1 q3 (by rw [hsl]; exact k2_hasslot (q4 k9 hk)) rfl rfl d fun H' e1 e2 e3 => ?_
  rw [hsl] at e1 ⊢
  refine k p e s m args below meth c H' _ cells slots ls Cx K L (by rw [e2]; exact hz) (hR.stO hC hci (m := m) (own := C) Cx.2.2.2.2.2.1 K hk ha hsh q1 e1 e2 e3 rfl (fun _ => rfl) (fun b j hb => gI_ne _ _ hb) (fun _ _ _ => rfl) ?_ ⟨by rw [gI_eq]; exact hx, fun w => by rw [gI_eq]; exact hx9 w⟩) hl (ok_tl (ok_tl hst)) (ap_ok hlo) hc hs
  unfold fvl
  rw [if_pos hi, gI_eq]
theorem r_putR {a b : Nat} (d : decode (dB M) pc = .ok (.putfield idx, 3)) (hC : CLk ci C T N ty) (hci : ci < 16) (hk : k9 < N) (hl9 : Cond.fieldLink (dY M).cls idx (T k9).1 (T k9).2.1 (T k9).2.2.1 ∈ lwW) (hi : isIF (T k9).2.2.1 = false) (hfin : (T k9).2.2.2 = false) (h : okO σ a ci) (k : GG E M (pc + 3) l st (sR σ a k9 b) rc rs Q) : GG E M pc l (vr b :: vr a :: st) σ rc rs Q := by
  intro p e s m args below meth c H locs cells slots ls Cx K L hz hR hl hst hlo hc hs
  obtain ⟨ha, hsh⟩ := h
  obtain ⟨q, hq, hob, hok⟩ := hR.obj ha hsh (by omega)
  cases hC.1.symm.trans hq
  show W p (eL E) e (rmM M) s m args below meth c H locs cells slots (FQ E M below args s Q) (F0 m pc ls (rr E b :: rr E a :: st.map (rv E)))
  rw [rr_hi ha]
  obtain ⟨cell, q1, q2, q3, q4⟩ := hob
  obtain ⟨hS, hfc, kC, hkC, hkind⟩ := K.1.1 ci _ hC.1
  obtain ⟨cf, kf, fi, f, hif, hsl⟩ := hS k9 hk
  have hlay := Cx.2.2.2.2.2.1 _ (hC.2.1 _ (u_in_lay hk))
  unfold u_lay at hlay
  rw [if_neg (by rw [hfin]; decide)] at hlay
  have hnf := hC.tyR (E := E) hk hi b
  have hst9 := (u_facts hfc hkC (u_lays Cx.2.2.2.2.2.1 hC.2.1 hk) hif).1
  have h6 := u_store hfc hkC hkind hlay hif (hC.2.2.1 k9 hk) hnf.1 hnf.2
  refine W.putK Cx.1 Cx.2.1 (f := f) ⟨Cx.2.2.2.2.1, Cx.2.2.2.2.2.1 _ hl9, ⟨_, _, _, hif⟩, hst9⟩ (by rw [q2]; exact h6) q1 q3 (by rw [hsl]; exact k2_hasslot (q4 k9 hk)) rfl rfl d fun H' e1 e2 e3 => ?_
  rw [hsl] at e1 ⊢
  refine k p e s m args below meth c H' _ cells slots ls Cx K L (by rw [e2]; exact hz) (hR.stO hC hci (m := m) (own := C) Cx.2.2.2.2.2.1 K hk ha hsh q1 e1 e2 e3 rfl (fun _ => rfl) (fun _ _ _ => rfl) (fun b j hb => gR_ne _ _ hb) ?_ (hok k9 hk)) hl (ok_tl (ok_tl hst)) (ap_ok hlo) hc hs
  unfold fvl
  rw [if_neg (by rw [hi]; decide), gR_eq]
/-- a final field of its own, in a constructor -/
theorem r_putIF {a : Nat} {x : Int} (d : decode (dB M) pc = .ok (.putfield idx, 3)) (hC : CLk ci C T N ty) (hci : ci < 16) (hk : k9 < N) (hl9 : Cond.fieldLink (dY M).cls idx (T k9).1 (T k9).2.1 (T k9).2.2.1 ∈ lwW) (hi : isIF (T k9).2.2.1 = true) (hfin : (T k9).2.2.2 = true) (hini : dI M = true) (hdecl : (T k9).1 = (dY M).cls) (hx9 : (T k9).2.2.1 = "Z" → x = 0 ∨ x = 1) (h : okO σ a ci) (k : GG E M (pc + 3) l st (sI σ a k9 x) rc rs Q) : GG E M pc l (vi x :: vr a :: st) σ rc rs Q := by
  intro p e s m args below meth c H locs cells slots ls Cx K L hz hR hl hst hlo hc hs
  have hx : inR x := ok_hd hst
  obtain ⟨ha, hsh⟩ := h
  obtain ⟨q, hq, hob, hok⟩ := hR.obj ha hsh (by omega)
  cases hC.1.symm.trans hq
  show W p (eL E) e (rmM M) s m args below meth c H locs cells slots (FQ E M below args s Q) (F0 m pc ls (.int (Int32.ofInt x) :: rr E a :: st.map (rv E)))
  rw [rr_hi ha]
  obtain ⟨cell, q1, q2, q3, q4⟩ := hob
  obtain ⟨hS, hfc, kC, hkC, hkind⟩ := K.1.1 ci _ hC.1
  obtain ⟨cf, kf, fi, f, hif, hsl⟩ := hS k9 hk
  have hlay := Cx.2.2.2.2.2.1 _ (hC.2.1 _ (u_in_lay hk))
  unfold u_lay at hlay
  rw [if_pos hfin] at hlay
  have hnf := hC.tyI (x := x) hk hi hx9
  have hst9 := (u_facts hfc hkC (u_lays Cx.2.2.2.2.2.1 hC.2.1 hk) hif).1
  have hcf : m.cls = cf := by
    obtain ⟨_, _, c', _, _, _, -, -, hf', -, -, -, hown2, -⟩ := Cond.laysFinal_spec hlay
    have e1 : c' = cf := by have := hif.symm.trans hf'; simp at this; exact this.1.symm
    rw [hdecl] at hown2
    rw [← e1]; exact Option.some.inj (Cx.2.2.2.2.1.symm.trans hown2)
  have h6 := u_fits hfc hkC hkind (Or.inr hlay) hif (hC.2.2.1 k9 hk) hnf.1 hnf.2
  refine W.putFinK Cx.1 Cx.2.1 Cx.2.2.2.2.1 (Cx.2.2.2.2.2.1 _ hl9) hif hst9 hcf (Cx.2.2.2.2.2.2.2.1 hini) (by rw [q2]; exact h6) q1 q3 (by rw [hsl]; exact k2_hasslot (q4 k9 hk)) rfl rfl d fun H' e1 e2 e3 => ?_
  rw [hsl] at e1 ⊢
  refine k p e s m args below meth c H' _ cells slots ls Cx K L (by rw [e2]; exact hz) (hR.stO hC hci (m := m) (own := C) Cx.2.2.2.2.2.1 K hk ha hsh q1 e1 e2 e3 rfl (fun _ => rfl) (fun b j hb => gI_ne _ _ hb) (fun _ _ _ => rfl) ?_ ⟨by rw [gI_eq]; exact hx, fun w => by rw [gI_eq]; exact hx9 w⟩) hl (ok_tl (ok_tl hst)) (ap_ok hlo) hc hs
  unfold fvl
  rw [if_pos hi, gI_eq]
theorem r_putRF {a b : Nat} (d : decode (dB M) pc = .ok (.putfield idx, 3)) (hC : CLk ci C T N ty) (hci : ci < 16) (hk : k9 < N) (hl9 : Cond.fieldLink (dY M).cls idx (T k9).1 (T k9).2.1 (T k9).2.2.1 ∈ lwW) (hi : isIF (T k9).2.2.1 = false) (hfin : (T k9).2.2.2 = true) (hini : dI M = true) (hdecl : (T k9).1 = (dY M).cls) (h : okO σ a ci) (k : GG E M (pc + 3) l st (sR σ a k9 b) rc rs Q) : GG E M pc l (vr b :: vr a :: st) σ rc rs Q := by
  intro p e s m args below meth c H locs cells slots ls Cx K L hz hR hl hst hlo hc hs
  obtain ⟨ha, hsh⟩ := h
  obtain ⟨q, hq, hob, hok⟩ := hR.obj ha hsh (by omega)
  cases hC.1.symm.trans hq
  show W p (eL E) e (rmM M) s m args below meth c H locs cells slots (FQ E M below args s Q) (F0 m pc ls (rr E b :: rr E a :: st.map (rv E)))
  rw [rr_hi ha]
  obtain ⟨cell, q1, q2, q3, q4⟩ := hob
  obtain ⟨hS, hfc, kC, hkC, hkind⟩ := K.1.1 ci _ hC.1
  obtain ⟨cf, kf, fi, f, hif, hsl⟩ := hS k9 hk
  have hlay := Cx.2.2.2.2.2.1 _ (hC.2.1 _ (u_in_lay hk))
  unfold u_lay at hlay
  rw [if_pos hfin] at hlay
  have hnf := hC.tyR (E := E) hk hi b
  have hst9 := (u_facts hfc hkC (u_lays Cx.2.2.2.2.2.1 hC.2.1 hk) hif).1
  have hcf : m.cls = cf := by
    obtain ⟨_, _, c', _, _, _, -, -, hf', -, -, -, hown2, -⟩ := Cond.laysFinal_spec hlay
    have e1 : c' = cf := by have := hif.symm.trans hf'; simp at this; exact this.1.symm
    rw [hdecl] at hown2
    rw [← e1]; exact Option.some.inj (Cx.2.2.2.2.1.symm.trans hown2)
  have h6 := u_fits hfc hkC hkind (Or.inr hlay) hif (hC.2.2.1 k9 hk) hnf.1 hnf.2
  refine W.putFinK Cx.1 Cx.2.1 Cx.2.2.2.2.1 (Cx.2.2.2.2.2.1 _ hl9) hif hst9 hcf (Cx.2.2.2.2.2.2.2.1 hini) (by rw [q2]; exact h6) q1 q3 (by rw [hsl]; exact k2_hasslot (q4 k9 hk)) rfl rfl d fun H' e1 e2 e3 => ?_
  rw [hsl] at e1 ⊢
  refine k p e s m args below meth c H' _ cells slots ls Cx K L (by rw [e2]; exact hz) (hR.stO hC hci (m := m) (own := C) Cx.2.2.2.2.2.1 K hk ha hsh q1 e1 e2 e3 rfl (fun _ => rfl) (fun _ _ _ => rfl) (fun b j hb => gR_ne _ _ hb) ?_ (hok k9 hk)) hl (ok_tl (ok_tl hst)) (ap_ok hlo) hc hs
  unfold fvl
  rw [if_neg (by rw [hi]; decide), gR_eq]
end R4
