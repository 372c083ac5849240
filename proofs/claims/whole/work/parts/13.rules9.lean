/-! ===== rules of the nice machine: entries, handlers, wrappers, the law's end, texts ===== -/
/-- the locals at the entry -/
def ent : List NV → List (Option NV)
  | [] => []
  | .inl x :: t => some (vi x) :: ent t
  | .inr (.inl a) :: t => some (vr a) :: ent t
  | .inr (.inr x) :: t => some (vl x) :: none :: ent t
def entP (n : Nat) (av : List NV) : List (Option NV) := ent av ++ List.replicate (n - (ent av).length) none
theorem ent_len (E : Ev) : ∀ av : List NV, (lg_sl (av.map (rv E))).length = (ent av).length
  | [] => rfl
  | .inl x :: t => by
    have ih := ent_len E t
    show ([Slot.val (.int (Int32.ofInt x))] ++ lg_sl (t.map (rv E))).length = (some (vi x) :: ent t).length
    simp [ih]
  | .inr (.inl a) :: t => by
    have ih := ent_len E t
    show ((if (rr E a).category = 2 then [Slot.val (rr E a), .second] else [.val (rr E a)]) ++ lg_sl (t.map (rv E))).length = (some (vr a) :: ent t).length
    rw [rr_cat]
    simp [ih]
  | .inr (.inr x) :: t => by
    have ih := ent_len E t
    show ([Slot.val (.long (Int64.ofInt x)), .second] ++ lg_sl (t.map (rv E))).length = (some (vl x) :: none :: ent t).length
    simp [ih]
theorem ent_args (E : Ev) : ∀ (av : List NV) (o i : Nat) (v : NV), (ent av)[i]? = some (some v) → (o + i, rv E v) ∈ lv_args o (av.map (rv E)) ∧ v ∈ av
  | [], o, i, v, h => by simp [ent] at h
  | .inl x :: t, o, i, v, h => by
    show (o + i, rv E v) ∈ (o, Value.int (Int32.ofInt x)) :: lv_args (o + 1) (t.map (rv E)) ∧ _
    cases i with
    | zero =>
      simp [ent] at h
      subst h
      exact ⟨List.mem_cons_self, List.mem_cons_self⟩
    | succ j =>
      simp only [ent, List.getElem?_cons_succ] at h
      have ih := ent_args E t (o + 1) j v h
      exact ⟨List.mem_cons_of_mem _ (by rw [show o + (j + 1) = o + 1 + j by omega]; exact ih.1), List.mem_cons_of_mem _ ih.2⟩
  | .inr (.inl a) :: t, o, i, v, h => by
    show (o + i, rv E v) ∈ (o, rr E a) :: lv_args (if (rr E a).category = 2 then o + 2 else o + 1) (t.map (rv E)) ∧ _
    rw [rr_cat]
    cases i with
    | zero =>
      simp [ent] at h
      subst h
      exact ⟨List.mem_cons_self, List.mem_cons_self⟩
    | succ j =>
      simp only [ent, List.getElem?_cons_succ] at h
      have ih := ent_args E t (o + 1) j v h
      exact ⟨List.mem_cons_of_mem _ (by rw [show o + (j + 1) = o + 1 + j by omega]; exact ih.1), List.mem_cons_of_mem _ ih.2⟩
  | .inr (.inr x) :: t, o, i, v, h => by
    show (o + i, rv E v) ∈ (o, Value.long (Int64.ofInt x)) :: lv_args (o + 2) (t.map (rv E)) ∧ _
    match i, h with
    | 0, h =>
      simp [ent] at h
      subst h
      exact ⟨List.mem_cons_self, List.mem_cons_self⟩
    | 1, h => simp [ent] at h
    | j + 2, h =>
      simp only [ent, List.getElem?_cons_succ] at h
      have ih := ent_args E t (o + 2) j v h
      exact ⟨List.mem_cons_of_mem _ (by rw [show o + (j + 2) = o + 2 + j by omega]; exact ih.1), List.mem_cons_of_mem _ ih.2⟩
theorem lvR.ent {E : Ev} {av : List NV} {n : Nat} (h : (ent av).length ≤ n) (ho : ∀ v ∈ av, okV v) : lvR E ((lg_sl (av.map (rv E)) ++ List.replicate (n - (lg_sl (av.map (rv E))).length) Slot.unset).toArray) n (entP n av) := by
  refine lvR.of (lv_entry (av.map (rv E)) (n := n) (by rw [ent_len]; exact h)) (by unfold entP; rw [List.length_append, List.length_replicate]; omega) fun i v hv => ?_
  unfold entP at hv
  by_cases hi : i < (Jvm.Pilot.CDoubleTurnsLaw_law_r6322_0d289e.ent av).length
  · rw [List.getElem?_append_left hi] at hv
    have := ent_args E av 0 i v hv
    rw [Nat.zero_add] at this
    exact ⟨this.1, ho v this.2⟩
  · rw [List.getElem?_append_right (by omega)] at hv
    have := List.mem_of_getElem? hv
    rw [List.mem_replicate] at this
    cases this.2
section R9
variable {E : Ev} {M M2 : MD} {pc : Nat} {l : List (Option NV)} {st : List NV} {σ : Sg} {rc rs : Nat} {Q Q2 : NO → Sg → Prop}
variable {idx : Nat}
/-- a method's contract out of its body -/
theorem CC.of {av : List NV} (hn : (dY M).name ≠ "law") (hh : dH M = []) (hp : plainFor (dY M) = true) (hi : dI M = true → (dY M).name = "<init>") (hl9 : (ent av).length ≤ dL M) (k : GG E M 0 (entP (dL M) av) [] σ (dC M) (dS M) Q) : CC E M av σ Q := by
  unfold CC
  refine vy_ofW (cc := dB M) (maxL := dL M) (ret := dR M) (ws' := lwW) hp (by unfold mW; rw [hh]) ?_
  intro p e s m args below meth c s₁ B hml hex hv
  obtain ⟨rfl, K, hR, ho⟩ := hv
  have hts := atoms_spec (ws := mW M) B.pre
  rw [lg_entry_eq]
  have C : MCx E M p s m ((av.map (rv E)).toArray) meth c := ⟨B.exec, B.bytes, B.returns, hml, findClass_of_methodNamed B.named, fun w hw => hts w (by unfold mW; exact List.mem_cons_of_mem _ hw), B.notSynchronized, fun z => ((name_of_methodNamed B.named B.method).1).trans (hi z), by
    rw [hh]
    cases ht : c.exceptionTable.toList with
    | nil => rfl
    | cons a t => exact absurd (hex a (by rw [ht]; exact List.mem_cons_self)) id, K.2.2.2.2.2.2.2.2.2.2.2.2.2⟩
  have kk := k p e s m ((av.map (rv E)).toArray) below meth c s.heap [] 0 0 _ C K hR.1 (Nat.le_refl _) hR (lvR.ent hl9 ho) (fun v hv => by cases hv) (fun z hz => by cases hz) (by omega) (by omega)
  rw [FQ_of hn] at kk
  exact kk
/-- .. of a method with handlers -/
theorem CC.ofH {av : List NV} (hn : (dY M).name ≠ "law") {h0 : Nat × Nat × Nat × Nat} {ht : List (Nat × Nat × Nat × Nat)} (hh : dH M = h0 :: ht) (hp : plainName (dY M).cls = true) (hi : dI M = false) (hl9 : (ent av).length ≤ dL M) (k : GG E M 0 (entP (dL M) av) [] σ (dC M) (dS M) Q) : CC E M av σ Q := by
  unfold CC
  have hmw : mW M = Cond.codeWith (dY M) (dB M) (dL M) (dR M) (dH M) :: lwW := by unfold mW; rw [hh]
  refine vx_ofWH (cc := dB M) (maxL := dL M) (ret := dR M) (ws' := lwW) hp hmw ?_
  intro p e s m args below meth c s₁ B hml hv
  obtain ⟨rfl, K, hR, ho⟩ := hv
  have hts := atoms_spec (ws := mW M) B.pre
  rw [lg_entry_eq]
  have C : MCx E M p s m ((av.map (rv E)).toArray) meth c := ⟨B.exec, B.bytes, B.returns, hml, findClass_of_methodNamed B.named, fun w hw => hts w (by unfold mW; exact List.mem_cons_of_mem _ hw), B.notSynchronized, (fun z => by rw [hi] at z; cases z), vx_table (x := dY M) B (hts _ (by rw [hmw]; exact List.mem_cons_self)), K.2.2.2.2.2.2.2.2.2.2.2.2.2⟩
  have kk := k p e s m ((av.map (rv E)).toArray) below meth c s.heap [] 0 0 _ C K hR.1 (Nat.le_refl _) hR (lvR.ent hl9 ho) (fun v hv => by cases hv) (fun z hz => by cases hz) (by omega) (by omega)
  rw [FQ_of hn] at kk
  exact kk
/-- a local is gone -/
def st0q (l : List (Option NV)) (i : Nat) : List (Option NV) := (clr l i).set i none
theorem lvR.st0 {ls : Array Slot} {nL i : Nat} {v : Value} (h : lvR E ls nL l) {ls' : Array Slot}
    (h' : lv_has ls' nL ((i, v) :: (asc E l).filter (fun q => !(q.1 == i) && !(q.1 + 1 == i && q.2.category == 2)))) : lvR E ls' nL (st0q l i) := by
  refine lvR.of h' (by simp [st0q, clr_len, h.2.1]) fun j w hw => ?_
  unfold st0q at hw
  by_cases hij : i = j
  · subst hij
    have hlt : i < (clr l i).length := by
      have := (List.getElem?_eq_some_iff.mp hw).1
      simpa using this
    rw [List.getElem?_set_self hlt] at hw
    cases hw
  · rw [List.getElem?_set_ne hij] at hw
    obtain ⟨h1, h2⟩ := clr_get hw
    refine ⟨List.mem_cons_of_mem _ (List.mem_filter.mpr ⟨asc_mem.mpr ⟨w, h1, rfl⟩, ?_⟩), (h.2.2.2 j w h1).2⟩
    simp only [Bool.and_eq_true, Bool.not_eq_true', beq_eq_false_iff_ne, ne_eq, Bool.and_eq_false_iff]
    refine ⟨fun z => hij z.symm, ?_⟩
    by_cases hj : j + 1 = i
    · refine Or.inr fun z => ?_
      obtain ⟨x, hx⟩ := rv_cat z
      exact h2 hj x hx
    · exact Or.inl hj
/-- the handler puts the exception away at once -/
theorem TT.catch9 {x i h9 t9 len : Nat} {pre suf : List (Nat × Nat × Nat × Nat)} {a9 b9 : Nat} (hh : dH M = pre ++ (a9, b9, h9, t9) :: suf) (hc9 : a9 ≤ pc ∧ pc < b9) (ht : t9 ≠ 0) (hl9 : Cond.classLink (dY M).cls t9 (exN x) ∈ lwW) (hcast : Cond.castable (exN x) (exN x) ∈ lw_tbl)
    (hpre : ∀ z ∈ pre, ∃ y, z.2.2.2 ≠ 0 ∧ Cond.classLink (dY M).cls z.2.2.2 (exN y) ∈ lwW ∧ (x, y) ∈ ([(0, 1), (0, 2), (1, 0), (1, 2), (2, 0), (2, 1)] : List (Nat × Nat))) (hi : i < dL M)
    (d : (decode (dB M) h9 = .ok (.astore i, 2) ∧ len = 2) ∨ (∃ k : Fin 4, (k : Nat) = i ∧ decode (dB M) h9 = .ok (.astore_n k, 1) ∧ len = 1)) (k : GG E M (h9 + len) (st0q l i) [] σ rc rs Q) : TT E M pc l σ rc rs Q x := by
  intro p e s m args below meth c H locs cells slots ls st' q ce Cx K L hz hR hl hlo hc hs hce hcv hcl hx3
  have hts := Cx.2.2.2.2.2.1
  refine vx_catch (own := (dY M).cls) (name := exN x) (E := exN x) Cx.2.2.2.2.1 (tableOf pre) ⟨a9, b9, h9, t9⟩ (tableOf suf) (by rw [Cx.2.2.2.2.2.2.2.2.1, hh]; simp [tableOf]) (fun z hz => ?_) (by simp [covers]; exact hc9) ht (hts _ hl9) (va_Nw.use rfl (K.2.2.2.2.2.2.2.2.2.2.1 _ hcast rfl)) hce hcv hcl ?_
  · obtain ⟨z9, hz9, rfl⟩ := List.mem_map.mp hz
    obtain ⟨y, hy0, hy1, hy2⟩ := hpre z9 hz9
    exact Or.inr ⟨hy0, exN y, hts _ hy1, K.2.2.2.2.2.2.2.2.2.1 _ hy2⟩
  · have kk : ∀ ls', lv_has ls' (dL M) ((i, Value.ref q) :: (asc E l).filter (fun q => !(q.1 == i) && !(q.1 + 1 == i && q.2.category == 2))) → W p (eL E) e (rmM M) s m args below meth c H locs cells slots (FQ E M below args s Q) (F0 m (h9 + len) ls' []) := fun ls' h' => k p e s m args below meth c H locs cells slots ls' Cx K L hz hR (hl.st0 h') (fun v hv => by cases hv) hlo hc hs
    rcases d with ⟨d, rfl⟩ | ⟨k9, hk9, d, rfl⟩
    · exact lv_astore Cx.1 Cx.2.1 d hl.has hi rfl kk
    · exact lv_astore_n Cx.1 Cx.2.1 d hk9 hl.has hi rfl kk
/-- a call of a wrapper -/
theorem r_callSW {As : List NV} {h0 : Nat × Nat × Nat × Nat} {ht : List (Nat × Nat × Nat × Nat)} (d : decode (dB M) pc = .ok (.invokestatic idx, 3)) (hh : dH M2 = h0 :: ht) (h1 : Cond.codeWith (dY M2) (dB M2) (dL M2) (dR M2) (dH M2) ∈ lwW) (h2 : Cond.initialized (dY M2).cls ∈ lwW) (h3 : Cond.static (dY M2) ∈ lwW)
    (h4 : (dY M2).cls ≠ "java/lang/invoke/MethodHandle" ∧ (dY M2).cls ≠ "java/lang/invoke/VarHandle" ∧ (parseMethodDescriptor (dY M2).desc).map (fun d => d.parameters.length) = some As.length) (hl9 : Cond.methodLink (dY M).cls idx (dY M2) ∈ lwW) (hr : rmI M M2) (hw : (st.map wt).sum ≤ 8) (hrc : dC M2 ≤ rc) (hrs : dS M2 ≤ rs)
    (hc9 : CC E M2 As σ Q2)
    (kk : ∀ (v : Option NV) (σ' : Sg), Q2 (.inl v) σ' → (∀ x, v = some x → okV x) → GG E M (pc + 3) l (v.toList ++ st) σ' (rc - dC M2) (rs - dS M2) Q) (kx : ∀ (x : Nat) (σ' : Sg), x < 3 → Q2 (.inr x) σ' → TT E M pc l σ' (rc - dC M2) (rs - dS M2) Q x) {st9 : List NV} (e9 : st9 = As.reverse ++ st) : GG E M pc l st9 σ rc rs Q := by
  subst e9
  intro p e s m args below meth c H locs cells slots ls Cx K L hz hR hl hst hlo hc hs
  obtain ⟨ho1, ho2⟩ := okS hst
  have hts := Cx.2.2.2.2.2.1
  have hmw : mW M2 = Cond.codeWith (dY M2) (dB M2) (dL M2) (dR M2) (dH M2) :: lwW := by unfold mW; rw [hh]
  have hgood : GoodIn lwW (mW M2) := by
    rw [hmw]
    intro w hw
    rcases List.mem_cons.mp hw with e | e
    · rw [e]; exact lwW_good _ h1
    · exact lwW_good _ e
  have cw : vx_CSW (rmM M) s args (dY M).cls idx (dY M2) (dB M2) (dL M2) (dR M2) (dH M2) (mW M2) (rmM M2) (dC M2) (dS M2) As.length := by
    refine ⟨⟨rfl, rfl, hr.1, hr.2, pay_in hts hgood, by rw [hmw]; exact List.mem_cons_self⟩, hts _ h1, hts _ h2, ⟨h4.1, h4.2.1⟩, fun sig h => ?_, hts _ hl9, hts _ h3⟩
    have h5 := h4.2.2
    rw [h] at h5
    exact (Option.some.inj h5).symm
  refine gg_after (vx_runSX (As := As.map (rv E)) (rest := st.map (rv E)) (g := F0 m pc ls ((As.reverse ++ st).map (rv E))) (H := H) (locs := locs) (cells := cells) (slots := slots) Cx.fix hc9 cw
    ⟨blind, pre_of K hR ho1⟩ rfl (by rw [List.length_map]) hl.1 (by simp) (by show 2 * 0 + _ ≤ 8; rw [wt_sum]; omega) d ⟨by show cells + dC M2 ≤ dC M; omega, by show slots + dS M2 ≤ dS M; omega⟩) Cx K L hl ho2 hlo hc hs hrc hrs hR.1.2.1 kk kx
/-- a text's own fields -/
theorem r_getSI {a : Nat} (d : decode (dB M) pc = .ok (.getfield idx, 3)) (hl9 : Cond.fieldLink (dY M).cls idx "java/lang/String" "coder" "B" ∈ lwW) (ha : 0 < a ∧ a < 16) (hs9 : (gS σ a).1 = 32) (k : GG E M (pc + 3) l (vi (gI σ a 1) :: st) σ rc rs Q) : GG E M pc l (vr a :: st) σ rc rs Q := by
  intro p e s m args below meth c H locs cells slots ls Cx K L hz hR hl hst hlo hc hs
  have hx := hR.2.2.2.2.1 a ha.2
  obtain ⟨b, hb, -, -, ⟨cf, kf, fi, f, cell, h1, h2, h3, h4, h5, h6⟩, hin⟩ := (K.2.2.1 a ha.2).2.2 (by rw [← hx.1]; exact hs9)
  have hrr : rr E a = .ref b := by unfold rr; rw [if_neg (by omega), if_pos ha.2, hb]
  show W p (eL E) e (rmM M) s m args below meth c H locs cells slots (FQ E M below args s Q) (F0 m pc ls (rr E a :: st.map (rv E)))
  rw [hrr]
  have e1 := (hx.2 1).1
  refine W.getf Cx.1 Cx.2.1 Cx.2.2.2.2.1 (Cx.2.2.2.2.2.1 _ hl9) h1 h2 (by rw [hR.1.2.2 b (Nat.not_le.mp h6)]; exact h3) h4 (v := .int (Int32.ofInt (gI σ a 1))) (by rw [e1]; exact h5) rfl rfl d ?_
  exact k p e s m args below meth c H locs cells slots ls Cx K L hz hR hl (ok_cons (v := vi _) (by show inR _; rw [e1]; exact hin) (ok_tl hst)) hlo hc hs
theorem r_getSR {a : Nat} (d : decode (dB M) pc = .ok (.getfield idx, 3)) (hl9 : Cond.fieldLink (dY M).cls idx "java/lang/String" "value" "[B" ∈ lwW) (ha : 0 < a ∧ a < 16) (hs9 : (gS σ a).1 = 32) (k : GG E M (pc + 3) l (vr (gR σ a 0) :: st) σ rc rs Q) : GG E M pc l (vr a :: st) σ rc rs Q := by
  intro p e s m args below meth c H locs cells slots ls Cx K L hz hR hl hst hlo hc hs
  have hx := hR.2.2.2.2.1 a ha.2
  obtain ⟨b, hb, -, ⟨cf, kf, fi, f, cell, h1, h2, h3, h4, h5, h6⟩, -, hin⟩ := (K.2.2.1 a ha.2).2.2 (by rw [← hx.1]; exact hs9)
  have hrr : rr E a = .ref b := by unfold rr; rw [if_neg (by omega), if_pos ha.2, hb]
  show W p (eL E) e (rmM M) s m args below meth c H locs cells slots (FQ E M below args s Q) (F0 m pc ls (rr E a :: st.map (rv E)))
  rw [hrr]
  have e1 := (hx.2 0).2
  refine W.getf Cx.1 Cx.2.1 Cx.2.2.2.2.1 (Cx.2.2.2.2.2.1 _ hl9) h1 h2 (by rw [hR.1.2.2 b (Nat.not_le.mp h6)]; exact h3) h4 (v := rr E (gR σ a 0)) (by rw [e1]; exact h5) rfl rfl d ?_
  exact k p e s m args below meth c H locs cells slots ls Cx K L hz hR hl (ok_cons (v := vr _) trivial (ok_tl hst)) hlo hc hs
/-- a call on a text -/
theorem r_callVS {As : List NV} {b : Nat} (d : decode (dB M) pc = .ok (.invokevirtual idx, 3)) (hM : MKV M2 As.length) (hl9 : Cond.methodLink (dY M).cls idx (dY M2) ∈ lwW) (hr : rmI M M2) (hw : (st.map wt).sum ≤ 8) (hrc : dC M2 ≤ rc) (hrs : dS M2 ≤ rs)
    (hcq : (dY M2).cls = "java/lang/String") (ha : 0 < b ∧ b < 16) (hs9 : (gS σ b).1 = 32) (hc9 : CC E M2 (vr b :: As) σ Q2)
    (kk : ∀ (v : Option NV) (σ' : Sg), Q2 (.inl v) σ' → (∀ x, v = some x → okV x) → GG E M (pc + 3) l (v.toList ++ st) σ' (rc - dC M2) (rs - dS M2) Q) (kx : ∀ (x : Nat) (σ' : Sg), x < 3 → Q2 (.inr x) σ' → TT E M pc l σ' (rc - dC M2) (rs - dS M2) Q x) {st9 : List NV} (e9 : st9 = As.reverse ++ vr b :: st) : GG E M pc l st9 σ rc rs Q := by
  subst e9
  intro p e s m args below meth c H locs cells slots ls Cx K L hz hR hl hst hlo hc hs
  obtain ⟨ho1, ho2⟩ := okS hst
  have hx := hR.2.2.2.2.1 b ha.2
  obtain ⟨b9, hb, ⟨cell, g1, g2, g3, g4⟩, -⟩ := (K.2.2.1 b ha.2).2.2 (by rw [← hx.1]; exact hs9)
  have hrr : rv E (vr b) = .ref b9 := by show rr E b = _; unfold rr; rw [if_neg (by omega), if_pos ha.2, hb]
  have hP := pre_of (ov := vr b :: As) K hR (ok_cons (v := vr b) trivial ho1)
  refine gg_after (vx_runV (As := As.map (rv E)) (rest := st.map (rv E)) (b := b9) (C := (dY M2).cls) (g := F0 m pc ls ((As.reverse ++ vr b :: st).map (rv E))) (H := H) (locs := locs) (cells := cells) (slots := slots) Cx.fix hc9 ⟨hM.1.callB Cx.2.2.2.2.2.1 hr hl9, Cx.2.2.2.2.2.1 _ hM.2.1, Cx.2.2.2.2.2.1 _ hM.2.2⟩
    ⟨blind, ⟨cell, by rw [hR.1.2.2 b9 (Nat.not_le.mp g4)]; exact g1, g2, by rw [hcq]; exact g3⟩, by
      intro U hU hW
      have h9 := hP U hU hW
      rw [List.map_cons, hrr] at h9 ⊢
      exact h9⟩ rfl (by rw [List.length_map]) hl.1 (by simp [hrr]) (by show 2 * 0 + _ ≤ 8; rw [wt_sum]; omega) d ⟨by show cells + dC M2 ≤ dC M; omega, by show slots + dS M2 ≤ dS M; omega⟩) Cx K L hl (ok_tl ho2) hlo hc hs hrc hrs hR.1.2.1 kk kx
end R9
