/-! ===== rules of the nice machine: calls, ends, entries ===== -/
/-- what the tables say of a method without handlers -/
def MK (M2 : MD) (n : Nat) : Prop := dH M2 = [] ∧ Cond.code (dY M2) (dB M2) (dL M2) (dR M2) ∈ lwW ∧ Cond.initialized (dY M2).cls ∈ lwW ∧
  ((dY M2).cls ≠ "java/lang/invoke/MethodHandle" ∧ (dY M2).cls ≠ "java/lang/invoke/VarHandle" ∧ (parseMethodDescriptor (dY M2).desc).map (fun d => d.parameters.length) = some n)
def MKV (M2 : MD) (n : Nat) : Prop := MK M2 n ∧ Cond.instanceMethod (dY M2) ∈ lwW ∧ Cond.selects (dY M2).cls (dY M2) (dY M2) ∈ lwW
def MKS (M2 : MD) (n : Nat) : Prop := MK M2 n ∧ Cond.static (dY M2) ∈ lwW
def MKI (M2 : MD) (n : Nat) : Prop := MK M2 n ∧ Cond.instanceMethod (dY M2) ∈ lwW ∧ (dY M2).name = "<init>" ∧ dR M2 = none
/-- the callee's room is in the caller's -/
def rmI (M M2 : MD) : Prop := dF M2 + 1 ≤ dF M ∧ 8 + (dL M2 + 11) + dO M2 ≤ dO M
theorem MK.ws {M2 : MD} {n : Nat} (h : MK M2 n) : mW M2 = Cond.code (dY M2) (dB M2) (dL M2) (dR M2) :: lwW := by
  unfold mW
  rw [h.1]
theorem MK.good {M2 : MD} {n : Nat} (h : MK M2 n) : GoodIn lwW (mW M2) := by
  rw [h.ws]
  intro w hw
  rcases List.mem_cons.mp hw with e | e
  · rw [e]; exact lwW_good _ h.2.1
  · exact lwW_good _ e
theorem MK.callB {M M2 : MD} {n idx : Nat} {s : State} {args : Array Value} (h : MK M2 n) (hts : ∀ w ∈ lwW, w.before args s = true) (hr : rmI M M2) (hl : Cond.methodLink (dY M).cls idx (dY M2) ∈ lwW) :
    CallB (rmM M) s args (dY M).cls idx (dY M2) (dB M2) (dL M2) (dR M2) (mW M2) (rmM M2) (dC M2) (dS M2) n :=
  callB_of n hts h.good h.ws rfl rfl (hts _ h.2.2.1) (hts _ hl) h.2.2.2 hr
theorem MCx.fix {E : Ev} {M : MD} {p : Program} {s : State} {m : MethodId} {args : Array Value} {meth : Method} {c : Code} (C : MCx E M p s m args meth c) : CallFix p m c (dB M) (dL M) s args lwW (dY M).cls :=
  ⟨C.1, C.2.1, C.2.2.2.1, C.2.2.2.2.1, C.2.2.2.2.2.1⟩
theorem blind {E : Ev} {av : List Value} {ov : List NV} {σ : Sg} : FrameBlind (va_Pc av (fun U => KK E U ∧ Rel E σ U.heap ∧ ∀ v ∈ ov, okV v)) := by
  intro a U g mk h
  exact ⟨h.1, KK.same (s := U) (U := U.calling g mk a) rfl h.2.1, h.2.2.1, h.2.2.2⟩
theorem pre_of {E : Ev} {ov : List NV} {σ : Sg} {s : State} {H : Heap} (K : KK E s) (hR : Rel E σ H) (ho : ∀ v ∈ ov, okV v) : ∀ U : State, U.heap = H → s.WarmedH U.vm → va_Pc (ov.map (rv E)) (fun U => KK E U ∧ Rel E σ U.heap ∧ ∀ v ∈ ov, okV v) (ov.map (rv E)).toArray U :=
  fun U hU hW => ⟨rfl, K.moved hW, by rw [hU]; exact hR, ho⟩
section R7
variable {E : Ev} {M M2 : MD} {pc : Nat} {l : List (Option NV)} {st : List NV} {σ : Sg} {rc rs : Nat} {Q Q2 : NO → Sg → Prop}
variable {idx : Nat}
theorem okS {As : List NV} {rest : List NV} (h : ∀ v ∈ As.reverse ++ rest, okV v) : (∀ v ∈ As, okV v) ∧ ∀ v ∈ rest, okV v :=
  ⟨fun v hv => h v (List.mem_append_left _ (List.mem_reverse.mpr hv)), fun v hv => h v (List.mem_append_right _ hv)⟩
theorem r_callV {As : List NV} {b : Nat} {q : vw_C} {ci : Nat} (d : decode (dB M) pc = .ok (.invokevirtual idx, 3)) (hM : MKV M2 As.length) (hl9 : Cond.methodLink (dY M).cls idx (dY M2) ∈ lwW) (hr : rmI M M2) (hw : (st.map wt).sum ≤ 8) (hrc : dC M2 ≤ rc) (hrs : dS M2 ≤ rs)
    (hci : CLs[ci]? = some q) (hcq : q.1 = (dY M2).cls) (hci2 : ci < 16) (ho : okO σ b ci) (hc9 : CC E M2 (vr b :: As) σ Q2)
    (kk : ∀ (v : Option NV) (σ' : Sg), Q2 (.inl v) σ' → (∀ x, v = some x → okV x) → GG E M (pc + 3) l (v.toList ++ st) σ' (rc - dC M2) (rs - dS M2) Q) (kx : ∀ (x : Nat) (σ' : Sg), x < 3 → Q2 (.inr x) σ' → TT E M pc l σ' (rc - dC M2) (rs - dS M2) Q x) {st9 : List NV} (e9 : st9 = As.reverse ++ vr b :: st) : GG E M pc l st9 σ rc rs Q := by
  subst e9
  intro p e s m args below meth c H locs cells slots ls Cx K L hz hR hl hst hlo hc hs
  obtain ⟨ho1, ho2⟩ := okS hst
  obtain ⟨q', hq', ⟨cell, g1, g2, g3, -⟩, -⟩ := hR.obj ho.1 ho.2 (by omega)
  cases hci.symm.trans hq'
  have hrr : rv E (vr b) = .ref (nad E b) := rr_hi ho.1
  have hP := pre_of (ov := vr b :: As) K hR (ok_cons (v := vr b) trivial ho1)
  refine gg_after (vx_runV (As := As.map (rv E)) (rest := st.map (rv E)) (b := nad E b) (C := (dY M2).cls) (g := F0 m pc ls ((As.reverse ++ vr b :: st).map (rv E))) (H := H) (locs := locs) (cells := cells) (slots := slots) Cx.fix hc9 ⟨hM.1.callB Cx.2.2.2.2.2.1 hr hl9, Cx.2.2.2.2.2.1 _ hM.2.1, Cx.2.2.2.2.2.1 _ hM.2.2⟩
    ⟨blind, ⟨cell, g1, by rw [g3]; rfl, by rw [g2, ← hcq]; exact (K.1.1 ci q hci).2.1⟩, by
      intro U hU hW
      have h9 := hP U hU hW
      rw [List.map_cons, hrr] at h9 ⊢
      exact h9⟩ rfl (by rw [List.length_map]) hl.1 (by simp [hrr]) (by show 2 * 0 + _ ≤ 8; rw [wt_sum]; omega) d ⟨by show cells + dC M2 ≤ dC M; omega, by show slots + dS M2 ≤ dS M; omega⟩) Cx K L hl (ok_tl ho2) hlo hc hs hrc hrs hR.1.2.1 kk kx
theorem r_callS {As : List NV} (d : decode (dB M) pc = .ok (.invokestatic idx, 3)) (hM : MKS M2 As.length) (hl9 : Cond.methodLink (dY M).cls idx (dY M2) ∈ lwW) (hr : rmI M M2) (hw : (st.map wt).sum ≤ 8) (hrc : dC M2 ≤ rc) (hrs : dS M2 ≤ rs)
    (hc9 : CC E M2 As σ Q2)
    (kk : ∀ (v : Option NV) (σ' : Sg), Q2 (.inl v) σ' → (∀ x, v = some x → okV x) → GG E M (pc + 3) l (v.toList ++ st) σ' (rc - dC M2) (rs - dS M2) Q) (kx : ∀ (x : Nat) (σ' : Sg), x < 3 → Q2 (.inr x) σ' → TT E M pc l σ' (rc - dC M2) (rs - dS M2) Q x) {st9 : List NV} (e9 : st9 = As.reverse ++ st) : GG E M pc l st9 σ rc rs Q := by
  subst e9
  intro p e s m args below meth c H locs cells slots ls Cx K L hz hR hl hst hlo hc hs
  obtain ⟨ho1, ho2⟩ := okS hst
  refine gg_after (vx_runS (As := As.map (rv E)) (rest := st.map (rv E)) (g := F0 m pc ls ((As.reverse ++ st).map (rv E))) (H := H) (locs := locs) (cells := cells) (slots := slots) Cx.fix hc9 ⟨hM.1.callB Cx.2.2.2.2.2.1 hr hl9, Cx.2.2.2.2.2.1 _ hM.2⟩
    ⟨blind, pre_of K hR ho1⟩ rfl (by rw [List.length_map]) hl.1 (by simp) (by show 2 * 0 + _ ≤ 8; rw [wt_sum]; omega) d ⟨by show cells + dC M2 ≤ dC M; omega, by show slots + dS M2 ≤ dS M; omega⟩) Cx K L hl ho2 hlo hc hs hrc hrs hR.1.2.1 kk kx
/-- of a nest mate's private static method -/
theorem r_callSN {As : List NV} {host : String} (d : decode (dB M) pc = .ok (.invokestatic idx, 3)) (hM : MKS M2 As.length) (hl9 : Cond.methodLinkNest (dY M).cls idx (dY M2) host ∈ lw_tbl) (hr : rmI M M2) (hw : (st.map wt).sum ≤ 8) (hrc : dC M2 ≤ rc) (hrs : dS M2 ≤ rs)
    (hc9 : CC E M2 As σ Q2)
    (kk : ∀ (v : Option NV) (σ' : Sg), Q2 (.inl v) σ' → (∀ x, v = some x → okV x) → GG E M (pc + 3) l (v.toList ++ st) σ' (rc - dC M2) (rs - dS M2) Q) (kx : ∀ (x : Nat) (σ' : Sg), x < 3 → Q2 (.inr x) σ' → TT E M pc l σ' (rc - dC M2) (rs - dS M2) Q x) {st9 : List NV} (e9 : st9 = As.reverse ++ st) : GG E M pc l st9 σ rc rs Q := by
  subst e9
  intro p e s m args below meth c H locs cells slots ls Cx K L hz hR hl hst hlo hc hs
  obtain ⟨ho1, ho2⟩ := okS hst
  have hts := Cx.2.2.2.2.2.1
  refine gg_after (vx_runSN (As := As.map (rv E)) (rest := st.map (rv E)) (g := F0 m pc ls ((As.reverse ++ st).map (rv E))) (H := H) (locs := locs) (cells := cells) (slots := slots) Cx.fix hc9 ⟨va_cnB As.length hts hM.1.good hM.1.ws rfl rfl (K.2.2.2.2.1 _ hl9 rfl) (hts _ hM.1.2.2.1) hM.1.2.2.2 hr, hts _ hM.2, trivial⟩
    ⟨blind, pre_of K hR ho1⟩ rfl (by rw [List.length_map]) hl.1 (by simp) (by show 2 * 0 + _ ≤ 8; rw [wt_sum]; omega) d ⟨by show cells + dC M2 ≤ dC M; omega, by show slots + dS M2 ≤ dS M; omega⟩) Cx K L hl ho2 hlo hc hs hrc hrs hR.1.2.1 kk kx
/-- a constructor -/
theorem r_callI {As : List NV} {b : Nat} (d : decode (dB M) pc = .ok (.invokespecial idx, 3)) (hM : MKI M2 As.length) (hl9 : Cond.methodLink (dY M).cls idx (dY M2) ∈ lwW) (hr : rmI M M2) (hw : (st.map wt).sum ≤ 8) (hrc : dC M2 ≤ rc) (hrs : dS M2 ≤ rs)
    (ho : 16 ≤ b) (hc9 : CC E M2 (vr b :: As) σ Q2)
    (kk : ∀ (v : Option NV) (σ' : Sg), Q2 (.inl v) σ' → (∀ x, v = some x → okV x) → GG E M (pc + 3) l (v.toList ++ st) σ' (rc - dC M2) (rs - dS M2) Q) (kx : ∀ (x : Nat) (σ' : Sg), x < 3 → Q2 (.inr x) σ' → TT E M pc l σ' (rc - dC M2) (rs - dS M2) Q x) {st9 : List NV} (e9 : st9 = As.reverse ++ vr b :: st) : GG E M pc l st9 σ rc rs Q := by
  subst e9
  intro p e s m args below meth c H locs cells slots ls Cx K L hz hR hl hst hlo hc hs
  obtain ⟨ho1, ho2⟩ := okS hst
  have hrr : rv E (vr b) = .ref (nad E b) := rr_hi ho
  have hP := pre_of (ov := vr b :: As) K hR (ok_cons (v := vr b) trivial ho1)
  have hcb := hM.1.callB Cx.2.2.2.2.2.1 hr hl9
  rw [hM.2.2.2] at hcb
  refine gg_after (vx_runI (As := As.map (rv E)) (rest := st.map (rv E)) (b := nad E b) (g := F0 m pc ls ((As.reverse ++ vr b :: st).map (rv E))) (H := H) (locs := locs) (cells := cells) (slots := slots) Cx.fix hc9 ⟨hcb, hM.2.2.1, Cx.2.2.2.2.2.1 _ hM.2.1⟩
    ⟨blind, by
      intro U hU hW
      have h9 := hP U hU hW
      rw [List.map_cons, hrr] at h9 ⊢
      exact h9⟩ rfl (by rw [List.length_map]) hl.1 (by simp [hrr]) (by show 2 * 0 + _ ≤ 8; rw [wt_sum]; omega) d ⟨by show cells + dC M2 ≤ dC M; omega, by show slots + dS M2 ≤ dS M; omega⟩) Cx K L hl (ok_tl ho2) hlo hc hs hrc hrs hR.1.2.1 kk kx
theorem r_callIN {As : List NV} {b : Nat} {host : String} (d : decode (dB M) pc = .ok (.invokespecial idx, 3)) (hM : MKI M2 As.length) (hl9 : Cond.methodLinkNest (dY M).cls idx (dY M2) host ∈ lw_tbl) (hr : rmI M M2) (hw : (st.map wt).sum ≤ 8) (hrc : dC M2 ≤ rc) (hrs : dS M2 ≤ rs)
    (ho : 16 ≤ b) (hc9 : CC E M2 (vr b :: As) σ Q2)
    (kk : ∀ (v : Option NV) (σ' : Sg), Q2 (.inl v) σ' → (∀ x, v = some x → okV x) → GG E M (pc + 3) l (v.toList ++ st) σ' (rc - dC M2) (rs - dS M2) Q) (kx : ∀ (x : Nat) (σ' : Sg), x < 3 → Q2 (.inr x) σ' → TT E M pc l σ' (rc - dC M2) (rs - dS M2) Q x) {st9 : List NV} (e9 : st9 = As.reverse ++ vr b :: st) : GG E M pc l st9 σ rc rs Q := by
  subst e9
  intro p e s m args below meth c H locs cells slots ls Cx K L hz hR hl hst hlo hc hs
  obtain ⟨ho1, ho2⟩ := okS hst
  have hts := Cx.2.2.2.2.2.1
  have hrr : rv E (vr b) = .ref (nad E b) := rr_hi ho
  have hP := pre_of (ov := vr b :: As) K hR (ok_cons (v := vr b) trivial ho1)
  have hcb := va_cnB (args := args) As.length hts hM.1.good hM.1.ws rfl rfl (K.2.2.2.2.1 _ hl9 rfl) (hts _ hM.1.2.2.1) hM.1.2.2.2 (R := rmM M) (rm := rmM M2) hr
  rw [hM.2.2.2] at hcb
  refine gg_after (vx_runIN (As := As.map (rv E)) (rest := st.map (rv E)) (b := nad E b) (g := F0 m pc ls ((As.reverse ++ vr b :: st).map (rv E))) (H := H) (locs := locs) (cells := cells) (slots := slots) Cx.fix hc9 ⟨hcb, hM.2.2.1, hts _ hM.2.1⟩
    ⟨blind, by
      intro U hU hW
      have h9 := hP U hU hW
      rw [List.map_cons, hrr] at h9 ⊢
      exact h9⟩ rfl (by rw [List.length_map]) hl.1 (by simp [hrr]) (by show 2 * 0 + _ ≤ 8; rw [wt_sum]; omega) d ⟨by show cells + dC M2 ≤ dC M; omega, by show slots + dS M2 ≤ dS M; omega⟩) Cx K L hl (ok_tl ho2) hlo hc hs hrc hrs hR.1.2.1 kk kx
/-- Object's constructor -/
theorem r_objInit {b : Nat} (d : decode (dB M) pc = .ok (.invokespecial idx, 3)) (hl9 : Cond.methodLink (dY M).cls idx objectInit ∈ lwW) (h2 : Cond.instanceMethod objectInit ∈ lwW) (h3 : Cond.code objectInit ⟨#[0xb1]⟩ 1 none ∈ lwW) (hF : 1 ≤ dF M) (hO : (st.map wt).sum + 12 ≤ dO M) (ho : 16 ≤ b) (k : GG E M (pc + 3) l st σ rc rs Q) : GG E M pc l (vr b :: st) σ rc rs Q := by
  intro p e s m args below meth c H locs cells slots ls Cx K L hz hR hl hst hlo hc hs
  have hts := Cx.2.2.2.2.2.1
  have hrr : rv E (vr b) = .ref (nad E b) := rr_hi ho
  have kk := k p e s m args below meth c H locs cells slots ls Cx K L hz hR hl (ok_tl hst) hlo hc hs
  show W p (eL E) e (rmM M) s m args below meth c H locs cells slots (FQ E M below args s Q) (F0 m pc ls (rv E (vr b) :: st.map (rv E)))
  rw [hrr]
  exact W.objInit Cx.1 Cx.2.1 Cx.2.2.2.2.1 (hts _ hl9) (hts _ h2) (hts _ h3) rfl (by rw [Cx.2.2.2.1]; exact hl.1) rfl d hF (by show 2 * 0 + _ + 12 ≤ dO M; rw [wt_sum]; omega) kk
end R7
