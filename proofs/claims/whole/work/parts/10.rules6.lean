/-! ===== rules of the nice machine: what the tables say moves; statics, texts, calls, ends ===== -/
theorem va_AOA.moved9 {ty : FieldType} {s U : State} (hal : s.vm.Alike U.vm) (h : va_AOA ty s) : va_AOA ty U := by
  have h6 := Cond.arrayOver_setVmC (args := #[]) hal (.array ty)
  simp only [va_AOA, Cond.before, Cond.holds, Cond.value, State.vm_setVm] at h h6 ⊢
  exact h6.trans h
theorem KK.moved {E : Ev} {s U : State} (hW : s.WarmedH U.vm) (K : KK E s) : KK E U := by
  have hal : s.vm.Alike U.vm := hW.alike
  obtain ⟨k1, k2, k3, k4, k5, k6, k7, k8, k9, k10, k11, k12, k13⟩ := K
  refine ⟨k1.moved hal, fun c h1 h2 => ⟨arrOfT_moved hal (k2 c h1 h2).1, by rw [hal.findClass]; exact (k2 c h1 h2).2⟩, fun a ha => ⟨fun w => ?_, fun w => ?_, fun w => ?_⟩, fun q hq => (k4 q hq).moved hal, fun w hw hn => ?_, k6.moved hal, k7.moved hal, fun q hq => ?_, fun q hq => ?_, fun q hq => ?_, fun w hw hn => ?_, ?_, k13⟩
  · obtain ⟨b, cell, h1, h2, h3, h4, h5⟩ := (k3 a ha).1 w
    exact ⟨b, cell, h1, h2, h3, State.isArrayOf_alike hal h4, h5⟩
  · obtain ⟨b, cell, h1, h2, h3, h4, h5⟩ := (k3 a ha).2.1 w
    exact ⟨b, cell, h1, h2, h3, State.isArrayOf_alike hal h4, h5⟩
  · obtain ⟨b, h1, h2, h3, h4, h5⟩ := (k3 a ha).2.2 w
    exact ⟨b, h1, h2.moved hal, h3.moved hal, h4.moved hal, h5⟩
  · have h := k5 w hw hn
    cases w <;> first | (exact va_Nw.warmM hW h) | (exact va_Nw.warmF hW h) | (exact absurd hn (by decide)) | (cases hn)
  · obtain ⟨a, h1, h2⟩ := k8 q hq
    exact ⟨a, h1, h2.warm hW⟩
  · obtain ⟨a, h1⟩ := k9 q hq
    exact ⟨a, h1.warm hW⟩
  · obtain ⟨c, t, h1, h2, h3⟩ := k10 q hq
    exact ⟨c, t, by rw [hal.findClass]; exact h1, by rw [hal.findClass]; exact h2, by rw [hal.assignable]; exact h3⟩
  · have h := k11 w hw hn
    cases w <;> first
      | (exact va_Nw.warmD hW h)
      | (exact va_tabs rfl (rfl : (s.setVm U.vm).vm = U.vm) (by rw [Cond.castable_setVm hal]; exact h))
      | (cases hn)
  · obtain ⟨kA, kC, h1, h2, h3, h4, h5⟩ := k12
    obtain ⟨kA', hA', eA'⟩ := hal.2.2 _ _ h1
    obtain ⟨kC', hC', eC'⟩ := hal.2.2 _ _ h3
    exact ⟨kA', kC', hA', by rw [eA']; exact h2, hC', by rw [hal.assignable]; exact h4, va_AOA.moved9 hal h5⟩
theorem KK.same {E : Ev} {s U : State} (hv : U.vm = s.vm) (K : KK E s) : KK E U := K.moved (by rw [hv]; exact State.WarmedH.refl s)
theorem LowS.S {E : Ev} {s : State} {H : Heap} {locs : List Loc} (L : LowS E s.heap) (hz : s.heap.size ≤ H.size) (L2 : LowS E H) (hlo : ∀ z ∈ locs, fre E z.base) : va_S (fre E) (eH E) H locs :=
  ⟨by have := L2.1; have := L2.2.1; omega, fun q h1 _ => L2.2.2 q (by have := L2.1; omega), hlo⟩
/-- an exception is under way in the method -/
def TT (E : Ev) (M : MD) (pc : Nat) (l : List (Option NV)) (σ : Sg) (rc rs : Nat) (Q : NO → Sg → Prop) (x : Nat) : Prop :=
  ∀ (p : Program) (e : Env) (s : State) (m : MethodId) (args : Array Value) (below : List Frame) (meth : Method) (c : Code) (H : Heap) (locs : List Loc) (cells slots : Nat) (ls : Array Slot) (st : List Value) (q : Nat) (ce : Cell),
    MCx E M p s m args meth c → KK E s → LowS E s.heap → s.heap.size ≤ H.size → Rel E σ H → lvR E ls (dL M) l → (∀ z ∈ locs, fre E z.base) → cells + rc ≤ dC M → slots + rs ≤ dS M →
    H[q]? = some ce → ce.vm = .none → s.vm.findClass (exN x) = some ce.cls → x < 3 →
    vx_W p (eL E) e (rmM M) s m args below meth c H locs cells slots (FQ E M below args s Q) (F0 m pc ls st) q
def wt : NV → Nat
  | .inr (.inr _) => 2
  | _ => 1
theorem wt_sum (E : Ev) (st : List NV) : ((st.map (rv E)).map fun v => v.category).sum = (st.map wt).sum := by
  induction st with
  | nil => rfl
  | cons v t ih =>
    simp only [List.map_cons, List.sum_cons, ih]
    congr 1
    rcases v with x | a | x
    · rfl
    · exact rr_cat E a
    · rfl
section R6
variable {E : Ev} {M : MD} {pc : Nat} {l : List (Option NV)} {st : List NV} {σ : Sg} {rc rs : Nat} {Q : NO → Sg → Prop}
variable {idx : Nat}
theorem r_gets {C n de : String} {v : NV} (d : decode (dB M) pc = .ok (.getstatic idx, 3)) (hq : (C, n, de, v) ∈ STs) (hl9 : Cond.fieldLink (dY M).cls idx C n de ∈ lwW) (hv : okV v) (k : GG E M (pc + 3) l (v :: st) σ rc rs Q) : GG E M pc l st σ rc rs Q := by
  intro p e s m args below meth c H locs cells slots ls Cx K L hz hR hl hst hlo hc hs
  obtain ⟨cf, kf, fi, f, a, cell, h1, h2, h3, h4, h5, h6, h7, h8⟩ := K.2.2.2.1 _ hq
  exact W.gets Cx.1 Cx.2.1 Cx.2.2.2.2.1 (Cx.2.2.2.2.2.1 _ hl9) h1 h2 h3 h4 (by rw [hR.1.2.2 a (Nat.not_le.mp h8)]; exact h5) (fun e => by rw [e] at h6; cases h6) h7 rfl d (k p e s m args below meth c H locs cells slots ls Cx K L hz hR hl (ok_cons hv hst) hlo hc hs)
theorem r_getsN {C n de host : String} {v : NV} (d : decode (dB M) pc = .ok (.getstatic idx, 3)) (hq : (C, n, de, v) ∈ STs) (hl9 : Cond.fieldLinkNest (dY M).cls idx C n de host ∈ lw_tbl) (hv : okV v) (k : GG E M (pc + 3) l (v :: st) σ rc rs Q) : GG E M pc l st σ rc rs Q := by
  intro p e s m args below meth c H locs cells slots ls Cx K L hz hR hl hst hlo hc hs
  obtain ⟨cf, kf, fi, f, a, cell, h1, h2, h3, h4, h5, h6, h7, h8⟩ := K.2.2.2.1 _ hq
  exact va_WgetsN Cx.1 Cx.2.1 Cx.2.2.2.2.1 (va_Nw.use (A := args) rfl (K.2.2.2.2.1 _ hl9 rfl)) h1 h2 h3 h4 (by rw [hR.1.2.2 a (Nat.not_le.mp h8)]; exact h5) (fun e => by rw [e] at h6; cases h6) h7 rfl d (k p e s m args below meth c H locs cells slots ls Cx K L hz hR hl (ok_cons hv hst) hlo hc hs)
theorem r_ldcS {tx : String} {a : Nat} (d : decode (dB M) pc = .ok (.ldc idx, 2)) (hq : ((dY M).cls, idx, tx, a) ∈ SCs) (ha : 0 < a ∧ a < 16) (k : GG E M (pc + 2) l (vr a :: st) σ rc rs Q) : GG E M pc l st σ rc rs Q := by
  intro p e s m args below meth c H locs cells slots ls Cx K L hz hR hl hst hlo hc hs
  obtain ⟨q, h1, h2⟩ := K.2.2.2.2.2.2.2.1 _ hq
  have kk := k p e s m args below meth c H locs cells slots ls Cx K L hz hR hl (ok_cons (v := vr a) trivial hst) hlo hc hs
  have e9 : rr E a = .ref q := by
    unfold rr
    rw [if_neg (by omega), if_pos ha.2]
    show (match eX E a with | .ref b => Value.ref b | _ => .null) = _
    rw [show eX E a = .ref q from h1]
  have kk : W p (eL E) e (rmM M) s m args below meth c H locs cells slots (FQ E M below args s Q) (F0 m (pc + 2) ls (rr E a :: st.map (rv E))) := kk
  rw [e9] at kk
  intro T hT X
  obtain ⟨t, a1, b1⟩ := kk T hT X
  have h3 := vk_R.same (u := s) (U := s) rfl h2
  exact ⟨t, X.ldcString Cx.1 Cx.2.2.2.2.1 (text := tx) (a := q) h3.1 h3.2 (g := F0 m pc ls (st.map (rv E))) rfl (by rw [Cx.2.1]; exact d) t a1, b1⟩
theorem r_ldcI {v : Int32} (d : decode (dB M) pc = .ok (.ldc idx, 2)) (hq : Cond.constant (dY M).cls idx v ∈ lwW) (k : GG E M (pc + 2) l (vi v.toInt :: st) σ rc rs Q) : GG E M pc l st σ rc rs Q := by
  intro p e s m args below meth c H locs cells slots ls Cx K L hz hR hl hst hlo hc hs
  have kk := k p e s m args below meth c H locs cells slots ls Cx K L hz hR hl (ok_cons (v := vi _) (i32_in v) hst) hlo hc hs
  have kk : W p (eL E) e (rmM M) s m args below meth c H locs cells slots (FQ E M below args s Q) (F0 m (pc + 2) ls (.int (Int32.ofInt v.toInt) :: st.map (rv E))) := kk
  rw [Int32.ofInt_toInt] at kk
  exact lv_ldc Cx.1 Cx.2.1 Cx.2.2.2.2.1 (Cx.2.2.2.2.2.1 _ hq) d kk
theorem r_ldc2 {v : Int64} (d : decode (dB M) pc = .ok (.ldc2_w idx, 3)) (hq : Cond.constantLong (dY M).cls idx v ∈ lwW) (k : GG E M (pc + 3) l (vl v.toInt :: st) σ rc rs Q) : GG E M pc l st σ rc rs Q := by
  intro p e s m args below meth c H locs cells slots ls Cx K L hz hR hl hst hlo hc hs
  have kk := k p e s m args below meth c H locs cells slots ls Cx K L hz hR hl (ok_cons (v := vl _) (i64_in v) hst) hlo hc hs
  have kk : W p (eL E) e (rmM M) s m args below meth c H locs cells slots (FQ E M below args s Q) (F0 m (pc + 3) ls (.long (Int64.ofInt v.toInt) :: st.map (rv E))) := kk
  rw [Int64.ofInt_toInt] at kk
  exact lv_ldc2 Cx.1 Cx.2.1 Cx.2.2.2.2.1 (Cx.2.2.2.2.2.1 _ hq) d kk
/-- behind a call -/
theorem gg_after {M2 : MD} {Q2 : NO → Sg → Prop} {p : Program} {e : Env} {s : State} {m : MethodId} {args : Array Value} {below : List Frame} {meth : Method} {c : Code} {H : Heap} {locs : List Loc} {cells slots : Nat} {ls : Array Slot} {st0 : List Value} {a9 : Array Value}
    (hr : vx_Run p (eL E) e (rmM M) s m args below meth c H locs cells slots (dC M2) (dS M2) (F0 m pc ls st0) (st.map (rv E)) (QcE E Q2 a9) (XcE E Q2) (fre E))
    (Cx : MCx E M p s m args meth c) (K : KK E s) (L : LowS E s.heap) (hl : lvR E ls (dL M) l) (hst : ∀ v ∈ st, okV v) (hlo : ∀ z ∈ locs, fre E z.base) (hc : cells + rc ≤ dC M) (hs : slots + rs ≤ dS M) (hrc : dC M2 ≤ rc) (hrs : dS M2 ≤ rs) (hB : eB E ≤ H.size)
    (kk : ∀ (v : Option NV) (σ' : Sg), Q2 (.inl v) σ' → (∀ x, v = some x → okV x) → GG E M (pc + 3) l (v.toList ++ st) σ' (rc - dC M2) (rs - dS M2) Q) (kx : ∀ (x : Nat) (σ' : Sg), x < 3 → Q2 (.inr x) σ' → TT E M pc l σ' (rc - dC M2) (rs - dS M2) Q x) :
    W p (eL E) e (rmM M) s m args below meth c H locs cells slots (FQ E M below args s Q) (F0 m pc ls st0) := by
  intro T hT X
  rcases hr T hT X with ⟨v, st₀, t, T', L9, h0, X', hL, e1, e2, ⟨v', σ', hv, hq, hR', hok⟩, go⟩ | ⟨q, st₀, t, T', L9, EN, ce, h0, X', hL, e1, e2, ⟨x, σ', hx3, hxn, hq, hR'⟩, hce, hcv, hcl, go⟩
  · cases hv
    have hsz := (vx_frame (U := T') X'.same).1
    obtain ⟨t2, a1, b1⟩ := kk v' σ' hq hok p e s m args below meth c T'.heap (locs ++ L9) (cells + dC M2) (slots + dS M2) ls Cx K L hsz (by rw [e1]; exact hR') hl (by
      intro u hu
      rcases List.mem_append.mp hu with w | w
      · exact hok u (by cases v' with
          | none => simp at w
          | some z => simp at w; rw [w])
      · exact hst u w) (fun z hzz => (List.mem_append.mp hzz).elim (hlo z) (hL z)) (by omega) (by omega) T' rfl X'
    refine ⟨t2, go t2 ?_, b1⟩
    have e9 : (v'.toList ++ st).map (rv E) = (v'.map (rv E)).toList ++ st.map (rv E) := by
      cases v' <;> simp
    rw [← e9]
    exact a1
  · subst hxn
    have hsz := (vx_frame (U := T') X'.same).1
    obtain ⟨t2, a1, b1⟩ := kx x σ' hx3 hq p e s m args below meth c T'.heap (locs ++ L9) (cells + dC M2) (slots + dS M2) ls (st.map (rv E)) q ce Cx K L hsz (by rw [e1]; exact hR') hl (fun z hzz => (List.mem_append.mp hzz).elim (hlo z) (hL z)) (by omega) (by omega) (by rw [e1]; exact hce) hcv hcl hx3 T' rfl X'
    exact ⟨t2, go.trans a1, b1⟩
end R6
