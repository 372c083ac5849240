/-! ===== rules of the nice machine: copies, least and most, ends, throws, entries ===== -/
/-- n numbers from place sp of one array come to place dp of another -/
def cpI (σ : Sg) (a sp b dp n : Nat) : Sg := (fun x j => if x = b ∧ dp ≤ j ∧ j < dp + n then σ.1 a (sp + (j - dp)) else σ.1 x j, σ.2)
theorem gI_cp (σ : Sg) (a sp b dp n x j : Nat) : gI (cpI σ a sp b dp n) x j = if x = b ∧ dp ≤ j ∧ j < dp + n then gI σ a (sp + (j - dp)) else gI σ x j := rfl
section R8
variable {E : Ev} {M M2 : MD} {pc : Nat} {l : List (Option NV)} {st : List NV} {σ : Sg} {rc rs : Nat} {Q Q2 : NO → Sg → Prop}
variable {idx : Nat}
theorem r_copy {a b : Nat} {sp dp n : Int} (d : decode (dB M) pc = .ok (.invokestatic idx, 3)) (hl9 : Cond.methodLink (dY M).cls idx arraycopyName ∈ lwW) (h2 : Cond.native arraycopyName ∈ lwW) (h3 : Cond.static arraycopyName ∈ lwW) (h4 : Cond.initialized "java/lang/System" ∈ lwW)
    (hF : 1 ≤ dF M) (hO : (st.map wt).sum + (nativeFrameWords "java/lang/System" "arraycopy" 5 + 11) ≤ dO M)
    (ha : 16 ≤ a ∧ (gS σ a).1 = 20) (hb : 16 ≤ b ∧ (gS σ b).1 = 20) (hn : 0 ≤ n) (hsp : 0 ≤ sp ∧ sp + n ≤ ((gS σ a).2 : Int)) (hdp : 0 ≤ dp ∧ dp + n ≤ ((gS σ b).2 : Int))
    (k : GG E M (pc + 3) l st (cpI σ a sp.toNat b dp.toNat n.toNat) rc rs Q) : GG E M pc l (vi n :: vi dp :: vr b :: vi sp :: vr a :: st) σ rc rs Q := by
  intro p e s m args below meth c H locs cells slots ls Cx K L hz hR hl hst hlo hc hs
  have hn9 : inR n := ok_hd hst
  have hdp9 : inR dp := ok_hd (ok_tl hst)
  have hsp9 : inR sp := ok_hd (ok_tl (ok_tl (ok_tl hst)))
  have hts := Cx.2.2.2.2.2.1
  obtain ⟨hc0, hv0⟩ := hR.arr ha.1 ha.2 (by omega) (by omega)
  obtain ⟨hc1, hv1⟩ := hR.arr hb.1 hb.2 (by omega) (by omega)
  obtain ⟨-, k0, hk0, cm0, hkk0⟩ := (K.2.1 20 (by omega) (by omega)).1 (gS σ a).2 (elv E σ a 20)
  have esp := ii_cl hsp9 hsp.1
  have edp := ii_cl hdp9 hdp.1
  have en := ii_cl hn9 hn
  show W p (eL E) e (rmM M) s m args below meth c H locs cells slots (FQ E M below args s Q) (F0 m pc ls (.int (Int32.ofInt n) :: .int (Int32.ofInt dp) :: rr E b :: .int (Int32.ofInt sp) :: rr E a :: st.map (rv E)))
  rw [rr_hi ha.1, rr_hi hb.1]
  intro T hT X
  obtain ⟨vm', X', step⟩ := X.arraycopy Cx.1 Cx.2.2.2.2.1 (hts _ hl9) (hts _ h2) (hts _ h3) (hts _ h4) (src := nad E a) (dst := nad E b) (cs := arrV (eA E 20) (gS σ a).2 (elv E σ a 20)) (cd := arrV (eA E 20) (gS σ b).2 (elv E σ b 20)) (srcPos := Int32.ofInt sp) (destPos := Int32.ofInt dp) (n := Int32.ofInt n) (by rw [hT]; exact hc0) (by rw [hT]; exact hc1)
    (fun _ h => by cases h) (fun _ h => by cases h) (fun h => by cases h) (fun h => by cases h) hk0 hk0 hkk0 hkk0 (by simp [show refKind (elT 20) = false from rfl]) (fun w => absurd ((ii_lt hsp9 inR_0).mp w) (by omega)) (fun w => absurd ((ii_lt hdp9 inR_0).mp w) (by omega)) (fun w => absurd ((ii_lt hn9 inR_0).mp w) (by omega))
    (by rw [ii_toInt hsp9, ii_toInt hn9, arrV_size]; omega)
    (by rw [ii_toInt hdp9, ii_toInt hn9, arrV_size]; omega)
    (fun vm₁ _ i hi => by
      rw [en] at hi
      have e : (arrV (eA E 20) (gS σ a).2 (elv E σ a 20)).slots.getD ((Int32.ofInt sp).toNatClampNeg + i) .null = .int (Int32.ofInt (gI σ a (sp.toNat + i))) := by
        rw [esp, Array.getD_eq_getD_getElem?, arrV_read _ _ (by omega)]
        rfl
      exact ⟨by rw [e]; rfl, by rw [e]; exact trivial⟩)
    (g := F0 m pc ls (.int (Int32.ofInt n) :: .int (Int32.ofInt dp) :: .ref (nad E b) :: .int (Int32.ofInt sp) :: .ref (nad E a) :: st.map (rv E))) rfl (by rw [Cx.2.2.2.1]; exact hl.1) (rest := st.map (rv E)) rfl (by rw [Cx.2.1]; exact d) hF (by show 2 * 0 + _ + _ ≤ dO M; rw [wt_sum]; omega)
  have e1 : copied (arrV (eA E 20) (gS σ a).2 (elv E σ a 20)) (arrV (eA E 20) (gS σ b).2 (elv E σ b 20)) (Int32.ofInt sp) (Int32.ofInt dp) (Int32.ofInt n) = arrV (eA E 20) (gS σ b).2 (elv E (cpI σ a sp.toNat b dp.toNat n.toNat) b 20) := by
    have h9 := va_copied (fun z : Int => .int (Int32.ofInt z)) (eA E 20) (eA E 20) (n0 := (gS σ a).2) (n1 := (gS σ b).2) (sp := (Int32.ofInt sp).toNatClampNeg) (dp := (Int32.ofInt dp).toNatClampNeg) (n := (Int32.ofInt n).toNatClampNeg) (gI σ a) (gI σ b) (by rw [esp, en]; omega)
    refine h9.trans (congrArg (arrV _ _) (funext fun j => ?_))
    show Value.int _ = elv E _ b 20 j
    unfold elv
    rw [if_neg (by decide), if_neg (by decide), gI_cp, esp, edp, en]
    unfold va_cpy
    simp only [true_and]
  rw [e1] at X' step
  have hlt : nad E b < H.size := (Array.getElem?_eq_some_iff.mp hc1).1
  have hheap : ((T.setVm vm').setCell (nad E b) (arrV (eA E 20) (gS σ b).2 (elv E (cpI σ a sp.toNat b dp.toNat n.toNat) b 20))).heap = H.setIfInBounds (nad E b) (arrV (eA E 20) (gS σ b).2 (elv E (cpI σ a sp.toNat b dp.toNat n.toNat) b 20)) := by rw [← hT]; rfl
  have hR' : Rel E (cpI σ a sp.toNat b dp.toNat n.toNat) (H.setIfInBounds (nad E b) (arrV (eA E 20) (gS σ b).2 (elv E (cpI σ a sp.toNat b dp.toNat n.toNat) b 20))) := by
    refine hR.put hb.1 (by simp) (fun q hq => by simp [Array.getElem?_setIfInBounds, Ne.symm hq]) rfl (fun _ => rfl) (fun x j hx => if_neg (fun w => hx w.1)) (fun _ _ _ => rfl) ⟨fun _ => ?_, fun w => ?_⟩
    · unfold cA
      rw [show gS (cpI σ a sp.toNat b dp.toNat n.toNat) b = gS σ b from rfl, hb.2]
      refine ⟨by simp [Array.getElem?_setIfInBounds, hlt], fun j hj => ?_⟩
      show inR _
      rw [gI_cp]
      split
      · rename_i w
        exact hv0 (sp.toNat + (j - dp.toNat)) (by omega)
      · exact hv1 j hj
    · rw [show gS (cpI σ a sp.toNat b dp.toNat n.toNat) b = gS σ b from rfl, hb.2] at w; omega
  obtain ⟨t, a1, b1⟩ := k p e s m args below meth c _ _ cells slots ls Cx K L (by simp; exact hz) hR' hl (ok_tl (ok_tl (ok_tl (ok_tl (ok_tl hst))))) (fun q hq => by
      rcases List.mem_append.mp hq with h | h
      · exact hlo q h
      · obtain ⟨z, -, hz9⟩ := List.mem_map.mp h
        rw [← hz9]
        exact nad_fre E b) hc hs _ hheap X'
  exact ⟨t, step t a1, b1⟩
theorem r_mmax {x y : Int} (d : decode (dB M) pc = .ok (.invokestatic idx, 3)) (hl9 : Cond.methodLink (dY M).cls idx Lib.Math.max.name ∈ lwW) (h2 : Cond.static Lib.Math.max.name ∈ lwW) (h3 : Cond.initialized "java/lang/Math" ∈ lwW) (h4 : Cond.code Lib.Math.max.name Lib.Math.max.code 2 (some .int) ∈ lwW)
    (hF : 1 ≤ dF M) (hO : (st.map wt).sum + 13 ≤ dO M) (k : GG E M (pc + 3) l (vi (if x < y then y else x) :: st) σ rc rs Q) : GG E M pc l (vi y :: vi x :: st) σ rc rs Q := by
  intro p e s m args below meth c H locs cells slots ls Cx K L hz hR hl hst hlo hc hs
  have hy : inR y := ok_hd hst
  have hx : inR x := ok_hd (ok_tl hst)
  have hts := Cx.2.2.2.2.2.1
  have kk := k p e s m args below meth c H locs cells slots ls Cx K L hz hR hl (ok_cons (v := vi _) (by show inR _; split <;> assumption) (ok_tl (ok_tl hst))) hlo hc hs
  refine va_mmax Cx.1 Cx.2.1 (by rw [Cx.2.2.2.1]; exact hl.1.symm) Cx.2.2.2.2.1 (hts _ hl9) (hts _ h2) (hts _ h3) (hts _ h4) hF (by show _ ≤ dO M; rw [wt_sum]; exact hO) (by show cells ≤ dC M; omega) (by show slots ≤ dS M; omega) d ?_
  have e9 : (if Int32.ofInt x < Int32.ofInt y then Int32.ofInt y else Int32.ofInt x) = Int32.ofInt (if x < y then y else x) := by
    simp only [ii_lt hx hy]
    split <;> rfl
  rw [e9]
  exact kk
theorem r_mmin {x y : Int} (d : decode (dB M) pc = .ok (.invokestatic idx, 3)) (hl9 : Cond.methodLink (dY M).cls idx Lib.Math.min.name ∈ lwW) (h2 : Cond.static Lib.Math.min.name ∈ lwW) (h3 : Cond.initialized "java/lang/Math" ∈ lwW) (h4 : Cond.code Lib.Math.min.name Lib.Math.min.code 2 (some .int) ∈ lwW)
    (hF : 1 ≤ dF M) (hO : (st.map wt).sum + 13 ≤ dO M) (k : GG E M (pc + 3) l (vi (if y < x then y else x) :: st) σ rc rs Q) : GG E M pc l (vi y :: vi x :: st) σ rc rs Q := by
  intro p e s m args below meth c H locs cells slots ls Cx K L hz hR hl hst hlo hc hs
  have hy : inR y := ok_hd hst
  have hx : inR x := ok_hd (ok_tl hst)
  have hts := Cx.2.2.2.2.2.1
  have kk := k p e s m args below meth c H locs cells slots ls Cx K L hz hR hl (ok_cons (v := vi _) (by show inR _; split <;> assumption) (ok_tl (ok_tl hst))) hlo hc hs
  refine va_mmin Cx.1 Cx.2.1 (by rw [Cx.2.2.2.1]; exact hl.1.symm) Cx.2.2.2.2.1 (hts _ hl9) (hts _ h2) (hts _ h3) (hts _ h4) hF (by show _ ≤ dO M; rw [wt_sum]; exact hO) (by show cells ≤ dC M; omega) (by show slots ≤ dS M; omega) d ?_
  have e9 : (if Int32.ofInt y < Int32.ofInt x then Int32.ofInt y else Int32.ofInt x) = Int32.ofInt (if y < x then y else x) := by
    simp only [ii_lt hy hx]
    split <;> rfl
  rw [e9]
  exact kk
theorem FQ_of {below : List Frame} {args : Array Value} {s : State} (h : (dY M).name ≠ "law") : FQ E M below args s Q = vx_MQ below (QcE E Q) (XcE E Q) args s (dC M) (dS M) (fre E) := if_neg h
/-- the end: a number, also a boolean, byte or char -/
theorem r_ireturn {x : Int} {ty : FieldType} (d : decode (dB M) pc = .ok (.ireturn, 1)) (hn : (dY M).name ≠ "law") (hr : dR M = some ty) (hnar : narrow ty (.int (Int32.ofInt x)) = .int (Int32.ofInt x)) (q : Q (.inl (some (vi x))) σ) : GG E M pc l [vi x] σ rc rs Q := by
  intro p e s m args below meth c H locs cells slots ls Cx K L hz hR hl hst hlo hc hs
  rw [FQ_of hn]
  refine W.widen (k := dC M) (n := dS M) (by omega) (by omega) (vx_ret ?_)
  have hlk := Cx.2.2.2.2.2.2.1
  exact W.zret (v := Int32.ofInt x) (ty := ty) Cx.1 Cx.2.1 (Cx.2.2.1.trans hr) hnar (fun t ht _ => ⟨some (vi x), σ, rfl, q, by rw [ht]; exact hR, fun y hy => by cases hy; exact ok_hd hst⟩) hlo d hlk
theorem r_lreturn {x : Int} (d : decode (dB M) pc = .ok (.lreturn, 1)) (hn : (dY M).name ≠ "law") (hr : dR M = some .long) (q : Q (.inl (some (vl x))) σ) : GG E M pc l [vl x] σ rc rs Q := by
  intro p e s m args below meth c H locs cells slots ls Cx K L hz hR hl hst hlo hc hs
  rw [FQ_of hn]
  refine W.widen (k := dC M) (n := dS M) (by omega) (by omega) (vx_ret ?_)
  have hlk := Cx.2.2.2.2.2.2.1
  exact W.lret (v := Int64.ofInt x) Cx.1 Cx.2.1 (Cx.2.2.1.trans hr) (fun t ht _ => ⟨some (vl x), σ, rfl, q, by rw [ht]; exact hR, fun y hy => by cases hy; exact ok_hd hst⟩) hlo d hlk
theorem r_return (d : decode (dB M) pc = .ok (.return_, 1)) (hn : (dY M).name ≠ "law") (hr : dR M = none) (q : Q (.inl none) σ) : GG E M pc l [] σ rc rs Q := by
  intro p e s m args below meth c H locs cells slots ls Cx K L hz hR hl hst hlo hc hs
  rw [FQ_of hn]
  refine W.widen (k := dC M) (n := dS M) (by omega) (by omega) (vx_ret ?_)
  have hlk := Cx.2.2.2.2.2.2.1
  exact W.vret Cx.1 Cx.2.1 (Cx.2.2.1.trans hr) (fun t ht _ => ⟨none, σ, rfl, q, by rw [ht]; exact hR, fun y hy => by cases hy⟩) hlo d hlk
/-- an exception goes out of a method without handlers -/
theorem TT.out {x : Nat} (hn : (dY M).name ≠ "law") (hh : dH M = []) (q : Q (.inr x) σ) : TT E M pc l σ rc rs Q x := by
  intro p e s m args below meth c H locs cells slots ls st' q9 ce Cx K L hz hR hl hlo hc hs hce hcv hcl hx3
  rw [FQ_of hn]
  have htab : c.exceptionTable.toList = [] := by
    rw [Cx.2.2.2.2.2.2.2.2.1, hh]
    rfl
  exact vx_out (fun y hy => by rw [htab] at hy; cases hy) Cx.2.2.2.2.2.2.1 hce hcv hcl (fun t ht _ => ⟨x, σ, hx3, rfl, q, by rw [ht]; exact hR⟩) hlo (by omega) (by omega)
theorem jk_rel {H : Heap} {H' : Heap} (hR : Rel E σ H) (hz : H.size ≤ H'.size) (oq : ∀ q, q < H.size → H'[q]? = H[q]?) : Rel E (jk σ (H'.size - H.size)) H' := by
  have hz16 := hR.2.1
  refine hR.grow (by show H'.size + gz σ = H.size + (gz σ + (H'.size - H.size)); omega) (Nat.le_add_right _ _) oq (fun b hb => if_neg (by omega)) (fun _ _ _ => rfl) (fun _ _ _ => rfl) (fun b hb => ?_) (fun b hb => ?_) (fun b hb _ => ?_)
  · have hb' : gz σ + (H'.size - H.size) ≤ b := hb
    exact if_pos (by omega)
  · show (if gz σ ≤ b then ((0, 0) : Nat × Nat) else gS σ b).1 < 30
    rw [if_pos hb]
    show (0 : Nat) < 30
    omega
  · have e0 : gS (jk σ (H'.size - H.size)) b = (0, 0) := if_pos hb
    refine ⟨fun w => ?_, fun w => ?_⟩
    · rw [e0] at w; simp at w
    · rw [e0] at w; simp at w
/-- throw new E("text") -/
theorem r_throw {x ik is ic : Nat} {tx : String} {names : List String} (hn : (dY M).name ≠ "law") (hh : dH M = []) (hx3 : x < 3) (hown : (dY M).cls = "DoubleTurns")
    (d0 : decode (dB M) pc = .ok (.new ik, 3)) (d3 : decode (dB M) (pc + 3) = .ok (.dup, 1)) (d4 : decode (dB M) (pc + 4) = .ok (.ldc is, 2)) (d6 : decode (dB M) (pc + 6) = .ok (.invokespecial ic, 3)) (d9 : decode (dB M) (pc + 9) = .ok (.athrow, 1))
    (hcls : Bundle.fit (exN x) = true) (hnames : ∀ n ∈ names, Bundle.fit n = true) (hk : Cond.classLink "DoubleTurns" ik (exN x) ∈ lwW) (hini : Cond.initialized (exN x) ∈ lwW)
    (hstr : ("DoubleTurns", is, tx) ∈ ([("DoubleTurns", 364, "no such one"), ("DoubleTurns", 367, "another argument"), ("DoubleTurns", 168, "no turn"), ("DoubleTurns", 178, "there are four"), ("DoubleTurns", 188, "it does not close")] : List (String × Nat × String)))
    (hat : ∀ w ∈ vx_atS "DoubleTurns" ic (exN x) names, w ∈ lwW ∨ (w ∈ lw_tbl ∧ isCD w = true)) (hF : names.length + 3 < dF M) (hO : (st.map wt).sum + (13 * (names.length + 1) + 43) ≤ dO M) (hrc : 1 ≤ rc) (hrs : 6 ≤ rs)
    (q : ∀ d9, Q (.inr x) (jk σ d9)) : GG E M pc l st σ rc rs Q := by
  intro p e s m args below meth c H locs cells slots ls Cx K L hz hR hl hst hlo hc hs
  rw [FQ_of hn]
  have hts := Cx.2.2.2.2.2.1
  have htab : c.exceptionTable.toList = [] := by
    rw [Cx.2.2.2.2.2.2.2.2.1, hh]
    rfl
  obtain ⟨sa, hsa⟩ := K.2.2.2.2.2.2.2.2.1 _ hstr
  have hat9 : ∀ w ∈ vx_atS "DoubleTurns" ic (exN x) names, w.before args s = true := fun w hw => by
    rcases hat w hw with h | ⟨h1, h2⟩
    · exact hts w h
    · exact va_Nw.use (by cases w <;> first | rfl | (cases h2)) (K.2.2.2.2.2.2.2.2.2.2.1 w h1 h2)
  have hSs : va_S (fre E) s.heap H locs := ⟨hz, fun q h1 h2 => by rw [hR.1.2.2 q (Nat.not_le.mp h2), L.2.2 q (Nat.not_le.mp h2)], hlo⟩
  have hkeep : ∀ q : Nat, q < (eH E).size → ¬ fre E q → s.heap[q]? = (eH E)[q]? := fun q h1 h2 => L.2.2 q (Nat.not_le.mp h2)
  refine vx_throwS (l := eL E) (A := fre E) (text := tx) (names := names) (sa := sa) (own := "DoubleTurns") Cx.1 Cx.2.1 Cx.2.2.2.2.2.2.2.2.2 (by rw [← hown]; exact Cx.2.2.2.2.1) hcls hnames (hts _ hk) (hts _ hini) hsa hat9 (fun w hw => ?_) (K.2.2.2.2.2.1.kept hkeep) (K.2.2.2.2.2.2.1.kept hkeep) hSs (by rw [Cx.2.2.2.1]; exact hl.1)
    d0 d3 d4 d6 d9 (fun y hy => by rw [htab] at hy; cases hy) hF (by show _ ≤ dO M; rw [wt_sum]; exact hO) (by show cells + 1 ≤ dC M; omega) (by show slots + 6 ≤ dS M; omega) Cx.2.2.2.2.2.2.1 (fun t _ h1 h2 => ?_) hlo (by omega) (by omega)
  · unfold vx_ot
    rw [Bool.or_eq_true]
    rcases List.mem_cons.mp hw with e1 | hw
    · rw [e1]; exact Or.inl rfl
    rcases List.mem_cons.mp hw with e1 | hw
    · rw [e1]; exact Or.inl rfl
    rcases hat w hw with h | ⟨h1, h2⟩
    · exact Or.inr (List.mem_filter.mp h).2
    · exact Or.inl (by cases w <;> first | rfl | (cases h2))
  · exact ⟨x, _, hx3, rfl, q (t.heap.size - H.size), jk_rel hR h1 h2⟩
theorem r_throwW {x ik is ic : Nat} {tx : String} {names : List String} (hn : (dY M).name ≠ "law") (hh : dH M = []) (hx3 : x < 3) (hown : (dY M).cls = "DoubleTurns")
    (d0 : decode (dB M) pc = .ok (.new ik, 3)) (d3 : decode (dB M) (pc + 3) = .ok (.dup, 1)) (d4 : decode (dB M) (pc + 4) = .ok (.ldc_w is, 3)) (d7 : decode (dB M) (pc + 7) = .ok (.invokespecial ic, 3)) (d10 : decode (dB M) (pc + 10) = .ok (.athrow, 1))
    (hcls : Bundle.fit (exN x) = true) (hnames : ∀ n ∈ names, Bundle.fit n = true) (hk : Cond.classLink "DoubleTurns" ik (exN x) ∈ lwW) (hini : Cond.initialized (exN x) ∈ lwW)
    (hstr : ("DoubleTurns", is, tx) ∈ ([("DoubleTurns", 364, "no such one"), ("DoubleTurns", 367, "another argument"), ("DoubleTurns", 168, "no turn"), ("DoubleTurns", 178, "there are four"), ("DoubleTurns", 188, "it does not close")] : List (String × Nat × String)))
    (hat : ∀ w ∈ vx_atS "DoubleTurns" ic (exN x) names, w ∈ lwW ∨ (w ∈ lw_tbl ∧ isCD w = true)) (hF : names.length + 3 < dF M) (hO : (st.map wt).sum + (13 * (names.length + 1) + 43) ≤ dO M) (hrc : 1 ≤ rc) (hrs : 6 ≤ rs)
    (q : ∀ d9, Q (.inr x) (jk σ d9)) : GG E M pc l st σ rc rs Q := by
  intro p e s m args below meth c H locs cells slots ls Cx K L hz hR hl hst hlo hc hs
  rw [FQ_of hn]
  have hts := Cx.2.2.2.2.2.1
  have htab : c.exceptionTable.toList = [] := by
    rw [Cx.2.2.2.2.2.2.2.2.1, hh]
    rfl
  obtain ⟨sa, hsa⟩ := K.2.2.2.2.2.2.2.2.1 _ hstr
  have hat9 : ∀ w ∈ vx_atS "DoubleTurns" ic (exN x) names, w.before args s = true := fun w hw => by
    rcases hat w hw with h | ⟨h1, h2⟩
    · exact hts w h
    · exact va_Nw.use (by cases w <;> first | rfl | (cases h2)) (K.2.2.2.2.2.2.2.2.2.2.1 w h1 h2)
  have hSs : va_S (fre E) s.heap H locs := ⟨hz, fun q h1 h2 => by rw [hR.1.2.2 q (Nat.not_le.mp h2), L.2.2 q (Nat.not_le.mp h2)], hlo⟩
  have hkeep : ∀ q : Nat, q < (eH E).size → ¬ fre E q → s.heap[q]? = (eH E)[q]? := fun q h1 h2 => L.2.2 q (Nat.not_le.mp h2)
  refine vx_throwSW (l := eL E) (A := fre E) (text := tx) (names := names) (sa := sa) (own := "DoubleTurns") Cx.1 Cx.2.1 Cx.2.2.2.2.2.2.2.2.2 (by rw [← hown]; exact Cx.2.2.2.2.1) hcls hnames (hts _ hk) (hts _ hini) hsa hat9 (fun w hw => ?_) (K.2.2.2.2.2.1.kept hkeep) (K.2.2.2.2.2.2.1.kept hkeep) hSs (by rw [Cx.2.2.2.1]; exact hl.1)
    d0 d3 d4 d7 d10 (fun y hy => by rw [htab] at hy; cases hy) hF (by show _ ≤ dO M; rw [wt_sum]; exact hO) (by show cells + 1 ≤ dC M; omega) (by show slots + 6 ≤ dS M; omega) Cx.2.2.2.2.2.2.1 (fun t _ h1 h2 => ?_) hlo (by omega) (by omega)
  · unfold vx_ot
    rw [Bool.or_eq_true]
    rcases List.mem_cons.mp hw with e1 | hw
    · rw [e1]; exact Or.inl rfl
    rcases List.mem_cons.mp hw with e1 | hw
    · rw [e1]; exact Or.inl rfl
    rcases hat w hw with h | ⟨h1, h2⟩
    · exact Or.inr (List.mem_filter.mp h).2
    · exact Or.inl (by cases w <;> first | rfl | (cases h2))
  · exact ⟨x, _, hx3, rfl, q (t.heap.size - H.size), jk_rel hR h1 h2⟩
end R8
