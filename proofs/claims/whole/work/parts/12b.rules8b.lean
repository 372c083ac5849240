section R8b
variable {E : Ev} {M : MD} {pc : Nat} {l : List (Option NV)} {st : List NV} {σ : Sg} {rc rs : Nat} {Q : NO → Sg → Prop}
theorem r_throwY {ik is ic ix : Nat} {tx y1 : String} {names : List String} {rx : ByteArray} (z0 : decode rx 0 = .ok (.aload_n 0, 1)) (z1 : decode rx 1 = .ok (.aload_n 1, 1)) (z2 : decode rx 2 = .ok (.invokespecial ix, 3)) (z5 : decode rx 5 = .ok (.return_, 1)) (hy1 : Bundle.fit y1 = true) (hn : (dY M).name ≠ "law") (hh : dH M = []) (hown : (dY M).cls = "DoubleTurns")
    (d0 : decode (dB M) pc = .ok (.new ik, 3)) (d3 : decode (dB M) (pc + 3) = .ok (.dup, 1)) (d4 : decode (dB M) (pc + 4) = .ok (.ldc_w is, 3)) (d7 : decode (dB M) (pc + 7) = .ok (.invokespecial ic, 3)) (d10 : decode (dB M) (pc + 10) = .ok (.athrow, 1))
    (hcls : Bundle.fit (exN 0) = true) (hnames : ∀ n ∈ names, Bundle.fit n = true) (hk : Cond.classLink "DoubleTurns" ik (exN 0) ∈ lwW) (hini : Cond.initialized (exN 0) ∈ lwW)
    (hstr : ("DoubleTurns", is, tx) ∈ ([("DoubleTurns", 364, "no such one"), ("DoubleTurns", 367, "another argument"), ("DoubleTurns", 168, "no turn"), ("DoubleTurns", 178, "there are four"), ("DoubleTurns", 188, "it does not close")] : List (String × Nat × String)))
    (hat : ∀ w ∈ (vy_own "DoubleTurns" ic (exN 0) ix rx y1 names).filter vx_no, w ∈ lwW ∨ (w ∈ lw_tbl ∧ isCD w = true)) (hF : names.length + 4 < dF M) (hO : (st.map wt).sum + (13 * (names.length + 2) + 43) ≤ dO M) (hrc : 1 ≤ rc) (hrs : 6 ≤ rs)
    (q : ∀ d9, Q (.inr 0) (jk σ d9)) : GG E M pc l st σ rc rs Q := by
  intro p e s m args below meth c H locs cells slots ls Cx K L hz hR hl hst hlo hc hs
  rw [FQ_of hn]
  have hts := Cx.2.2.2.2.2.1
  have htab : c.exceptionTable.toList = [] := by
    rw [Cx.2.2.2.2.2.2.2.2.1, hh]
    rfl
  obtain ⟨sa, hsa⟩ := K.2.2.2.2.2.2.2.2.1 _ hstr
  have hat9 : ∀ w ∈ (vy_own "DoubleTurns" ic (exN 0) ix rx y1 names).filter vx_no, w.before args s = true := fun w hw => by
    rcases hat w hw with h | ⟨h1, h2⟩
    · exact hts w h
    · exact va_Nw.use (by cases w <;> first | rfl | (cases h2)) (K.2.2.2.2.2.2.2.2.2.2.1 w h1 h2)
  have hSs : va_S (fre E) s.heap H locs := ⟨hz, fun q h1 h2 => by rw [hR.1.2.2 q (Nat.not_le.mp h2), L.2.2 q (Nat.not_le.mp h2)], hlo⟩
  have hkeep : ∀ q : Nat, q < (eH E).size → ¬ fre E q → s.heap[q]? = (eH E)[q]? := fun q h1 h2 => L.2.2 q (Nat.not_le.mp h2)
  refine vy_throwSW (l := eL E) (A := fre E) (text := tx) (names := names) (sa := sa) (own := "DoubleTurns") Cx.1 Cx.2.1 Cx.2.2.2.2.2.2.2.2.2 z0 z1 z2 z5 (by rw [← hown]; exact Cx.2.2.2.2.1) hcls hy1 hnames (hts _ hk) (hts _ hini) hsa hat9 (fun w hw => ?_) (K.2.2.2.2.2.1.kept hkeep) (K.2.2.2.2.2.2.1.kept hkeep) hSs (by rw [Cx.2.2.2.1]; exact hl.1)
    d0 d3 d4 d7 d10 (fun y hy => by rw [htab] at hy; cases hy) hF (by show _ ≤ dO M; rw [wt_sum]; exact hO) (by show cells + 1 ≤ dC M; omega) (by show slots + 6 ≤ dS M; omega) Cx.2.2.2.2.2.2.1 (fun t _ h1 h2 => ?_) hlo (by omega) (by omega)
  · unfold vx_ot
    rw [Bool.or_eq_true]
    rcases List.mem_cons.mp hw with e1 | hw
    · rw [e1]; exact Or.inl rfl
    rcases List.mem_cons.mp hw with e1 | hw
    · rw [e1]; exact Or.inl rfl
    rcases hat w hw with h | ⟨h1, h2⟩
    · exact Or.inr (List.mem_filter.mp h).2
    · exact Or.inl (by cases w <;> first | rfl | (cases h2))
  · exact ⟨0, _, by decide, rfl, q (t.heap.size - H.size), jk_rel hR h1 h2⟩
end R8b
