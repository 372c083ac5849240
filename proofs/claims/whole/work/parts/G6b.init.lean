/-! ===== who doesn't commute has a standard pair: proof ===== -/
section SG6
variable {D : Int} {N : Nat} {m : Nat → Nat → Nat} {t : Nat → P2}
theorem TG.wTs (h : TG D N m t) {s : P2 × P2 × P2} {x y : Nat} (hx : x < N) (hy : y < N) (e1 : t x = s.1) (e2 : t y = s.2.1) (e3 : t (m x y) = s.2.2) (w : List Bool) : wT D s w = TV m t x y (zw m x y 0 w) := by
  have hI := h.1
  rw [h.tw hx hy w 0 hI.1, e1, e2, e3]
  have e0 : TV m t x y 0 = ((4, 0), s.1, s.2.1, s.2.2) := by
    show (t 0, t (m 0 x), t (m 0 y), t (m 0 (m x y))) = _
    rw [h.2.1, (hI.2.2.1 x hx).1, (hI.2.2.1 y hy).1, (hI.2.2.1 _ (hI.2.1 _ _ hx hy)).1, e1, e2, e3]
  rw [e0]
  rfl
theorem TG.nxs (h : TG D N m t) {s : P2 × P2 × P2} (hs : hasP N m t s) (q : List Bool × Nat) : hasP N m t (nxI D s q) := by
  have hs' := hs
  obtain ⟨x, y, hx, hy, e1, e2, e3⟩ := hs
  unfold nxI
  rw [h.wTs hx hy e1 e2 e3 q.1]
  have hu := zw_lt h.1 hx hy q.1 0 h.1.1
  rw [List.getD_eq_getElem?_getD]
  by_cases hl : q.2 < (Jvm.Pilot.CDoubleTurnsLaw_law_r6322_0d289e.shp D s.1 s.2.1 s.2.2 (TV m t x y (zw m x y 0 q.1))).length
  · rw [List.getElem?_eq_getElem hl]
    refine h.shp hx hy hu ?_
    rw [e1, e2, e3]
    exact List.getElem_mem hl
  · rw [List.getElem?_eq_none (by omega)]
    exact hs'
theorem TGd.okc (h : TGd D N m t) : ∀ (L : List (List Bool × Nat)) (e : Option (List Bool)) (s : P2 × P2 × P2), hasP N m t s → okCe D L e s = true → ∃ s' ∈ STDL D, hasP N m t s' := by
  intro L
  induction L with
  | nil =>
    intro e s hs hc
    cases e with
    | none => exact ⟨s, List.contains_iff_mem.mp hc, hs⟩
    | some w =>
      exfalso
      obtain ⟨x, y, hx, hy, e1, e2, e3⟩ := hs
      have hI := h.1.1
      have hu := zw_lt hI hx hy w 0 hI.1
      have e : inT4 D (wT D s w) = true := by
        rw [h.1.wTs hx hy e1 e2 e3 w]
        unfold inT4
        rw [Bool.and_eq_true, Bool.and_eq_true, Bool.and_eq_true]
        exact ⟨⟨⟨List.contains_iff_mem.mpr (h.2 _ hu), List.contains_iff_mem.mpr (h.2 _ (hI.2.1 _ _ hu hx))⟩, List.contains_iff_mem.mpr (h.2 _ (hI.2.1 _ _ hu hy))⟩, List.contains_iff_mem.mpr (h.2 _ (hI.2.1 _ _ hu (hI.2.1 _ _ hx hy)))⟩
      have hc2 : (!inT4 D (wT D s w)) = true := hc
      rw [e] at hc2
      exact absurd hc2 (by decide)
  | cons q L ih =>
    intro e s hs hc
    exact ih e _ (h.1.nxs hs q) hc
theorem TGd.std (h : TGd D N m t) {C : List (List (List (List (List Bool × Nat) × Option (List Bool))))} (hc : chkIA D C = true) {x y : Nat} (hx : x < N) (hy : y < N) (hne : m x y ≠ m y x) : ∃ s ∈ STDL D, hasP N m t s := by
  have hI := h.1.1
  have xy := hI.2.1 _ _ hx hy
  have yx := hI.2.1 _ _ hy hx
  obtain ⟨i, hi, ei⟩ := mem_getD9 (d := ((0, 0) : P2)) (h.2 x hx)
  obtain ⟨j, hj, ej⟩ := mem_getD9 (d := ((0, 0) : P2)) (h.2 y hy)
  obtain ⟨k, hk, ek⟩ := mem_getD9 (d := ((0, 0) : P2)) (h.2 _ xy)
  have q1 := List.all_eq_true.mp hc _ (List.mem_range.mpr hi)
  have q2 := List.all_eq_true.mp q1 _ (List.mem_range.mpr hj)
  have q3 := List.all_eq_true.mp q2 _ (List.mem_range.mpr hk)
  rw [ei, ej, ek, Bool.or_eq_true, decide_eq_true_eq] at q3
  rcases q3 with q3 | q3
  · exfalso
    rw [← h.1.com hx hy] at q3
    have e := h.1.2.2.1 _ (hI.2.1 _ _ (iv_lt hI xy) yx) q3
    have e2 := iv_un hI (iv_lt hI xy) yx e
    rw [iv_iv hI xy] at e2
    exact hne e2.symm
  · exact h.okc _ _ _ ⟨x, y, hx, hy, rfl, rfl, rfl⟩ q3
end SG6
