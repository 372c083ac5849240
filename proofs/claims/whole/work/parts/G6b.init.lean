/-! ===== who doesn't commute has a standard pair: proof ===== -/
section SG6
variable {D : Int} {N : Nat} {m : Nat → Nat → Nat} {t : Nat → P2}
theorem TG.zzs (h : TG D N m t) {s : P2 × P2 × P2} {x y : Nat} (hx : x < N) (hy : y < N) (e1 : t x = s.1) (e2 : t y = s.2.1) (e3 : t (m x y) = s.2.2) : ∀ Z ∈ zz D s, ∃ u, u < N ∧ Z = TV m t x y u := by
  have hI := h.1
  have h0 : ∃ u, u < N ∧ ((4, 0), s.1, s.2.1, s.2.2) = TV m t x y u := ⟨0, hI.1, by
    show _ = (t 0, t (m 0 x), t (m 0 y), t (m 0 (m x y)))
    rw [h.2.1, (hI.2.2.1 x hx).1, (hI.2.2.1 y hy).1, (hI.2.2.1 _ (hI.2.1 _ _ hx hy)).1, e1, e2, e3]⟩
  have := h.zth hx hy h0 g15 [((4, 0), s.1, s.2.1, s.2.2)] (fun Z hZ => by
    rw [List.mem_singleton] at hZ
    rw [hZ]; exact h0)
  rw [e1, e2, e3] at this
  exact this
theorem TG.cnds (h : TG D N m t) {s c : P2 × P2 × P2} (hs : hasP N m t s) (hc : c ∈ cnd D s) : hasP N m t c := by
  obtain ⟨x, y, hx, hy, e1, e2, e3⟩ := hs
  unfold cnd at hc
  obtain ⟨Z, hZ, hc⟩ := List.mem_flatMap.mp hc
  obtain ⟨u, hu, e⟩ := h.zzs hx hy e1 e2 e3 Z hZ
  rw [e, ← e1, ← e2, ← e3] at hc
  exact h.shp hx hy hu hc
theorem TGd.bsc (h : TGd D N m t) {s : P2 × P2 × P2} (hs : hasP N m t s) (hb : bscI D s = true) : ∃ s' ∈ STDL D, hasP N m t s' := by
  unfold bscI at hb
  rw [Bool.or_eq_true, Bool.or_eq_true] at hb
  rcases hb with (hb | hb) | hb
  · exfalso
    obtain ⟨Z, hZ, hz⟩ := List.any_eq_true.mp hb
    obtain ⟨x, y, hx, hy, e1, e2, e3⟩ := hs
    obtain ⟨u, hu, e⟩ := h.1.zzs hx hy e1 e2 e3 Z hZ
    have hI := h.1.1
    have m1 : (TRL D).contains Z.1 = true := List.contains_iff_mem.mpr (by rw [e]; exact h.2 _ hu)
    have m2 : (TRL D).contains Z.2.1 = true := List.contains_iff_mem.mpr (by rw [e]; exact h.2 _ (hI.2.1 _ _ hu hx))
    have m3 : (TRL D).contains Z.2.2.1 = true := List.contains_iff_mem.mpr (by rw [e]; exact h.2 _ (hI.2.1 _ _ hu hy))
    have m4 : (TRL D).contains Z.2.2.2 = true := List.contains_iff_mem.mpr (by rw [e]; exact h.2 _ (hI.2.1 _ _ hu (hI.2.1 _ _ hx hy)))
    rw [m1, m2, m3, m4] at hz
    exact absurd hz (by decide)
  · exact ⟨s, List.contains_iff_mem.mp hb, hs⟩
  · obtain ⟨c, hc, hz⟩ := List.any_eq_true.mp hb
    exact ⟨c, List.contains_iff_mem.mp hz, h.1.cnds hs hc⟩
theorem TGd.ini (h : TGd D N m t) : ∀ (f : Nat) (s : P2 × P2 × P2), hasP N m t s → chkI D f s = true → ∃ s' ∈ STDL D, hasP N m t s' := by
  intro f
  induction f with
  | zero => intro s hs hc; exact h.bsc hs hc
  | succ f ih =>
    intro s hs hc
    unfold chkI at hc
    rw [Bool.or_eq_true] at hc
    rcases hc with hc | hc
    · exact h.bsc hs hc
    · obtain ⟨c, hcm, hz⟩ := List.any_eq_true.mp hc
      rw [Bool.and_eq_true] at hz
      exact ih c (h.1.cnds hs hcm) hz.2
theorem TGd.std (h : TGd D N m t) (hc : chkIA D = true) {x y : Nat} (hx : x < N) (hy : y < N) (hne : m x y ≠ m y x) : ∃ s ∈ STDL D, hasP N m t s := by
  have hI := h.1.1
  have xy := hI.2.1 _ _ hx hy
  have yx := hI.2.1 _ _ hy hx
  have q1 := List.all_eq_true.mp hc _ (h.2 x hx)
  have q2 := List.all_eq_true.mp q1 _ (h.2 y hy)
  have q3 := List.all_eq_true.mp q2 _ (h.2 _ xy)
  rw [Bool.or_eq_true, decide_eq_true_eq] at q3
  rcases q3 with q3 | q3
  · exfalso
    rw [← h.1.com hx hy] at q3
    have e := h.1.2.2.1 _ (hI.2.1 _ _ (iv_lt hI xy) yx) q3
    have e2 := iv_un hI (iv_lt hI xy) yx e
    rw [iv_iv hI xy] at e2
    exact hne e2.symm
  · exact h.ini 2 _ ⟨x, y, hx, hy, rfl, rfl, rfl⟩ q3
end SG6
