/-! ===== which traces there are; a pair that makes all ===== -/
def TRL (D : Int) : List P2 := if D = 2 then [(4, 0), (-4, 0), (2, 0), (-2, 0), (0, 0), (0, 2), (0, -2)] else if D = 3 then [(4, 0), (-4, 0), (2, 0), (-2, 0), (0, 0), (0, 2), (0, -2)] else [(4, 0), (-4, 0), (2, 0), (-2, 0), (0, 0), (1, 1), (1, -1), (-1, 1), (-1, -1)]
theorem TRL_chk : (List.range 9).all (fun i => (List.range 9).all (fun j => ([2, 3, 5] : List Int).all (fun D => match trO D ((i : Int) - 4) ((j : Int) - 4) with
    | none => true
    | some k => k == 0 || (TRL D).contains (((i : Int) - 4), ((j : Int) - 4))))) = true := by decide +kernel
def TGd (D : Int) (N : Nat) (m : Nat → Nat → Nat) (t : Nat → P2) : Prop := TG D N m t ∧ ∀ k, k < N → t k ∈ TRL D
theorem Clo.tgd {D : Int} {told els : List (List Int)} (hC : Clo D told els) (hD : D = 2 ∨ D = 3 ∨ D = 5) : TGd D els.length (gmt D els) (tra els) := by
  refine ⟨hC.tg (by omega), fun k hk => ?_⟩
  have bd := (hC.2.2.2.2.1 k hk).2.bd (show 1 ≤ D by omega)
  have o := (od_s hC.isG hk).1
  have e := hC.od_tr hD hk
  have ha := bd 0 (by omega)
  have hb := bd 1 (by omega)
  have h1 := List.all_eq_true.mp TRL_chk (gd (els.getD k []) 0 + 4).toNat (List.mem_range.mpr (by omega))
  have h2 := List.all_eq_true.mp h1 (gd (els.getD k []) 1 + 4).toNat (List.mem_range.mpr (by omega))
  have h3 := List.all_eq_true.mp h2 D (by rcases hD with rfl | rfl | rfl <;> simp)
  rw [show (((gd (els.getD k []) 0 + 4).toNat : Nat) : Int) - 4 = gd (els.getD k []) 0 by omega, show (((gd (els.getD k []) 1 + 4).toNat : Nat) : Int) - 4 = gd (els.getD k []) 1 by omega, e] at h3
  have h4 : (od els.length (gmt D els) k == 0 || (TRL D).contains (gd (els.getD k []) 0, gd (els.getD k []) 1)) = true := h3
  rw [Bool.or_eq_true, beq_iff_eq] at h4
  rcases h4 with h4 | h4
  · omega
  · exact List.contains_iff_mem.mp h4
/-- there is a pair with these traces -/
def hasP (N : Nat) (m : Nat → Nat → Nat) (t : Nat → P2) (s : P2 × P2 × P2) : Prop := ∃ u v, u < N ∧ v < N ∧ t u = s.1 ∧ t v = s.2.1 ∧ t (m u v) = s.2.2
def okRB (D : Int) (t1 t2 t3 : P2) (T : P8) : Bool := decide (tp D T.2.2.2 (stY D t1 t2 t3 T).2.1 = ad2 (sb (tp D T.2.1 (stY D t1 t2 t3 T).2.2.2) (sb (tp D (sb (tp D T.1 t2) T.2.2.1) T.2.2.1) (sb (tp D T.1 T.1) (4, 0)))) (cmX D t1 t2 t3))
theorem okRB_of {D : Int} {t1 t2 t3 : P2} {T : P8} (h : okR D t1 t2 t3 T) : okRB D t1 t2 t3 T = true := decide_eq_true h
/-- pairs out of a word's traces -/
def shp (D : Int) (t1 t2 t3 : P2) (Z : P8) : List (P2 × P2 × P2) := [(Z.1, t1, Z.2.1), (t1, Z.1, Z.2.1), (Z.1, t2, Z.2.2.1), (t2, Z.1, Z.2.2.1), (Z.1, t3, Z.2.2.2), (t3, Z.1, Z.2.2.2), (Z.1, aX D t1 Z, t1)]
def zths (D : Int) (t1 t2 t3 : P2) (G : List (Nat × Bool)) (T : P8) : List P8 := G.foldl (fun L q => L ++ [stp D t1 t2 t3 q.2 (L.getD q.1 T)]) [T]
def chkMax (D : Int) (t1 t2 t3 : P2) (G : List (Nat × Bool)) (lg : List (P2 × P2 × P2)) : Bool :=
  (TRL D).all fun a => (TRL D).all fun b => (TRL D).all fun c => (TRL D).all fun d => !okRB D t1 t2 t3 (a, b, c, d) || (ths D t1 t2 t3 G).contains (a, b, c, d) || (zths D t1 t2 t3 G (a, b, c, d)).any (fun Z => (shp D t1 t2 t3 Z).any (fun s => lg.contains s))
section SG4
variable {D : Int} {N : Nat} {m : Nat → Nat → Nat} {t : Nat → P2}
theorem TG.shp (h : TG D N m t) {x y u : Nat} (hx : x < N) (hy : y < N) (hu : u < N) {s : P2 × P2 × P2} (hs : s ∈ shp D (t x) (t y) (t (m x y)) (TV m t x y u)) : hasP N m t s := by
  have hI := h.1
  have xy := hI.2.1 _ _ hx hy
  have iu := iv_lt hI hu
  have ix := iv_lt hI hx
  unfold Jvm.Pilot.CDoubleTurnsLaw_law_r6322_0d289e.shp TV at hs
  simp only [List.mem_cons, List.not_mem_nil, or_false] at hs
  rcases hs with rfl | rfl | rfl | rfl | rfl | rfl | rfl
  · exact ⟨u, x, hu, hx, rfl, rfl, rfl⟩
  · exact ⟨x, u, hx, hu, rfl, rfl, h.cm hx hu⟩
  · exact ⟨u, y, hu, hy, rfl, rfl, rfl⟩
  · exact ⟨y, u, hy, hu, rfl, rfl, h.cm hy hu⟩
  · exact ⟨u, m x y, hu, xy, rfl, rfl, rfl⟩
  · exact ⟨m x y, u, xy, hu, rfl, rfl, h.cm xy hu⟩
  · refine ⟨u, m x (iv N m u), hu, hI.2.1 _ _ hx iu, rfl, ?_, ?_⟩
    · have : t (m x (iv N m u)) = t (m u (iv N m x)) := by rw [← h.ivt (hI.2.1 _ _ hx iu), iv_mul hI hx iu, iv_iv hI hu]
      rw [this]
      exact h.ax (y := y) hx hu
    · rw [h.cm hu (hI.2.1 _ _ hx iu), hI.2.2.2.1 _ _ _ hx iu hu, iv_l hI hu, (hI.2.2.1 x hx).2]
theorem TG.zth (h : TG D N m t) {x y : Nat} (hx : x < N) (hy : y < N) {T : P8} (hT : ∃ u, u < N ∧ T = TV m t x y u) : ∀ (G : List (Nat × Bool)) (L : List P8), (∀ Z ∈ L, ∃ u, u < N ∧ Z = TV m t x y u) → ∀ Z ∈ G.foldl (fun L q => L ++ [stp D (t x) (t y) (t (m x y)) q.2 (L.getD q.1 T)]) L, ∃ u, u < N ∧ Z = TV m t x y u := by
  intro G
  induction G with
  | nil => intro L hL; exact hL
  | cons q G ih =>
    intro L hL
    refine ih _ (fun Z hZ => ?_)
    rw [List.mem_append] at hZ
    rcases hZ with hZ | hZ
    · exact hL Z hZ
    · rw [List.mem_singleton] at hZ
      have hq : ∃ u, u < N ∧ L.getD q.1 T = TV m t x y u := by
        by_cases hl : q.1 < L.length
        · refine hL _ ?_
          rw [List.getD_eq_getElem?_getD, List.getElem?_eq_getElem hl]
          exact List.getElem_mem hl
        · rw [List.getD_eq_getElem?_getD, List.getElem?_eq_none (by omega)]
          exact hT
      obtain ⟨u, hu, e⟩ := hq
      rw [hZ, e]
      cases q.2
      · exact ⟨m u x, h.1.2.1 _ _ hu hx, (h.tx hx hy hu).symm⟩
      · exact ⟨m u y, h.1.2.1 _ _ hu hy, (h.ty hx hy hu).symm⟩
theorem TGd.max (h : TGd D N m t) {x y : Nat} (hx : x < N) (hy : y < N) {t1 t2 t3 : P2} (e1 : t x = t1) (e2 : t y = t2) (e3 : t (m x y) = t3) {G : List (Nat × Bool)} {lg : List (P2 × P2 × P2)} (hc : chkMax D t1 t2 t3 G lg = true) (hl : ∀ s ∈ lg, ¬ hasP N m t s) : ∀ z, z < N → TV m t x y z ∈ ths D t1 t2 t3 G := by
  subst e1 e2 e3
  intro z hz
  have hI := h.1.1
  have xy := hI.2.1 _ _ hx hy
  have q1 := List.all_eq_true.mp hc _ (h.2 z hz)
  have q2 := List.all_eq_true.mp q1 _ (h.2 _ (hI.2.1 _ _ hz hx))
  have q3 := List.all_eq_true.mp q2 _ (h.2 _ (hI.2.1 _ _ hz hy))
  have q4 := List.all_eq_true.mp q3 _ (h.2 _ (hI.2.1 _ _ hz xy))
  have e : (t z, t (m z x), t (m z y), t (m z (m x y))) = TV m t x y z := rfl
  rw [e, Bool.or_eq_true, Bool.or_eq_true, okRB_of (h.1.nrm hx hy hz)] at q4
  rcases q4 with (q4 | q4) | q4
  · exact absurd q4 (by decide)
  · exact List.contains_iff_mem.mp q4
  · obtain ⟨Z, hZ, q5⟩ := List.any_eq_true.mp q4
    obtain ⟨s, hs, q6⟩ := List.any_eq_true.mp q5
    obtain ⟨u, hu, eZ⟩ := h.1.zth hx hy ⟨z, hz, rfl⟩ G _ (fun Z hZ => by
      rw [List.mem_singleton] at hZ
      exact ⟨z, hz, hZ⟩) Z hZ
    rw [eZ] at hs
    exact absurd (h.1.shp hx hy hu hs) (hl s (List.contains_iff_mem.mp q6))
end SG4
