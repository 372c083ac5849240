/-! ===== a group that is, by its traces, the one of a list ===== -/
abbrev d8 : P8 := ((0, 0), (0, 0), (0, 0), (0, 0))
def ISO (N : Nat) (m : Nat → Nat → Nat) (t : Nat → P2) (n : Nat) (T : Nat → Nat → Nat) (tt : Nat → P2) : Prop :=
  ∃ φ : Nat → Nat, N = n ∧ φ 0 = 0 ∧ (∀ k, k < n → φ k < N) ∧ (∀ k l, k < n → l < n → φ k = φ l → k = l) ∧ (∀ k l, k < n → l < n → T k l < n ∧ m (φ k) (φ l) = φ (T k l)) ∧ ∀ k, k < n → t (φ k) = tt k
/-- a row of the table: k times each -/
def rowG (S : List (Nat × Nat)) (G : List (Nat × Bool)) (k : Nat) : List Nat := G.foldl (fun R q => R ++ [if q.2 then (S.getD (R.getD q.1 0) (0, 0)).2 else (S.getD (R.getD q.1 0) (0, 0)).1]) [k]
def tabG (S : List (Nat × Nat)) (G : List (Nat × Bool)) (k l : Nat) : Nat := (rowG S G k).getD l 0
def gokB : Nat → List (Nat × Bool) → Bool
  | _, [] => true
  | n, q :: G => decide (q.1 < n) && gokB (n + 1) G
theorem gok_of : ∀ (G : List (Nat × Bool)) (n : Nat), gokB n G = true → gok n G := by
  intro G
  induction G with
  | nil => intro n _; trivial
  | cons q G ih =>
    intro n h
    unfold gokB at h
    rw [Bool.and_eq_true, decide_eq_true_eq] at h
    exact ⟨h.1, ih _ h.2⟩
def stdOK (D : Int) (t1 t2 t3 : P2) (G : List (Nat × Bool)) (S : List (Nat × Nat)) : Bool :=
  gokB 1 G && decide (S.length = G.length + 1) && decide ((ths D t1 t2 t3 G).Nodup) &&
  (List.range (G.length + 1)).all (fun k => decide ((S.getD k (0, 0)).1 < G.length + 1) && decide ((S.getD k (0, 0)).2 < G.length + 1) && decide (stX D t1 ((ths D t1 t2 t3 G).getD k d8) = (ths D t1 t2 t3 G).getD (S.getD k (0, 0)).1 d8) && decide (stY D t1 t2 t3 ((ths D t1 t2 t3 G).getD k d8) = (ths D t1 t2 t3 G).getD (S.getD k (0, 0)).2 d8))
theorem nodup_getD {α : Type} [BEq α] [LawfulBEq α] {d : α} {L : List α} (h : L.Nodup) {k l : Nat} (hk : k < L.length) (hl : l < L.length) (e : L.getD k d = L.getD l d) : k = l := by
  rw [List.getD_eq_getElem?_getD, List.getD_eq_getElem?_getD, List.getElem?_eq_getElem hk, List.getElem?_eq_getElem hl] at e
  have e2 : L[k] = L[l] := e
  have a := List.Nodup.idxOf_getElem h k hk
  have b := List.Nodup.idxOf_getElem h l hl
  rw [e2] at a
  omega
theorem fold_hd {α β : Type} {d : α} (f : List α → β → α) : ∀ (G : List β) (K : List α), 0 < K.length → (G.foldl (fun L q => L ++ [f L q]) K).getD 0 d = K.getD 0 d := by
  intro G
  induction G with
  | nil => intro K _; rfl
  | cons q G ih =>
    intro K hK
    show (G.foldl (fun L q => L ++ [f L q]) (K ++ [f K q])).getD 0 d = _
    rw [ih _ (by rw [List.length_append]; omega), getD_lt9 hK]
theorem mem_getD9 {α : Type} {d : α} {L : List α} {v : α} (h : v ∈ L) : ∃ k, k < L.length ∧ L.getD k d = v := by
  obtain ⟨k, hk, e⟩ := List.mem_iff_getElem.mp h
  exact ⟨k, hk, by rw [List.getD_eq_getElem?_getD, List.getElem?_eq_getElem hk]; exact e⟩
section SG3
variable {D : Int} {N : Nat} {m : Nat → Nat → Nat} {t : Nat → P2}
theorem row_phs (hI : IsG N m) {x y n : Nat} (hx : x < N) (hy : y < N) {S : List (Nat × Nat)} {f : Nat → Nat} (hS : ∀ k, k < n → (S.getD k (0, 0)).1 < n ∧ (S.getD k (0, 0)).2 < n ∧ m (f k) x = f (S.getD k (0, 0)).1 ∧ m (f k) y = f (S.getD k (0, 0)).2) {z : Nat} (hz : z < N) : ∀ (G : List (Nat × Bool)) (K R : List Nat), gok K.length G → K.length = R.length →
    (∀ j, j < K.length → K.getD j 0 < N ∧ R.getD j 0 < n ∧ m z (K.getD j 0) = f (R.getD j 0)) →
    let K' := G.foldl (fun L q => L ++ [m (L.getD q.1 0) (if q.2 then y else x)]) K
    let R' := G.foldl (fun R q => R ++ [if q.2 then (S.getD (R.getD q.1 0) (0, 0)).2 else (S.getD (R.getD q.1 0) (0, 0)).1]) R
    ∀ j, j < K'.length → R'.getD j 0 < n ∧ m z (K'.getD j 0) = f (R'.getD j 0) := by
  intro G
  induction G with
  | nil => intro K R _ hl hv; exact fun j hj => (hv j hj).2
  | cons q G ih =>
    intro K R hg hl hv
    obtain ⟨g1, g2⟩ := hg
    refine ih (K ++ [m (K.getD q.1 0) (if q.2 then y else x)]) (R ++ [if q.2 then (S.getD (R.getD q.1 0) (0, 0)).2 else (S.getD (R.getD q.1 0) (0, 0)).1]) (by rw [List.length_append]; exact g2) (by rw [List.length_append, List.length_append, hl]; rfl) (fun j hj => ?_)
    rw [List.length_append] at hj
    have hj2 : j < K.length + 1 := hj
    by_cases hlt : j < K.length
    · rw [getD_lt9 hlt, getD_lt9 (by omega)]
      exact hv j hlt
    · have : j = K.length := by omega
      subst this
      rw [getD_end9]
      have e9 : (R ++ [if q.2 then (S.getD (R.getD q.1 0) (0, 0)).2 else (S.getD (R.getD q.1 0) (0, 0)).1]).getD K.length 0 = if q.2 then (S.getD (R.getD q.1 0) (0, 0)).2 else (S.getD (R.getD q.1 0) (0, 0)).1 := by rw [hl, getD_end9]
      rw [e9]
      obtain ⟨h1, h2, h3⟩ := hv q.1 g1
      obtain ⟨s1, s2, s3, s4⟩ := hS _ h2
      cases q.2
      · refine ⟨hI.2.1 _ _ h1 hx, s1, ?_⟩
        show m z (m (K.getD q.1 0) x) = _
        rw [← hI.2.2.2.1 _ _ _ hz h1 hx, h3]
        exact s3
      · refine ⟨hI.2.1 _ _ h1 hy, s2, ?_⟩
        show m z (m (K.getD q.1 0) y) = _
        rw [← hI.2.2.2.1 _ _ _ hz h1 hy, h3]
        exact s4
theorem TG.iso (h : TG D N m t) {x y : Nat} (hx : x < N) (hy : y < N) {t1 t2 t3 : P2} (e1 : t x = t1) (e2 : t y = t2) (e3 : t (m x y) = t3) {G : List (Nat × Bool)} {S : List (Nat × Nat)} (hO : stdOK D t1 t2 t3 G S = true) (hz : ∀ z, z < N → TV m t x y z ∈ ths D t1 t2 t3 G) :
    ISO N m t (G.length + 1) (tabG S G) (fun k => ((ths D t1 t2 t3 G).getD k d8).1) := by
  subst e1 e2 e3
  have hI := h.1
  unfold stdOK at hO
  rw [Bool.and_eq_true, Bool.and_eq_true, Bool.and_eq_true, decide_eq_true_eq, decide_eq_true_eq] at hO
  obtain ⟨⟨⟨o1, o2⟩, o3⟩, o4⟩ := hO
  have g1 := gok_of G 1 o1
  have hw := ths_phs h hx hy G [((4, 0), t x, t y, t (m x y))] [0] g1 rfl (fun k hk => by
    have : k = 0 := by simp at hk; omega
    subst this
    refine ⟨⟨[], rfl⟩, ?_⟩
    show (t 0, t (m 0 x), t (m 0 y), t (m 0 (m x y))) = ((4, 0), t x, t y, t (m x y))
    rw [h.2.1, (hI.2.2.1 x hx).1, (hI.2.2.1 y hy).1, (hI.2.2.1 _ (hI.2.1 _ _ hx hy)).1])
  obtain ⟨w1, w2, w3⟩ := hw
  have lL : (ths D (t x) (t y) (t (m x y)) G).length = G.length + 1 := by
    refine Eq.trans w1 ?_
    show 1 + G.length = _
    omega
  have lK : (phs m x y G).length = G.length + 1 := (Eq.symm w2).trans lL
  have w3' : ∀ k, k < G.length + 1 → (∃ w, (phs m x y G).getD k 0 = zw m x y 0 w) ∧ TV m t x y ((phs m x y G).getD k 0) = (ths D (t x) (t y) (t (m x y)) G).getD k d8 := fun k hk => w3 k (by rw [← lK] at hk; exact hk)
  generalize hL : ths D (t x) (t y) (t (m x y)) G = L at *
  have hlt : ∀ k, k < G.length + 1 → (phs m x y G).getD k 0 < N := fun k hk => by
    obtain ⟨⟨w, ew⟩, _⟩ := w3' k hk
    rw [ew]; exact zw_lt hI hx hy w 0 hI.1
  have inj : ∀ k l, k < G.length + 1 → l < G.length + 1 → (phs m x y G).getD k 0 = (phs m x y G).getD l 0 → k = l := fun k l hk hl e => by
    refine nodup_getD o3 (by omega) (by omega) (d := d8) ?_
    rw [← (w3' k hk).2, ← (w3' l hl).2, e]
  have uniq : ∀ z k, z < N → k < G.length + 1 → TV m t x y z = L.getD k d8 → z = (phs m x y G).getD k 0 := fun z k hz9 hk e => by
    obtain ⟨⟨w, ew⟩, e2⟩ := w3' k hk
    rw [ew]
    refine h.inj hx hy hz9 w ?_
    rw [e, ← e2, ew]
  have sur : ∀ z, z < N → ∃ k, k < G.length + 1 ∧ z = (phs m x y G).getD k 0 := fun z hz9 => by
    obtain ⟨k, hk, e⟩ := mem_getD9 (d := d8) (hz z hz9)
    exact ⟨k, by omega, uniq z k hz9 (by omega) e.symm⟩
  have hN : N = G.length + 1 := by
    apply Nat.le_antisymm
    · refine inj_le (s := fun z => theN (fun k => k < G.length + 1 ∧ z = (phs m x y G).getD k 0)) (fun z hz9 => (theN_of (sur z hz9)).1) (fun z z2 h1 h2 e => ?_)
      have a := (theN_of (sur z h1)).2
      have b := (theN_of (sur z2 h2)).2
      rw [a, b]
      exact congrArg (fun k => (phs m x y G).getD k 0) e
    · exact inj_le (s := fun k => (phs m x y G).getD k 0) hlt inj
  have hS : ∀ k, k < G.length + 1 → (S.getD k (0, 0)).1 < G.length + 1 ∧ (S.getD k (0, 0)).2 < G.length + 1 ∧ m ((phs m x y G).getD k 0) x = (phs m x y G).getD (S.getD k (0, 0)).1 0 ∧ m ((phs m x y G).getD k 0) y = (phs m x y G).getD (S.getD k (0, 0)).2 0 := fun k hk => by
    have q := List.all_eq_true.mp o4 k (List.mem_range.mpr hk)
    rw [Bool.and_eq_true, Bool.and_eq_true, Bool.and_eq_true, decide_eq_true_eq, decide_eq_true_eq, decide_eq_true_eq, decide_eq_true_eq] at q
    obtain ⟨⟨⟨q1, q2⟩, q3⟩, q4⟩ := q
    refine ⟨q1, q2, uniq _ _ (hI.2.1 _ _ (hlt k hk) hx) q1 ?_, uniq _ _ (hI.2.1 _ _ (hlt k hk) hy) q2 ?_⟩
    · rw [h.tx hx hy (hlt k hk), (w3' k hk).2]; exact q3
    · rw [h.ty hx hy (hlt k hk), (w3' k hk).2]; exact q4
  refine ⟨fun k => (phs m x y G).getD k 0, hN, ?_, hlt, inj, fun k l hk hl => ?_, fun k hk => ?_⟩
  · exact fold_hd (d := 0) (fun L q => m (L.getD q.1 0) (if q.2 then y else x)) G [0] (by decide)
  · have r := row_phs hI hx hy (f := fun k => (phs m x y G).getD k 0) hS (hlt k hk) G [0] [k] g1 rfl (fun j hj => by
      have : j = 0 := by simp at hj; omega
      subst this
      exact ⟨hI.1, hk, (hI.2.2.1 _ (hlt k hk)).2⟩)
    exact r l (by show l < (phs m x y G).length; omega)
  · exact congrArg Prod.fst (w3' k hk).2
end SG3
