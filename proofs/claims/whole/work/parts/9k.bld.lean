/-! ===== constructors: the layout grows ===== -/
def vlW (ws : List (Nat × Nat × Int)) (a j : Nat) : Int := match ws with
  | [] => 0
  | w :: r => if a = w.1 ∧ j = w.2.1 then w.2.2 else vlW r a j
theorem vlW_0 : ∀ (ws : List (Nat × Nat × Int)) (a j : Nat), (∀ w ∈ ws, w.1 ≠ a) → vlW ws a j = 0 := by
  intro ws a j
  induction ws with
  | nil => intro _; rfl
  | cons w r ih =>
    intro h
    show (if a = w.1 ∧ j = w.2.1 then w.2.2 else vlW r a j) = 0
    rw [if_neg (fun h9 => h w List.mem_cons_self h9.1.symm)]
    exact ih (fun x hx => h x (List.mem_cons_of_mem _ hx))
theorem vlW_1 (ws : List (Nat × Nat × Int)) (a j : Nat) (h : ∀ w ∈ ws, w.1 < 70 ∨ (82 ≤ w.1 ∧ w.1 < 109) ∨ 121 ≤ w.1) (ha : (70 ≤ a ∧ a < 82) ∨ (109 ≤ a ∧ a < 121)) : vlW ws a j = 0 := vlW_0 ws a j (fun w hw => by have := h w hw; omega)
/-- all cells of Y below k stand -/
def BLD (Y : LY) (k : Nat) (fs : List (Nat × Nat × Nat)) (ws : List (Nat × Nat × Int)) (g σ : Sg) : Prop :=
  gz σ = k ∧ (∀ q ∈ yR Y, ∀ a, q.1 ≤ a → a < q.2.1 → a < k → gS σ a = q.2.2) ∧ (∀ z ∈ fs, gR σ z.1 z.2.1 = z.2.2) ∧
  (∀ q ∈ yX Y, q.1 < k → ∀ j, j < q.2.1 → gR σ q.1 j = q.2.2 + j) ∧ (∀ q ∈ yS Y, q.1 < k → ∀ j, j < q.2.1 → gR σ q.1 j = q.2.2.1 + j) ∧
  (∀ a j, yl Y ≤ a → a < k → gI σ a j = vlW ws a j) ∧ yl Y ≤ k ∧ gz g = yl Y ∧ (∀ a, a < yl Y → gS σ a = gS g a ∧ ∀ j, gI σ a j = gI g a j ∧ gR σ a j = gR g a j)
section S9k
variable {Y : LY} {k : Nat} {fs : List (Nat × Nat × Nat)} {ws : List (Nat × Nat × Int)} {g σ τ : Sg}
theorem BLD.new {c : Nat × Nat} (h : BLD Y k fs ws g σ) (h1 : ∀ q ∈ yR Y, q.1 ≤ k → k < q.2.1 → q.2.2 = c) (h2 : ∀ z ∈ fs, z.1 < k) (h3 : (∀ q ∈ yX Y, q.1 ≠ k) ∧ ∀ q ∈ yS Y, q.1 ≠ k) (h4 : ∀ w ∈ ws, w.1 < k) : BLD Y (k + 1) fs ws g (nw σ c) := by
  obtain ⟨a1, a2, a3, a4, a5, a6, a7, a8, a9⟩ := h
  have eS : ∀ a, a ≠ k → gS (nw σ c) a = gS σ a := fun a ha => if_neg (by rw [a1]; exact ha)
  have eI : ∀ a j, a ≠ k → gI (nw σ c) a j = gI σ a j := fun a j ha => if_neg (by rw [a1]; exact ha)
  have eR : ∀ a j, a ≠ k → gR (nw σ c) a j = gR σ a j := fun a j ha => if_neg (by rw [a1]; exact ha)
  have v0 : ∀ (ws : List (Nat × Nat × Int)) j, (∀ w ∈ ws, w.1 < k) → vlW ws k j = 0 := by
    intro ws j
    induction ws with
    | nil => intro _; rfl
    | cons w r ih =>
      intro hw
      have := hw w List.mem_cons_self
      show (if k = w.1 ∧ j = w.2.1 then w.2.2 else vlW r k j) = 0
      rw [if_neg (by omega)]
      exact ih (fun x hx => hw x (List.mem_cons_of_mem _ hx))
  refine ⟨by show gz σ + 1 = _; rw [a1], fun q hq a b1 b2 b3 => ?_, fun z hz => ?_, fun q hq b1 j hj => ?_, fun q hq b1 j hj => ?_, fun a j b1 b2 => ?_, by omega, a8, fun a ha => ?_⟩
  · by_cases hak : a = k
    · subst hak
      have : gS (nw σ c) a = c := if_pos a1.symm
      rw [this]; exact (h1 q hq b1 b2).symm
    · rw [eS a hak]; exact a2 q hq a b1 b2 (by omega)
  · have := h2 z hz
    rw [eR _ _ (by omega)]; exact a3 z hz
  · have := h3.1 q hq
    rw [eR _ _ this]; exact a4 q hq (by omega) j hj
  · have := h3.2 q hq
    rw [eR _ _ this]; exact a5 q hq (by omega) j hj
  · by_cases hak : a = k
    · subst hak
      have : gI (nw σ c) a j = 0 := if_pos a1.symm
      rw [this, v0 ws j h4]
    · rw [eI _ _ hak]; exact a6 a j b1 (by omega)
  · have hak : a ≠ k := by omega
    rw [eS a hak]
    exact ⟨(a9 a ha).1, fun j => by rw [eI _ _ hak, eR _ _ hak]; exact (a9 a ha).2 j⟩
theorem BLD.mat {n m : Nat} (h : BLD Y k fs ws g σ) (h1 : ∀ q ∈ yR Y, (q.1 ≤ k → k < q.2.1 → q.2.2 = (24, n)) ∧ (k < q.2.1 → q.1 < k + 1 + n → q.1 = k ∨ (k < q.1 ∧ q.2.2 = (20, m)))) (h2 : ∀ z ∈ fs, z.1 < k) (h3 : (∀ q ∈ yX Y, k ≤ q.1 → q.1 < k + 1 + n → q.1 = k ∧ q.2.2 = k + 1) ∧ ∀ q ∈ yS Y, k ≤ q.1 → q.1 < k + 1 + n → q.1 = k ∧ q.2.2.1 = k + 1) (h4 : ∀ w ∈ ws, w.1 < k) (h5 : ∀ q ∈ yR Y, q.1 = k → q.2.1 = k + 1) : BLD Y (k + 1 + n) fs ws g (nm σ n m) := by
  obtain ⟨a1, a2, a3, a4, a5, a6, a7, a8, a9⟩ := h
  have eS : ∀ a, a < k → gS (nm σ n m) a = gS σ a := fun a ha => by
    show (if a = gz σ then (24, n) else if gz σ < a ∧ a < gz σ + 1 + n then (20, m) else σ.2.2.1 a) = _
    rw [if_neg (by omega), if_neg (by omega)]; rfl
  have eI : ∀ a j, a < k → gI (nm σ n m) a j = gI σ a j := fun a j ha => if_neg (by rw [a1]; omega)
  have eR : ∀ a j, a < k → gR (nm σ n m) a j = gR σ a j := fun a j ha => by
    show (if a = gz σ then gz σ + 1 + j else if gz σ < a then 0 else σ.2.1 a j) = _
    rw [if_neg (by omega), if_neg (by omega)]; rfl
  have eK : ∀ j, gR (nm σ n m) k j = k + 1 + j := fun j => by
    show (if k = gz σ then gz σ + 1 + j else if gz σ < k then 0 else σ.2.1 k j) = _
    rw [if_pos a1.symm, a1]
  have v0 : ∀ (ws : List (Nat × Nat × Int)) a j, k ≤ a → (∀ w ∈ ws, w.1 < k) → vlW ws a j = 0 := by
    intro ws a j hk
    induction ws with
    | nil => intro _; rfl
    | cons w r ih =>
      intro hw
      have := hw w List.mem_cons_self
      show (if a = w.1 ∧ j = w.2.1 then w.2.2 else vlW r a j) = 0
      rw [if_neg (by omega)]
      exact ih (fun x hx => hw x (List.mem_cons_of_mem _ hx))
  refine ⟨by show gz σ + 1 + n = _; rw [a1], fun q hq a b1 b2 b3 => ?_, fun z hz => ?_, fun q hq b1 j hj => ?_, fun q hq b1 j hj => ?_, fun a j b1 b2 => ?_, by omega, a8, fun a ha => ?_⟩
  · by_cases hak : a < k
    · rw [eS a hak]; exact a2 q hq a b1 b2 hak
    · show (if a = gz σ then (24, n) else if gz σ < a ∧ a < gz σ + 1 + n then (20, m) else σ.2.2.1 a) = _
      have hh := h1 q hq
      have h5' := h5 q hq
      by_cases hk2 : a = k
      · rw [if_pos (by omega)]
        exact (hh.1 (by omega) (by omega)).symm
      · rw [if_neg (by omega), if_pos (by omega)]
        rcases hh.2 (by omega) (by omega) with h9 | h9
        · have := h5' h9; omega
        · exact h9.2.symm
  · have := h2 z hz
    rw [eR _ _ this]; exact a3 z hz
  · by_cases hqk : q.1 < k
    · rw [eR _ _ hqk]; exact a4 q hq hqk j hj
    · obtain ⟨e1, e2⟩ := h3.1 q hq (by omega) b1
      rw [e1, eK, e2]
  · by_cases hqk : q.1 < k
    · rw [eR _ _ hqk]; exact a5 q hq hqk j hj
    · obtain ⟨e1, e2⟩ := h3.2 q hq (by omega) b1
      rw [e1, eK, e2]
  · by_cases hak : a < k
    · rw [eI _ _ hak]; exact a6 a j b1 hak
    · have : gI (nm σ n m) a j = 0 := if_pos (by rw [a1]; omega)
      rw [this, v0 ws a j (by omega) h4]
  · have hak : a < k := by omega
    rw [eS a hak]
    exact ⟨(a9 a ha).1, fun j => by rw [eI _ _ hak, eR _ _ hak]; exact (a9 a ha).2 j⟩
theorem BLD.sr {a j b : Nat} (h : BLD Y k fs ws g σ) (e : τ = sR σ a j b) (h1 : yl Y ≤ a ∧ (∀ z ∈ fs, ¬ (z.1 = a ∧ z.2.1 = j)) ∧ (∀ q ∈ yX Y, q.1 ≠ a) ∧ ∀ q ∈ yS Y, q.1 ≠ a) : BLD Y k ((a, j, b) :: fs) ws g τ := by
  subst e
  obtain ⟨a1, a2, a3, a4, a5, a6, a7, a8, a9⟩ := h
  have eR : ∀ x y, ¬ (x = a ∧ y = j) → gR (sR σ a j b) x y = gR σ x y := fun x y hx => if_neg hx
  refine ⟨a1, a2, fun z hz => ?_, fun q hq b1 i hi => ?_, fun q hq b1 i hi => ?_, a6, a7, a8, fun x hx => ⟨(a9 x hx).1, fun i => ⟨((a9 x hx).2 i).1, ?_⟩⟩⟩
  · rcases List.mem_cons.mp hz with rfl | hz
    · exact if_pos ⟨rfl, rfl⟩
    · rw [eR _ _ (h1.2.1 z hz)]; exact a3 z hz
  · have := h1.2.2.1 q hq
    rw [eR _ _ (fun h9 => this h9.1)]; exact a4 q hq b1 i hi
  · have := h1.2.2.2 q hq
    rw [eR _ _ (fun h9 => this h9.1)]; exact a5 q hq b1 i hi
  · rw [eR _ _ (fun h9 => by omega)]; exact ((a9 x hx).2 i).2
theorem BLD.si {a j : Nat} {x : Int} (h : BLD Y k fs ws g σ) (e : τ = sI σ a j x) (h1 : yl Y ≤ a ∧ a < k) : BLD Y k fs ((a, j, x) :: ws) g τ := by
  subst e
  obtain ⟨a1, a2, a3, a4, a5, a6, a7, a8, a9⟩ := h
  refine ⟨a1, a2, a3, a4, a5, fun b i b1 b2 => ?_, a7, a8, fun y hy => ⟨(a9 y hy).1, fun i => ⟨?_, ((a9 y hy).2 i).2⟩⟩⟩
  · rw [gI_sI]
    show _ = (if b = a ∧ i = j then x else vlW ws b i)
    by_cases hb : b = a ∧ i = j
    · rw [if_pos hb, if_pos hb]
    · rw [if_neg hb, if_neg hb]; exact a6 b i b1 b2
  · rw [gI_sI, if_neg (by omega)]; exact ((a9 y hy).2 i).1
theorem BLD.o {a ci N : Nat} (h : BLD Y k fs ws g σ) (q : Nat × Nat × Nat × Nat) (hq : q ∈ yR Y) (h1 : q.1 ≤ a ∧ a < q.2.1 ∧ a < k ∧ q.2.2 = (ci + 1, N) ∧ 16 ≤ a) : okO σ a ci :=
  okO_of (N := N) ((h.2.1 q hq a h1.1 h1.2.1 h1.2.2.1).trans h1.2.2.2.1) h1.2.2.2.2
theorem BLD.lay (h : BLD Y k fs ws g σ) (hk : k = yh Y) (hX : XT g) (hf : ∀ z ∈ yF Y, z ∈ fs) (hc : yl Y = 16 → gR σ 16 12 = 158 ∧ gR σ 16 13 = 165) (hy : (∀ q ∈ yR Y, q.2.1 ≤ yh Y) ∧ (∀ q ∈ yX Y, q.1 < yh Y) ∧ (∀ q ∈ yS Y, q.1 < yh Y ∧ q.2.2.1 + q.2.1 ≤ q.2.2.2) ∧ 16 ≤ yl Y) : Lay Y g 158 165 σ := by
  obtain ⟨a1, a2, a3, a4, a5, a6, a7, a8, a9⟩ := h
  have hl := hy.2.2.2
  refine ⟨fun q hq a b1 b2 => a2 q hq a b1 b2 (by have := hy.1 q hq; omega), fun z hz => a3 z (hf z hz), fun q hq j hj => a4 q hq (by rw [hk]; exact hy.2.1 q hq) j hj, fun q hq j hj => ?_, hc, .inl ⟨rfl, rfl⟩, ?_, by omega, by omega, fun a b1 b2 b3 => ?_⟩
  · have e := a5 q hq (by rw [hk]; exact (hy.2.2.1 q hq).1) j hj
    have := (hy.2.2.1 q hq).2
    rw [e]; omega
  · have x := hX
    have eS : ∀ a, a < 16 → gS σ a = gS g a := fun a ha => (a9 a (by omega)).1
    have eI : ∀ a j, a < 16 → gI σ a j = gI g a j := fun a j ha => ((a9 a (by omega)).2 j).1
    have eR : ∀ a j, a < 16 → gR σ a j = gR g a j := fun a j ha => ((a9 a (by omega)).2 j).2
    refine ⟨⟨by rw [eS 1 (by decide)]; exact x.1.1, fun j hj => by rw [eI 1 j (by decide)]; exact x.1.2 j hj⟩, ⟨by rw [eS 2 (by decide)]; exact x.2.1.1, fun j hj => by rw [eI 2 j (by decide)]; exact x.2.1.2 j hj⟩, ⟨by rw [eS 3 (by decide)]; exact x.2.2.1.1, fun j hj => by rw [eI 3 j (by decide)]; exact x.2.2.1.2 j hj⟩, ⟨by rw [eS 4 (by decide)]; exact x.2.2.2.1.1, fun j hj => by rw [eI 4 j (by decide)]; exact x.2.2.2.1.2 j hj⟩, fun z hz => ?_⟩
    obtain ⟨z1, z2, z3, z4, z5, z6⟩ := x.2.2.2.2 z hz
    have hz16 : z.1 < 16 := by
      rcases z with ⟨u, v⟩
      simp at hz
      rcases hz with ⟨rfl, _⟩ | ⟨rfl, _⟩ | ⟨rfl, _⟩ | ⟨rfl, _⟩ <;> simp
    refine ⟨by rw [eS _ hz16]; exact z1, by rw [eI _ _ hz16]; exact z2, by rw [eR _ _ hz16]; exact z3, by rw [eR _ _ hz16]; exact z4, ?_, fun j hj => ?_⟩
    · rw [eR _ _ hz16, eS _ z4]; exact z5
    · rw [eR _ _ hz16, eI _ _ z4]; exact z6 j hj
  · exact a9 a (by omega)
end S9k
