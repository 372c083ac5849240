/-! ===== the layout of all cells that last ===== -/
/-- the ranges with kind and length, the fixed references, the matrices whose rows lie still, those whose rows change places, own addresses from and below -/
abbrev LY : Type := List (Nat × Nat × Nat × Nat) × List (Nat × Nat × Nat) × List (Nat × Nat × Nat) × List (Nat × Nat × Nat × Nat) × Nat × Nat
def LRC : List (Nat × Nat × Nat × Nat) := [(16, 17, 12, 17), (17, 18, 11, 2), (18, 19, 21, 400), (19, 20, 8, 6), (20, 21, 20, 8), (21, 22, 6, 3), (22, 23, 20, 256), (23, 24, 20, 8), (24, 25, 5, 12), (25, 26, 20, 14400), (26, 27, 20, 120), (27, 28, 20, 120), (28, 29, 20, 120), (29, 30, 20, 120), (30, 31, 20, 120), (31, 32, 10, 5), (32, 33, 20, 120), (33, 34, 20, 120), (34, 35, 1, 10), (35, 36, 3, 2), (36, 37, 24, 12), (37, 49, 20, 12), (49, 50, 20, 12), (50, 51, 20, 12), (51, 52, 20, 12), (52, 53, 20, 12), (53, 54, 20, 12), (54, 55, 9, 15), (55, 56, 20, 1728), (56, 57, 24, 12), (57, 69, 20, 12), (69, 70, 24, 12), (70, 82, 20, 12), (82, 83, 24, 12), (83, 95, 20, 12), (95, 96, 24, 12), (96, 108, 20, 12), (108, 109, 24, 12), (109, 121, 20, 24), (121, 122, 20, 12), (122, 123, 20, 12), (123, 124, 20, 13), (124, 125, 20, 12), (125, 126, 4, 3), (126, 127, 24, 12), (127, 139, 20, 12), (139, 140, 24, 12), (140, 152, 20, 12), (152, 153, 7, 2), (153, 154, 20, 12), (154, 155, 20, 12), (155, 156, 20, 8), (156, 157, 20, 4), (157, 158, 20, 3), (158, 159, 2, 12), (159, 160, 20, 32), (160, 161, 20, 960), (161, 162, 20, 480), (162, 163, 20, 120), (163, 164, 20, 120), (164, 165, 20, 8), (165, 166, 2, 12), (166, 167, 20, 32), (167, 168, 20, 960), (168, 169, 20, 480), (169, 170, 20, 120), (170, 171, 20, 120), (171, 172, 20, 8)]
def LFC : List (Nat × Nat × Nat) := [(17, 0, 18), (16, 0, 17), (19, 1, 20), (19, 0, 17), (16, 1, 19), (21, 0, 22), (21, 1, 23), (16, 2, 21), (24, 0, 25), (24, 1, 26), (24, 2, 27), (24, 3, 28), (24, 4, 29), (24, 5, 30), (16, 3, 24), (31, 0, 32), (31, 1, 33), (16, 4, 31), (34, 0, 35), (34, 1, 36), (34, 2, 49), (34, 3, 50), (34, 4, 51), (34, 5, 52), (34, 6, 53), (16, 5, 34), (54, 0, 55), (54, 1, 56), (54, 2, 69), (54, 3, 82), (54, 4, 95), (54, 5, 108), (54, 6, 121), (54, 7, 122), (54, 8, 123), (54, 9, 124), (54, 10, 35), (16, 6, 54), (125, 0, 126), (125, 1, 139), (16, 7, 125), (152, 0, 153), (152, 1, 154), (16, 8, 152), (16, 9, 155), (16, 10, 156), (16, 11, 157), (158, 0, 159), (158, 1, 160), (158, 2, 161), (158, 3, 162), (158, 4, 163), (158, 5, 164), (165, 0, 166), (165, 1, 167), (165, 2, 168), (165, 3, 169), (165, 4, 170), (165, 5, 171)]
def LXC : List (Nat × Nat × Nat) := [(56, 12, 57), (82, 12, 83), (95, 12, 96), (126, 12, 127), (139, 12, 140)]
def LSC : List (Nat × Nat × Nat × Nat) := [(36, 12, 37, 49), (69, 12, 70, 82), (108, 12, 109, 121)]
def LC : LY := (LRC, LFC, LXC, LSC, 16, 172)
def LRM : List (Nat × Nat × Nat × Nat) := [(172, 173, 13, 42), (173, 174, 20, 3), (174, 175, 20, 400), (175, 176, 24, 10), (176, 186, 20, 34), (186, 187, 20, 4), (187, 188, 24, 120), (188, 308, 20, 8), (308, 309, 20, 8), (309, 310, 24, 120), (310, 430, 20, 8), (430, 431, 24, 120), (431, 551, 20, 120), (551, 552, 20, 120), (552, 553, 20, 120), (553, 554, 20, 120), (554, 555, 20, 120), (555, 556, 20, 120), (556, 557, 24, 2304), (557, 2861, 20, 48), (2861, 2862, 24, 48), (2862, 2910, 20, 48), (2910, 2911, 20, 48), (2911, 2912, 20, 48), (2912, 2913, 20, 48), (2913, 2914, 24, 48), (2914, 2962, 20, 48), (2962, 2963, 20, 48), (2963, 2964, 20, 48), (2964, 2965, 20, 48), (2965, 2966, 20, 8), (2966, 2967, 20, 48), (2967, 2968, 22, 120)]
def LFM : List (Nat × Nat × Nat) := [(172, 1, 173), (172, 8, 174), (172, 9, 175), (172, 11, 186), (172, 13, 187), (172, 14, 308), (172, 20, 309), (172, 21, 430), (172, 22, 551), (172, 23, 552), (172, 24, 553), (172, 25, 554), (172, 26, 555), (172, 28, 556), (172, 29, 2861), (172, 30, 2910), (172, 31, 2911), (172, 32, 2912), (172, 33, 2913), (172, 34, 2962), (172, 36, 2963), (172, 37, 2964), (172, 38, 2965), (172, 39, 2966), (172, 40, 2967)]
def LXM : List (Nat × Nat × Nat) := [(175, 10, 176), (187, 120, 188), (309, 120, 310), (430, 120, 431), (556, 2304, 557)]
def LSM : List (Nat × Nat × Nat × Nat) := [(2861, 48, 2862, 2910), (2913, 48, 2914, 2962)]
def LM : LY := (LRM, LFM, LXM, LSM, 172, 2968)
def yR (Y : LY) := Y.1
def yF (Y : LY) := Y.2.1
def yX (Y : LY) := Y.2.2.1
def yS (Y : LY) := Y.2.2.2.1
def yl (Y : LY) : Nat := Y.2.2.2.2.1
def yh (Y : LY) : Nat := Y.2.2.2.2.2
/-- tables outside -/
def xSg : List Int := [1, -1, -1, -1, 1, 1, 1, -1, 1, -1, 1, 1, 1, 1, -1, 1]
def xLf : List Int := [0, 1, 2, 3, 0, 1, 2, 3, 0, 2, 3, 1, 0, 3, 1, 2]
def xRt : List Int := [0, 1, 2, 3, 1, 0, 3, 2, 2, 0, 1, 3, 3, 0, 2, 1]
def xSn : List Int := [1, -1, -1, -1, 1, 1, 1, -1, 1, 1, 1, -1, 1, 1, 1, -1]
def xts (b : Nat) : List Int := if b = 0 then [114, 111, 111, 116] else [116, 117, 114, 110]
/-- what lies outside: four tables, four strings -/
def XT (σ : Sg) : Prop :=
  (gS σ 1 = (30, 16) ∧ ∀ j, j < 16 → gI σ 1 j = xSg.getD j 0) ∧ (gS σ 2 = (30, 16) ∧ ∀ j, j < 16 → gI σ 2 j = xLf.getD j 0) ∧
  (gS σ 3 = (30, 16) ∧ ∀ j, j < 16 → gI σ 3 j = xRt.getD j 0) ∧ (gS σ 4 = (30, 16) ∧ ∀ j, j < 16 → gI σ 4 j = xSn.getD j 0) ∧
  ∀ q ∈ ([(6, 0), (7, 1), (10, 0), (11, 1)] : List (Nat × Nat)), (gS σ q.1).1 = 32 ∧ gI σ q.1 1 = 0 ∧ 0 < gR σ q.1 0 ∧ gR σ q.1 0 < 16 ∧ gS σ (gR σ q.1 0) = (31, 4) ∧ ∀ j, j < 4 → gI σ (gR σ q.1 0) j = (xts q.2).getD j 0
/-- the layout stands; beside it all is as in g -/
def Lay (Y : LY) (g : Sg) (c t : Nat) (σ : Sg) : Prop :=
  (∀ q ∈ yR Y, ∀ a, q.1 ≤ a → a < q.2.1 → gS σ a = q.2.2) ∧ (∀ q ∈ yF Y, gR σ q.1 q.2.1 = q.2.2) ∧ (∀ q ∈ yX Y, ∀ j, j < q.2.1 → gR σ q.1 j = q.2.2 + j) ∧
  (∀ q ∈ yS Y, ∀ j, j < q.2.1 → q.2.2.1 ≤ gR σ q.1 j ∧ gR σ q.1 j < q.2.2.2) ∧ (yl Y = 16 → gR σ 16 12 = c ∧ gR σ 16 13 = t) ∧ ((c = 158 ∧ t = 165) ∨ (c = 165 ∧ t = 158)) ∧
  XT σ ∧ yh Y ≤ gz σ ∧ gz g ≤ gz σ ∧ ∀ a, 16 ≤ a → a < gz g → (a < yl Y ∨ yh Y ≤ a) → gS σ a = gS g a ∧ ∀ k, gI σ a k = gI g a k ∧ gR σ a k = gR g a k
/-- one of the two closings -/
def isCl (a : Nat) : Prop := a = 158 ∨ a = 165
/-- an own array of ints of this length -/
def PA (Y : LY) (a n : Nat) : Prop := yl Y ≤ a ∧ a < yh Y ∧ 16 ≤ a ∧ (∀ q ∈ yX Y, q.1 ≠ a) ∧ ∃ q ∈ yR Y, q.1 ≤ a ∧ a < q.2.1 ∧ q.2.2 = (20, n)
section R12
variable {Y : LY} {g : Sg} {c t : Nat} {σ τ : Sg}
theorem Lay.sh (hL : Lay Y g c t σ) {i lo hi a : Nat} {s : Nat × Nat} (h : (yR Y)[i]? = some (lo, hi, s)) (h1 : lo ≤ a) (h2 : a < hi) : gS σ a = s := hL.1 _ (List.mem_of_getElem? h) a h1 h2
theorem Lay.rf (hL : Lay Y g c t σ) {i a k b : Nat} (h : (yF Y)[i]? = some (a, k, b)) : gR σ a k = b := hL.2.1 _ (List.mem_of_getElem? h)
theorem Lay.rx (hL : Lay Y g c t σ) {i a n b j : Nat} (h : (yX Y)[i]? = some (a, n, b)) (hj : j < n) : gR σ a j = b + j := hL.2.2.1 _ (List.mem_of_getElem? h) j hj
theorem Lay.rsw (hL : Lay Y g c t σ) {i a n lo hi j : Nat} (h : (yS Y)[i]? = some (a, n, lo, hi)) (hj : j < n) : lo ≤ gR σ a j ∧ gR σ a j < hi := hL.2.2.2.1 _ (List.mem_of_getElem? h) j hj
theorem Lay.cl (hL : Lay LC g c t σ) : gR σ 16 12 = c ∧ gR σ 16 13 = t := hL.2.2.2.2.1 rfl
theorem Lay.ct (hL : Lay Y g c t σ) : (c = 158 ∧ t = 165) ∨ (c = 165 ∧ t = 158) := hL.2.2.2.2.2.1
theorem Lay.isc (hL : Lay Y g c t σ) : isCl c := by rcases hL.ct with h | h <;> simp [isCl, h.1]
theorem Lay.ist (hL : Lay Y g c t σ) : isCl t := by rcases hL.ct with h | h <;> simp [isCl, h.2]
theorem Lay.xt (hL : Lay Y g c t σ) : XT σ := hL.2.2.2.2.2.2.1
theorem Lay.fr (hL : Lay Y g c t σ) {a : Nat} (h1 : 16 ≤ a) (h2 : a < gz g) (h3 : a < yl Y ∨ yh Y ≤ a) : gS σ a = gS g a ∧ ∀ k, gI σ a k = gI g a k ∧ gR σ a k = gR g a k := hL.2.2.2.2.2.2.2.2.2 a h1 h2 h3
theorem Lay.wI (hL : Lay Y g c t σ) {a k : Nat} {x : Int} (e : τ = sI σ a k x) (h16 : 16 ≤ a) (h : (yl Y ≤ a ∧ a < yh Y) ∨ gz g ≤ a) : Lay Y g c t τ := by
  subst e
  have q : ∀ b j, b ≠ a → gI (sI σ a k x) b j = gI σ b j := fun b j hb => by show (if b = a ∧ j = k then x else σ.1 b j) = σ.1 b j; rw [if_neg (fun h => hb h.1)]
  have hX : ∀ b, 16 ≤ b → b < 16 → False := fun b h1 h2 => by omega
  have x' := hL.xt
  refine ⟨hL.1, hL.2.1, hL.2.2.1, hL.2.2.2.1, hL.2.2.2.2.1, hL.ct, ?_, hL.2.2.2.2.2.2.2.1, hL.2.2.2.2.2.2.2.2.1, fun b h1 h2 h3 => ?_⟩
  · refine ⟨⟨x'.1.1, fun j hj => ?_⟩, ⟨x'.2.1.1, fun j hj => ?_⟩, ⟨x'.2.2.1.1, fun j hj => ?_⟩, ⟨x'.2.2.2.1.1, fun j hj => ?_⟩, fun z hz => ?_⟩
    · rw [q 1 j (by omega)]; exact x'.1.2 j hj
    · rw [q 2 j (by omega)]; exact x'.2.1.2 j hj
    · rw [q 3 j (by omega)]; exact x'.2.2.1.2 j hj
    · rw [q 4 j (by omega)]; exact x'.2.2.2.1.2 j hj
    · obtain ⟨z1, z2, z3, z4, z5, z6⟩ := x'.2.2.2.2 z hz
      have hz16 : z.1 < 16 := by
        rcases z with ⟨u, v⟩
        simp at hz
        rcases hz with ⟨rfl, _⟩ | ⟨rfl, _⟩ | ⟨rfl, _⟩ | ⟨rfl, _⟩ <;> simp
      refine ⟨z1, ?_, z3, z4, z5, fun j hj => ?_⟩
      · rw [q z.1 1 (by omega)]; exact z2
      · show gI (sI σ a k x) (gR σ z.1 0) j = _
        rw [q (gR σ z.1 0) j (by omega)]; exact z6 j hj
  · have hne : b ≠ a := by rcases h with h | h <;> omega
    refine ⟨(hL.fr h1 h2 h3).1, fun j => ⟨?_, ((hL.fr h1 h2 h3).2 j).2⟩⟩
    rw [q _ _ hne]; exact ((hL.fr h1 h2 h3).2 j).1
theorem Lay.wC (hL : Lay Y g c t σ) {a sp b dp n : Nat} (e : τ = cpI σ a sp b dp n) (h16 : 16 ≤ b) (h : (yl Y ≤ b ∧ b < yh Y) ∨ gz g ≤ b) : Lay Y g c t τ := by
  subst e
  have q : ∀ x j, x ≠ b → gI (cpI σ a sp b dp n) x j = gI σ x j := fun x j hb => by show (if x = b ∧ dp ≤ j ∧ j < dp + n then σ.1 a (sp + (j - dp)) else σ.1 x j) = σ.1 x j; exact if_neg (fun h => hb h.1)
  have x' := hL.xt
  refine ⟨hL.1, hL.2.1, hL.2.2.1, hL.2.2.2.1, hL.2.2.2.2.1, hL.ct, ?_, hL.2.2.2.2.2.2.2.1, hL.2.2.2.2.2.2.2.2.1, fun x h1 h2 h3 => ?_⟩
  · refine ⟨⟨x'.1.1, fun j hj => ?_⟩, ⟨x'.2.1.1, fun j hj => ?_⟩, ⟨x'.2.2.1.1, fun j hj => ?_⟩, ⟨x'.2.2.2.1.1, fun j hj => ?_⟩, fun z hz => ?_⟩
    · rw [q 1 j (by omega)]; exact x'.1.2 j hj
    · rw [q 2 j (by omega)]; exact x'.2.1.2 j hj
    · rw [q 3 j (by omega)]; exact x'.2.2.1.2 j hj
    · rw [q 4 j (by omega)]; exact x'.2.2.2.1.2 j hj
    · obtain ⟨z1, z2, z3, z4, z5, z6⟩ := x'.2.2.2.2 z hz
      have hz16 : z.1 < 16 := by
        rcases z with ⟨u, v⟩
        simp at hz
        rcases hz with ⟨rfl, _⟩ | ⟨rfl, _⟩ | ⟨rfl, _⟩ | ⟨rfl, _⟩ <;> simp
      refine ⟨z1, ?_, z3, z4, z5, fun j hj => ?_⟩
      · rw [q z.1 1 (by omega)]; exact z2
      · show gI (cpI σ a sp b dp n) (gR σ z.1 0) j = _
        rw [q (gR σ z.1 0) j (by omega)]; exact z6 j hj
  · have hne : x ≠ b := by rcases h with h | h <;> omega
    refine ⟨(hL.fr h1 h2 h3).1, fun j => ⟨?_, ((hL.fr h1 h2 h3).2 j).2⟩⟩
    rw [q _ _ hne]; exact ((hL.fr h1 h2 h3).2 j).1
/-- rows change places -/
theorem Lay.wR (hL : Lay Y g c t σ) {i a n lo hi j v : Nat} (e : τ = sR σ a j v) (h : (yS Y)[i]? = some (a, n, lo, hi)) (hv : lo ≤ v ∧ v < hi) (ha : yl Y ≤ a ∧ a < yh Y ∧ 16 < a)
    (d : (∀ q ∈ yF Y, q.1 ≠ a) ∧ (∀ q ∈ yX Y, q.1 ≠ a) ∧ ∀ q ∈ yS Y, q.1 = a → q = (a, n, lo, hi)) : Lay Y g c t τ := by
  subst e
  have q : ∀ b k, b ≠ a → gR (sR σ a j v) b k = gR σ b k := fun b k hb => by show (if b = a ∧ k = j then v else σ.2.1 b k) = σ.2.1 b k; rw [if_neg (fun h => hb h.1)]
  have x' := hL.xt
  refine ⟨hL.1, fun z hz => ?_, fun z hz k hk => ?_, fun z hz k hk => ?_, fun h9 => ?_, hL.ct, ?_, hL.2.2.2.2.2.2.2.1, hL.2.2.2.2.2.2.2.2.1, fun b h1 h2 h3 => ?_⟩
  · rw [q _ _ (d.1 z hz)]; exact hL.2.1 z hz
  · rw [q _ _ (d.2.1 z hz)]; exact hL.2.2.1 z hz k hk
  · by_cases hza : z.1 = a
    · have hz2 := d.2.2 z hz hza
      subst hz2
      show lo ≤ (if a = a ∧ k = j then v else σ.2.1 a k) ∧ (if a = a ∧ k = j then v else σ.2.1 a k) < hi
      by_cases hk2 : k = j
      · rw [if_pos ⟨rfl, hk2⟩]; exact hv
      · rw [if_neg (fun h => hk2 h.2)]; exact hL.2.2.2.1 _ hz k hk
    · rw [q _ _ hza]; exact hL.2.2.2.1 z hz k hk
  · rw [q 16 12 (by omega), q 16 13 (by omega)]; exact hL.2.2.2.2.1 h9
  · refine ⟨x'.1, x'.2.1, x'.2.2.1, x'.2.2.2.1, fun z hz => ?_⟩
    have hz16 : z.1 < 16 := by
      rcases z with ⟨u, v⟩
      simp at hz
      rcases hz with ⟨rfl, _⟩ | ⟨rfl, _⟩ | ⟨rfl, _⟩ | ⟨rfl, _⟩ <;> simp
    have := x'.2.2.2.2 z hz
    rw [q z.1 0 (by omega)]
    exact this
  · have hne : b ≠ a := by omega
    refine ⟨(hL.fr h1 h2 h3).1, fun k => ⟨((hL.fr h1 h2 h3).2 k).1, ?_⟩⟩
    rw [q _ _ hne]; exact ((hL.fr h1 h2 h3).2 k).2
theorem PA.sh {a n : Nat} (hp : PA Y a n) (hL : Lay Y g c t σ) : gS σ a = (20, n) := by
  obtain ⟨_, _, _, _, q, hq, h1, h2, h3⟩ := hp
  rw [hL.1 q hq a h1 h2, h3]
theorem PA.of {i lo hi a n : Nat} (h : (yR Y)[i]? = some (lo, hi, 20, n)) (h1 : lo ≤ a) (h2 : a < hi) (h3 : yl Y ≤ a ∧ a < yh Y ∧ 16 ≤ a) (h4 : ∀ q ∈ yX Y, q.1 ≠ a) : PA Y a n := ⟨h3.1, h3.2.1, h3.2.2, h4, _, List.mem_of_getElem? h, h1, h2, rfl⟩
theorem okA_of {c a n : Nat} {j : Int} (h : gS σ a = (c, n)) (h1 : 16 ≤ a) (hj : 0 ≤ j ∧ j < (n : Int)) : okA c σ a j := ⟨.inl ⟨h1, by rw [h]⟩, hj.1, by rw [h]; exact hj.2⟩
theorem okA_ofX {c a n : Nat} {j : Int} (h : gS σ a = (c + 10, n)) (h1 : 0 < a ∧ a < 16) (hj : 0 ≤ j ∧ j < (n : Int)) : okA c σ a j := ⟨.inr ⟨h1.1, h1.2, by rw [h]⟩, hj.1, by rw [h]; exact hj.2⟩
theorem okB_of {c a n : Nat} {j : Int} (h : gS σ a = (c, n)) (h1 : 16 ≤ a) (hj : 0 ≤ j ∧ j < (n : Int)) : okB c σ a j := ⟨h1, by rw [h], hj.1, by rw [h]; exact hj.2⟩
theorem okO_of {a ci N : Nat} (h : gS σ a = (ci + 1, N)) (h1 : 16 ≤ a) : okO σ a ci := ⟨h1, by rw [h]⟩
theorem okN_of {c a n : Nat} (h : gS σ a = (c, n)) (h1 : 16 ≤ a) (h2 : 20 ≤ c ∧ c ≤ 24) (h3 : n ≤ 2147483647) : okN σ a := ⟨.inl ⟨h1, by rw [h]; exact h2⟩, by rw [h]; exact h3⟩
theorem isCl.r {a : Nat} (h : isCl a) (hL : Lay LC g c t σ) : gS σ a = (2, 12) ∧ 16 ≤ a ∧ a < 172 := by
  rcases h with rfl | rfl
  · exact ⟨hL.1 (158, 159, 2, 12) (by decide) 158 (by decide) (by decide), by decide, by decide⟩
  · exact ⟨hL.1 (165, 166, 2, 12) (by decide) 165 (by decide) (by decide), by decide, by decide⟩
theorem isCl.f {a : Nat} (h : isCl a) (hL : Lay LC g c t σ) {k : Nat} (hk : k < 6) : gR σ a k = a + 1 + k := by
  rcases h with rfl | rfl
  · have : ∀ k, k < 6 → (158, k, 158 + 1 + k) ∈ yF LC := by decide
    exact hL.2.1 _ (this k hk)
  · have : ∀ k, k < 6 → (165, k, 165 + 1 + k) ∈ yF LC := by decide
    exact hL.2.1 _ (this k hk)
def clN : Nat → Nat
  | 0 => 32
  | 1 => 960
  | 2 => 480
  | 3 => 120
  | 4 => 120
  | _ => 8
theorem isCl.s {a : Nat} (h : isCl a) (hL : Lay LC g c t σ) {k : Nat} (hk : k < 6) : gS σ (a + 1 + k) = (20, clN k) := by
  rcases h with rfl | rfl
  · have : ∀ k, k < 6 → (158 + 1 + k, 158 + 1 + k + 1, 20, clN k) ∈ yR LC := by decide
    exact hL.1 _ (this k hk) _ (Nat.le_refl _) (Nat.lt_succ_self _)
  · have : ∀ k, k < 6 → (165 + 1 + k, 165 + 1 + k + 1, 20, clN k) ∈ yR LC := by decide
    exact hL.1 _ (this k hk) _ (Nat.le_refl _) (Nat.lt_succ_self _)
theorem isCl.b {a : Nat} (h : isCl a) {k : Nat} (hk : k < 7) : 16 ≤ a + k ∧ yl LC ≤ a + k ∧ a + k < yh LC := by
  rcases h with rfl | rfl
  · show 16 ≤ 158 + k ∧ 16 ≤ 158 + k ∧ 158 + k < 172; omega
  · show 16 ≤ 165 + k ∧ 16 ≤ 165 + k ∧ 165 + k < 172; omega
theorem isCl.p {a : Nat} (h : isCl a) {k : Nat} (hk : k < 6) : PA LC (a + 1 + k) (clN k) := by
  have : ∀ k, k < 6 → (158 + 1 + k, 158 + 1 + k + 1, 20, clN k) ∈ yR LC ∧ (165 + 1 + k, 165 + 1 + k + 1, 20, clN k) ∈ yR LC := by decide
  have h4 : ∀ q ∈ yX LC, q.1 < 158 := by decide
  rcases h with rfl | rfl
  · exact ⟨by show 16 ≤ 158 + 1 + k; omega, by show 158 + 1 + k < 172; omega, by omega, fun q hq => by have := h4 q hq; omega, _, (this k hk).1, Nat.le_refl _, Nat.lt_succ_self _, rfl⟩
  · exact ⟨by show 16 ≤ 165 + 1 + k; omega, by show 165 + 1 + k < 172; omega, by omega, fun q hq => by have := h4 q hq; omega, _, (this k hk).2, Nat.le_refl _, Nat.lt_succ_self _, rfl⟩
end R12
