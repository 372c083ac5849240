/-! ===== the reference: what is asked of characters ===== -/
/-- the character that has what this one has at inverses: the first such -/
def IsOp (D : Int) (els : List (List Int)) (i : Nat) (x : Int) : Prop := (∃ k : Nat, x = k ∧ k < rG D els ∧ (∀ a, a < rG D els → vlC D els k a = vlC D els i (iG D els a)) ∧ ∀ j, j < k → ¬ ∀ a, a < rG D els → vlC D els j a = vlC D els i (iG D els a)) ∨ (x = -1 ∧ ∀ j, j < rG D els → ¬ ∀ a, a < rG D els → vlC D els j a = vlC D els i (iG D els a))
theorem IsOp.un {D : Int} {els : List (List Int)} {i : Nat} {x y : Int} (h : IsOp D els i x) (k : IsOp D els i y) : x = y := by
  rcases h with ⟨a, rfl, a1, a2, a3⟩ | ⟨rfl, a1⟩ <;> rcases k with ⟨b, rfl, b1, b2, b3⟩ | ⟨rfl, b1⟩
  · by_cases h1 : a < b
    · exact absurd a2 (b3 a h1)
    · by_cases h2 : b < a
      · exact absurd b2 (a3 b h2)
      · omega
  · exact absurd a2 (b1 a a1)
  · exact absurd b2 (a1 b b1)
  · rfl
/-- how often a character is in row n of powers -/
noncomputable def inN (D : Int) (els : List (List Int)) (i n : Nat) : Int := ofN D els (fun a => (pwN D els a n).1) i
/-- in how many of the first n rows a character is -/
noncomputable def hwN (D : Int) (els : List (List Int)) (i : Nat) (n : Nat) : Nat := nfold (fun k s => if inN D els i k = 0 then s else s + 1) n 0
theorem hwN_s (D : Int) (els : List (List Int)) (i n : Nat) : hwN D els i (n + 1) = if inN D els i n = 0 then hwN D els i n else hwN D els i n + 1 := rfl
theorem hwN_le (D : Int) (els : List (List Int)) (i : Nat) : ∀ n, hwN D els i n ≤ n := by
  intro n
  induction n with
  | zero => exact Nat.le_refl _
  | succ n ih =>
    rw [hwN_s]
    split <;> omega
/-- the k-th row that it is in -/
def IsRw (D : Int) (els : List (List Int)) (i : Nat) (k x : Int) : Prop := (∃ n : Nat, x = n ∧ n ≤ 200 ∧ inN D els i n ≠ 0 ∧ (hwN D els i n : Int) = k) ∨ (x = -1 ∧ ∀ n, n ≤ 200 → inN D els i n ≠ 0 → (hwN D els i n : Int) ≠ k)
theorem hwN_mono {D : Int} {els : List (List Int)} {i a b : Nat} (h : a ≤ b) : hwN D els i a ≤ hwN D els i b := by
  induction b with
  | zero => rw [show a = 0 by omega]; exact Nat.le_refl _
  | succ b ih =>
    by_cases hab : a = b + 1
    · rw [hab]; exact Nat.le_refl _
    · have := ih (by omega)
      rw [hwN_s]
      split <;> omega
theorem IsRw.un {D : Int} {els : List (List Int)} {i : Nat} {k x y : Int} (h : IsRw D els i k x) (h' : IsRw D els i k y) : x = y := by
  rcases h with ⟨a, rfl, a1, a2, a3⟩ | ⟨rfl, a1⟩ <;> rcases h' with ⟨b, rfl, b1, b2, b3⟩ | ⟨rfl, b1⟩
  · by_cases h1 : a < b
    · have := hwN_mono (D := D) (els := els) (i := i) (show a + 1 ≤ b by omega)
      rw [hwN_s, if_neg a2] at this
      omega
    · by_cases h2 : b < a
      · have := hwN_mono (D := D) (els := els) (i := i) (show b + 1 ≤ a by omega)
        rw [hwN_s, if_neg b2] at this
        omega
      · omega
  · exact absurd a3 (b1 a a1 a2)
  · exact absurd b3 (a1 b b1 b2)
  · rfl
section SC1
variable {E : Ev} {σ : Sg} {Q : NO → Sg → Prop} {g : Sg} {c t : Nat}
variable {D : Int} {told els : List (List Int)} {past : List (List (List Int))} {B : List Int} {F : Int} {W R : Nat → Int}
theorem S_isClass {k : Int} {r : Nat} (hL : Lay LM g c t σ) (h16 : gI σ 172 16 = (r : Int)) (hr : r ≤ 120) (hq : ∀ y : Int, (0 ≤ k ∧ k < (r : Int) → y = 1) → (¬ (0 ≤ k ∧ k < (r : Int)) → y = 0) → Q (.inl (some (vi y))) σ) : CC E mX12_isClass [vr 172, vi k] σ Q := by
  refine C_X12_isClass (B_X12_isClass_0 hL ?_)
  rw [h16]
  refine ⟨⟨by omega, by omega⟩, fun _ => S_in (fun y y1 y0 => ⟨hL, fun _ => ⟨?_, fun _ => hq y (fun h9 => y1 (by omega)) (fun h9 => y0 (by omega))⟩⟩)⟩
  by_cases h9 : 0 ≤ k ∧ k ≤ (r : Int) - 1
  · exact .inr (y1 h9)
  · exact .inl (y0 h9)
theorem MI.c16 {K : Int → List (List Int) → Sg → Prop} (h : MI K g c t σ D told els past B F W R) : gI σ 172 16 = (rG D els : Int) ∧ rG D els ≤ 120 := by
  obtain ⟨d, p, s, m1, m2, m3, m4⟩ := h.2.2.1
  exact ⟨m4.2.2.2.2.1.2.1, Nat.le_trans (rsN_le _ _) m4.1.1⟩
theorem MI.mx (h : MI KMd g c t σ D told els past B F W R) (hK : KMd D els σ) : MX g c t σ D els := by
  obtain ⟨s, _, _, _, _, e, hM, _⟩ := MAp.p h.2.2.1
  subst e
  exact ⟨h.1, hM, hK⟩
theorem MI.aft {W9 : Nat → Nat → Prop} {τ : Sg} (h : MI KMd g c t σ D told els past B F W R) (hL : Lay LM g c t τ) (k : Fr W9 (fun _ => False) σ τ) (w : ∀ a j, W9 a j → 2963 ≤ a) : MI KMd g c t τ D told els past B F W R ∧ gI τ 172 0 = gI σ 172 0 :=
  ⟨h.scr KMd_fm hL k (fun a j h9 => .inr (.inr (.inr (w a j h9)))) (fun _ h9 => h9.elim), k.i (by omega) (fun h9 => by have := w 172 0 h9; omega)⟩
theorem of_ne8 {P : Prop} {y : Int} (h0 : ¬ P → y = 0) (h : y ≠ 0) : P := Classical.byContradiction (fun h9 => h (h0 h9))
theorem of_eq8 {P : Prop} {y : Int} (h1 : P → y = 1) (h : y = 0) : ¬ P := fun h9 => by have := h1 h9; omega
abbrev bd1 (D : Int) (els : List (List Int)) (x : Int) : Prop := x < 0 ∨ (rG D els : Int) ≤ x
theorem M_degree {x : Int} (h : MI KMd g c t σ D told els past B F W R) (hX : FX D told els) (hRB : ∀ i, i < 3 → inR (R i + 1))
    (h0 : bd1 D els x → ∀ τ, MI KMd g c t τ D told els past B F W (bmp R 0) → gI τ 172 0 = 1 → Q (.inl (some (vi 0))) τ)
    (h2 : ∀ i : Nat, x = i → i < rG D els → ∀ τ, MI KMd g c t τ D told els past B F W R → gI τ 172 0 = 0 → Q (.inl (some (vi (dgC D els i)))) τ) : CC E mX12_degree [vr 172, vi x] σ Q := by
  refine C_X12_degree (B_X12_degree_0 h.1 (fun τ1 e1 hL1 => ?_))
  obtain ⟨hI, q0⟩ := h.go KMd_fm e1
  have hn := hI.c16
  refine S_isClass hL1 hn.1 hn.2 (fun y y1 y0 => ⟨hL1, fun _ => ⟨fun hy _ => ?_, fun hy _ => ?_⟩⟩)
  · have hb := of_ne8 y0 hy
    obtain ⟨i, rfl⟩ : ∃ i : Nat, x = i := ⟨x.toNat, by omega⟩
    have r12 := hX.2.1.1
    refine S_bad0 hL1 q0 ⟨hL1, fun _ => ⟨fun _ _ => M_laysRows hI hX.1 hX.2.1 (fun τ hI2 _ hK2 z2 => ⟨hI2.1, ⟨by omega, by omega⟩, fun _ => ?_⟩), fun h9 => absurd rfl h9⟩⟩
    rw [show ((i : Nat) : Int).toNat = i by omega, (hK2.2.2 i (by omega)).2.1]
    exact h2 i rfl (by omega) τ hI2 (z2.trans q0)
  · have hb := of_eq8 y1 hy
    exact S_bad1 (r := 0) hL1 hI KMd_fm q0 (by decide) (by decide) (by decide) (hRB 0 (by omega)) (fun τ hIτ qτ => ⟨hIτ.1, fun _ => ⟨fun h9 => absurd h9 (by decide), fun _ _ => h0 (by omega) τ hIτ qτ⟩⟩)
theorem M_value {x1 x2 : Int} (h : MI KMd g c t σ D told els past B F W R) (hX : FX D told els) (hRB : ∀ i, i < 3 → inR (R i + 1))
    (h0 : (bd1 D els x1 ∨ bd1 D els x2) → ∀ τ, MI KMd g c t τ D told els past B F W (bmp R 0) → gI τ 172 0 = 1 → Q (.inl (some (vi 0))) τ)
    (h2 : ∀ i a : Nat, x1 = i → x2 = a → i < rG D els → a < rG D els → ∀ τ, MI KMd g c t τ D told els past B F W R → gI τ 172 0 = 0 → Q (.inl (some (vi (vlC D els i a)))) τ) : CC E mX12_value [vr 172, vi x1, vi x2] σ Q := by
  refine C_X12_value (B_X12_value_0 h.1 (fun τ1 e1 hL1 => ?_))
  obtain ⟨hI, q0⟩ := h.go KMd_fm e1
  have hn := hI.c16
  refine S_isClass hL1 hn.1 hn.2 (fun y y1 y0 => ⟨hL1, fun _ => ⟨fun hy _ => ?_, fun hy _ => S_isClass hL1 hn.1 hn.2 (fun z z1 z0 => ⟨hL1, fun _ => ⟨fun hz _ => ?_, fun hz _ => ?_⟩⟩)⟩⟩)
  · have hb := of_eq8 y1 hy
    exact S_bad1 (r := 0) hL1 hI KMd_fm q0 (by decide) (by decide) (by decide) (hRB 0 (by omega)) (fun τ hIτ qτ => ⟨hIτ.1, fun _ => ⟨fun h9 => absurd h9 (by decide), fun _ _ => h0 (by omega) τ hIτ qτ⟩⟩)
  · have hb := of_ne8 y0 hy
    have hb2 := of_ne8 z0 hz
    obtain ⟨i, rfl⟩ : ∃ i : Nat, x1 = i := ⟨x1.toNat, by omega⟩
    obtain ⟨a, rfl⟩ : ∃ a : Nat, x2 = a := ⟨x2.toNat, by omega⟩
    have r12 := hX.2.1.1
    refine S_bad0 hL1 q0 ⟨hL1, fun _ => ⟨fun _ _ => M_laysRows hI hX.1 hX.2.1 (fun τ hI2 _ hK2 z2 => ⟨hI2.1, ⟨by omega, by omega⟩, fun b9 e9 _ => ⟨⟨by omega, by omega⟩, fun _ => ?_⟩⟩), fun h9 => absurd rfl h9⟩⟩
    rw [e9, show ((i : Nat) : Int).toNat = i by omega, show ((a : Nat) : Int).toNat = a by omega, (hK2.2.2 i (by omega)).2.2 a (by omega)]
    exact h2 i a rfl rfl (by omega) (by omega) τ hI2 (z2.trans q0)
  · have hb := of_eq8 z1 hz
    exact S_bad1 (r := 0) hL1 hI KMd_fm q0 (by decide) (by decide) (by decide) (hRB 0 (by omega)) (fun τ hIτ qτ => ⟨hIτ.1, fun _ => ⟨fun h9 => absurd h9 (by decide), fun _ _ => h0 (by omega) τ hIτ qτ⟩⟩)
theorem M_ways {x1 x2 : Int} (h : MI KMd g c t σ D told els past B F W R) (hX : FX D told els) (hRB : ∀ i, i < 3 → inR (R i + 1))
    (h0 : (bd1 D els x1 ∨ bd1 D els x2) → ∀ τ, MI KMd g c t τ D told els past B F W (bmp R 0) → gI τ 172 0 = 1 → Q (.inl (some (vi 0))) τ)
    (h2 : ∀ i a : Nat, x1 = i → x2 = a → i < rG D els → a < rG D els → ∀ τ, MI KMd g c t τ D told els past B F W R → gI τ 172 0 = 0 → Q (.inl (some (vi (waN D els i a)))) τ) : CC E mX12_ways [vr 172, vi x1, vi x2] σ Q := by
  refine C_X12_ways (B_X12_ways_0 h.1 (fun τ1 e1 hL1 => ?_))
  obtain ⟨hI, q0⟩ := h.go KMd_fm e1
  have hn := hI.c16
  refine S_isClass hL1 hn.1 hn.2 (fun y y1 y0 => ⟨hL1, fun _ => ⟨fun hy _ => ?_, fun hy _ => S_isClass hL1 hn.1 hn.2 (fun z z1 z0 => ⟨hL1, fun _ => ⟨fun hz _ => ?_, fun hz _ => ?_⟩⟩)⟩⟩)
  · have hb := of_eq8 y1 hy
    exact S_bad1 (r := 0) hL1 hI KMd_fm q0 (by decide) (by decide) (by decide) (hRB 0 (by omega)) (fun τ hIτ qτ => ⟨hIτ.1, fun _ => ⟨fun h9 => absurd h9 (by decide), fun _ _ => h0 (by omega) τ hIτ qτ⟩⟩)
  · have hb := of_ne8 y0 hy
    have hb2 := of_ne8 z0 hz
    obtain ⟨i, rfl⟩ : ∃ i : Nat, x1 = i := ⟨x1.toNat, by omega⟩
    obtain ⟨a, rfl⟩ : ∃ a : Nat, x2 = a := ⟨x2.toNat, by omega⟩
    refine S_bad0 hL1 q0 ⟨hL1, fun _ => ⟨fun _ _ => M_laysRows hI hX.1 hX.2.1 (fun τ hI2 _ hK2 z2 => ⟨hI2.1, fun _ => M_waysOf (hI2.mx hK2) hX (by omega) (by omega) (fun τ3 hL3 hF3 => ⟨hL3, fun _ _ => ?_⟩)⟩), fun h9 => absurd rfl h9⟩⟩
    obtain ⟨hI3, z3⟩ := hI2.aft hL3 hF3 (fun a j h9 => by omega)
    exact h2 i a rfl rfl (by omega) (by omega) τ3 hI3 ((z3.trans z2).trans q0)
  · have hb := of_eq8 z1 hz
    exact S_bad1 (r := 0) hL1 hI KMd_fm q0 (by decide) (by decide) (by decide) (hRB 0 (by omega)) (fun τ hIτ qτ => ⟨hIτ.1, fun _ => ⟨fun h9 => absurd h9 (by decide), fun _ _ => h0 (by omega) τ hIτ qτ⟩⟩)
theorem M_withWays {x : Int} (h : MI KMd g c t σ D told els past B F W R) (hX : FX D told els) (hRB : ∀ i, i < 3 → inR (R i + 1))
    (h0 : (x < 0 ∨ 4 < x) → ∀ τ, MI KMd g c t τ D told els past B F W (bmp R 1) → gI τ 172 0 = 1 → Q (.inl (some (vi 0))) τ)
    (h2 : 0 ≤ x → x ≤ 4 → ∀ τ, MI KMd g c t τ D told els past B F W R → gI τ 172 0 = 0 → Q (.inl (some (vi (wwN D els x (rG D els))))) τ) : CC E mX12_withWays [vr 172, vi x] σ Q := by
  refine C_X12_withWays (B_X12_withWays_0 h.1 (fun τ1 e1 hL1 => ?_))
  obtain ⟨hI, q0⟩ := h.go KMd_fm e1
  refine S_in (fun y y1 y0 => ⟨hL1, fun _ => ⟨fun hy _ => ?_, fun hy _ => ?_⟩⟩)
  · have hb := of_ne8 y0 hy
    refine S_bad0 hL1 q0 ⟨hL1, fun _ => ⟨fun _ _ => M_laysRows hI hX.1 hX.2.1 (fun τ hI2 _ hK2 z2 => ⟨hI2.1, fun _ => M_withWaysOf (hI2.mx hK2) hX (fun τ3 hL3 hF3 => ⟨hL3, fun _ _ => ?_⟩)⟩), fun h9 => absurd rfl h9⟩⟩
    obtain ⟨hI3, z3⟩ := hI2.aft hL3 hF3 (fun a j h9 => by omega)
    exact h2 hb.1 hb.2 τ3 hI3 ((z3.trans z2).trans q0)
  · have hb := of_eq8 y1 hy
    exact S_bad1 (r := 1) hL1 hI KMd_fm q0 (by decide) (by decide) (by decide) (hRB 1 (by omega)) (fun τ hIτ qτ => ⟨hIτ.1, fun _ => ⟨fun h9 => absurd h9 (by decide), fun _ _ => h0 (by omega) τ hIτ qτ⟩⟩)
theorem M_often {x1 x2 x3 : Int} (h : MI KMd g c t σ D told els past B F W R) (hX : FX D told els) (hRB : ∀ i, i < 3 → inR (R i + 1))
    (h0 : (bd1 D els x1 ∨ bd1 D els x2 ∨ bd1 D els x3) → ∀ τ, MI KMd g c t τ D told els past B F W (bmp R 0) → gI τ 172 0 = 1 → Q (.inl (some (vi 0))) τ)
    (h2 : ∀ a b i : Nat, x1 = a → x2 = b → x3 = i → a < rG D els → b < rG D els → i < rG D els → ∀ τ, MI KMd g c t τ D told els past B F W R → gI τ 172 0 = 0 → Q (.inl (some (vi (ofP D els a b i)))) τ) : CC E mX12_often [vr 172, vi x1, vi x2, vi x3] σ Q := by
  refine C_X12_often (B_X12_often_0 h.1 (fun τ1 e1 hL1 => ?_))
  obtain ⟨hI, q0⟩ := h.go KMd_fm e1
  have hn := hI.c16
  have no : (bd1 D els x1 ∨ bd1 D els x2 ∨ bd1 D els x3) → ∀ τ, MI KMd g c t τ D told els past B F W (bmp R 0) → gI τ 172 0 = 1 → GG E mX12_often 43 [none, none, none, none] [] τ 0 0 Q := fun hb τ hIτ qτ => B_X12_often_43 hIτ.1 (fun _ => h0 hb τ hIτ qτ)
  refine S_isClass hL1 hn.1 hn.2 (fun y y1 y0 => ⟨hL1, fun _ => ⟨fun hy _ => ?_, fun hy _ => S_isClass hL1 hn.1 hn.2 (fun z z1 z0 => ⟨hL1, fun _ => ⟨fun hz _ => ?_, fun hz _ => S_isClass hL1 hn.1 hn.2 (fun u u1 u0 => ⟨hL1, fun _ => ⟨fun hu _ => ?_, fun hu _ => ?_⟩⟩)⟩⟩)⟩⟩)
  · have hb := of_eq8 y1 hy
    exact S_bad1 (r := 0) hL1 hI KMd_fm q0 (by decide) (by decide) (by decide) (hRB 0 (by omega)) (fun τ hIτ qτ => ⟨hIτ.1, fun _ => ⟨fun h9 => absurd h9 (by decide), fun _ _ => no (by omega) τ hIτ qτ⟩⟩)
  · have hb := of_eq8 z1 hz
    exact S_bad1 (r := 0) hL1 hI KMd_fm q0 (by decide) (by decide) (by decide) (hRB 0 (by omega)) (fun τ hIτ qτ => ⟨hIτ.1, fun _ => ⟨fun h9 => absurd h9 (by decide), fun _ _ => no (by omega) τ hIτ qτ⟩⟩)
  · have hb := of_ne8 y0 hy
    have hb2 := of_ne8 z0 hz
    have hb3 := of_ne8 u0 hu
    obtain ⟨a, rfl⟩ : ∃ a : Nat, x1 = a := ⟨x1.toNat, by omega⟩
    obtain ⟨b, rfl⟩ : ∃ b : Nat, x2 = b := ⟨x2.toNat, by omega⟩
    obtain ⟨i, rfl⟩ : ∃ i : Nat, x3 = i := ⟨x3.toNat, by omega⟩
    refine S_bad0 hL1 q0 ⟨hL1, fun _ => ⟨fun _ _ => B_X12_often_45 hL1 (fun _ => M_laysRows hI hX.1 hX.2.1 (fun τ hI2 _ hK2 z2 => ⟨hI2.1, fun _ => M_oftenOf (hI2.mx hK2) hX (by omega) (by omega) (by omega) (fun τ3 hL3 hF3 => ⟨hL3, fun _ _ => ?_⟩)⟩)), fun h9 => absurd rfl h9⟩⟩
    obtain ⟨hI3, z3⟩ := hI2.aft hL3 hF3 (fun a j h9 => by omega)
    exact h2 a b i rfl rfl rfl (by omega) (by omega) (by omega) τ3 hI3 ((z3.trans z2).trans q0)
  · have hb := of_eq8 u1 hu
    exact S_bad1 (r := 0) hL1 hI KMd_fm q0 (by decide) (by decide) (by decide) (hRB 0 (by omega)) (fun τ hIτ qτ => ⟨hIτ.1, fun _ => ⟨fun h9 => absurd h9 (by decide), fun _ _ => no (by omega) τ hIτ qτ⟩⟩)
theorem M_couples {x1 x2 x3 : Int} (h : MI KMd g c t σ D told els past B F W R) (hX : FX D told els) (hRB : ∀ i, i < 3 → inR (R i + 1))
    (h0 : (bd1 D els x1 ∨ bd1 D els x2 ∨ bd1 D els x3) → ∀ τ, MI KMd g c t τ D told els past B F W (bmp R 0) → gI τ 172 0 = 1 → Q (.inl (some (vi 0))) τ)
    (h2 : ∀ a b i : Nat, x1 = a → x2 = b → x3 = i → a < rG D els → b < rG D els → i < rG D els → ∀ τ, MI KMd g c t τ D told els past B F W R → gI τ 172 0 = 0 → Q (.inl (some (vi (cplN els.length (gmt D els) a b i)))) τ) : CC E mX12_couples [vr 172, vi x1, vi x2, vi x3] σ Q := by
  refine C_X12_couples (B_X12_couples_0 h.1 (fun τ1 e1 hL1 => ?_))
  obtain ⟨hI, q0⟩ := h.go KMd_fm e1
  have hn := hI.c16
  have no : (bd1 D els x1 ∨ bd1 D els x2 ∨ bd1 D els x3) → ∀ τ, MI KMd g c t τ D told els past B F W (bmp R 0) → gI τ 172 0 = 1 → GG E mX12_couples 43 [none, none, none, none] [] τ 0 0 Q := fun hb τ hIτ qτ => B_X12_couples_43 hIτ.1 (fun _ => h0 hb τ hIτ qτ)
  refine S_isClass hL1 hn.1 hn.2 (fun y y1 y0 => ⟨hL1, fun _ => ⟨fun hy _ => ?_, fun hy _ => S_isClass hL1 hn.1 hn.2 (fun z z1 z0 => ⟨hL1, fun _ => ⟨fun hz _ => ?_, fun hz _ => S_isClass hL1 hn.1 hn.2 (fun u u1 u0 => ⟨hL1, fun _ => ⟨fun hu _ => ?_, fun hu _ => ?_⟩⟩)⟩⟩)⟩⟩)
  · have hb := of_eq8 y1 hy
    exact S_bad1 (r := 0) hL1 hI KMd_fm q0 (by decide) (by decide) (by decide) (hRB 0 (by omega)) (fun τ hIτ qτ => ⟨hIτ.1, fun _ => ⟨fun h9 => absurd h9 (by decide), fun _ _ => no (by omega) τ hIτ qτ⟩⟩)
  · have hb := of_eq8 z1 hz
    exact S_bad1 (r := 0) hL1 hI KMd_fm q0 (by decide) (by decide) (by decide) (hRB 0 (by omega)) (fun τ hIτ qτ => ⟨hIτ.1, fun _ => ⟨fun h9 => absurd h9 (by decide), fun _ _ => no (by omega) τ hIτ qτ⟩⟩)
  · have hb := of_ne8 y0 hy
    have hb2 := of_ne8 z0 hz
    have hb3 := of_ne8 u0 hu
    have r12 := hX.2.1.1
    obtain ⟨a, rfl⟩ : ∃ a : Nat, x1 = a := ⟨x1.toNat, by omega⟩
    obtain ⟨b, rfl⟩ : ∃ b : Nat, x2 = b := ⟨x2.toNat, by omega⟩
    obtain ⟨i, rfl⟩ : ∃ i : Nat, x3 = i := ⟨x3.toNat, by omega⟩
    refine S_bad0 hL1 q0 ⟨hL1, fun _ => ⟨fun _ _ => B_X12_couples_45 hL1 (fun _ => M_laysRows hI hX.1 hX.2.1 (fun τ hI2 _ hK2 z2 => ⟨hI2.1, ⟨by omega, by omega⟩, ⟨by omega, by omega⟩, ⟨by omega, by omega⟩, ⟨by omega, by omega⟩, fun _ => ?_⟩)), fun h9 => absurd rfl h9⟩⟩
    rw [show ((48 : Int) * (a : Int) + (b : Int)).toNat = 48 * a + b by omega, show ((i : Nat) : Int).toNat = i by omega, hK2.2.1 a b i (show a < rG D els by omega) (show b < rG D els by omega) (show i < rG D els by omega)]
    exact h2 a b i rfl rfl rfl (by omega) (by omega) (by omega) τ hI2 (z2.trans q0)
  · have hb := of_eq8 u1 hu
    exact S_bad1 (r := 0) hL1 hI KMd_fm q0 (by decide) (by decide) (by decide) (hRB 0 (by omega)) (fun τ hIτ qτ => ⟨hIτ.1, fun _ => ⟨fun h9 => absurd h9 (by decide), fun _ _ => no (by omega) τ hIτ qτ⟩⟩)
end SC1
