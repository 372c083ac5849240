/-! ===== the reference: told, of ===== -/
noncomputable def kdN (D : Int) (els : List (List Int)) : Int :=
  @ite _ (∃ k, k < els.length ∧ od els.length (gmt D els) k = els.length) (Classical.propDecidable _) 0 (@ite _ (els.length % 2 = 0 ∧ ∃ k, k < els.length ∧ od els.length (gmt D els) k = els.length / 2) (Classical.propDecidable _) 1 (if els.length = 24 then 2 else if els.length = 48 then 3 else 4))
noncomputable def knN (D : Int) (els : List (List Int)) : Int := if kdN D els = 0 then (els.length : Int) else if kdN D els = 1 then ((els.length / 4 : Nat) : Int) else kdN D els + 1
def tuN (els : List (List Int)) : Int := if fnd els (wholeL (-4)) = -1 then (els.length : Int) else ((els.length / 2 : Nat) : Int)
noncomputable def ceN (D : Int) (els : List (List Int)) (n : Nat) : Int := sm (fun a => if zG D els a = 1 then 1 else 0) n
noncomputable def toV (D : Int) (told els : List (List Int)) (past : List (List (List Int))) (B : List Int) (x : Nat) : Int :=
  if x = 0 then D else if x = 1 then (told.length : Int) else if x = 2 then (els.length : Int) else if x = 3 then (rG D els : Int) else if x = 4 then ceN D els (rG D els) else if x = 5 then (expo els.length (gmt D els) els.length : Int) else if x = 6 then kdN D els else if x = 7 then knN D els else if x = 8 then tuN els else if x = 9 then fnd els (wholeL (-4)) else if x = 10 then (pN D els : Int) else if x = 11 then (sN D els : Int) else if x = 12 then diaN D els else if x = 13 then (rG D els : Int) - 1 else if x = 14 then (past.length : Int) else (B.length : Int)
noncomputable def ofV (D : Int) (els : List (List Int)) (a x : Nat) : Int :=
  if x = 0 then (zG D els a : Int) else if x = 1 then (lsN els.length (gmt D els) a : Int) else if x = 2 then (od els.length (gmt D els) (lsN els.length (gmt D els) a) : Int) else if x = 3 then (iG D els a : Int) else if x = 4 then natN D els a else wG D els a (x - 5)
theorem kdN_rng (D : Int) (els : List (List Int)) : 0 ≤ kdN D els ∧ kdN D els ≤ 4 := by
  unfold kdN
  split
  · omega
  · split
    · omega
    · split
      · omega
      · split <;> omega
section SC3
variable {E : Ev} {σ : Sg} {Q : NO → Sg → Prop} {g : Sg} {c t : Nat}
variable {D : Int} {told els : List (List Int)} {past : List (List (List Int))} {B : List Int} {F : Int} {W R : Nat → Int}
theorem M_centre {p s : Nat} (hL : Lay LM g c t σ) (hM : MAll σ D els p s) (hI : IsG els.length (gmt D els)) (hq : Q (.inl (some (vi (ceN D els (rG D els))))) σ) : CC E mX12_centre [vr 172] σ Q := by
  have n120 := hM.1.1
  have k16 : gI σ 172 16 = (rG D els : Int) := hM.2.2.2.2.1.2.1
  have rN : rG D els ≤ els.length := rsN_le _ _
  refine C_X12_centre (B_X12_centre_0 hL (fun _ => ?_))
  refine loopU (N := rG D els) (G := fun n τ => GG E mX12_centre 4 [some (vr 172), some (vi (ceN D els n)), some (vi n)] [] τ 0 0 Q) (P := fun n τ => τ = σ ∧ 0 ≤ ceN D els n ∧ ceN D els n ≤ n) ?_ ?_ 0 σ (by omega) ⟨rfl, Int.le_refl _, Int.le_refl _⟩
  · rintro n τ hn ⟨rfl, h1, h2⟩ next
    have q := (hM.cl hI hn).2.1
    have e9 : ceN D els (n + 1) = ceN D els n + if zG D els n = 1 then 1 else 0 := rfl
    rw [e9] at next
    refine B_X12_centre_4 hL ?_
    rw [k16, show ((n : Nat) : Int).toNat = n by omega, q]
    refine ⟨fun h9 => absurd h9 (by omega), fun _ => ⟨⟨by omega, by omega⟩, fun hne => ⟨⟨by omega, by omega⟩, ⟨by omega, by omega⟩, fun _ => ?_⟩, fun he => ⟨⟨by omega, by omega⟩, ⟨by omega, by omega⟩, fun _ => ?_⟩⟩⟩
    · rw [if_neg (by omega)] at next
      exact next τ ⟨rfl, by omega, by omega⟩
    · rw [if_pos (by omega)] at next
      exact next τ ⟨rfl, by omega, by omega⟩
  · rintro τ ⟨rfl, h1, h2⟩
    refine B_X12_centre_4 hL ?_
    rw [k16]
    exact ⟨fun _ _ => hq, fun h9 => absurd (by omega) h9⟩
theorem M_hasOrder {p s n : Nat} (hL : Lay LM g c t σ) (hM : MAll σ D els p s) (hq : ∀ y : Int, ((∃ k, k < els.length ∧ od els.length (gmt D els) k = n) → y = 1) → (¬ (∃ k, k < els.length ∧ od els.length (gmt D els) k = n) → y = 0) → Q (.inl (some (vi y))) σ) : CC E mX12_hasOrder [vr 172, vi n] σ Q := by
  have n120 := hM.1.1
  have k15 : gI σ 172 15 = (els.length : Int) := hM.2.1.1
  refine C_X12_hasOrder (B_X12_hasOrder_0 hL (fun _ => ?_))
  refine loopU (N := els.length) (G := fun k τ => GG E mX12_hasOrder 2 [some (vr 172), some (vi n), some (vi k)] [] τ 0 0 Q) (P := fun k τ => τ = σ ∧ ∀ j, j < k → od els.length (gmt D els) j ≠ n) ?_ ?_ 0 σ (by omega) ⟨rfl, fun j hj => absurd hj (by omega)⟩
  · rintro k τ hk ⟨rfl, hz⟩ next
    have q := hM.2.2.2.1.1 k hk
    refine B_X12_hasOrder_2 hL ?_
    rw [k15, show ((k : Nat) : Int).toNat = k by omega, q]
    refine ⟨fun h9 => absurd h9 (by omega), fun _ => ⟨⟨by omega, by omega⟩, fun hne => ⟨⟨by omega, by omega⟩, fun _ => next τ ⟨rfl, fun j hj => ?_⟩⟩, fun he _ => hq 1 (fun _ => rfl) (fun h9 => absurd ⟨k, hk, by omega⟩ h9)⟩⟩
    by_cases hjk : j = k
    · rw [hjk]; omega
    · exact hz j (by omega)
  · rintro τ ⟨rfl, hz⟩
    refine B_X12_hasOrder_2 hL ?_
    rw [k15]
    exact ⟨fun _ _ => hq 0 (fun h9 => by obtain ⟨k, hk, e⟩ := h9; exact absurd e (hz k hk)) (fun _ => rfl), fun h9 => absurd (by omega) h9⟩
theorem M_kind {p s : Nat} (hL : Lay LM g c t σ) (hM : MAll σ D els p s) (hq : Q (.inl (some (vi (kdN D els)))) σ) : CC E mX12_kind [vr 172] σ Q := by
  have n120 := hM.1.1
  have k15 : gI σ 172 15 = (els.length : Int) := hM.2.1.1
  refine C_X12_kind (B_X12_kind_0 hL (fun _ => ?_))
  rw [k15]
  unfold kdN at hq
  have et : ((els.length : Nat) : Int).tmod 2 = ((els.length % 2 : Nat) : Int) := rfl
  have ed : ((els.length : Nat) : Int).tdiv 2 = ((els.length / 2 : Nat) : Int) := rfl
  refine M_hasOrder hL hM (fun y y1 y0 => ⟨hL, fun _ => ?_⟩)
  rw [k15, et, ed]
  refine ⟨fun hy => ⟨fun ho => ?_, fun hev => ⟨⟨by omega, by omega⟩, fun _ => M_hasOrder hL hM (fun z z1 z0 => ⟨hL, fun _ => ?_⟩)⟩⟩, fun hy _ => ?_⟩
  · have n1 := of_eq8 y1 hy
    rw [if_neg n1, if_neg (fun h9 => ho (by omega))] at hq
    refine ⟨fun h24 => ⟨fun h48 _ => ?_, fun h48 _ => ?_⟩, fun h24 _ => ?_⟩
    · rw [if_neg (by omega), if_neg (by omega)] at hq; exact hq
    · rw [if_neg (by omega), if_pos (by omega)] at hq; exact hq
    · rw [if_pos (by omega)] at hq; exact hq
  · have n1 := of_eq8 y1 hy
    rw [k15]
    refine ⟨fun hz => ?_, fun hz _ => ?_⟩
    · have n2 := of_eq8 z1 hz
      rw [if_neg n1, if_neg (fun h9 => n2 h9.2)] at hq
      refine ⟨fun h24 => ⟨fun h48 _ => ?_, fun h48 _ => ?_⟩, fun h24 _ => ?_⟩
      · rw [if_neg (by omega), if_neg (by omega)] at hq; exact hq
      · rw [if_neg (by omega), if_pos (by omega)] at hq; exact hq
      · rw [if_pos (by omega)] at hq; exact hq
    · have n2 := of_ne8 z0 hz
      rw [if_neg n1, if_pos ⟨by omega, n2⟩] at hq
      exact hq
  · have n1 := of_ne8 y0 hy
    rw [if_pos n1] at hq
    exact hq
theorem M_kindNumber {p s : Nat} (hL : Lay LM g c t σ) (hM : MAll σ D els p s) (hq : Q (.inl (some (vi (knN D els)))) σ) : CC E mX12_kindNumber [vr 172] σ Q := by
  have n120 := hM.1.1
  have k15 : gI σ 172 15 = (els.length : Int) := hM.2.1.1
  have kr := kdN_rng D els
  have ed : ((els.length : Nat) : Int).tdiv 4 = ((els.length / 4 : Nat) : Int) := rfl
  unfold knN at hq
  refine C_X12_kindNumber (B_X12_kindNumber_0 hL (fun _ => M_kind hL hM ⟨hL, fun _ => ?_⟩))
  rw [k15, ed]
  refine ⟨fun h0 => ⟨fun h1 => ⟨⟨by omega, by omega⟩, fun _ => ?_⟩, fun h1 => ⟨⟨by omega, by omega⟩, fun _ => ?_⟩⟩, fun h0 _ => ?_⟩
  · rw [if_neg h0, if_neg h1] at hq; exact hq
  · rw [if_neg h0, if_pos h1] at hq; exact hq
  · rw [if_pos h0] at hq; exact hq
theorem M_turned {p s : Nat} (hL : Lay LM g c t σ) (hM : MAll σ D els p s) (hnd : els.Nodup) (hq : ∀ τ, Lay LM g c t τ → Fr frMn (fun _ => False) σ τ → Q (.inl (some (vi (tuN els)))) τ) : CC E mX12_turned [vr 172] σ Q := by
  have n120 := hM.1.1
  have k15 : gI σ 172 15 = (els.length : Int) := hM.2.1.1
  have ed : ((els.length : Nat) : Int).tdiv 2 = ((els.length / 2 : Nat) : Int) := rfl
  unfold tuN at hq
  refine C_X12_turned (B_X12_turned_0 hL (fun _ => S_minus hL hM.1 hnd k15 (fun τ hL2 hF2 => ⟨hL2, fun _ => ?_⟩)))
  have hq2 := hq τ hL2 hF2
  have k15b : gI τ 172 15 = (els.length : Int) := (hF2.i (by omega) (by omega)).trans k15
  rw [k15b, ed]
  refine ⟨fun hne => ⟨⟨by omega, by omega⟩, fun _ => ?_⟩, fun he _ => ?_⟩
  · rw [if_neg hne] at hq2; exact hq2
  · rw [if_pos he] at hq2; exact hq2
theorem M_toldQ {x : Int} (h : MI KMd g c t σ D told els past B F W R) (hX : FX D told els) (hRB : ∀ i, i < 3 → inR (R i + 1))
    (h0 : (x < 0 ∨ 15 < x) → ∀ τ, MI KMd g c t τ D told els past B F W (bmp R 1) → gI τ 172 0 = 1 → Q (.inl (some (vi 0))) τ)
    (h2 : ∀ n : Nat, x = n → n ≤ 15 → ∀ τ, MI KMd g c t τ D told els past B F W R → gI τ 172 0 = 0 → Q (.inl (some (vi (toV D told els past B n)))) τ) : CC E mX12_told [vr 172, vi x] σ Q := by
  refine C_X12_told (B_X12_told_0 h.1 (fun τ1 e1 hL1 => ?_))
  obtain ⟨hI, q0⟩ := h.go KMd_fm e1
  refine S_in (fun y y1 y0 => ⟨hL1, fun _ => ⟨fun hy _ => ?_, fun hy _ => ?_⟩⟩)
  · have hb := of_ne8 y0 hy
    obtain ⟨n, rfl⟩ : ∃ n : Nat, x = n := ⟨x.toNat, by omega⟩
    refine S_bad0 hL1 q0 ⟨hL1, fun _ => ⟨fun _ _ => B_X12_told_31 hL1 (fun _ => M_laysRows hI hX.1 hX.2.1 (fun τ hI2 _ hK2 z2 => ⟨hI2.1, ?_⟩)), fun h9 => absurd rfl h9⟩⟩
    have z0 := z2.trans q0
    have hq : ∀ τ3, MI KMd g c t τ3 D told els past B F W R → gI τ3 172 0 = 0 → Q (.inl (some (vi (toV D told els past B n)))) τ3 := h2 n rfl (by omega)
    have hmx := hI2.mx hK2
    have hG := hX.1.isG
    obtain ⟨k16, k18, k15, k19⟩ := hmx.k
    have hnd := hX.1.2.2.2.1
    have d0 : gI τ 176 0 = D := hI2.2.1.1
    have d1 : gI τ 176 1 = (told.length : Int) := hI2.2.1.2.2.2.1
    have d17 : gI τ 172 17 = (expo els.length (gmt D els) els.length : Int) := hmx.2.1.2.2.2.1.2
    have d10 : gI τ 172 10 = (past.length : Int) := hI2.2.2.2.1.1
    have d2 : gI τ 172 2 = (B.length : Int) := hI2.2.2.2.2.1.1
    have r12 : rG D els ≤ 12 := hX.2.1.1
    have aft := fun τ3 (hL3 : Lay LM g c t τ3) (hF3 : Fr frMn (fun _ => False) τ τ3) => hI2.aft hL3 hF3 (fun a j h9 => by omega)
    have aft2 := fun τ3 (hL3 : Lay LM g c t τ3) (hF3 : Fr frF (fun _ => False) τ τ3) => hI2.aft hL3 hF3 (fun a j h9 => by omega)
    have hnow := hq τ hI2 z0
    rw [show ((n : Nat) : Int).toNat = n by omega]
    unfold toV at hq hnow
    refine ⟨fun e => ⟨⟨by omega, by omega⟩, fun _ => ?_⟩, fun e => ⟨⟨by omega, by omega⟩, fun _ => ?_⟩, fun e _ => ?_, fun e _ => ?_, fun e _ => ?_, fun e _ => ?_, fun e _ => ?_, fun e _ => ?_, fun e _ => ?_, fun e _ => ?_, fun e _ => ?_, fun e _ => ?_, fun e _ => ?_, fun e => ⟨⟨by omega, by omega⟩, fun _ => ?_⟩, fun e _ => ?_, fun e _ => ?_⟩
    · have : n = 0 := by omega
      subst this
      rw [d0]; exact hnow
    · have : n = 1 := by omega
      subst this
      rw [d1]; exact hnow
    · have : n = 2 := by omega
      subst this
      rw [k15]; exact hnow
    · have : n = 3 := by omega
      subst this
      rw [k16]; exact hnow
    · have : n = 4 := by omega
      subst this
      exact M_centre hI2.1 hmx.2.1 hG ⟨hI2.1, fun _ _ => hnow⟩
    · have : n = 5 := by omega
      subst this
      rw [d17]; exact hnow
    · have : n = 6 := by omega
      subst this
      exact M_kind hI2.1 hmx.2.1 ⟨hI2.1, fun _ _ => hnow⟩
    · have : n = 7 := by omega
      subst this
      exact M_kindNumber hI2.1 hmx.2.1 ⟨hI2.1, fun _ _ => hnow⟩
    · have : n = 8 := by omega
      subst this
      exact M_turned hI2.1 hmx.2.1 hnd (fun τ3 hL3 hF3 => ⟨hL3, fun _ _ => hq τ3 (aft τ3 hL3 hF3).1 ((aft τ3 hL3 hF3).2.trans z0)⟩)
    · have : n = 9 := by omega
      subst this
      exact S_minus hI2.1 hmx.2.1.1 hnd k15 (fun τ3 hL3 hF3 => ⟨hL3, fun _ _ => hq τ3 (aft τ3 hL3 hF3).1 ((aft τ3 hL3 hF3).2.trans z0)⟩)
    · have : n = 10 := by omega
      subst this
      rw [k18]; exact hnow
    · have : n = 11 := by omega
      subst this
      rw [k19]; exact hnow
    · have : n = 12 := by omega
      subst this
      exact M_diagram hmx hX (fun τ3 hL3 hF3 => ⟨hL3, fun _ _ => hq τ3 (aft2 τ3 hL3 hF3).1 ((aft2 τ3 hL3 hF3).2.trans z0)⟩)
    · have : n = 13 := by omega
      subst this
      rw [k16]; exact hnow
    · have : n = 14 := by omega
      subst this
      rw [d10]; exact hnow
    · have : n = 15 := by omega
      subst this
      rw [d2]; exact hnow
  · have hb := of_eq8 y1 hy
    exact S_bad1 (r := 1) hL1 hI KMd_fm q0 (by decide) (by decide) (by decide) (hRB 1 (by omega)) (fun τ hIτ qτ => ⟨hIτ.1, fun _ => ⟨fun h9 => absurd h9 (by decide), fun _ _ => B_X12_told_29 hIτ.1 (fun _ => h0 (by omega) τ hIτ qτ)⟩⟩)
theorem M_of {x1 x2 : Int} (h : MI KMd g c t σ D told els past B F W R) (hX : FX D told els) (hRB : ∀ i, i < 3 → inR (R i + 1))
    (h0 : bd1 D els x1 → ∀ τ, MI KMd g c t τ D told els past B F W (bmp R 0) → gI τ 172 0 = 1 → Q (.inl (some (vi 0))) τ)
    (h1 : ¬ bd1 D els x1 → (x2 < 0 ∨ 6 < x2) → ∀ τ, MI KMd g c t τ D told els past B F W (bmp R 1) → gI τ 172 0 = 2 → Q (.inl (some (vi 0))) τ)
    (h2 : ∀ a n : Nat, x1 = a → x2 = n → a < rG D els → n ≤ 6 → ∀ τ, MI KMd g c t τ D told els past B F W R → gI τ 172 0 = 0 → Q (.inl (some (vi (ofV D els a n)))) τ) : CC E mX12_of [vr 172, vi x1, vi x2] σ Q := by
  refine C_X12_of (B_X12_of_0 h.1 (fun τ1 e1 hL1 => ?_))
  obtain ⟨hI, q0⟩ := h.go KMd_fm e1
  have hn := hI.c16
  have no0 : bd1 D els x1 → ∀ τ, MI KMd g c t τ D told els past B F W (bmp R 0) → gI τ 172 0 = 1 → GG E mX12_of 51 [none, none, none] [] τ 0 0 Q := fun hb τ hIτ qτ => B_X12_of_51 hIτ.1 (fun _ => h0 hb τ hIτ qτ)
  refine S_isClass hL1 hn.1 hn.2 (fun y y1 y0 => ⟨hL1, fun _ => ⟨fun hy _ => ?_, fun hy _ => ?_⟩⟩)
  · have hb := of_ne8 y0 hy
    obtain ⟨a, rfl⟩ : ∃ a : Nat, x1 = a := ⟨x1.toNat, by omega⟩
    have har : a < rG D els := by omega
    refine S_bad0 hL1 q0 ⟨hL1, fun _ => ⟨fun h9 => absurd rfl h9, fun _ _ => S_in (fun z z1 z0 => ⟨hL1, fun _ => ⟨fun hz _ => ?_, fun hz _ => ?_⟩⟩)⟩⟩
    · have hb2 := of_ne8 z0 hz
      obtain ⟨n, rfl⟩ : ∃ n : Nat, x2 = n := ⟨x2.toNat, by omega⟩
      have hq := h2 a n rfl rfl har (by omega) τ1 hI q0
      obtain ⟨s, _, _, _, _, e, hM, _⟩ := MAp.p hI.2.2.1
      subst e
      obtain ⟨q1, q2, q3, q4, q5, q6, q7, q8⟩ := hM.cl hX.1.isG har
      have n120 := hX.1.1
      have e1 := hM.2.2.2.1.1 _ q5
      have hE := hM.1.2 _ q5
      refine S_bad0 hL1 q0 ⟨hL1, fun _ => ⟨fun _ _ => B_X12_of_53 hL1 ?_, fun h9 => absurd rfl h9⟩⟩
      rw [show ((a : Nat) : Int).toNat = a by omega, q1, q2, show ((lsN els.length (gmt D els) a : Nat) : Int).toNat = lsN els.length (gmt D els) a by omega, q3, e1, show ((iv els.length (gmt D els) (lsN els.length (gmt D els) a) : Nat) : Int).toNat = iv els.length (gmt D els) (lsN els.length (gmt D els) a) by omega, q4]
      unfold ofV at hq
      refine ⟨fun e => ⟨⟨by omega, by omega⟩, fun _ => ?_⟩, fun e => ⟨⟨by omega, by omega⟩, fun _ => ?_⟩, fun e => ⟨⟨by omega, by omega⟩, ⟨by omega, by omega⟩, fun _ => ?_⟩, fun e => ⟨⟨by omega, by omega⟩, ⟨by omega, by omega⟩, ⟨by omega, by omega⟩, fun _ => ?_⟩, fun e _ => ?_, fun e => ⟨⟨by omega, by omega⟩, ⟨by omega, by omega⟩, ⟨by omega, by omega⟩, ⟨by omega, by omega⟩, fun _ => ?_⟩⟩
      · have : n = 0 := by omega
        subst this
        exact hq
      · have : n = 1 := by omega
        subst this
        exact hq
      · have : n = 2 := by omega
        subst this
        exact hq
      · have : n = 3 := by omega
        subst this
        exact hq
      · have : n = 4 := by omega
        subst this
        exact M_natural0 hL1 hM hX har ⟨hL1, fun _ _ => hq⟩
      · rw [show ((n : Nat) : Int) - 5 = ((n - 5 : Nat) : Int) by omega, show ((n - 5 : Nat) : Int).toNat = n - 5 by omega, hE.2 (n - 5) (by omega)]
        rw [if_neg (by omega), if_neg (by omega), if_neg (by omega), if_neg (by omega), if_neg (by omega)] at hq
        exact hq
    · have hb2 := of_eq8 z1 hz
      exact S_bad1 (r := 1) hL1 hI KMd_fm q0 (by decide) (by decide) (by decide) (hRB 1 (by omega)) (fun τ hIτ qτ => ⟨hIτ.1, fun _ => ⟨fun h9 => absurd h9 (by decide), fun _ _ => B_X12_of_51 hIτ.1 (fun _ => h1 (by omega) (by omega) τ hIτ qτ)⟩⟩)
  · have hb := of_eq8 y1 hy
    exact S_bad1 (r := 0) hL1 hI KMd_fm q0 (by decide) (by decide) (by decide) (hRB 0 (by omega)) (fun τ hIτ qτ => ⟨hIτ.1, fun _ => ⟨fun _ _ => no0 (by omega) τ hIτ qτ, fun h9 => absurd h9 (by decide)⟩⟩)
end SC3
