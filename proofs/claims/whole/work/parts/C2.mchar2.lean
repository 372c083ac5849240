/-! ===== the reference: opposite, rows of powers ===== -/
section SC2
variable {E : Ev} {σ : Sg} {Q : NO → Sg → Prop} {g : Sg} {c t : Nat}
variable {D : Int} {told els : List (List Int)} {past : List (List (List Int))} {B : List Int} {F : Int} {W R : Nat → Int}
theorem iand9 : b_iandq 1 1 = 1 ∧ b_iandq 1 0 = 0 ∧ b_iandq 0 1 = 0 ∧ b_iandq 0 0 = 0 := by decide +kernel
theorem op_35 {i : Nat} (h : MX g c t σ D els) (hX : FX D told els) (hi : i < rG D els) (hq : ∀ x, IsOp D els i x → Q (.inl (some (vi x))) σ) : GG E mX12_opposite 35 [some (vr 172), some (vi i), some (vi 0), none, none] [] σ 0 0 Q := by
  obtain ⟨k16, k18, _⟩ := h.k
  have hI := hX.1.isG
  have n120 := hX.1.1
  have r12 : rG D els ≤ 12 := hX.2.1.1
  refine loopU (N := rG D els) (G := fun k τ => GG E mX12_opposite 35 [some (vr 172), some (vi i), some (vi k), none, none] [] τ 0 0 Q) (P := fun k τ => τ = σ ∧ ∀ j, j < k → ¬ ∀ a, a < rG D els → vlC D els j a = vlC D els i (iG D els a)) ?_ ?_ 0 σ (by omega) ⟨rfl, fun j hj => absurd hj (by omega)⟩
  · rintro k τ hk ⟨rfl, hz⟩ next
    refine B_X12_opposite_35 h.1 ?_
    rw [k16]
    refine ⟨fun h9 => absurd h9 (by omega), fun _ _ => ?_⟩
    let fl : Nat → Int → Prop := fun n y => (y = 1 ∧ ∀ a, a < n → vlC D els k a = vlC D els i (iG D els a)) ∨ (y = 0 ∧ ¬ ∀ a, a < n → vlC D els k a = vlC D els i (iG D els a))
    have walk : ∀ (d n : Nat) (y : Int), n + d = rG D els → fl n y → GG E mX12_opposite 48 [some (vr 172), some (vi i), some (vi k), some (vi y), some (vi n)] [] τ 0 0 Q := by
      intro d
      induction d with
      | zero =>
        intro n y hn hy
        have hnr : n = rG D els := by omega
        refine B_X12_opposite_48 h.1 ?_
        rw [k16]
        refine ⟨fun _ => ⟨fun h0 => ⟨⟨by omega, by omega⟩, fun _ => next τ ⟨rfl, fun j hj => ?_⟩⟩, fun h1 _ => ?_⟩, fun h9 => absurd (by omega) h9⟩
        · rcases hy with ⟨hy, _⟩ | ⟨_, hy⟩
          · omega
          · by_cases hjk : j = k
            · rw [hjk, ← hnr]; exact hy
            · exact hz j (by omega)
        · rcases hy with ⟨_, hy⟩ | ⟨hy, _⟩
          · exact hq k (.inl ⟨k, rfl, hk, by rw [← hnr]; exact hy, hz⟩)
          · exact absurd hy h1
      | succ d ih =>
        intro n y hn hy
        have hnr : n < rG D els := by omega
        obtain ⟨q1, q2, q3, q4, q5, q6, q7, q8⟩ := h.cl hI hnr
        refine B_X12_opposite_48 h.1 ?_
        rw [k16, show ((i : Nat) : Int).toNat = i by omega, show ((k : Nat) : Int).toNat = k by omega, show ((n : Nat) : Int).toNat = n by omega, q1, show ((lsN els.length (gmt D els) n : Nat) : Int).toNat = lsN els.length (gmt D els) n by omega, q3, show ((iv els.length (gmt D els) (lsN els.length (gmt D els) n) : Nat) : Int).toNat = iv els.length (gmt D els) (lsN els.length (gmt D els) n) by omega, q4, show ((iG D els n : Nat) : Int).toNat = iG D els n by omega]
        refine ⟨fun h9 => absurd h9 (by omega), fun _ => ⟨⟨by omega, by omega⟩, fun b3 e3 _ => ⟨⟨by omega, by omega⟩, ⟨by omega, by omega⟩, fun b7 e7 _ => ⟨⟨by omega, by omega⟩, ⟨by omega, by omega⟩, ⟨by omega, by omega⟩, ⟨by omega, by omega⟩, fun v13 e13 => ?_⟩⟩⟩⟩
        rw [e7, h.row hi q7] at e13
        rw [e3, h.row hk hnr, e13]
        refine ⟨fun hne => ⟨⟨by omega, by omega⟩, fun _ => ih (n + 1) _ (by omega) ?_⟩, fun he => ⟨⟨by omega, by omega⟩, fun _ => ih (n + 1) _ (by omega) ?_⟩⟩
        · refine .inr ⟨?_, fun h9 => hne (h9 n (by omega))⟩
          rcases hy with ⟨hy, _⟩ | ⟨hy, _⟩
          · rw [hy]; exact iand9.2.1
          · rw [hy]; exact iand9.2.2.2
        · rcases hy with ⟨hy, hy2⟩ | ⟨hy, hy2⟩
          · refine .inl ⟨by rw [hy]; exact iand9.1, fun a ha => ?_⟩
            by_cases han : a = n
            · rw [han]; exact he
            · exact hy2 a (by omega)
          · exact .inr ⟨by rw [hy]; exact iand9.2.2.1, fun h9 => hy2 (fun a ha => h9 a (by omega))⟩
    exact walk (rG D els) 0 1 (by omega) (.inl ⟨rfl, fun a ha => absurd ha (by omega)⟩)
  · rintro τ ⟨rfl, hz⟩
    refine B_X12_opposite_35 h.1 ?_
    rw [k16]
    exact ⟨fun _ _ => hq (-1) (.inr ⟨rfl, hz⟩), fun h9 => absurd (by omega) h9⟩
theorem M_opposite {x : Int} (h : MI KMd g c t σ D told els past B F W R) (hX : FX D told els) (hRB : ∀ i, i < 3 → inR (R i + 1))
    (h0 : bd1 D els x → ∀ τ, MI KMd g c t τ D told els past B F W (bmp R 0) → gI τ 172 0 = 1 → Q (.inl (some (vi 0))) τ)
    (h2 : ∀ i : Nat, x = i → i < rG D els → ∀ y, IsOp D els i y → ∀ τ, MI KMd g c t τ D told els past B F W R → gI τ 172 0 = 0 → Q (.inl (some (vi y))) τ) : CC E mX12_opposite [vr 172, vi x] σ Q := by
  refine C_X12_opposite (B_X12_opposite_0 h.1 (fun τ1 e1 hL1 => ?_))
  obtain ⟨hI, q0⟩ := h.go KMd_fm e1
  have hn := hI.c16
  refine S_isClass hL1 hn.1 hn.2 (fun y y1 y0 => ⟨hL1, fun _ => ⟨fun hy _ => ?_, fun hy _ => ?_⟩⟩)
  · have hb := of_ne8 y0 hy
    obtain ⟨i, rfl⟩ : ∃ i : Nat, x = i := ⟨x.toNat, by omega⟩
    exact S_bad0 hL1 q0 ⟨hL1, fun _ => ⟨fun _ _ => M_laysRows hI hX.1 hX.2.1 (fun τ hI2 _ hK2 z2 => ⟨hI2.1, fun _ => op_35 (hI2.mx hK2) hX (by omega) (fun y hy => h2 i rfl (by omega) y hy τ hI2 (z2.trans q0))⟩), fun h9 => absurd rfl h9⟩⟩
  · have hb := of_eq8 y1 hy
    exact S_bad1 (r := 0) hL1 hI KMd_fm q0 (by decide) (by decide) (by decide) (hRB 0 (by omega)) (fun τ hIτ qτ => ⟨hIτ.1, fun _ => ⟨fun h9 => absurd h9 (by decide), fun _ _ => h0 (by omega) τ hIτ qτ⟩⟩)
theorem M_inRow {x1 x2 : Int} (h : MI KMd g c t σ D told els past B F W R) (hX : FX D told els) (hRB : ∀ i, i < 3 → inR (R i + 1))
    (h0 : bd1 D els x1 → ∀ τ, MI KMd g c t τ D told els past B F W (bmp R 0) → gI τ 172 0 = 1 → Q (.inl (some (vi 0))) τ)
    (h1 : ¬ bd1 D els x1 → (x2 < 0 ∨ 200 < x2) → ∀ τ, MI KMd g c t τ D told els past B F W (bmp R 1) → gI τ 172 0 = 2 → Q (.inl (some (vi 0))) τ)
    (h2 : ∀ i n : Nat, x1 = i → x2 = n → i < rG D els → n ≤ 200 → ∀ τ, MI KMd g c t τ D told els past B F W R → gI τ 172 0 = 0 → Q (.inl (some (vi (inN D els i n)))) τ) : CC E mX12_inRow [vr 172, vi x1, vi x2] σ Q := by
  refine C_X12_inRow (B_X12_inRow_0 h.1 (fun τ1 e1 hL1 => ?_))
  obtain ⟨hI, q0⟩ := h.go KMd_fm e1
  have hn := hI.c16
  have p1 := hX.2.2.1.1
  have r12 : rG D els ≤ 12 := hX.2.1.1
  refine S_isClass hL1 hn.1 hn.2 (fun y y1 y0 => ⟨hL1, fun _ => ⟨fun hy _ => ?_, fun hy _ => ?_⟩⟩)
  · have hb := of_ne8 y0 hy
    obtain ⟨i, rfl⟩ : ∃ i : Nat, x1 = i := ⟨x1.toNat, by omega⟩
    refine S_bad0 hL1 q0 ⟨hL1, fun _ => ⟨fun h9 => absurd rfl h9, fun _ _ => B_X12_inRow_27 hL1 (fun _ => S_in (fun z z1 z0 => ⟨hL1, fun _ => ⟨fun hz _ => ?_, fun hz _ => ?_⟩⟩))⟩⟩
    · have hb2 := of_ne8 z0 hz
      obtain ⟨n, rfl⟩ : ∃ n : Nat, x2 = n := ⟨x2.toNat, by omega⟩
      refine S_bad0 hL1 q0 ⟨hL1, fun _ => ⟨fun _ _ => M_laysRows hI hX.1 hX.2.1 (fun τ hI2 _ hK2 z2 => ⟨hI2.1, fun _ => M_laysPower (hI2.mx hK2) hX (by omega) (fun τ3 hL3 hF3 hv3 => ⟨hL3, fun _ => ?_⟩)⟩), fun h9 => absurd rfl h9⟩⟩
      have hm3 := (hI2.mx hK2).fr hL3 hF3 (fun a j h9 => by omega) (fun _ h9 => h9)
      obtain ⟨hI3, z3⟩ := hI2.aft hL3 hF3 (fun a j h9 => by omega)
      exact M_oftenIn hm3 hX (n := 48) pa2963 (by omega) (by omega) (fun a ha => ⟨hv3 a ha, (pwN_rng p1 a n).1⟩) ⟨hL3, fun _ _ => h2 i n rfl rfl (by omega) (by omega) τ3 hI3 ((z3.trans z2).trans q0)⟩
    · have hb2 := of_eq8 z1 hz
      exact S_bad1 (r := 1) hL1 hI KMd_fm q0 (by decide) (by decide) (by decide) (hRB 1 (by omega)) (fun τ hIτ qτ => ⟨hIτ.1, fun _ => ⟨fun h9 => absurd h9 (by decide), fun _ _ => B_X12_inRow_52 hIτ.1 (fun _ => h1 (by omega) (by omega) τ hIτ qτ)⟩⟩)
  · have hb := of_eq8 y1 hy
    exact S_bad1 (r := 0) hL1 hI KMd_fm q0 (by decide) (by decide) (by decide) (hRB 0 (by omega)) (fun τ hIτ qτ => ⟨hIτ.1, fun _ => ⟨fun _ _ => B_X12_inRow_52 hIτ.1 (fun _ => h0 (by omega) τ hIτ qτ), fun h9 => absurd h9 (by decide)⟩⟩)
theorem row_38 {i : Nat} {x : Int} (h : MX g c t σ D els) (hX : FX D told els) (hi : i < rG D els) (hq : ∀ y τ, IsRw D els i x y → Lay LM g c t τ → Fr frP2 (fun _ => False) σ τ → Q (.inl (some (vi y))) τ) : GG E mX12_row 38 [some (vr 172), some (vi i), some (vi x), some (vi (-1)), some (vi 0)] [] σ 0 0 Q := by
  have p1 := hX.2.2.1.1
  have r12 : rG D els ≤ 12 := hX.2.1.1
  refine loopU (N := 201) (G := fun n τ => GG E mX12_row 38 [some (vr 172), some (vi i), some (vi x), some (vi ((hwN D els i n : Int) - 1)), some (vi n)] [] τ 0 0 Q)
    (P := fun n τ => Lay LM g c t τ ∧ Fr frP2 (fun _ => False) σ τ ∧ ∀ j, j < n → inN D els i j ≠ 0 → (hwN D els i j : Int) ≠ x) ?_ ?_ 0 σ (by omega) ⟨h.1, Fr.refl _, fun j hj => absurd hj (by omega)⟩
  · rintro n τ hn ⟨hL1, hF1, hz⟩ next
    have hm1 := h.fr hL1 hF1 (fun a j h9 => by omega) (fun _ h9 => h9)
    have hle := hwN_le D els i n
    have e9 := hwN_s D els i n
    rw [e9] at next
    refine B_X12_row_38 hL1 ⟨fun h9 => absurd h9 (by omega), fun _ => ⟨fun hx _ => hq (-1) τ (.inr ⟨rfl, fun j _ _ => by omega⟩) hL1 hF1, fun hx _ => M_laysPower hm1 hX (by omega) (fun τ2 hL2 hF2 hv2 => ⟨hL2, fun _ => ?_⟩)⟩⟩
    have hm2 := hm1.fr hL2 hF2 (fun a j h9 => by omega) (fun _ h9 => h9)
    refine M_oftenIn hm2 hX (n := 48) pa2963 (by omega) hi (fun a ha => ⟨hv2 a ha, (pwN_rng p1 a n).1⟩) ⟨hL2, fun _ => ⟨fun hne => ⟨⟨by omega, by omega⟩, fun hnx => ⟨⟨by omega, by omega⟩, fun _ => ?_⟩, fun hxe _ => ?_⟩, fun he => ⟨⟨by omega, by omega⟩, fun _ => ?_⟩⟩⟩
    · have hne' : inN D els i n ≠ 0 := hne
      rw [if_neg hne'] at next
      have nx := next τ2 ⟨hL2, hF1.trans hF2, fun j hj hj0 => ?_⟩
      · rw [show ((hwN D els i n + 1 : Nat) : Int) - 1 = (hwN D els i n : Int) - 1 + 1 by omega] at nx
        exact nx
      · by_cases hjn : j = n
        · rw [hjn]; omega
        · exact hz j (by omega) hj0
    · exact hq n τ2 (.inl ⟨n, rfl, by omega, hne, by omega⟩) hL2 (hF1.trans hF2)
    · have he' : inN D els i n = 0 := he
      rw [if_pos he'] at next
      exact next τ2 ⟨hL2, hF1.trans hF2, fun j hj hj0 => by
        by_cases hjn : j = n
        · rw [hjn] at hj0; exact absurd he' hj0
        · exact hz j (by omega) hj0⟩
  · rintro τ ⟨hL1, hF1, hz⟩
    exact B_X12_row_38 hL1 ⟨fun _ _ => hq (-1) τ (.inr ⟨rfl, fun j hj => hz j (by omega)⟩) hL1 hF1, fun h9 => absurd (by decide) h9⟩
theorem M_row {x1 x2 : Int} (h : MI KMd g c t σ D told els past B F W R) (hX : FX D told els) (hRB : ∀ i, i < 3 → inR (R i + 1))
    (h0 : bd1 D els x1 → ∀ τ, MI KMd g c t τ D told els past B F W (bmp R 0) → gI τ 172 0 = 1 → Q (.inl (some (vi 0))) τ)
    (h2 : ∀ i : Nat, x1 = i → i < rG D els → ∀ y, IsRw D els i x2 y → ∀ τ, MI KMd g c t τ D told els past B F W R → gI τ 172 0 = 0 → Q (.inl (some (vi y))) τ) : CC E mX12_row [vr 172, vi x1, vi x2] σ Q := by
  refine C_X12_row (B_X12_row_0 h.1 (fun τ1 e1 hL1 => ?_))
  obtain ⟨hI, q0⟩ := h.go KMd_fm e1
  have hn := hI.c16
  refine S_isClass hL1 hn.1 hn.2 (fun y y1 y0 => ⟨hL1, fun _ => ⟨fun hy _ => ?_, fun hy _ => ?_⟩⟩)
  · have hb := of_ne8 y0 hy
    obtain ⟨i, rfl⟩ : ∃ i : Nat, x1 = i := ⟨x1.toNat, by omega⟩
    refine S_bad0 hL1 q0 ⟨hL1, fun _ => ⟨fun _ _ => M_laysRows hI hX.1 hX.2.1 (fun τ hI2 _ hK2 z2 => ⟨hI2.1, fun _ => row_38 (hI2.mx hK2) hX (by omega) (fun y τ3 hy3 hL3 hF3 => ?_)⟩), fun h9 => absurd rfl h9⟩⟩
    obtain ⟨hI3, z3⟩ := hI2.aft hL3 hF3 (fun a j h9 => by omega)
    exact h2 i rfl (by omega) y hy3 τ3 hI3 ((z3.trans z2).trans q0)
  · have hb := of_eq8 y1 hy
    exact S_bad1 (r := 0) hL1 hI KMd_fm q0 (by decide) (by decide) (by decide) (hRB 0 (by omega)) (fun τ hIτ qτ => ⟨hIτ.1, fun _ => ⟨fun h9 => absurd h9 (by decide), fun _ _ => h0 (by omega) τ hIτ qτ⟩⟩)
end SC2
