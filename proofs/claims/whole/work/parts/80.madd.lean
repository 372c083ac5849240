/-! ===== the reference's add ===== -/
section S80
variable {E : Ev} {σ : Sg} {Q : NO → Sg → Prop} {g : Sg} {c t : Nat}
variable {K : Int → List (List Int) → Sg → Prop} {D : Int} {told els : List (List Int)} {past : List (List (List Int))} {B : List Int} {F : Int} {W R : Nat → Int}
theorem S_copiesO {r s : Nat} (hL : Lay LM g c t σ) (hr : r < 10) (hs : s < 10) (h : ∀ τ, Lay LM g c t τ → On (176 + s) σ τ → (∀ k, k < 34 → gI τ (176 + s) k = gI σ (176 + r) k) → Q (.inl none) τ) : CC E mX12_copies [vr 172, vi r, vi s] σ Q := by
  refine C_X12_copies (B_X12_copies_0 hL (fun _ => ?_))
  refine loopU (N := 34) (G := fun i τ => GG E mX12_copies 2 [some (vr 172), some (vi r), some (vi s), some (vi i)] [] τ 0 0 Q) (P := fun i τ => Lay LM g c t τ ∧ On (176 + s) σ τ ∧ (∀ k, k < i → gI τ (176 + s) k = gI σ (176 + r) k) ∧ ∀ k, i ≤ k → gI τ (176 + s) k = gI σ (176 + s) k) ?_ ?_ 0 σ (by omega) ⟨hL, On.refl _ _, fun k hk => absurd hk (by omega), fun _ _ => rfl⟩
  · rintro i τ hi ⟨hLτ, hF, hz, hy⟩ next
    refine B_X12_copies_2 hLτ ⟨fun h => absurd h (by omega), fun _ => ⟨by omega, by omega, by omega, fun τ6 e6 => ⟨⟨by omega, by omega⟩, fun hL6 => ?_⟩⟩⟩
    rw [show ((r : Nat) : Int).toNat = r by omega, show ((s : Nat) : Int).toNat = s by omega, show ((i : Nat) : Int).toNat = i by omega] at e6
    have q : gI τ (176 + r) i = gI σ (176 + r) i := by
      by_cases hrs : r = s
      · subst hrs; exact hy i (Nat.le_refl _)
      · exact hF.1 _ _ (by omega)
    rw [q] at e6
    subst e6
    refine next _ ⟨hL6, hF.sI _ _, fun k hk => ?_, fun k hk => ?_⟩
    · rw [gI_sI]
      by_cases hki : k = i
      · rw [if_pos ⟨rfl, hki⟩, hki]
      · rw [if_neg (fun h9 => hki h9.2)]; exact hz k (by omega)
    · rw [gI_sI, if_neg (by omega)]; exact hy k (by omega)
  · rintro τ ⟨hLτ, hF, hz, hy⟩
    exact B_X12_copies_2 hLτ ⟨fun _ _ => h τ hLτ hF hz, fun h9 => absurd (by omega) h9⟩
theorem S_nothingWhy (hL : Lay LM g c t σ) (h : ∀ τ, Lay LM g c t τ → Fr (fun a _ => a = 186) (fun _ => False) σ τ → (∀ i, i < 4 → gI τ 186 i = 0) → Q (.inl none) τ) : CC E mX12_nothingWhy [vr 172] σ Q := by
  refine C_X12_nothingWhy (B_X12_nothingWhy_0 hL (fun _ => S_stops hL (fun τ hLτ e => ⟨hLτ, fun _ _ => ?_⟩)))
  refine h τ hLτ (by rw [e]; exact ((((Fr.refl σ).sI (by omega)).sI (by omega)).sI (by omega)).sI (by omega)) (fun i hi => ?_)
  have : i = 0 ∨ i = 1 ∨ i = 2 ∨ i = 3 := by omega
  rcases this with rfl | rfl | rfl | rfl <;> (rw [e]; simp [gI_sI])
theorem and01 {a b : Int} (ha : a = 0 ∨ a = 1) (hb : b = 0 ∨ b = 1) : b_iandq a b = if a = 1 ∧ b = 1 then 1 else 0 := by
  rcases ha with rfl | rfl <;> rcases hb with rfl | rfl <;> decide
theorem M_add {x0 x1 x2 x3 x4 x5 x6 x7 : Int} (h : MI K g c t σ D told els past B F W R) (hK : KFM K) (hO : OKs D told els past) (hRB : ∀ i, i < 3 → inR (R i + 1)) (hgz : gz g ≤ gz σ)
    (h1 : ¬ isTL D [x0, x1, x2, x3, x4, x5, x6, x7] → ∀ τ, MI K g c t τ D told els past B F W0 (bmp R 1) → gI τ 172 0 = 1 → Q (.inl (some (vi 0))) τ)
    (h2 : isTL D [x0, x1, x2, x3, x4, x5, x6, x7] → 4 ≤ told.length → ∀ τ, MI K g c t τ D told els past B F W0 (bmp R 2) → gI τ 172 0 = 2 → Q (.inl (some (vi 0))) τ)
    (h3 : isTL D [x0, x1, x2, x3, x4, x5, x6, x7] → told.length < 4 → ∀ k n i u, clos D (told ++ [[x0, x1, x2, x3, x4, x5, x6, x7]]) = some (.inl (k, n, i, u)) → ∀ τ, MI K g c t τ D told els past B F (W4 k n i u) (bmp R 2) → gI τ 172 0 = 2 → Q (.inl (some (vi 0))) τ)
    (h4 : isTL D [x0, x1, x2, x3, x4, x5, x6, x7] → told.length < 4 → ∀ els', clos D (told ++ [[x0, x1, x2, x3, x4, x5, x6, x7]]) = some (.inr els') → ∀ τ, MI K g c t τ D (told ++ [[x0, x1, x2, x3, x4, x5, x6, x7]]) els' (keepP past told) B F W0 R → gI τ 172 0 = 0 → Q (.inl (some (vi els'.length))) τ) :
    CC E mX12_add [vr 172, vi x0, vi x1, vi x2, vi x3, vi x4, vi x5, vi x6, vi x7] σ Q := by
  generalize hv : [x0, x1, x2, x3, x4, x5, x6, x7] = v at *
  have hv8 : v.length = 8 := by rw [← hv]; rfl
  refine C_X12_add (B_X12_add_0 h.1 (fun τ1 e1 hL1 => ?_))
  subst e1
  have hI := h.th hK 0 hL1
  have q0 : gI (sI σ 172 0 0) 172 0 = 0 := by rw [gI_sI, if_pos ⟨rfl, rfl⟩]
  generalize sI σ 172 0 0 = τ1 at *
  refine S_nothingWhy hL1 (fun τ3 hL3 hF3 hW3 => ⟨hL3, by decide, by decide, fun b4 τ5 eb e5 => ?_⟩)
  have I3 : MI K g c t τ3 D told els past B F W0 R := hI.fr hK hL3 hF3 (fun a j h9 => .inr (.inl h9)) (fun _ h => h.elim) hW3 (hI.2.2.2.2.2.2.2.1.fr hF3 (fun j => by omega)) ((hF3.i (by omega) (by omega)).trans hI.2.2.2.2.2.1)
  have hz3 : 2968 ≤ gz τ3 := hL3.2.2.2.2.2.2.2.1
  have hg3 : gz g ≤ gz τ3 := hL3.2.2.2.2.2.2.2.2.1
  have sb : ∀ τ, gS τ = gS τ5 → gS τ b4 = (20, 8) := fun τ e => by rw [e, e5, eb]; exact if_pos rfl
  have hL5 : Lay LM g c t τ5 := hL3.nw9 e5
  have b16 : 16 ≤ b4 ∧ gz g ≤ b4 := by omega
  refine ⟨okB_of (sb τ5 rfl) b16.1 (by decide), b16, fun τ8 e8 => ⟨okB_of (sb τ8 (by rw [e8]; rfl)) b16.1 (by decide), fun τ10 e10 => ⟨okB_of (sb τ10 (by rw [e10, e8]; rfl)) b16.1 (by decide), fun τ12 e12 => ⟨okB_of (sb τ12 (by rw [e12, e10, e8]; rfl)) b16.1 (by decide), fun τ14 e14 => ⟨okB_of (sb τ14 (by rw [e14, e12, e10, e8]; rfl)) b16.1 (by decide), fun τ16 e16 => ⟨okB_of (sb τ16 (by rw [e16, e14, e12, e10, e8]; rfl)) b16.1 (by decide), fun τ18 e18 => ⟨okB_of (sb τ18 (by rw [e18, e16, e14, e12, e10, e8]; rfl)) b16.1 (by decide), fun τ20 e20 => ⟨okB_of (sb τ20 (by rw [e20, e18, e16, e14, e12, e10, e8]; rfl)) b16.1 (by decide), fun τ22 e22 hL22 => ?_⟩⟩⟩⟩⟩⟩⟩⟩
  have qI : ∀ b j, b < 2968 → gI τ22 b j = gI τ3 b j := fun b j hb => by
    rw [e22, e20, e18, e16, e14, e12, e10, e8]
    simp only [gI_sI]
    rw [if_neg (by omega), if_neg (by omega), if_neg (by omega), if_neg (by omega), if_neg (by omega), if_neg (by omega), if_neg (by omega), if_neg (by omega), e5]
    exact if_neg (by omega)
  have qR : ∀ b j, b < 2968 → gR τ22 b j = gR τ3 b j := fun b j hb => by
    rw [e22, e20, e18, e16, e14, e12, e10, e8, e5]
    exact if_neg (by omega)
  have hF22 : Fr (fun _ _ => False) (fun _ => False) τ3 τ22 := fun a ha k => ⟨fun _ => qI a k ha, fun _ => qR a k ha⟩
  have s22 : gS τ22 b4 = (20, 8) := sb τ22 (by rw [e22, e20, e18, e16, e14, e12, e10, e8]; rfl)
  have v22 : ∀ j, j < 8 → gI τ22 b4 j = gd v j := by
    intro j hj
    rw [← hv, e22, e20, e18, e16, e14, e12, e10, e8]
    have : j = 0 ∨ j = 1 ∨ j = 2 ∨ j = 3 ∨ j = 4 ∨ j = 5 ∨ j = 6 ∨ j = 7 := by omega
    rcases this with rfl | rfl | rfl | rfl | rfl | rfl | rfl | rfl <;> simp [gI_sI, gd]
  have I22 : MI K g c t τ22 D told els past B F W0 R := I3.scr hK hL22 hF22 (fun _ _ h => h.elim) (fun _ h => h.elim)
  have q22 : gI τ22 172 0 = 0 := (qI _ _ (by omega)).trans ((hF3.i (by omega) (by omega)).trans q0)
  clear e8 e10 e12 e14 e16 e18 e20 e22
  have hD : 2 ≤ D ∧ D ≤ 5 := ⟨I22.2.1.2.1, I22.2.1.2.2.1⟩
  refine S_copiesO (r := 0) (s := 1) hL22 (by omega) (by omega) (fun τ24 hL24 hO24 hz24 => ⟨hL24, fun _ => ?_⟩)
  have hF24 : Fr (fun a _ => a = 177) (fun _ => False) τ22 τ24 := Fr.ofOn hO24 (fun _ => rfl)
  have I24 : MI K g c t τ24 D told els past B F W0 R := I22.scr hK hL24 hF24 (fun a j h9 => by omega) (fun _ h => h.elim)
  have q24 : gI τ24 172 0 = 0 := (hF24.i (by omega) (by omega)).trans q22
  have s24 : gS τ24 b4 = (20, 8) := by rw [hO24.2.2.1]; exact s22
  have v24 : ∀ j, j < 8 → gI τ24 b4 j = gd v j := fun j hj => (hO24.1 _ _ (by omega)).trans (v22 j hj)
  have S24 : ST τ24 1 D told := I22.2.1.cp (s := 1) hz24
  clear hF22 qI qR s22 v22 hz24
  have thr : ∀ (w : Int) (r : Nat) (ρ : Sg), gI ρ 172 0 = w → Q (.inl (some (vi 0))) ρ → Lay LM g c t ρ → GG E mX12_add 248 [none, none, none, none, none, none, none, none, none, none, none, none, none, none] [] ρ (1 - 1) (8 - 8) Q := fun w r ρ _ hq hLρ => B_X12_add_248 hLρ (fun _ => hq)
  have refuse1 : ¬ isTL D v → CC E mX12_bad [vr 172, vi 1, vi 1, vi 1] τ24 (KI (fun r τ => Lay LM g c t τ ∧ (inR r → ((r ≠ 0 → (Lay LM g c t τ → GG E mX12_add 248 [none, none, none, none, none, none, none, none, none, none, none, none, none, none] [] τ (1 - 1) (8 - 8) Q)) ∧ (r = 0 → (Lay LM g c t τ → GG E mX12_add 222 [some (vr 172), none, none, none, none, none, none, none, none, some (vr b4), none, none, none, none] [] τ (1 - 1) (8 - 8) Q))))) (fun _ _ => False)) := fun hn =>
    S_bad1 (r := 1) hL24 I24 hK q24 (by decide) (by decide) (by decide) (hRB 1 (by omega)) (fun τ hIτ qτ => ⟨hIτ.1, fun _ => ⟨fun _ _ => thr 1 1 τ qτ (h1 hn τ hIτ qτ) hIτ.1, fun h9 => absurd h9 (by decide)⟩⟩)
  have go222 : isTL D v → GG E mX12_add 222 [some (vr 172), none, none, none, none, none, none, none, none, some (vr b4), none, none, none, none] [] τ24 (1 - 1) (8 - 8) Q := by
    intro hy
    have h44 := S24.2.2.2.2.1
    refine B_X12_add_222 hL24 ?_
    rw [show gI τ24 176 1 = (told.length : Int) from I24.2.1.2.2.2.1]
    refine ⟨fun hne _ => ?_, fun he _ => ?_⟩
    · have hlt : told.length < 4 := by omega
      refine S_bad0 hL24 q24 ⟨hL24, fun _ => ⟨fun _ _ => ?_, fun h9 => absurd rfl h9⟩⟩
      have hl5 : (told ++ [v]).length = told.length + 1 := by simp
      refine loopU (N := 8) (G := fun i τ => GG E mX12_add 253 [some (vr 172), none, none, none, none, none, none, none, none, some (vr b4), none, none, none, some (vi i)] [] τ (1 - 1) (8 - 8) Q)
        (P := fun i τ => Lay LM g c t τ ∧ On 177 τ24 τ ∧ (∀ k, k < 2 + 8 * told.length → gI τ 177 k = gI τ24 177 k) ∧ ∀ j, j < i → gI τ 177 (2 + 8 * told.length + j) = gd v j) ?_ ?_ 0 τ24 (by omega) ⟨hL24, On.refl _ _, fun _ _ => rfl, fun j hj => absurd hj (by omega)⟩
      · rintro i τ hi ⟨hLτ, hOτ, ha, hb⟩ next
        have q1 : gI τ 177 1 = (told.length : Int) := (ha 1 (by omega)).trans S24.2.2.2.1
        have sτ : gS τ b4 = (20, 8) := by rw [hOτ.2.2.1]; exact s24
        refine B_X12_add_253 hLτ ?_
        rw [q1, show ((i : Nat) : Int).toNat = i by omega, (hOτ.1 b4 i (by omega)).trans (v24 i hi)]
        refine ⟨fun h => absurd h (by omega), fun _ => ⟨⟨by omega, by omega⟩, ⟨by omega, by omega⟩, ⟨by omega, by omega⟩, okA_of sτ b16.1 ⟨by omega, by omega⟩, ⟨by omega, by omega⟩, fun τ26 e26 => ⟨⟨by omega, by omega⟩, fun hL26 => ?_⟩⟩⟩
        rw [show ((2 : Int) + 8 * (told.length : Int) + (i : Int)).toNat = 2 + 8 * told.length + i by omega] at e26
        subst e26
        refine next _ ⟨hL26, hOτ.sI _ _, fun k hk => ?_, fun j hj => ?_⟩
        · rw [gI_sI, if_neg (by omega)]; exact ha k hk
        · rw [gI_sI]
          by_cases hji : j = i
          · rw [if_pos ⟨rfl, by omega⟩, hji]
          · rw [if_neg (by omega)]; exact hb j (by omega)
      · rintro τ ⟨hLτ, hOτ, ha, hb⟩
        have q1 : gI τ 177 1 = (told.length : Int) := (ha 1 (by omega)).trans S24.2.2.2.1
        refine B_X12_add_253 hLτ ?_
        rw [q1]
        refine ⟨fun _ => ⟨⟨by omega, by omega⟩, fun τ2 e2 hL2 => ?_⟩, fun h9 => absurd (by omega) h9⟩
        have hF2 : Fr (fun a _ => a = 177) (fun _ => False) τ24 τ2 := by rw [e2]; exact (Fr.ofOn hOτ (fun _ => rfl)).sI rfl
        have I2 : MI K g c t τ2 D told els past B F W0 R := I24.scr hK hL2 hF2 (fun a j h9 => by omega) (fun _ h => h.elim)
        have q2 : gI τ2 172 0 = 0 := (hF2.i (by omega) (by omega)).trans q24
        have S2 : ST τ2 1 D (told ++ [v]) := by
          refine ⟨?_, hD.1, hD.2, ?_, by omega, fun u hu => ?_⟩
          · show gI τ2 177 0 = D
            rw [e2, gI_sI, if_neg (by omega)]; exact (ha 0 (by omega)).trans S24.1
          · show gI τ2 177 1 = _
            rw [e2, gI_sI, if_pos ⟨rfl, rfl⟩, hl5]; rfl
          · by_cases hul : u < told.length
            · rw [getD_app9 hul]
              refine ⟨(S24.2.2.2.2.2 u hul).1, fun j hj => ?_⟩
              show gI τ2 177 _ = _
              rw [e2, gI_sI, if_neg (by omega)]; exact (ha _ (by omega)).trans ((S24.2.2.2.2.2 u hul).2 j hj)
            · have : u = told.length := by omega
              subst this
              rw [getD_last9]
              refine ⟨hy, fun j hj => ?_⟩
              show gI τ2 177 _ = _
              rw [e2, gI_sI, if_neg (by omega)]; exact hb j hj
        have htd : tolds D (told ++ [v]) := ⟨by omega, fun u hu => (S2.2.2.2.2.2 u hu).1⟩
        obtain ⟨res, hres⟩ := clos_ends (D := D) (told := told ++ [v]) htd.1
        refine S_closes (r := 1) hL2 (by omega) S2 hres ?_
        match res, hres with
        | .inr els', hres =>
          intro τ6 hL6 hF6 hR6 hN6
          have hCl := clos_Clo htd.2 hres
          have I6 : MI K g c t τ6 D told els past B F W0 R := I2.scr hK hL6 hF6 (fun a j h9 => by omega) (fun _ h => h.elim)
          have q6 : gI τ6 172 0 = 0 := (hF6.i (by omega) (by omega)).trans q2
          have S6 := S2.fr hF6 (by omega) (fun j => by omega)
          refine ⟨hL6, fun _ => ⟨fun _ _ => ?_, fun h9 => absurd h9 (by decide)⟩⟩
          refine S_bad0 hL6 q6 ⟨hL6, fun _ => ⟨fun _ _ => ?_, fun h9 => absurd rfl h9⟩⟩
          refine S_remembers hL6 I6.2.2.2.1 I6.2.1 (fun τ7 hL7 hF7 hP7 => ⟨hL7, fun _ => ?_⟩)
          have S7 := S6.fr hF7 (by omega) (fun j => by omega)
          refine S_copies (r := 1) (s := 0) hL7 (by omega) (by omega) (fun τ8 hL8 hF8 hz8 => ⟨hL8, fun _ => ?_⟩)
          have S8 : ST τ8 0 D (told ++ [v]) := S7.cp (s := 0) hz8
          have R8 := (hR6.fr hF7 (by omega) (fun a j h1 h2 => by omega)).fr hF8 (by omega) (fun a j h1 h2 => by omega)
          have N8 : gI τ8 172 12 = (els'.length : Int) := (hF8.i (by omega) (by omega)).trans ((hF7.i (by omega) (by omega)).trans hN6)
          refine S_keeps hL8 hO.1 hCl S8 R8 N8 (fun τ9 hL9 hF9 hM9 h27 => ⟨hL9, fun _ => ?_⟩)
          have hF69 : Fr (fun a k => frMb a k ∨ a = 176 ∨ frK a k) (fun _ => False) τ6 τ9 := ((hF7.mono (fun a j h9 => .inl h9) (fun _ h => h)).trans (hF8.mono (fun a j h9 => .inr (.inl h9)) (fun _ h => h))).trans (hF9.mono (fun a j h9 => .inr (.inr h9)) (fun _ h => h))
          have P9 : MPast τ9 D (keepP past told) := (hP7.fr hF8 ⟨by omega, fun a j h1 h2 => by omega⟩).fr hF9 ⟨by omega, fun a j h1 h2 => by omega⟩
          have I9 : MI K g c t τ9 D (told ++ [v]) els' (keepP past told) B F W0 R := MI.anew hL9 (S8.fr hF9 (by omega) (fun j => by omega)) hM9 P9 (I6.2.2.2.2.1.fr hF69 ⟨by omega, fun j => by omega⟩) ((hF69.i (by omega) (by omega)).trans I6.2.2.2.2.2.1) (fun i hi => (hF69.i (by omega) (by omega)).trans (I6.2.2.2.2.2.2.1 i hi)) (I6.2.2.2.2.2.2.2.1.fr hF69 (fun j => by omega)) h27 (I6.j.fr hF69 ⟨id, id⟩)
          obtain ⟨d, p, s, m1, m2, m3, m5⟩ := hM9
          rw [m5.2.1.1]
          exact h4 hy hlt els' hres τ9 I9 ((hF69.i (by omega) (by omega)).trans q6)
        | .inl (k, n, i, u), hres =>
          intro τ6 hL6 hF6 p0 p1 p2 p3
          have I6 : MI K g c t τ6 D told els past B F (W4 k n i u) R := I2.fr hK hL6 hF6 (fun a j h9 => by omega) (fun _ h => h.elim) (fun j hj => by
            have : j = 0 ∨ j = 1 ∨ j = 2 ∨ j = 3 := by omega
            rcases this with rfl | rfl | rfl | rfl
            · rw [p0]; rfl
            · rw [p1]; rfl
            · rw [p2]; rfl
            · rw [p3]; rfl) (I2.2.2.2.2.2.2.2.1.fr hF6 (fun j => by omega)) ((hF6.i (by omega) (by omega)).trans I2.2.2.2.2.2.1)
          have q6 : gI τ6 172 0 = 0 := (hF6.i (by omega) (by omega)).trans q2
          refine ⟨hL6, fun _ => ⟨fun h9 => absurd rfl h9, fun _ _ => ?_⟩⟩
          exact S_bad1 (r := 2) hL6 I6 hK q6 (by decide) (by decide) (by decide) (hRB 2 (by omega)) (fun τ hIτ qτ => ⟨hIτ.1, fun _ => ⟨fun h9 => absurd h9 (by decide), fun _ _ => h3 hy hlt k n i u hres τ hIτ qτ⟩⟩)
    · exact S_bad1 (r := 2) hL24 I24 hK q24 (by decide) (by decide) (by decide) (hRB 2 (by omega)) (fun τ hIτ qτ => ⟨hIτ.1, fun _ => ⟨fun h9 => absurd h9 (by decide), fun _ _ => thr 2 2 τ qτ (h2 hy (by omega) τ hIτ qτ) hIτ.1⟩⟩)
  -- all in their bounds?
  refine loopU (N := 8) (G := fun i τ => ∀ x : Int, (x = 0 ∨ x = 1) → ((∀ j, j < i → -4 ≤ gd v j ∧ gd v j ≤ 4) ↔ x = 1) → GG E mX12_add 72 [some (vr 172), none, none, none, none, none, none, none, none, some (vr b4), some (vi x), some (vi 0), some (vi 0), some (vi i)] [] τ (1 - 1) (8 - 8) Q)
    (P := fun i τ => τ = τ24) ?_ ?_ 0 τ24 (by omega) rfl 1 (.inr rfl) ⟨fun _ => rfl, fun _ j hj => absurd hj (by omega)⟩
  · rintro i τ hi rfl next x hx hxi
    refine B_X12_add_72 hL24 ⟨fun h => absurd h (by omega), fun _ => ⟨okA_of s24 b16.1 ⟨by omega, by omega⟩, fun _ => ?_⟩⟩
    rw [show ((i : Nat) : Int).toNat = i by omega, v24 i hi]
    refine S_in (fun r r1 r0 => ⟨hL24, fun _ => ⟨⟨by omega, by omega⟩, fun _ => ?_⟩⟩)
    have hr01 : r = 0 ∨ r = 1 := by
      by_cases h9 : -4 ≤ gd v i ∧ gd v i ≤ 4
      · exact .inr (r1 h9)
      · exact .inl (r0 h9)
    rw [and01 hx hr01]
    refine next τ rfl _ (by split <;> simp) ⟨fun hall => ?_, fun he => ?_⟩
    · rw [if_pos ⟨hxi.mp (fun j hj => hall j (by omega)), r1 (hall i (by omega))⟩]
    · by_cases hb : x = 1 ∧ r = 1
      · intro j hj
        by_cases hji : j = i
        · rw [hji]
          by_cases h9 : -4 ≤ gd v i ∧ gd v i ≤ 4
          · exact h9
          · have := r0 h9; omega
        · exact hxi.mpr hb.1 j (by omega)
      · rw [if_neg hb] at he; exact absurd he (by decide)
  · rintro τ rfl x hx hxi
    refine B_X12_add_72 hL24 ⟨fun _ _ => ?_, fun h9 => absurd (by omega) h9⟩
    by_cases hx1 : x = 1
    · subst hx1
      have hin := hxi.mpr rfl
      have hf : ∀ j, j < 8 → (gd v j).natAbs ≤ 4 := fun j hj => by have := hin j hj; omega
      have hD5 : D.natAbs ≤ 5 := by omega
      refine loopU (N := 4) (G := fun i τ => GG E mX12_add 104 [some (vr 172), none, none, none, none, none, none, none, none, some (vr b4), some (vi 1), some (vi (sqF D (gd v) i)), some (vi (2 * mxF (gd v) i)), some (vi i)] [] τ (1 - 1) (8 - 8) Q) (P := fun i ρ => ρ = τ) ?_ ?_ 0 τ (by omega) rfl
      · rintro i ρ hi rfl next
        obtain ⟨b1, b2⟩ := sqF_ab hD5 hf i (by omega)
        obtain ⟨b3, b4'⟩ := sqF_ab hD5 hf (i + 1) (by omega)
        have g1 := hf (2 * i) (by omega)
        have g2 := hf (2 * i + 1) (by omega)
        have a1 := m4 g1 g1
        have a2 := m4 hD5 g2
        have a3 := m4 a2 g2
        have a4 := m4 g1 g2
        have e3 : 2 * gd v (2 * i) * gd v (2 * i + 1) = 2 * (gd v (2 * i) * gd v (2 * i + 1)) := Int.mul_assoc _ _ _
        refine B_X12_add_104 hL24 ⟨fun h => absurd h (by omega), fun _ => ⟨fun h9 => absurd h9 (by decide), fun _ => ?_⟩⟩
        rw [show ((2 : Int) * (i : Int)).toNat = 2 * i by omega, v24 _ (show 2 * i < 8 by omega)]
        refine ⟨⟨by omega, by omega⟩, okA_of s24 b16.1 ⟨by omega, by omega⟩, ⟨by omega, by omega⟩, fun v20 e20 _ => S_root (r := 0) hL24 (by omega) ⟨hL24, fun _ => ?_⟩⟩
        rw [I24.2.1.1, show ((2 : Int) * (i : Int) + 1).toNat = 2 * i + 1 by omega, v24 _ (show 2 * i + 1 < 8 by omega), v24 _ (show 2 * i < 8 by omega)]
        subst e20
        refine ⟨⟨by omega, by omega⟩, okA_of s24 b16.1 ⟨by omega, by omega⟩, ⟨by omega, by omega⟩, ⟨by omega, by omega⟩, fun v27 e27 => ?_⟩
        subst e27
        refine ⟨⟨by omega, by omega⟩, ⟨by omega, by omega⟩, okA_of s24 b16.1 ⟨by omega, by omega⟩, ⟨by omega, by omega⟩, by rw [e3]; exact ⟨by omega, by omega⟩, fun v33 e33 => ?_⟩
        subst e33
        rw [e3]
        refine ⟨⟨by omega, by omega⟩, ⟨by omega, by omega⟩, fun _ => ?_⟩
        have K9 := next ρ rfl
        rw [show 2 * mxF (gd v) (i + 1) = 2 * mxF (gd v) i + 2 * (gd v (2 * i) * gd v (2 * i + 1)) by show 2 * (mxF (gd v) i + _) = _; omega] at K9
        exact K9
      · rintro ρ rfl
        have e4 := sqF_4 D (gd v)
        refine B_X12_add_104 hL24 ⟨fun _ => ⟨fun h9 => absurd h9 (by decide), fun _ => ⟨fun hne _ => ?_, fun he => ⟨fun h0 _ => ?_, fun h0 _ => ?_⟩⟩⟩, fun h9 => absurd (by omega) h9⟩
        · exact refuse1 (fun hy => hne (e4.mpr hy.2).1)
        · have hy : isTL D v := ⟨hv8, e4.mp ⟨he, by omega⟩⟩
          exact S_bad0 hL24 q24 ⟨hL24, fun _ => ⟨fun h9 => absurd rfl h9, fun _ _ => go222 hy⟩⟩
        · exact refuse1 (fun hy => h0 (by have := (e4.mpr hy.2).2; omega))
    · have hx0 : x = 0 := by omega
      subst hx0
      refine B_X12_add_104 hL24 ⟨fun h9 => absurd h9 (by decide), fun _ => ⟨fun _ => ⟨fun _ _ => refuse1 (fun hy => ?_), fun h9 => absurd rfl h9⟩, fun h9 => absurd rfl h9⟩⟩
      exact hx1 (hxi.mp (fun j hj => hy.2.bd (by omega) j hj))
end S80
