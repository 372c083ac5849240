/-! ===== the reference: feed, fault, why, status, drop, undo ===== -/
abbrev frA : Nat → Nat → Prop := fun a k => frL a k ∨ frK a k
section S79
variable {E : Ev} {σ : Sg} {Q : NO → Sg → Prop} {g : Sg} {c t : Nat}
variable {K : Int → List (List Int) → Sg → Prop} {D : Int} {told els : List (List Int)} {past : List (List (List Int))} {B : List Int} {F : Int} {W R : Nat → Int}
theorem S_keeps (hL : Lay LM g c t σ) (hD : D = 2 ∨ D = 3 ∨ D = 5) (hC : Clo D told els) (hS : ST σ 0 D told) (hR : RWs σ 188 D els) (hN : gI σ 172 12 = (els.length : Int))
    (h : ∀ τ, Lay LM g c t τ → Fr frK (fun _ => False) σ τ → MAp τ D els → gI τ 172 27 = 0 → Q (.inl none) τ) : CC E mX12_keepsGroup [vr 172] σ Q := by
  have hB := hC.odB hD
  obtain ⟨p, s, hP, hp⟩ := PR_ex (N := els.length) (d := D.toNat) hC.1 (expo_dvd hB els.length (Nat.le_refl _)) (by omega)
  refine S_keepsGroup hL hC hB hS hR hN (d := D.toNat) (by omega) hP hp (fun τ hLτ hF hM h27 => h τ hLτ hF ⟨D.toNat, p, s, by omega, hP, hp, hM⟩ h27)
theorem S_makesAnew (hL : Lay LM g c t σ) (hD : D = 2 ∨ D = 3 ∨ D = 5) (hC : Clo D told els) (hc : clos D told = some (.inr els)) (hS : ST σ 0 D told)
    (h : ∀ τ, Lay LM g c t τ → Fr frA (fun _ => False) σ τ → MAp τ D els → gI τ 172 27 = 0 → Q (.inl none) τ) : CC E mX12_makesAnew [vr 172] σ Q := by
  refine C_X12_makesAnew (B_X12_makesAnew_0 hL (fun _ => S_closes (r := 0) hL (by omega) hS hc (fun τ1 hL1 hF1 hR1 hN1 => ⟨hL1, fun _ _ => ?_⟩)))
  refine S_keeps hL1 hD hC (hS.fr hF1 (by omega) (fun j => by omega)) hR1 hN1 (fun τ2 hL2 hF2 hM2 h27 => ⟨hL2, fun _ => h τ2 hL2 ((hF1.mono (fun a j h9 => .inl h9) (fun _ h => h)).trans (hF2.mono (fun a j h9 => .inr h9) (fun _ h => h))) hM2 h27⟩)
theorem M_fault (h : MI K g c t σ D told els past B F W R) (hK : KFM K) (hq : ∀ τ, MI K g c t τ D told els past B F W R → gI τ 172 0 = 0 → Q (.inl (some (vi F))) τ) : CC E mX12_fault [vr 172] σ Q :=
  C_X12_fault (B_X12_fault_0 h.1 (fun τ1 e1 hL1 => by
    subst e1
    have hI := h.th hK 0 hL1
    rw [hI.2.2.2.2.2.1]
    exact hq _ hI (by rw [gI_sI, if_pos ⟨rfl, rfl⟩])))
theorem M_why {x : Int} (h : MI K g c t σ D told els past B F W R) (hK : KFM K) (hq : ∀ τ, MI K g c t τ D told els past B F W R → gI τ 172 0 = 0 → Q (.inl (some (vi (if 0 ≤ x ∧ x < 4 then W x.toNat else -1)))) τ) : CC E mX12_why [vr 172, vi x] σ Q := by
  refine C_X12_why (B_X12_why_0 h.1 (fun τ1 e1 hL1 => ?_))
  subst e1
  have hI := h.th hK 0 hL1
  have h0 : gI (sI σ 172 0 0) 172 0 = 0 := by rw [gI_sI, if_pos ⟨rfl, rfl⟩]
  refine S_in (fun r r1 r0 => ⟨hL1, fun _ => ⟨fun h9 _ => ?_, fun h9 => ?_⟩⟩)
  · have hn : ¬ (0 ≤ x ∧ x < 4) := fun h8 => by have := r1 ⟨h8.1, by omega⟩; omega
    have := hq _ hI h0
    rw [if_neg hn] at this
    exact this
  · have hy : 0 ≤ x ∧ x ≤ 3 := by
      by_cases h8 : 0 ≤ x ∧ x ≤ 3
      · exact h8
      · exact absurd (r0 h8) h9
    have := hq _ hI h0
    rw [if_pos ⟨hy.1, by omega⟩, ← hI.2.2.2.2.2.2.1 x.toNat (by omega)] at this
    exact ⟨⟨by omega, by omega⟩, fun _ => this⟩
theorem M_status {x : Int} (h : MI K g c t σ D told els past B F W R) (hK : KFM K) (hq : ∀ τ, MI K g c t τ D told els past B F W R → gI τ 172 0 = 0 → Q (.inl (some (vi (if 0 ≤ x ∧ x < 3 then R x.toNat else -1)))) τ) : CC E mX12_status [vr 172, vi x] σ Q := by
  refine C_X12_status (B_X12_status_0 h.1 (fun τ1 e1 hL1 => ?_))
  subst e1
  have hI := h.th hK 0 hL1
  have h0 : gI (sI σ 172 0 0) 172 0 = 0 := by rw [gI_sI, if_pos ⟨rfl, rfl⟩]
  refine S_in (fun r r1 r0 => ⟨hL1, fun _ => ⟨fun h9 _ => ?_, fun h9 => ?_⟩⟩)
  · have hn : ¬ (0 ≤ x ∧ x < 3) := fun h8 => by have := r1 ⟨h8.1, by omega⟩; omega
    have := hq _ hI h0
    rw [if_neg hn] at this
    exact this
  · have hy : 0 ≤ x ∧ x ≤ 2 := by
      by_cases h8 : 0 ≤ x ∧ x ≤ 2
      · exact h8
      · exact absurd (r0 h8) h9
    have := hq _ hI h0
    rw [if_pos ⟨hy.1, by omega⟩, ← hI.2.2.2.2.2.2.2.1 x.toNat (by omega)] at this
    exact ⟨⟨by omega, by omega⟩, fun _ => this⟩
/-- the group anew -/
theorem MI.anew {τ : Sg} {told' els' : List (List Int)} {past' : List (List (List Int))} (hL : Lay LM g c t τ) (hS : ST τ 0 D told') (hM : MAp τ D els') (hP : MPast τ D past') (hB : MTape τ B) (hF : gI τ 172 5 = F) (hW : ∀ i, i < 4 → gI τ 186 i = W i) (hR : RfM τ R) (h27 : gI τ 172 27 = 0) (hJ : JM τ) : MI K g c t τ D told' els' past' B F W R :=
  ⟨hL, hS, hM, hP, hB, hF, hW, hR, ⟨hJ, .inl h27⟩⟩
theorem M_undo (h : MI K g c t σ D told els past B F W R) (hK : KFM K) (hO : OKs D told els past)
    (h0 : past = [] → ∀ τ, MI K g c t τ D told els past B F W R → gI τ 172 0 = 0 → Q (.inl (some (vi (-1)))) τ)
    (h1 : 0 < past.length → ∀ els', OKs D (past.getD (past.length - 1) []) els' past.dropLast → ∀ τ, MI K g c t τ D (past.getD (past.length - 1) []) els' past.dropLast B F W R → gI τ 172 0 = 0 → Q (.inl (some (vi past.dropLast.length))) τ) :
    CC E mX12_undo [vr 172] σ Q := by
  refine C_X12_undo (B_X12_undo_0 h.1 (fun τ1 e1 => ?_))
  have hL1 : Lay LM g c t τ1 := h.1.wI e1 (by decide) (.inl (by decide))
  subst e1
  have hI := h.th hK 0 hL1
  have q0 : gI (sI σ 172 0 0) 172 0 = 0 := by rw [gI_sI, if_pos ⟨rfl, rfl⟩]
  generalize sI σ 172 0 0 = τ1 at *
  have hP : MPast τ1 D past := hI.2.2.2.1
  rw [hP.1]
  have hp8 := hP.2.1
  refine ⟨fun hne => ⟨⟨by omega, by omega⟩, fun τ3 e3 => ?_⟩, fun he _ => h0 (List.eq_nil_of_length_eq_zero (by omega)) _ hI q0⟩
  have hpos : 0 < past.length := by omega
  obtain ⟨els', hO'⟩ := hO.undo hpos
  have hdl : past.dropLast.length = past.length - 1 := List.length_dropLast
  have q3 : gI τ3 172 10 = ((past.length - 1 : Nat) : Int) := by rw [e3, gI_sI, if_pos ⟨rfl, rfl⟩]; omega
  have hF3 : Fr (fun a k => a = 172 ∧ k = 10) (fun _ => False) τ1 τ3 := by rw [e3]; exact Fr_of1 ⟨rfl, rfl⟩
  rw [q3]
  refine ⟨⟨by omega, by omega⟩, fun hL3 => ?_⟩
  rw [show (2 : Int) + ((past.length - 1 : Nat) : Int) = ((2 + (past.length - 1) : Nat) : Int) by omega]
  refine S_copies (s := 0) hL3 (by omega) (by omega) (fun τ6 hL6 hF6 hz6 => ⟨hL6, fun _ => ?_⟩)
  have hS6 : ST τ6 0 D (past.getD (past.length - 1) []) := ((hP.2.2 (past.length - 1) (by omega)).fr hF3 (by omega) (fun j => by omega)).cp hz6
  refine S_makesAnew hL6 hO.1 hO'.clo hO'.2.2.1 hS6 (fun τ8 hL8 hF8 hM8 h27 => ⟨hL8, fun _ => ?_⟩)
  have hF36 : Fr (fun a k => (a = 172 ∧ k = 10) ∨ a = 176) (fun _ => False) τ1 τ6 := (hF3.mono (fun a j h9 => .inl h9) (fun _ h => h)).trans (hF6.mono (fun a j h9 => .inr h9) (fun _ h => h))
  have hF38 : Fr (fun a k => ((a = 172 ∧ k = 10) ∨ a = 176) ∨ frA a k) (fun _ => False) τ1 τ8 := (hF36.mono (fun a j h9 => .inl h9) (fun _ h => h)).trans (hF8.mono (fun a j h9 => .inr h9) (fun _ h => h))
  have q10 : gI τ8 172 10 = ((past.length - 1 : Nat) : Int) := (hF8.i (by omega) (by omega)).trans ((hF6.i (by omega) (by omega)).trans q3)
  have hP8 : MPast τ8 D past.dropLast := ⟨by rw [q10, hdl], by omega, fun i hi => by
    rw [hdl] at hi
    have : past.dropLast.getD i [] = past.getD i [] := by
      rw [List.getD_eq_getElem?_getD, List.getD_eq_getElem?_getD, List.getElem?_dropLast, if_pos hi]
    rw [this]
    exact (hP.2.2 i (by omega)).fr hF38 (by omega) (fun j => by omega)⟩
  have I8 : MI K g c t τ8 D (past.getD (past.length - 1) []) els' past.dropLast B F W R := MI.anew hL8 (hS6.fr hF8 (by omega) (fun j => by omega)) hM8 hP8 (hI.2.2.2.2.1.fr hF38 ⟨by omega, fun j => by omega⟩) ((hF38.i (by omega) (by omega)).trans hI.2.2.2.2.2.1) (fun i hi => (hF38.i (by omega) (by omega)).trans (hI.2.2.2.2.2.2.1 i hi)) (hI.2.2.2.2.2.2.2.1.fr hF38 (fun j => by omega)) h27 (hI.j.fr hF38 ⟨id, id⟩)
  rw [hP8.1]
  exact h1 hpos els' hO' τ8 I8 ((hF38.i (by omega) (by omega)).trans q0)
theorem M_drop {k : Int} (h : MI K g c t σ D told els past B F W R) (hK : KFM K) (hO : OKs D told els past) (hRB : ∀ i, i < 3 → inR (R i + 1))
    (h0 : (k < 0 ∨ (told.length : Int) ≤ k) → ∀ τ, MI K g c t τ D told els past B F W (bmp R 0) → gI τ 172 0 = 1 → Q (.inl (some (vi 0))) τ)
    (h1 : ∀ k' : Nat, k = k' → k' < told.length → ∀ els', clos D (told.eraseIdx k') = some (.inr els') → ∀ τ, MI K g c t τ D (told.eraseIdx k') els' (keepP past told) B F W R → gI τ 172 0 = 0 → Q (.inl (some (vi els'.length))) τ) :
    CC E mX12_drop [vr 172, vi k] σ Q := by
  refine C_X12_drop (B_X12_drop_0 h.1 (fun τ1 e1 => ?_))
  have hL1 : Lay LM g c t τ1 := h.1.wI e1 (by decide) (.inl (by decide))
  subst e1
  have hI := h.th hK 0 hL1
  have q0 : gI (sI σ 172 0 0) 172 0 = 0 := by rw [gI_sI, if_pos ⟨rfl, rfl⟩]
  generalize sI σ 172 0 0 = τ1 at *
  have hS : ST τ1 0 D told := hI.2.1
  have h4 := hS.2.2.2.2.1
  rw [hS.2.2.2.1]
  refine ⟨⟨by omega, by omega⟩, fun _ => S_in (fun r r1 r0 => ⟨hL1, fun _ => ⟨fun h9 _ => ?_, fun h9 _ => ?_⟩⟩)⟩
  · have hy : 0 ≤ k ∧ k ≤ (told.length : Int) - 1 := by
      by_cases h8 : 0 ≤ k ∧ k ≤ (told.length : Int) - 1
      · exact h8
      · exact absurd (r0 h8) h9
    obtain ⟨k', rfl⟩ : ∃ k' : Nat, k = k' := ⟨k.toNat, by omega⟩
    have hk' : k' < told.length := by omega
    obtain ⟨htd, els', hres⟩ := hO.drop hk'
    have hCl := clos_Clo htd.2 hres
    have hel := List.length_eraseIdx_of_lt hk'
    refine S_bad0 hL1 q0 ⟨hL1, fun _ => ⟨fun _ _ => ?_, fun h9 => absurd rfl h9⟩⟩
    refine S_remembers hL1 hI.2.2.2.1 hS (fun τ3 hL3 hF3 hP3 => ⟨hL3, ⟨by omega, by omega⟩, ⟨by omega, by omega⟩, fun _ => ?_⟩)
    have hS3 := hS.fr hF3 (by omega) (fun j => by omega)
    rw [show (2 : Int) + 8 * (k' : Int) = ((2 + 8 * k' : Nat) : Int) by omega]
    refine loopU (N := 2 + 8 * told.length - 8) (G := fun i τ => GG E mX12_drop 50 [some (vr 172), none, some (vi i)] [] τ 0 0 Q)
      (P := fun i τ => 2 + 8 * k' ≤ i ∧ Lay LM g c t τ ∧ Fr (fun a k => a = 176 ∧ 2 ≤ k) (fun _ => False) τ3 τ ∧ (∀ j, 2 ≤ j → j < 2 + 8 * k' → gI τ 176 j = gI τ3 176 j) ∧ (∀ j, 2 + 8 * k' ≤ j → j < i → gI τ 176 j = gI τ3 176 (j + 8)) ∧ ∀ j, i ≤ j → gI τ 176 j = gI τ3 176 j) ?_ ?_ (2 + 8 * k') τ3 (by omega) ⟨Nat.le_refl _, hL3, Fr.refl _, fun _ _ _ => rfl, fun j h1 h2 => absurd h1 (by omega), fun _ _ => rfl⟩
    · rintro i τ hi ⟨hi1, hLτ, hF, za, zb, zc⟩ next
      have q1 : gI τ 176 1 = (told.length : Int) := (hF.i (by omega) (by omega)).trans hS3.2.2.2.1
      refine B_X12_drop_50 hLτ ?_
      rw [q1]
      refine ⟨⟨by omega, by omega⟩, ⟨by omega, by omega⟩, ⟨by omega, by omega⟩, fun h => absurd h (by omega), fun _ => ⟨⟨by omega, by omega⟩, ⟨by omega, by omega⟩, fun τ10 e10 => ⟨⟨by omega, by omega⟩, fun hL10 => ?_⟩⟩⟩
      rw [show ((i : Nat) : Int).toNat = i by omega, show ((i : Int) + 8).toNat = i + 8 by omega, zc (i + 8) (by omega)] at e10
      subst e10
      refine next _ ⟨by omega, hL10, hF.sI (by omega), fun j h1 h2 => by rw [gI_sI, if_neg (by omega)]; exact za j h1 h2, fun j h1 h2 => ?_, fun j h1 => by rw [gI_sI, if_neg (by omega)]; exact zc j (by omega)⟩
      rw [gI_sI]
      by_cases hji : j = i
      · rw [if_pos ⟨rfl, hji⟩, hji]
      · rw [if_neg (fun h9 => hji h9.2)]; exact zb j h1 (by omega)
    · rintro τ ⟨hi1, hLτ, hF, za, zb, zc⟩
      have q1 : gI τ 176 1 = (told.length : Int) := (hF.i (by omega) (by omega)).trans hS3.2.2.2.1
      refine B_X12_drop_50 hLτ ?_
      rw [q1]
      refine ⟨⟨by omega, by omega⟩, ⟨by omega, by omega⟩, ⟨by omega, by omega⟩, fun _ => ⟨⟨by omega, by omega⟩, fun τ5 e5 hL5 => ?_⟩, fun h9 => absurd (by omega) h9⟩
      have hF5 : Fr (fun a k => a = 176) (fun _ => False) τ3 τ5 := by rw [e5]; exact (hF.mono (fun a j h9 => h9.1) (fun _ h => h)).sI (by omega)
      have hS5 : ST τ5 0 D (told.eraseIdx k') := by
        have z0 : gI τ5 176 0 = gI τ3 176 0 := by rw [e5, gI_sI, if_neg (by omega)]; exact hF.i (by omega) (by omega)
        refine ⟨z0.trans hS3.1, hS3.2.1, hS3.2.2.1, by show gI τ5 176 1 = _; rw [e5, gI_sI, if_pos ⟨rfl, rfl⟩, hel]; omega, by omega, fun u hu => ?_⟩
        rw [hel] at hu
        have hS9 := hS3.2.2.2.2.2
        rw [eraseIdx_getD hk' (by omega)]
        by_cases huk : u < k'
        · rw [if_pos huk]
          refine ⟨(hS9 u (by omega)).1, fun j hj => ?_⟩
          show gI τ5 176 _ = _
          rw [e5, gI_sI, if_neg (by omega), za _ (by omega) (by omega)]
          exact (hS9 u (by omega)).2 j hj
        · rw [if_neg huk]
          refine ⟨(hS9 (u + 1) (by omega)).1, fun j hj => ?_⟩
          show gI τ5 176 _ = _
          rw [e5, gI_sI, if_neg (by omega), zb _ (by omega) (by omega), show 2 + 8 * u + j + 8 = 2 + 8 * (u + 1) + j by omega]
          exact (hS9 (u + 1) (by omega)).2 j hj
      refine S_makesAnew hL5 hO.1 hCl hres hS5 (fun τ7 hL7 hF7 hM7 h27 => ⟨hL7, fun _ => ?_⟩)
      have hF17 : Fr (fun a k => frMb a k ∨ a = 176 ∨ frA a k) (fun _ => False) τ1 τ7 := ((hF3.mono (fun a j h9 => .inl h9) (fun _ h => h)).trans (hF5.mono (fun a j h9 => .inr (.inl h9)) (fun _ h => h))).trans (hF7.mono (fun a j h9 => .inr (.inr h9)) (fun _ h => h))
      have hP7 : MPast τ7 D (keepP past told) := (hP3.fr hF5 ⟨by omega, fun a j h1 h2 => by omega⟩).fr hF7 ⟨by omega, fun a j h1 h2 => by omega⟩
      have I7 : MI K g c t τ7 D (told.eraseIdx k') els' (keepP past told) B F W R := MI.anew hL7 (hS5.fr hF7 (by omega) (fun j => by omega)) hM7 hP7 (hI.2.2.2.2.1.fr hF17 ⟨by omega, fun j => by omega⟩) ((hF17.i (by omega) (by omega)).trans hI.2.2.2.2.2.1) (fun i hi => (hF17.i (by omega) (by omega)).trans (hI.2.2.2.2.2.2.1 i hi)) (hI.2.2.2.2.2.2.2.1.fr hF17 (fun j => by omega)) h27 (hI.j.fr hF17 ⟨id, id⟩)
      obtain ⟨d, p, s, m1, m2, m3, m4⟩ := hM7
      rw [m4.2.1.1]
      exact h1 k' rfl hk' els' hres τ7 I7 ((hF17.i (by omega) (by omega)).trans q0)
  · have hn : k < 0 ∨ (told.length : Int) ≤ k := by
      by_cases h8 : 0 ≤ k ∧ k ≤ (told.length : Int) - 1
      · have := r1 h8; omega
      · omega
    exact S_bad1 hL1 hI hK q0 (by decide) (by decide) (by decide) (hRB 0 (by omega)) (fun τ5 hI5 q5 => ⟨hI5.1, fun _ => ⟨fun h9 => absurd h9 (by decide), fun _ _ => h0 hn τ5 hI5 q5⟩⟩)
theorem M_feed {x1 x2 x3 x4 x5 : Int} (h : MI K g c t σ D told els past B F W R) (hK : KFM K)
    (h0 : 380 < B.length → ∀ τ, MI K g c t τ D told els past B F W R → gI τ 172 0 = 0 → Q (.inl (some (vi (-1)))) τ) (h1 : B.length ≤ 380 → ∀ τ, MI K g c t τ D told els past (B ++ (byts x1 ++ byts x2 ++ byts x3 ++ byts x4 ++ byts x5)) F W R → gI τ 172 0 = 0 → Q (.inl (some (vi ((B.length + 20 : Nat) : Int)))) τ) : CC E mX12_feed [vr 172, vi x1, vi x2, vi x3, vi x4, vi x5] σ Q := by
  refine C_X12_feed (B_X12_feed_0 h.1 (fun τ1 e1 => ?_))
  have hL1 : Lay LM g c t τ1 := h.1.wI e1 (by decide) (.inl (by decide))
  subst e1
  have hI := h.th hK 0 hL1
  have q0 : gI (sI σ 172 0 0) 172 0 = 0 := by rw [gI_sI, if_pos ⟨rfl, rfl⟩]
  generalize sI σ 172 0 0 = τ1 at *
  have hB : MTape τ1 B := hI.2.2.2.2.1
  have hb4 := hB.2.1
  have l4 : ∀ x, (byts x).length = 4 := fun _ => rfl
  rw [hB.1]
  refine ⟨⟨by omega, by omega⟩, fun hle _ => ?_, fun hgt _ => h0 (by omega) _ hI q0⟩
  generalize hbs : (byts x1 ++ byts x2 ++ byts x3 ++ byts x4 ++ byts x5) = bs at *
  have hbl : bs.length = 20 := by rw [← hbs]; simp [l4]
  refine loopU (N := 20) (G := fun i τ => GG E mX12_feed 23 [some (vr 172), some (vi x1), some (vi x2), some (vi x3), some (vi x4), some (vi x5), some (vi i), none] [] τ 0 0 Q)
    (P := fun i τ => Lay LM g c t τ ∧ Fr (fun a k => a = 174 ∨ (a = 172 ∧ k = 2)) (fun _ => False) τ1 τ ∧ MTape τ (B ++ bs.take i)) ?_ ?_ 0 τ1 (by omega) ⟨hL1, Fr.refl _, by rw [List.take_zero, List.append_nil]; exact hB⟩
  · rintro i τ hi ⟨hLτ, hF, hz⟩ next
    have hlen : (B ++ bs.take i).length = B.length + i := by rw [List.length_append, List.length_take]; omega
    have go : ∀ (v : Int), gd bs i = byt v (24 - 8 * ((i % 4 : Nat) : Int)) → GG E mX12_feed 78 [some (vr 172), some (vi x1), some (vi x2), some (vi x3), some (vi x4), some (vi x5), some (vi i), some (vi v)] [] τ 0 0 Q := by
      intro v hv
      refine B_X12_feed_78 hLτ ?_
      rw [show (i : Int).tmod 4 = ((i % 4 : Nat) : Int) from rfl, hz.1, hlen]
      refine ⟨⟨by omega, by omega⟩, ⟨by omega, by omega⟩, fun v3 e3 => ⟨⟨by omega, by omega⟩, fun τ5 e5 => ?_⟩⟩
      have e3' : v3 = gd bs i := e3.trans hv.symm
      rw [show ((B.length + i : Nat) : Int).toNat = B.length + i by omega, e3'] at e5
      have q5 : gI τ5 172 2 = ((B.length + i : Nat) : Int) := by rw [e5, gI_sI, if_neg (by omega), hz.1, hlen]
      rw [q5]
      refine ⟨⟨by omega, by omega⟩, fun τ7 e7 => ⟨⟨by omega, by omega⟩, fun hL7 => ?_⟩⟩
      subst e7 e5
      have hlen2 : (B ++ bs.take (i + 1)).length = B.length + (i + 1) := by rw [List.length_append, List.length_take]; omega
      refine next _ ⟨hL7, (hF.sI (by omega)).sI (by omega), by rw [gI_sI, if_pos ⟨rfl, rfl⟩, hlen2]; omega, by omega, fun j hj => ?_⟩
      rw [gI_sI, if_neg (by omega), gI_sI]
      rw [hlen2] at hj
      have htk : ∀ n j, j < n → gd (bs.take n) j = gd bs j := fun n j hjn => by
        unfold gd
        rw [List.getD_eq_getElem?_getD, List.getD_eq_getElem?_getD, List.getElem?_take, if_pos hjn]
      by_cases hjl : j = B.length + i
      · rw [if_pos ⟨rfl, hjl⟩, gd_app, if_neg (by omega), htk _ _ (by omega), hjl, Nat.add_sub_cancel_left]
      · rw [if_neg (fun h9 => hjl h9.2), hz.2.2 j (by omega), gd_app, gd_app]
        by_cases hjB : j < B.length
        · rw [if_pos hjB, if_pos hjB]
        · rw [if_neg hjB, if_neg hjB, htk _ _ (by omega), htk _ _ (by omega)]
    have hbi : ∀ i, i < 20 → gd bs i = byt (if i < 4 then x1 else if i < 8 then x2 else if i < 12 then x3 else if i < 16 then x4 else x5) (24 - 8 * ((i % 4 : Nat) : Int)) := by
      intro i hi
      rw [← hbs]
      have : i = 0 ∨ i = 1 ∨ i = 2 ∨ i = 3 ∨ i = 4 ∨ i = 5 ∨ i = 6 ∨ i = 7 ∨ i = 8 ∨ i = 9 ∨ i = 10 ∨ i = 11 ∨ i = 12 ∨ i = 13 ∨ i = 14 ∨ i = 15 ∨ i = 16 ∨ i = 17 ∨ i = 18 ∨ i = 19 := by omega
      rcases this with rfl | rfl | rfl | rfl | rfl | rfl | rfl | rfl | rfl | rfl | rfl | rfl | rfl | rfl | rfl | rfl | rfl | rfl | rfl | rfl <;> rfl
    have hbi9 := hbi i hi
    refine B_X12_feed_23 hLτ ⟨fun h => absurd h (by omega), fun _ => ⟨fun h1 => ⟨fun h2 => ⟨fun h3 => ⟨fun h4 _ => go x5 ?_, fun h4 _ => go x4 ?_⟩, fun h3 _ => go x3 ?_⟩, fun h2 _ => go x2 ?_⟩, fun h1 _ => go x1 ?_⟩⟩
    · rw [hbi9, if_neg (by omega), if_neg (by omega), if_neg (by omega), if_neg (by omega)]
    · rw [hbi9, if_neg (by omega), if_neg (by omega), if_neg (by omega), if_pos (by omega)]
    · rw [hbi9, if_neg (by omega), if_neg (by omega), if_pos (by omega)]
    · rw [hbi9, if_neg (by omega), if_pos (by omega)]
    · rw [hbi9, if_pos (by omega)]
  · rintro τ ⟨hLτ, hF, hz⟩
    rw [List.take_of_length_le (by omega)] at hz
    have el : (B ++ bs).length = B.length + 20 := by rw [List.length_append, hbl]
    refine B_X12_feed_23 hLτ ⟨fun _ _ => ?_, fun h9 => absurd (by omega) h9⟩
    rw [hz.1, el]
    refine h1 (by omega) τ ⟨hLτ, hI.2.1.fr hF (by omega) (fun j => by omega), hI.2.2.1.fr hF ⟨fun a j h1 h2 => by omega, fun j h1 h2 => by omega⟩, hI.2.2.2.1.fr hF ⟨by omega, fun a j h1 h2 => by omega⟩, hz, (hF.i (by omega) (by omega)).trans hI.2.2.2.2.2.1, fun i hi => (hF.i (by omega) (by omega)).trans (hI.2.2.2.2.2.2.1 i hi), hI.2.2.2.2.2.2.2.1.fr hF (fun j => by omega), ?_⟩ ((hF.i (by omega) (by omega)).trans q0)
    refine ⟨hI.j.fr hF ⟨id, id⟩, ?_⟩
    rw [hF.i (by omega) (by omega)]
    rcases hI.2.2.2.2.2.2.2.2.2 with h | h
    · exact .inl h
    · exact .inr ⟨h.1, hK D els τ1 τ (hF.mono (fun a j h1 => by omega) (fun a h1 => h1.elim)) h.2⟩
end S79
