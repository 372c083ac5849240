/-! ===== the class: drop, undo ===== -/
theorem er_ne {told : List (List Int)} {k i : Nat} (hi : i < told.length) (h : i ≠ k) : (told.take (i + 1)).eraseIdx k = (told.take i).eraseIdx k ++ [told.getD i []] := by
  rw [← take_succ9 hi]
  have hl : (told.take i).length = i := by rw [List.length_take]; omega
  by_cases hk : k < i
  · rw [List.eraseIdx_append_of_lt_length (by omega)]
  · have e1 : (told.take i).eraseIdx k = told.take i := List.eraseIdx_of_length_le (by omega)
    rw [List.eraseIdx_append_of_length_le (by omega), e1, hl]
    congr 1
    obtain ⟨d, hd⟩ : ∃ d, k - i = d + 1 := ⟨k - i - 1, by omega⟩
    rw [hd]; rfl
theorem er_eq {told : List (List Int)} {k : Nat} (hk : k < told.length) : (told.take (k + 1)).eraseIdx k = (told.take k).eraseIdx k := by
  have hl : (told.take k).length = k := by rw [List.length_take]; omega
  have e1 : (told.take k).eraseIdx k = told.take k := List.eraseIdx_of_length_le (by omega)
  rw [← take_succ9 hk, List.eraseIdx_append_of_length_le (by omega), e1, hl, Nat.sub_self]
  simp
section S77
variable {E : Ev} {σ : Sg} {Q : NO → Sg → Prop} {g : Sg} {c t : Nat}
variable {K : Int → List (List Int) → Sg → Prop} {D : Int} {told els : List (List Int)} {past : List (List (List Int))} {B : List Int} {F : Int} {W R : Nat → Int}
theorem X_drop {k : Int} (h : CI K g c t σ D told els past B F W R) (hK : KF K) (hO : OKs D told els past) (hRB : ∀ i, i < 3 → inR (R i + 1))
    (h0 : (k < 0 ∨ (told.length : Int) ≤ k) → ∀ τ, CI K g c t τ D told els past B F W (bmp R 0) → Q (.inr 0) τ)
    (h1 : ∀ k' : Nat, k = k' → k' < told.length → ∀ els', clos D (told.eraseIdx k') = some (.inr els') → ∀ τ, CI K g t c τ D (told.eraseIdx k') els' (keepP past told) B F W R → Q (.inl (some (vi els'.length))) τ) :
    CC E mX11_drop [vr 16, vi k] σ Q := by
  have hL := h.1
  have hd := hL.dis
  have h47 := h.2.1.2.2.2.2.1
  refine C_X11_drop (W_X11_drop_0 hL ⟨by decide, by decide, fun _ => ?_⟩)
  rw [h.2.1.2.2.2.1]
  refine S_needIndex hL h.2.2.2.2.2.2.2.2.1 (hRB 0 (by omega)) (fun k0 k1 => ⟨hL, fun _ => ?_⟩) (fun τ hk hLτ hFτ hRτ => h0 hk τ (h.ref hK hLτ hFτ hRτ))
  obtain ⟨k', rfl⟩ : ∃ k' : Nat, k = k' := ⟨k.toNat, by omega⟩
  have hk' : k' < told.length := by omega
  obtain ⟨htd, els', hres⟩ := hO.drop hk'
  have hCl := clos_Clo htd.2 hres
  refine S_keep hL hL.isc h.2.2.2.2.1 h.2.1 (fun τ4 hL4 hF4 hP4 => ⟨hL4, fun _ => ?_⟩)
  have tr := hL.ist.rg
  have cr := hL.isc.rg
  rw [(hF4.i (by omega) (by omega)).trans h.2.1.1]
  refine S_begin hL4 hL4.ist (fun τ5 hL5 hF5 q6 q7 => ⟨hL5, fun _ => ?_⟩)
  have hF45 : Fr (fun b k => (21 ≤ b ∧ b ≤ 23) ∨ b = t + 1 ∨ (b = t ∧ (k = 6 ∨ k = 7))) (fun _ => False) σ τ5 := (hF4.mono (fun a j h9 => by omega) (fun _ h => h)).trans (hF5.mono (fun a j h9 => by omega) (fun _ h => h))
  refine loopU (N := told.length) (G := fun i τ => GG E mX11_drop 39 [some (vr 16), some (vi k'), some (vi i)] [] τ (1 - 1) (6 - 6) Q)
    (P := fun i τ => Lay LC g c t τ ∧ Fr (fun b k => (21 ≤ b ∧ b ≤ 23) ∨ b = t + 1 ∨ (b = t ∧ (k = 6 ∨ k = 7))) (fun _ => False) σ τ ∧ CloT τ t D ((told.take i).eraseIdx k') ∧ PastC τ D (keepP past told)) ?_ ?_ 0 τ5 (by omega) ⟨hL5, hF45, ?_, hP4.fr hF5 ⟨fun _ => ⟨by omega, by omega⟩, by omega⟩⟩
  · rintro i τ hi ⟨hLτ, hF, hT, hP⟩ next
    have hTc := h.2.1.fr hF hL.isc ⟨fun j => by omega, by omega, by omega⟩
    have hlen : ((told.take i).eraseIdx k').length ≤ i := Nat.le_trans (List.length_eraseIdx_le _ _) (by rw [List.length_take]; omega)
    refine W_X11_drop_39 hLτ ?_
    rw [hTc.2.2.2.1]
    refine ⟨fun h => absurd h (by omega), fun _ => ⟨fun h => absurd h (by omega), fun _ => ⟨fun he => ⟨⟨by omega, by omega⟩, fun _ => ?_⟩, fun hne => ⟨⟨by omega, by omega⟩, fun _ => ?_⟩⟩⟩⟩
    · have : i = k' := by omega
      subst this
      refine next τ ⟨hLτ, hF, ?_, hP⟩
      rw [er_eq hk']; exact hT
    · rw [show (i : Int) * 8 = ((8 * i : Nat) : Int) by omega]
      refine S_tell (n := 32) hLτ hLτ.ist (hLτ.isc.p (k := 0) (by decide)) (by omega) hT (by omega) (hTc.2.2.2.2.2 i hi).1 (hTc.2.2.2.2.2 i hi).2 (fun τ3 hL3 hF3 hT3 => ⟨hL3, ⟨by omega, by omega⟩, fun _ => next τ3 ⟨hL3, hF.trans (hF3.mono (fun a j h9 => by omega) (fun _ h => h)), ?_, hP.fr hF3 ⟨fun _ => ⟨by omega, by omega⟩, by omega⟩⟩⟩)
      rw [er_ne hi (by omega)]; exact hT3
  · rintro τ ⟨hLτ, hF, hT, hP⟩
    have hTc := h.2.1.fr hF hL.isc ⟨fun j => by omega, by omega, by omega⟩
    rw [List.take_length] at hT
    refine W_X11_drop_39 hLτ ?_
    rw [hTc.2.2.2.1]
    refine ⟨fun _ _ => ?_, fun h9 => absurd (by omega) h9⟩
    refine S_close hLτ hLτ.ist hT hres (fun τ6 hL6 hO6 hE6 hTb hOr hone h9' => ⟨hL6, fun _ _ => ?_⟩)
    have hT6 := hT.on hO6
    have hFo := hO6.toFr
    refine S_takeTrial hL6 hCl htd.1 (hCl.odB hO.1) hE6 hTb hOr (fun τ8 hL8 hF8 hG8 q14 q15 => ⟨hL8, fun _ => ?_⟩)
    have b6 := (h.2.2.2.2.2.1.fr hF ⟨fun j => by omega, by omega⟩).fr hFo ⟨fun j => by omega, by omega⟩
    have f6 := (hFo.i (a := 16) (k := 16) (by omega) (by omega)).trans ((hF.i (by omega) (by omega)).trans h.2.2.2.2.2.2.1)
    have w6 : ∀ i, i < 4 → gI τ6 156 i = W i := fun i hi => (hFo.i (by omega) (by omega)).trans ((hF.i (by omega) (by omega)).trans (h.2.2.2.2.2.2.2.1 i hi))
    have r6 := (h.2.2.2.2.2.2.2.2.1.fr hF (fun j => by omega)).fr hFo (fun j => by omega)
    have c8 : CI K g t c τ8 D (told.eraseIdx k') els' (keepP past told) B F W R := CI.anew hL8 hF8 hL6 hT6 hE6 hG8 (hP.fr hFo ⟨fun j => ⟨by omega, by omega⟩, by omega⟩) b6 f6 w6 r6 q14 q15 ((h.j.fr hF ⟨id, id, id⟩ (fun a j h9 => by omega)).fr hFo ⟨id, id, id⟩ (fun a j h9 => by omega))
    rw [c8.2.2.1.1]
    exact h1 k' rfl hk' els' hres τ8 c8
  · have e : (told.take 0).eraseIdx k' = [] := by simp
    rw [e]
    exact CloT.nil ⟨h.2.1.2.1, h.2.1.2.2.1⟩ q6 q7
theorem X_undo (h : CI K g c t σ D told els past B F W R) (hK : KF K) (hO : OKs D told els past)
    (h0 : past = [] → Q (.inl (some (vi (-1)))) σ)
    (h1 : 0 < past.length → ∀ els', OKs D (past.getD (past.length - 1) []) els' past.dropLast → ∀ τ, CI K g t c τ D (past.getD (past.length - 1) []) els' past.dropLast B F W R → Q (.inl (some (vi past.dropLast.length))) τ) :
    CC E mX11_undo [vr 16] σ Q := by
  have hL := h.1
  have hd := hL.dis
  have tr := hL.ist.rg
  have cr := hL.isc.rg
  have hP : PastC σ D past := h.2.2.2.2.1
  refine C_X11_undo (W_X11_undo_0 hL ?_)
  rw [hP.1]
  refine ⟨fun hp _ => ?_, fun hp _ => h0 (List.eq_nil_of_length_eq_zero (by omega))⟩
  have hpos : 0 < past.length := by omega
  obtain ⟨els', hO'⟩ := hO.undo hpos
  have hCl := hO'.clo
  rw [h.2.1.1]
  refine S_begin hL hL.ist (fun τ1 hL1 hF1 q6 q7 => ⟨hL1, fun _ => ?_⟩)
  refine S_giveBack hL1 hL1.ist (hP.fr hF1 ⟨fun j => ⟨by omega, by omega⟩, by omega⟩) hpos (CloT.nil ⟨h.2.1.2.1, h.2.1.2.2.1⟩ q6 q7) (fun τ2 hL2 hF2 hT2 hP2 => ⟨hL2, fun _ => ?_⟩)
  refine S_close hL2 hL2.ist hT2 hO'.2.2.1 (fun τ6 hL6 hO6 hE6 hTb hOr hone h9' => ⟨hL6, fun _ _ => ?_⟩)
  have hT6 := hT2.on hO6
  have hFo := hO6.toFr
  have hF : Fr (fun b k => b = t + 1 ∨ (b = t ∧ (k = 6 ∨ k = 7)) ∨ (b = 21 ∧ k = 2)) (fun _ => False) σ τ2 := (hF1.mono (fun a j h9 => by omega) (fun _ h => h)).trans (hF2.mono (fun a j h9 => by omega) (fun _ h => h))
  refine S_takeTrial hL6 hCl hO'.2.1.1 (hCl.odB hO.1) hE6 hTb hOr (fun τ8 hL8 hF8 hG8 q14 q15 => ⟨hL8, fun _ => ?_⟩)
  have b6 := (h.2.2.2.2.2.1.fr hF ⟨fun j => by omega, by omega⟩).fr hFo ⟨fun j => by omega, by omega⟩
  have f6 := (hFo.i (a := 16) (k := 16) (by omega) (by omega)).trans ((hF.i (by omega) (by omega)).trans h.2.2.2.2.2.2.1)
  have w6 : ∀ i, i < 4 → gI τ6 156 i = W i := fun i hi => (hFo.i (by omega) (by omega)).trans ((hF.i (by omega) (by omega)).trans (h.2.2.2.2.2.2.2.1 i hi))
  have r6 := (h.2.2.2.2.2.2.2.2.1.fr hF (fun j => by omega)).fr hFo (fun j => by omega)
  have c8 : CI K g t c τ8 D (past.getD (past.length - 1) []) els' past.dropLast B F W R := CI.anew hL8 hF8 hL6 hT6 hE6 hG8 (hP2.fr hFo ⟨fun j => ⟨by omega, by omega⟩, by omega⟩) b6 f6 w6 r6 q14 q15 ((h.j.fr hF ⟨id, id, id⟩ (fun a j h9 => by omega)).fr hFo ⟨id, id, id⟩ (fun a j h9 => by omega))
  rw [c8.2.2.2.2.1.1]
  exact h1 hpos els' hO' τ8 c8
end S77
