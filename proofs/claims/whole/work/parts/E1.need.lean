/-! ===== the class: all that belongs to the characters ===== -/
def KCd (D : Int) (els : List (List Int)) (σ : Sg) : Prop := rG D els ≤ 12 ∧ BCh σ D els ∧ ChC σ D els ∧ GrC σ D els
theorem KCd_kf : KF KCd := fun D els σ τ k h => by
  obtain ⟨h1, h2, h3, h4⟩ := h
  have r12 : rsN els.length (gmt D els) ≤ 12 := h1
  refine ⟨h1, h2.fr k ⟨fun j h1 h2 => by omega, fun j => by omega, fun j => ⟨by omega, by omega, by omega⟩⟩, h3.fr k ⟨fun a j h1 h2 => by omega, by omega⟩, (k.i (by omega) (by omega)).trans h4.1, fun a b ha hb => ?_⟩
  have ha9 : a < rsN els.length (gmt D els) := ha
  exact ⟨(k.i (by omega) (by omega)).trans (h4.2 a b ha hb).1, (k.i (by omega) (by omega)).trans (h4.2 a b ha hb).2⟩
abbrev frNc : Nat → Nat → Prop := fun a j => (34 ≤ a ∧ a < 152) ∨ (a = 16 ∧ j = 14)
abbrev frNv : Nat → Prop := fun a => a = 36 ∨ a = 69 ∨ a = 108
section SE1
variable {E : Ev} {σ : Sg} {Q : NO → Sg → Prop} {g : Sg} {c t : Nat}
variable {D : Int} {told els : List (List Int)} {past : List (List (List Int))} {B : List Int} {F : Int} {W R : Nat → Int}
theorem CI.chr {τ : Sg} (h : CI KCd g c t σ D told els past B F W R) (hL : Lay LC g c t τ) (k : Fr frNc frNv σ τ) (hJ : JC τ) (h14 : gI τ 16 14 = 1) (hK : KCd D els τ) : CI KCd g c t τ D told els past B F W R := by
  obtain ⟨l1, l2, l3, l4, l5, l6, l7, l8, l9, l10, l11⟩ := h
  have hd := l1.dis
  have ci := l1.isc
  refine ⟨hL, l2.fr k ci ⟨fun j => by omega, by omega, by omega⟩, l3.fr k ci ⟨fun j => by omega, by omega⟩, l4.fr k (fun a j h1 h2 => by omega), l5.fr k ⟨fun j => ⟨by omega, by omega⟩, by omega⟩, l6.fr k ⟨fun j => by omega, by omega⟩, (k.i (by omega) (by omega)).trans l7, fun i hi => (k.i (by omega) (by omega)).trans (l8 i hi), l9.fr k (fun j => by omega), ⟨hJ, .inr ⟨h14, hK⟩⟩, ?_⟩
  rw [k.i (by omega) (show ¬ frNc 16 15 by omega)]
  rcases l11 with h | h
  · exact .inl h
  · exact .inr ⟨h.1, h.2.fr k ⟨by omega, by omega⟩⟩
theorem X_needCh (hC : CI KCd g c t σ D told els past B F W R) (hX : FX D told els)
    (h : ∀ τ, CI KCd g c t τ D told els past B F W R → gI τ 16 14 = 1 → KCd D els τ → Q (.inl none) τ) : CC E mX11_needCharacters [vr 16] σ Q := by
  have hX' := hX
  obtain ⟨hCl, hGd, hp, h242, hN, hs, hD3⟩ := hX
  have hI := hCl.isG
  have p1 := hp.1
  have r12 : rsN els.length (gmt D els) ≤ 12 := hGd.1
  have r0 : 0 < rG D els := rsN_pos hI
  have hL := hC.1
  have hd := hL.dis
  have n120 := hCl.1
  have hrp : rG D els < pN D els := by
    have a := rsN_le els.length (gmt D els)
    show rsN els.length (gmt D els) < _
    omega
  obtain ⟨ev, hS⟩ := hGd.sp
  have h14 := hC.2.2.2.2.2.2.2.2.2.1.2
  refine C_X11_needCharacters (B_X11_needCharacters_0 hL (fun _ => ⟨fun e0 _ => ?_, fun e0 _ => ?_⟩))
  · -- all is made
    have hE := hC.2.2.1
    have hG := hC.2.2.2.1
    have h6 := hC.2.1.1
    obtain ⟨d, hDd, hd3⟩ : ∃ d : Nat, D = d ∧ (d = 2 ∨ d = 3 ∨ d = 5) := ⟨D.toNat, by omega, by omega⟩
    have oB := hCl.odB hD3
    have hex := expo_le oB (Nat.le_refl _)
    obtain ⟨p, s, hPR, _⟩ := PR_ex n120 (expo_dvd oB _ (Nat.le_refl _)) hd3
    obtain ⟨ep, es⟩ := pN_of hDd hPR
    have hP : PR els.length (expo els.length (gmt D els) els.length) d (pN D els) (sN D els) := by rw [ep, es]; exact hPR
    refine S_cbegin hL hX' hG hE h6 hDd hP hex (fun τ1 hL1 hF1 hB1 => ⟨hL1, fun _ => ?_⟩)
    refine S_sbegin hL1 hI (hG.fr hF1 (fun a j h1 h2 => by omega)) r12 (fun τ2 hL2 hF2 k11 hCp hdl ho0 hos => ⟨hL2, fun _ => ?_⟩)
    have hB2 : BCh τ2 D els := hB1.fr hF2 ⟨fun j h1 h2 => by omega, fun j => by omega, fun j => ⟨by omega, by omega, by omega⟩⟩
    have hJ2 : JC τ2 := (hC.j.fr hF1 ⟨id, id, id⟩ (fun a j h9 => by omega)).fr hF2 ⟨id, id, id⟩ (fun a j h9 => by omega)
    have hF02 : Fr frNc frNv σ τ2 := (hF1.mono (fun a j h9 => by omega) (fun _ h9 => h9.elim)).trans (hF2.mono (fun a j h9 => by omega) (fun _ h9 => h9.elim))
    have hT2 := bst_start p1 r0 hS hdl ho0 hos
    refine loopU (N := rG D els) (G := fun a τ => GG E mX11_needCharacters 36 [some (vr 16), some (vi a)] [] τ 0 0 Q)
      (P := fun a τ => Lay LC g c t τ ∧ JC τ ∧ Fr frSb frPv τ2 τ ∧ ∃ own, BST (pN D els) (rG D els) (omN D els) (fun u j => gI τ (57 + u) j) (gI τ 124) own ∧ ∀ i j, i < rG D els → j < rG D els → own i = own j → ∀ b, b < a → omN D els i b = omN D els j b) ?_ ?_ 1 τ2 r0 ⟨hL2, hJ2, Fr.refl _, _, hT2, fun i j hi hj _ b hb => ?_⟩
    · rintro a τ ha ⟨hLt, hJt, hFt, own, hT, hA⟩ next
      have a11 : gI τ 54 11 = (rG D els : Int) := (hFt.i (by omega) (by omega)).trans k11
      have a35 : gI τ 35 0 = (pN D els : Int) := (hFt.i (by omega) (by omega)).trans hB2.2.2.2.1
      have aCp : CpC τ (rG D els) (cG D els) := fun x y z hx hy hz => by rw [hFt.i (by omega) (by omega)]; exact hCp x y z hx hy hz
      refine B_X11_needCharacters_36 hLt ?_
      rw [a11]
      refine ⟨fun h9 => absurd h9 (by omega), fun _ _ => ?_⟩
      refine S_splitBy hp h242 r12 hrp ha hS hLt hJt a35 a11 aCp hT hA (fun τ3 own3 hL3 hJ3 hF3 hT3 hA3 => ⟨hL3, ⟨by omega, by omega⟩, fun _ => ?_⟩)
      exact next τ3 ⟨hL3, hJ3, hFt.trans hF3, own3, hT3, hA3⟩
    · rintro τ ⟨hLt, hJt, hFt, own, hT, hA⟩
      have a11 : gI τ 54 11 = (rG D els : Int) := (hFt.i (by omega) (by omega)).trans k11
      have hBt : BCh τ D els := hB2.fr hFt ⟨fun j h1 h2 => by omega, fun j => by omega, fun j => ⟨by omega, by omega, by omega⟩⟩
      refine B_X11_needCharacters_36 hLt ?_
      rw [a11]
      refine ⟨fun _ _ => ?_, fun h9 => absurd (Int.le_refl _) h9⟩
      refine S_takeCh hLt hJt hX' hBt hS hT hA (fun τ3 hL3 hJ3 hF3 hCh3 => ⟨hL3, fun _ => ?_⟩)
      have hB3 : BCh τ3 D els := hBt.fr hF3 ⟨fun j h1 h2 => by omega, fun j => by omega, fun j => ⟨by omega, by omega, by omega⟩⟩
      refine S_gbuild hL3 hX' hB3 hCh3 (fun τ4 hL4 hF4 hGr4 => ⟨hL4, fun τ5 e5 hL5 => ?_⟩)
      have hF5 : Fr (fun a j => a = 16 ∧ j = 14) (fun _ => False) τ4 τ5 := by rw [e5]; exact Fr_of1 ⟨rfl, rfl⟩
      have hB5 : BCh τ5 D els := (hB3.fr hF4 ⟨fun j h1 h2 => by omega, fun j => by omega, fun j => ⟨by omega, by omega, by omega⟩⟩).fr hF5 ⟨fun j h1 h2 => by omega, fun j => by omega, fun j => ⟨by omega, by omega, by omega⟩⟩
      have hCh5 : ChC τ5 D els := (hCh3.fr hF4 ⟨fun a j h1 h2 => by omega, id⟩).fr hF5 ⟨fun a j h1 h2 => by omega, id⟩
      have hGr5 : GrC τ5 D els := ⟨(hF5.i (by omega) (by omega)).trans hGr4.1, fun a b ha hb => by
        have ha9 : a < rsN els.length (gmt D els) := ha
        rw [hF5.i (by omega) (by omega), hF5.i (by omega) (by omega)]
        exact hGr4.2 a b ha hb⟩
      have hJ5 : JC τ5 := (hJ3.fr hF4 ⟨id, id, id⟩ (fun a j h9 => by omega)).fr hF5 ⟨id, id, id⟩ (fun a j h9 => by omega)
      have q14 : gI τ5 16 14 = 1 := by rw [e5, gI_sI, if_pos ⟨rfl, rfl⟩]
      have hK5 : KCd D els τ5 := ⟨r12, hB5, hCh5, hGr5⟩
      have hF05 : Fr frNc frNv σ τ5 := (((hF02.trans (hFt.mono (fun a j h9 => by omega) (fun _ h9 => by omega))).trans (hF3.mono (fun a j h9 => by omega) (fun _ h9 => .inl h9))).trans (hF4.mono (fun a j h9 => by omega) (fun _ h9 => h9.elim))).trans (hF5.mono (fun a j h9 => .inr h9) (fun _ h9 => h9.elim))
      exact h τ5 (hC.chr hL5 hF05 hJ5 q14 hK5) q14 hK5
    · have : b = 0 := by omega
      subst this
      rw [(hS.1 i hi).1, (hS.1 j hj).1]
  · have e1 : gI σ 16 14 = 1 ∧ KCd D els σ := h14.resolve_left e0
    exact h σ hC e1.1 e1.2
end SE1
