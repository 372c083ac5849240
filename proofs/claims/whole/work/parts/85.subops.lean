/-! ===== the class: made, isMade, isKept, makers ===== -/
section S85
variable {E : Ev} {σ : Sg} {Q : NO → Sg → Prop} {g : Sg} {c t : Nat}
variable {K : Int → List (List Int) → Sg → Prop} {D : Int} {told els : List (List Int)} {past : List (List (List Int))} {B : List Int} {F : Int} {W R : Nat → Int}
theorem X_made {k l w : Int} (h : CI K g c t σ D told els past B F W R) (hK : KF K) (hRB : ∀ i, i < 3 → inR (R i + 1)) (hI : IsG els.length (gmt D els))
    (h0 : (k < 0 ∨ (els.length : Int) ≤ k ∨ l < 0 ∨ (els.length : Int) ≤ l) → ∀ τ, CI K g c t τ D told els past B F W (bmp R 0) → Q (.inr 0) τ)
    (h1 : 0 ≤ k → k < (els.length : Int) → 0 ≤ l → l < (els.length : Int) → (w < 0 ∨ 1 < w) → ∀ τ, CI K g c t τ D told els past B F W (bmp R 1) → Q (.inr 1) τ)
    (h2 : ∀ k' l' : Nat, k = k' → l = l' → k' < els.length → l' < els.length → w = 0 → ∀ mem, IsMem els.length (gmt D els) k' l' mem → ∀ τ, CI K g c t τ D told els past B F W R → Q (.inl (some (vi mem.length))) τ)
    (h3 : ∀ k' l' : Nat, k = k' → l = l' → k' < els.length → l' < els.length → w = 1 → ∀ r, IsLb els.length (gmt D els) k' l' r → ∀ τ, CI K g c t τ D told els past B F W R → Q (.inl (some (vi r))) τ) : CC E mX11_made [vr 16, vi k, vi l, vi w] σ Q := by
  have hL := h.1
  have hG : GAll σ D els := h.2.2.2.1
  have hR := h.2.2.2.2.2.2.2.2.1
  refine C_X11_made (B_X11_made_0 hL ⟨by decide, by decide, fun _ => ?_⟩)
  rw [hG.1.1]
  refine S_needIndex hL hR (hRB 0 (by omega)) (fun k0 k1 => ⟨hL, by decide, by decide, fun _ => ?_⟩) (fun τ hk hLτ hFτ hRτ => h0 (by omega) τ (h.ref hK hLτ hFτ hRτ))
  rw [hG.1.1]
  refine S_needIndex hL hR (hRB 0 (by omega)) (fun l0 l1 => ⟨hL, by decide, by decide, fun _ => ?_⟩) (fun τ hk hLτ hFτ hRτ => h0 (by omega) τ (h.ref hK hLτ hFτ hRτ))
  refine S_needBetween hL hR (hRB 1 (by omega)) (fun w0 w1 => ⟨hL, fun _ => ?_⟩) (fun τ hk hLτ hFτ hRτ => h1 k0 k1 l0 l1 hk τ (h.ref hK hLτ hFτ hRτ))
  obtain ⟨k', rfl⟩ : ∃ k' : Nat, k = k' := ⟨k.toNat, by omega⟩
  obtain ⟨l', rfl⟩ : ∃ l' : Nat, l = l' := ⟨l.toNat, by omega⟩
  have hk : k' < els.length := by omega
  have hl : l' < els.length := by omega
  refine S_make hL hI hG.1 hk hl (fun τ mem hLτ hFτ hm hM => ⟨hLτ, fun hw _ => ?_, fun hw _ => ?_⟩)
  · have cτ := h.scr hK hLτ hFτ (fun a j h9 => by omega) (fun _ h => h.elim)
    rw [cτ.2.2.2.1.1.1]
    exact S_leastBeside hLτ hG.1.2.1 hM hm (fun r hr => ⟨hLτ, fun _ _ => h3 k' l' rfl rfl hk hl (by omega) r hr τ cτ⟩)
  · have cτ := h.scr hK hLτ hFτ (fun a j h9 => by omega) (fun _ h => h.elim)
    rw [hM.1]
    exact h2 k' l' rfl rfl hk hl hw mem hm τ cτ
theorem X_isMade {k l e : Int} (h : CI K g c t σ D told els past B F W R) (hK : KF K) (hRB : ∀ i, i < 3 → inR (R i + 1)) (hI : IsG els.length (gmt D els))
    (h0 : (k < 0 ∨ (els.length : Int) ≤ k ∨ l < 0 ∨ (els.length : Int) ≤ l ∨ e < 0 ∨ (els.length : Int) ≤ e) → ∀ τ, CI K g c t τ D told els past B F W (bmp R 0) → Q (.inr 0) τ)
    (h2 : ∀ k' l' e' : Nat, k = k' → l = l' → e = e' → k' < els.length → l' < els.length → e' < els.length → ∀ r : Int, (inGen (gmt D els) k' l' e' → r = 1) → (¬ inGen (gmt D els) k' l' e' → r = 0) → ∀ τ, CI K g c t τ D told els past B F W R → Q (.inl (some (vi r))) τ) : CC E mX11_isMade [vr 16, vi k, vi l, vi e] σ Q := by
  have hL := h.1
  have hG : GAll σ D els := h.2.2.2.1
  have hR := h.2.2.2.2.2.2.2.2.1
  refine C_X11_isMade (B_X11_isMade_0 hL ⟨by decide, by decide, fun _ => ?_⟩)
  rw [hG.1.1]
  refine S_needIndex hL hR (hRB 0 (by omega)) (fun k0 k1 => ⟨hL, by decide, by decide, fun _ => ?_⟩) (fun τ hk hLτ hFτ hRτ => h0 (by omega) τ (h.ref hK hLτ hFτ hRτ))
  rw [hG.1.1]
  refine S_needIndex hL hR (hRB 0 (by omega)) (fun l0 l1 => ⟨hL, by decide, by decide, fun _ => ?_⟩) (fun τ hk hLτ hFτ hRτ => h0 (by omega) τ (h.ref hK hLτ hFτ hRτ))
  rw [hG.1.1]
  refine S_needIndex hL hR (hRB 0 (by omega)) (fun e0 e1 => ⟨hL, fun _ => ?_⟩) (fun τ hk hLτ hFτ hRτ => h0 (by omega) τ (h.ref hK hLτ hFτ hRτ))
  obtain ⟨k', rfl⟩ : ∃ k' : Nat, k = k' := ⟨k.toNat, by omega⟩
  obtain ⟨l', rfl⟩ : ∃ l' : Nat, l = l' := ⟨l.toNat, by omega⟩
  obtain ⟨e', rfl⟩ : ∃ e' : Nat, e = e' := ⟨e.toNat, by omega⟩
  have hk : k' < els.length := by omega
  have hl : l' < els.length := by omega
  have he : e' < els.length := by omega
  refine S_make hL hI hG.1 hk hl (fun τ mem hLτ hFτ hm hM => ⟨hLτ, fun _ => ?_⟩)
  have cτ := h.scr hK hLτ hFτ (fun a j h9 => by omega) (fun _ h => h.elim)
  refine S_holds hLτ he hG.1.2.1 hM hm (fun r r1 r0 => ⟨hLτ, fun _ => ⟨?_, fun _ => h2 k' l' e' rfl rfl rfl hk hl he r r1 r0 τ cτ⟩⟩)
  by_cases h9 : inGen (gmt D els) k' l' e'
  · exact .inr (r1 h9)
  · exact .inl (r0 h9)
theorem X_isKept {k l : Int} (h : CI K g c t σ D told els past B F W R) (hK : KF K) (hRB : ∀ i, i < 3 → inR (R i + 1)) (hI : IsG els.length (gmt D els))
    (h0 : (k < 0 ∨ (els.length : Int) ≤ k ∨ l < 0 ∨ (els.length : Int) ≤ l) → ∀ τ, CI K g c t τ D told els past B F W (bmp R 0) → Q (.inr 0) τ)
    (h2 : ∀ k' l' : Nat, k = k' → l = l' → k' < els.length → l' < els.length → ∀ r : Int, (kept els.length (gmt D els) k' l' → r = 1) → (¬ kept els.length (gmt D els) k' l' → r = 0) → ∀ τ, CI K g c t τ D told els past B F W R → Q (.inl (some (vi r))) τ) : CC E mX11_isKept [vr 16, vi k, vi l] σ Q := by
  have hL := h.1
  have hG : GAll σ D els := h.2.2.2.1
  have hR := h.2.2.2.2.2.2.2.2.1
  refine C_X11_isKept (B_X11_isKept_0 hL ⟨by decide, by decide, fun _ => ?_⟩)
  rw [hG.1.1]
  refine S_needIndex hL hR (hRB 0 (by omega)) (fun k0 k1 => ⟨hL, by decide, by decide, fun _ => ?_⟩) (fun τ hk hLτ hFτ hRτ => h0 (by omega) τ (h.ref hK hLτ hFτ hRτ))
  rw [hG.1.1]
  refine S_needIndex hL hR (hRB 0 (by omega)) (fun l0 l1 => ⟨hL, fun _ => ?_⟩) (fun τ hk hLτ hFτ hRτ => h0 (by omega) τ (h.ref hK hLτ hFτ hRτ))
  obtain ⟨k', rfl⟩ : ∃ k' : Nat, k = k' := ⟨k.toNat, by omega⟩
  obtain ⟨l', rfl⟩ : ∃ l' : Nat, l = l' := ⟨l.toNat, by omega⟩
  have hk : k' < els.length := by omega
  have hl : l' < els.length := by omega
  refine S_make hL hI hG.1 hk hl (fun τ mem hLτ hFτ hm hM => ⟨hLτ, fun _ => ?_⟩)
  have cτ := h.scr hK hLτ hFτ (fun a j h9 => by omega) (fun _ h => h.elim)
  have hGτ := cτ.2.2.2.1
  have gk : inGen (gmt D els) k' l' k' := by
    have := inGen_k (inGen_0 (gmt D els) k' l')
    rwa [(hI.2.2.1 k' hk).1] at this
  have gl : inGen (gmt D els) k' l' l' := by
    have := inGen_l (inGen_0 (gmt D els) k' l')
    rwa [(hI.2.2.1 l' hl).1] at this
  refine S_holdsTurned hLτ hI hGτ.1 hGτ.2.1 hk hM hm (fun r r1 r0 => ⟨hLτ, fun _ => ⟨fun h9 _ => ?_, fun h9 _ => S_holdsTurned hLτ hI hGτ.1 hGτ.2.1 hl hM hm (fun r' r1' r0' => ⟨hLτ, fun _ => ⟨fun h8 _ => ?_, fun h8 _ => ?_⟩⟩)⟩⟩)
  · exact h2 k' l' rfl rfl hk hl 0 (fun hkp => by have := r1 (fun x hx => hkp k' x hk hx gk); omega) (fun _ => rfl) τ cτ
  · exact h2 k' l' rfl rfl hk hl 0 (fun hkp => by have := r1' (fun x hx => hkp l' x hl hx gl); omega) (fun _ => rfl) τ cτ
  · refine h2 k' l' rfl rfl hk hl 1 (fun _ => rfl) (fun hn => absurd (kept_of hI hk hl ?_ ?_) hn) τ cτ
    · by_cases h7 : ∀ x, x < els.length → inGen (gmt D els) k' l' (tn els.length (gmt D els) k' x)
      · exact h7
      · exact absurd (r0 h7) h9
    · by_cases h7 : ∀ x, x < els.length → inGen (gmt D els) k' l' (tn els.length (gmt D els) l' x)
      · exact h7
      · exact absurd (r0' h7) h8
theorem X_makers {w : Int} (h : CI K g c t σ D told els past B F W R) (hK : KF K) (hRB : ∀ i, i < 3 → inR (R i + 1)) (hI : IsG els.length (gmt D els))
    (h0 : (w < 0 ∨ 1 < w) → ∀ τ, CI K g c t τ D told els past B F W (bmp R 1) → Q (.inr 1) τ)
    (h2 : 0 ≤ w → w ≤ 1 → ∀ a b : Int, IsMk els.length (gmt D els) a b → ∀ τ, CI K g c t τ D told els past B F W R → Q (.inl (some (vi (if w = 0 then a else b)))) τ) : CC E mX11_makers [vr 16, vi w] σ Q := by
  have hL := h.1
  have hG : GAll σ D els := h.2.2.2.1
  have hR := h.2.2.2.2.2.2.2.2.1
  have hfl := h.2.2.2.2.2.2.2.2.2.2
  refine C_X11_makers (B_X11_makers_0 hL ⟨by decide, by decide, fun _ => ?_⟩)
  refine S_needBetween hL hR (hRB 1 (by omega)) (fun w0 w1 => ⟨hL, fun _ => ⟨fun hne => ?_, fun he _ => ?_⟩⟩) (fun τ hk hLτ hFτ hRτ => h0 hk τ (h.ref hK hLτ hFτ hRτ))
  · have hmk : MkC σ els.length (gmt D els) := by
      rcases hfl with h9 | h9
      · exact absurd h9 hne
      · exact h9.2
    refine ⟨fun hw _ => ?_, fun hw _ => ?_⟩
    · have := h2 w0 w1 _ _ hmk σ h
      rw [if_neg hw] at this
      exact this
    · have := h2 w0 w1 _ _ hmk σ h
      rw [if_pos hw] at this
      exact this
  · refine S_searchMakers hL hI hG.1 (fun τ7 hL7 hF7 hmk => ⟨hL7, fun τ8 e8 => ?_⟩)
    have hF8 : Fr (fun a k => frS2 a k ∨ (a = 16 ∧ k = 15)) (fun _ => False) σ τ8 := by rw [e8]; exact (hF7.mono (fun a j h9 => .inl h9) (fun _ h => h)).sI (.inr ⟨rfl, rfl⟩)
    have hL8 : Lay LC g c t τ8 := hL7.wI e8 (by decide) (.inl (by decide))
    have hd := hL.dis
    have q3 : gI τ8 31 3 = gI τ7 31 3 := by rw [e8, gI_sI, if_neg (by omega)]
    have q4 : gI τ8 31 4 = gI τ7 31 4 := by rw [e8, gI_sI, if_neg (by omega)]
    have hmk8 : MkC τ8 els.length (gmt D els) := by unfold MkC; rw [q3, q4]; exact hmk
    obtain ⟨l1, l2, l3, l4, l5, l6, l7, l8, l9, l10, l11⟩ := h
    have c8 : CI K g c t τ8 D told els past B F W R := by
      have ci := l1.isc
      refine ⟨hL8, l2.fr hF8 ci ⟨fun j => by omega, by omega, by omega⟩, l3.fr hF8 ci ⟨fun j => by omega, by omega⟩, l4.fr hF8 (fun a j h1 h2 => by omega), l5.fr hF8 ⟨fun j => ⟨by omega, by omega⟩, by omega⟩, l6.fr hF8 ⟨fun j => by omega, by omega⟩, (hF8.i (by omega) (by omega)).trans l7, fun i hi => (hF8.i (by omega) (by omega)).trans (l8 i hi), l9.fr hF8 (fun j => by omega), ?_, .inr ⟨by rw [e8, gI_sI, if_pos ⟨rfl, rfl⟩], hmk8⟩⟩
      refine ⟨l10.1.fr hF8 ⟨id, id, id⟩ (fun a j h9 => by omega), ?_⟩
      replace l10 := l10.2
      rw [hF8.i (by omega) (by omega)]
      rcases l10 with h | h
      · exact .inl h
      · exact .inr ⟨h.1, hK D els σ τ8 (hF8.mono (fun a j h1 => by omega) (fun a h1 => h1.elim)) h.2⟩
    refine ⟨fun hw _ => ?_, fun hw _ => ?_⟩
    · have := h2 w0 w1 _ _ hmk8 τ8 c8
      rw [if_neg hw] at this
      exact this
    · have := h2 w0 w1 _ _ hmk8 τ8 c8
      rw [if_pos hw] at this
      exact this
end S85
