/-! ===== the reference: made, isMade, isKept, makers ===== -/
theorem of_ne9 {P : Prop} {r : Int} (r0 : ¬ P → r = 0) (h : r ≠ 0) : P := Classical.byContradiction (fun hn => h (r0 hn))
theorem of_eq9 {P : Prop} {r : Int} (r1 : P → r = 1) (h : r = 0) : ¬ P := fun hp => by have := r1 hp; omega
section S87
variable {E : Ev} {σ : Sg} {Q : NO → Sg → Prop} {g : Sg} {c t : Nat}
variable {K : Int → List (List Int) → Sg → Prop} {D : Int} {told els : List (List Int)} {past : List (List (List Int))} {B : List Int} {F : Int} {W R : Nat → Int}
theorem MI.mt (h : MI K g c t σ D told els past B F W R) : MT σ els.length (gmt D els) ∧ MV σ els.length (gmt D els) els.length := by
  obtain ⟨d, p, s, m1, m2, m3, m4⟩ := h.2.2.1
  exact ⟨m4.2.1, m4.2.2.1⟩
theorem M_made {k l w : Int} (h : MI K g c t σ D told els past B F W R) (hK : KFM K) (hRB : ∀ i, i < 3 → inR (R i + 1)) (hG : IsG els.length (gmt D els))
    (h0 : (k < 0 ∨ (els.length : Int) ≤ k ∨ l < 0 ∨ (els.length : Int) ≤ l) → ∀ τ, MI K g c t τ D told els past B F W (bmp R 0) → gI τ 172 0 = 1 → Q (.inl (some (vi 0))) τ)
    (h1 : 0 ≤ k → k < (els.length : Int) → 0 ≤ l → l < (els.length : Int) → (w < 0 ∨ 1 < w) → ∀ τ, MI K g c t τ D told els past B F W (bmp R 1) → gI τ 172 0 = 2 → Q (.inl (some (vi 0))) τ)
    (h2 : ∀ k' l' : Nat, k = k' → l = l' → k' < els.length → l' < els.length → w = 0 → ∀ mem, IsMem els.length (gmt D els) k' l' mem → ∀ τ, MI K g c t τ D told els past B F W R → gI τ 172 0 = 0 → Q (.inl (some (vi mem.length))) τ)
    (h3 : ∀ k' l' : Nat, k = k' → l = l' → k' < els.length → l' < els.length → w = 1 → ∀ r, IsLb els.length (gmt D els) k' l' r → ∀ τ, MI K g c t τ D told els past B F W R → gI τ 172 0 = 0 → Q (.inl (some (vi r))) τ) : CC E mX12_made [vr 172, vi k, vi l, vi w] σ Q := by
  refine C_X12_made (B_X12_made_0 h.1 (fun τ1 e1 hL1 => ?_))
  obtain ⟨hI, q0⟩ := h.go hK e1
  have hn := hI.n15
  have n120 := hn.2
  have fin : ∀ ρ, Q (.inl (some (vi 0))) ρ → Lay LM g c t ρ → GG E mX12_made 58 [none, none, none, none, none] [] ρ 0 0 Q := fun ρ hq hLρ => B_X12_made_58 hLρ (fun _ => hq)
  refine S_isElement hL1 hn.1 hn.2 (fun r r1 r0 => ⟨hL1, fun _ => ⟨fun hr _ => ?_, fun hr _ => S_isElement hL1 hn.1 hn.2 (fun r' r1' r0' => ⟨hL1, fun _ => ⟨fun hr2 _ => ?_, fun hr2 _ => ?_⟩⟩)⟩⟩)
  · have hk := of_eq9 r1 hr
    exact S_bad1 (r := 0) hL1 hI hK q0 (by decide) (by decide) (by decide) (hRB 0 (by omega)) (fun τ hIτ qτ => ⟨hIτ.1, fun _ => ⟨fun _ _ => fin τ (h0 (by omega) τ hIτ qτ) hIτ.1, fun h9 => absurd h9 (by decide)⟩⟩)
  · have hk := of_ne9 r0 hr
    have hl := of_ne9 r0' hr2
    refine S_bad0 hL1 q0 ⟨hL1, fun _ => ⟨fun h9 => absurd rfl h9, fun _ _ => B_X12_made_35 hL1 (fun _ => S_in (fun r r1 r0 => ⟨hL1, fun _ => ⟨fun hr3 _ => ?_, fun hr3 _ => ?_⟩⟩))⟩⟩
    · have hw := of_ne9 r0 hr3
      obtain ⟨k', rfl⟩ : ∃ k' : Nat, k = k' := ⟨k.toNat, by omega⟩
      obtain ⟨l', rfl⟩ : ∃ l' : Nat, l = l' := ⟨l.toNat, by omega⟩
      have hk' : k' < els.length := by omega
      have hl' : l' < els.length := by omega
      refine S_bad0 hL1 q0 ⟨hL1, fun _ => ⟨fun _ _ => S_makes hL1 hG hI.mt.1 hk' hl' (fun τ mem hLτ hFτ hm hM => ⟨hLτ, fun hw1 _ => ?_, fun hw1 _ => ?_⟩), fun h9 => absurd rfl h9⟩⟩
      · have Iτ := hI.scr hK hLτ hFτ (fun a j h9 => by omega) (fun _ h => h.elim)
        have qτ := (hFτ.i (a := 172) (k := 0) (by omega) (by omega)).trans q0
        refine loopU (N := els.length) (G := fun i τ => GG E mX12_made 78 [some (vr 172), none, none, none, some (vi i)] [] τ 0 0 Q) (P := fun i ρ => ρ = τ ∧ ∀ j, j < i → inGen (gmt D els) k' l' j) ?_ ?_ 0 τ (by omega) ⟨rfl, fun j hj => absurd hj (by omega)⟩
        · rintro i ρ hi ⟨rfl, hz⟩ next
          refine B_X12_made_78 hLτ ?_
          rw [Iτ.n15.1, show ((i : Nat) : Int).toNat = i by omega, hM.2 i hi]
          refine ⟨fun h => absurd h (by omega), fun _ => ⟨⟨by omega, by omega⟩, fun _ => ⟨fun h9 => ⟨⟨by omega, by omega⟩, fun _ => next ρ ⟨rfl, fun j hj => ?_⟩⟩, fun h9 _ => ?_⟩⟩⟩
          · by_cases hji : j = i
            · rw [hji]
              by_cases him : i ∈ mem
              · exact ((hm.2 i).mp him).2
              · exact absurd (inOr_0 him) h9
            · exact hz j (by omega)
          · refine h3 k' l' rfl rfl hk' hl' (by omega) i (.inl ⟨i, hi, rfl, fun hgen => ?_, hz⟩) ρ Iτ qτ
            rw [inOr_1 ((hm.2 i).mpr ⟨hi, hgen⟩)] at h9
            exact absurd h9 (by decide)
        · rintro ρ ⟨rfl, hz⟩
          refine B_X12_made_78 hLτ ?_
          rw [Iτ.n15.1]
          exact ⟨fun _ _ => h3 k' l' rfl rfl hk' hl' (by omega) (-1) (.inr ⟨rfl, fun e he => hz e he⟩) ρ Iτ qτ, fun h9 => absurd (by omega) h9⟩
      · have Iτ := hI.scr hK hLτ hFτ (fun a j h9 => by omega) (fun _ h => h.elim)
        rw [hM.1]
        exact h2 k' l' rfl rfl hk' hl' hw1 mem hm τ Iτ ((hFτ.i (by omega) (by omega)).trans q0)
    · have hw := of_eq9 r1 hr3
      exact S_bad1 (r := 1) hL1 hI hK q0 (by decide) (by decide) (by decide) (hRB 1 (by omega)) (fun τ hIτ qτ => ⟨hIτ.1, fun _ => ⟨fun h9 => absurd h9 (by decide), fun _ _ => fin τ (h1 hk.1 hk.2 hl.1 hl.2 (by omega) τ hIτ qτ) hIτ.1⟩⟩)
  · have hl := of_eq9 r1' hr2
    exact S_bad1 (r := 0) hL1 hI hK q0 (by decide) (by decide) (by decide) (hRB 0 (by omega)) (fun τ hIτ qτ => ⟨hIτ.1, fun _ => ⟨fun _ _ => fin τ (h0 (by omega) τ hIτ qτ) hIτ.1, fun h9 => absurd h9 (by decide)⟩⟩)
theorem M_isMade {k l e : Int} (h : MI K g c t σ D told els past B F W R) (hK : KFM K) (hRB : ∀ i, i < 3 → inR (R i + 1)) (hG : IsG els.length (gmt D els))
    (h0 : (k < 0 ∨ (els.length : Int) ≤ k ∨ l < 0 ∨ (els.length : Int) ≤ l ∨ e < 0 ∨ (els.length : Int) ≤ e) → ∀ τ, MI K g c t τ D told els past B F W (bmp R 0) → gI τ 172 0 = 1 → Q (.inl (some (vi 0))) τ)
    (h2 : ∀ k' l' e' : Nat, k = k' → l = l' → e = e' → k' < els.length → l' < els.length → e' < els.length → ∀ r : Int, (inGen (gmt D els) k' l' e' → r = 1) → (¬ inGen (gmt D els) k' l' e' → r = 0) → ∀ τ, MI K g c t τ D told els past B F W R → gI τ 172 0 = 0 → Q (.inl (some (vi r))) τ) : CC E mX12_isMade [vr 172, vi k, vi l, vi e] σ Q := by
  refine C_X12_isMade (B_X12_isMade_0 h.1 (fun τ1 e1 hL1 => ?_))
  obtain ⟨hI, q0⟩ := h.go hK e1
  have hn := hI.n15
  have n120 := hn.2
  have bad : (k < 0 ∨ (els.length : Int) ≤ k ∨ l < 0 ∨ (els.length : Int) ≤ l ∨ e < 0 ∨ (els.length : Int) ≤ e) → CC E mX12_bad [vr 172, vi 1, vi 1, vi 0] τ1 (KI (fun r τ => Lay LM g c t τ ∧ (inR r → ((r = 0 → (Lay LM g c t τ → GG E mX12_isMade 45 [some (vr 172), some (vi k), some (vi l), some (vi e)] [] τ 0 0 Q)) ∧ (¬ (r = 0) → (Lay LM g c t τ → GG E mX12_isMade 43 [none, none, none, none] [] τ 0 0 Q))))) (fun _ _ => False)) := fun hb =>
    S_bad1 (r := 0) hL1 hI hK q0 (by decide) (by decide) (by decide) (hRB 0 (by omega)) (fun τ hIτ qτ => ⟨hIτ.1, fun _ => ⟨fun h9 => absurd h9 (by decide), fun _ _ => B_X12_isMade_43 hIτ.1 (fun _ => h0 hb τ hIτ qτ)⟩⟩)
  refine S_isElement hL1 hn.1 hn.2 (fun r r1 r0 => ⟨hL1, fun _ => ⟨fun hr _ => bad (by have := of_eq9 r1 hr; omega), fun hr _ => S_isElement hL1 hn.1 hn.2 (fun r' r1' r0' => ⟨hL1, fun _ => ⟨fun hr2 _ => bad (by have := of_eq9 r1' hr2; omega), fun hr2 _ => S_isElement hL1 hn.1 hn.2 (fun r'' r1'' r0'' => ⟨hL1, fun _ => ⟨fun hr3 _ => ?_, fun hr3 _ => bad (by have := of_eq9 r1'' hr3; omega)⟩⟩)⟩⟩)⟩⟩)
  have hk := of_ne9 r0 hr
  have hl := of_ne9 r0' hr2
  have he := of_ne9 r0'' hr3
  obtain ⟨k', rfl⟩ : ∃ k' : Nat, k = k' := ⟨k.toNat, by omega⟩
  obtain ⟨l', rfl⟩ : ∃ l' : Nat, l = l' := ⟨l.toNat, by omega⟩
  obtain ⟨e', rfl⟩ : ∃ e' : Nat, e = e' := ⟨e.toNat, by omega⟩
  have hk' : k' < els.length := by omega
  have hl' : l' < els.length := by omega
  have he' : e' < els.length := by omega
  refine S_bad0 hL1 q0 ⟨hL1, fun _ => ⟨fun _ _ => B_X12_isMade_45 hL1 (fun _ => S_makes hL1 hG hI.mt.1 hk' hl' (fun τ mem hLτ hFτ hm hM => ⟨hLτ, ⟨by omega, by omega⟩, fun _ _ => ?_⟩)), fun h9 => absurd rfl h9⟩⟩
  have Iτ := hI.scr hK hLτ hFτ (fun a j h9 => by omega) (fun _ h => h.elim)
  rw [show ((e' : Nat) : Int).toNat = e' by omega, hM.2 e' he']
  refine h2 k' l' e' rfl rfl rfl hk' hl' he' _ (fun hg => inOr_1 ((hm.2 e').mpr ⟨he', hg⟩)) (fun hg => inOr_0 (fun h9 => hg ((hm.2 e').mp h9).2)) τ Iτ ((hFτ.i (by omega) (by omega)).trans q0)
theorem M_isKept {k l : Int} (h : MI K g c t σ D told els past B F W R) (hK : KFM K) (hRB : ∀ i, i < 3 → inR (R i + 1)) (hG : IsG els.length (gmt D els))
    (h0 : (k < 0 ∨ (els.length : Int) ≤ k ∨ l < 0 ∨ (els.length : Int) ≤ l) → ∀ τ, MI K g c t τ D told els past B F W (bmp R 0) → gI τ 172 0 = 1 → Q (.inl (some (vi 0))) τ)
    (h2 : ∀ k' l' : Nat, k = k' → l = l' → k' < els.length → l' < els.length → ∀ r : Int, (kept els.length (gmt D els) k' l' → r = 1) → (¬ kept els.length (gmt D els) k' l' → r = 0) → ∀ τ, MI K g c t τ D told els past B F W R → gI τ 172 0 = 0 → Q (.inl (some (vi r))) τ) : CC E mX12_isKept [vr 172, vi k, vi l] σ Q := by
  refine C_X12_isKept (B_X12_isKept_0 h.1 (fun τ1 e1 hL1 => ?_))
  obtain ⟨hI, q0⟩ := h.go hK e1
  have hn := hI.n15
  have n120 := hn.2
  have bad : (k < 0 ∨ (els.length : Int) ≤ k ∨ l < 0 ∨ (els.length : Int) ≤ l) → CC E mX12_bad [vr 172, vi 1, vi 1, vi 0] τ1 (KI (fun r τ => Lay LM g c t τ ∧ (inR r → ((r = 0 → (Lay LM g c t τ → CC E mX12_makes [vr 172, vi k, vi l] τ (KV (fun τ7 => Lay LM g c t τ7 ∧ (Lay LM g c t τ7 → GG E mX12_isKept 45 [some (vr 172), none, none, some (vi 0), none] [] τ7 0 0 Q)) (fun _ _ => False)))) ∧ (¬ (r = 0) → (Lay LM g c t τ → Q (.inl (some (vi 0))) τ))))) (fun _ _ => False)) := fun hb =>
    S_bad1 (r := 0) hL1 hI hK q0 (by decide) (by decide) (by decide) (hRB 0 (by omega)) (fun τ hIτ qτ => ⟨hIτ.1, fun _ => ⟨fun h9 => absurd h9 (by decide), fun _ _ => h0 hb τ hIτ qτ⟩⟩)
  refine S_isElement hL1 hn.1 hn.2 (fun r r1 r0 => ⟨hL1, fun _ => ⟨fun hr _ => bad (by have := of_eq9 r1 hr; omega), fun hr _ => S_isElement hL1 hn.1 hn.2 (fun r' r1' r0' => ⟨hL1, fun _ => ⟨fun hr2 _ => ?_, fun hr2 _ => bad (by have := of_eq9 r1' hr2; omega)⟩⟩)⟩⟩)
  have hk := of_ne9 r0 hr
  have hl := of_ne9 r0' hr2
  obtain ⟨k', rfl⟩ : ∃ k' : Nat, k = k' := ⟨k.toNat, by omega⟩
  obtain ⟨l', rfl⟩ : ∃ l' : Nat, l = l' := ⟨l.toNat, by omega⟩
  have hk' : k' < els.length := by omega
  have hl' : l' < els.length := by omega
  refine S_bad0 hL1 q0 ⟨hL1, fun _ => ⟨fun _ _ => S_makes hL1 hG hI.mt.1 hk' hl' (fun τ mem hLτ hFτ hm hM => ⟨hLτ, fun _ => ?_⟩), fun h9 => absurd rfl h9⟩⟩
  have Iτ := hI.scr hK hLτ hFτ (fun a j h9 => by omega) (fun _ h => h.elim)
  have qτ := (hFτ.i (a := 172) (k := 0) (by omega) (by omega)).trans q0
  have hMt := Iτ.mt.1
  have hV := Iτ.mt.2
  generalize hN : els.length = N at *
  generalize gmt D els = m at *
  refine loopU (N := N) (G := fun i τ => GG E mX12_isKept 45 [some (vr 172), none, none, some (vi i), none] [] τ 0 0 Q) (P := fun i ρ => ρ = τ ∧ ∀ e x, e < i → x < N → inGen m k' l' e → inGen m k' l' (tn N m e x)) ?_ ?_ 0 τ (by omega) ⟨rfl, fun e x he => absurd he (by omega)⟩
  · rintro i ρ hi ⟨rfl, hz⟩ next
    refine B_X12_isKept_45 hLτ ?_
    rw [hMt.1]
    refine ⟨fun h => absurd h (by omega), fun _ _ => ?_⟩
    refine loopU (N := N) (G := fun j τ => GG E mX12_isKept 56 [some (vr 172), none, none, some (vi i), some (vi j)] [] τ 0 0 Q) (P := fun j χ => χ = ρ ∧ ∀ x, x < j → inGen m k' l' i → inGen m k' l' (tn N m i x)) ?_ ?_ 0 ρ (by omega) ⟨rfl, fun x hx => absurd hx (by omega)⟩
    · rintro j χ hj ⟨rfl, hy⟩ nextj
      refine B_X12_isKept_56 hLτ ?_
      rw [hMt.1, show ((i : Nat) : Int).toNat = i by omega, show ((j : Nat) : Int).toNat = j by omega, hM.2 i hi]
      refine ⟨fun h => absurd h (by omega), fun _ => ⟨⟨by omega, by omega⟩, fun _ => ⟨fun h9 => ⟨⟨by omega, by omega⟩, fun _ => nextj χ ⟨rfl, fun x hx hg => ?_⟩⟩, fun h9 => ?_⟩⟩⟩
      · exact absurd ((hm.2 i).mpr ⟨hi, hg⟩) (fun him => by rw [inOr_1 him] at h9; exact absurd h9 (by decide))
      · have gi : inGen m k' l' i := by
          by_cases him : i ∈ mem
          · exact ((hm.2 i).mp him).2
          · exact absurd (inOr_0 him) h9
        have hiv := iv_lt hG hj
        have hmv := hG.2.1 _ _ hiv hi
        have ht := tn_lt hG hi hj
        rw [hV j hj, show ((iv N m j : Nat) : Int).toNat = iv N m j by omega, hMt.2.2 _ _ hiv hi, show ((m (iv N m j) i : Nat) : Int).toNat = m (iv N m j) i by omega, hMt.2.2 _ _ hmv hj]
        refine ⟨⟨by omega, by omega⟩, ⟨by omega, by omega⟩, ⟨by omega, by omega⟩, fun v10 e10 => ?_⟩
        have e11 : v10 = (tn N m i j : Int) := e10
        subst e11
        rw [show ((tn N m i j : Nat) : Int).toNat = tn N m i j by omega, hM.2 _ ht]
        refine ⟨⟨by omega, by omega⟩, fun _ => ⟨fun h8 => ⟨⟨by omega, by omega⟩, fun _ => nextj χ ⟨rfl, fun x hx hg => ?_⟩⟩, fun h8 _ => ?_⟩⟩
        · by_cases hxj : x = j
          · rw [hxj]
            by_cases htm : tn N m i j ∈ mem
            · exact ((hm.2 _).mp htm).2
            · exact absurd (inOr_0 htm) h8
          · exact hy x (by omega) hg
        · refine h2 k' l' rfl rfl hk' hl' 0 (fun hkp => ?_) (fun _ => rfl) χ Iτ qτ
          have := (hm.2 _).mpr ⟨ht, hkp i j hi hj gi⟩
          rw [inOr_1 this] at h8
          exact absurd h8 (by decide)
    · rintro χ ⟨rfl, hy⟩
      refine B_X12_isKept_56 hLτ ?_
      rw [hMt.1]
      refine ⟨fun _ => ⟨⟨by omega, by omega⟩, fun _ => next χ ⟨rfl, fun e x he hx hg => ?_⟩⟩, fun h9 => absurd (by omega) h9⟩
      by_cases hei : e = i
      · rw [hei] at hg ⊢; exact hy x hx hg
      · exact hz e x (by omega) hx hg
  · rintro ρ ⟨rfl, hz⟩
    refine B_X12_isKept_45 hLτ ?_
    rw [hMt.1]
    exact ⟨fun _ _ => h2 k' l' rfl rfl hk' hl' 1 (fun _ => rfl) (fun hn => absurd (fun e x he hx hg => hz e x he hx hg) hn) ρ Iτ qτ, fun h9 => absurd (by omega) h9⟩
theorem M_makers {w : Int} (h : MI K g c t σ D told els past B F W R) (hK : KFM K) (hRB : ∀ i, i < 3 → inR (R i + 1)) (hG : IsG els.length (gmt D els))
    (h0 : (w < 0 ∨ 1 < w) → ∀ τ, MI K g c t τ D told els past B F W (bmp R 1) → gI τ 172 0 = 1 → Q (.inl (some (vi 0))) τ)
    (h2 : 0 ≤ w → w ≤ 1 → ∀ a b : Int, IsMk els.length (gmt D els) a b → ∀ τ, MI K g c t τ D told els past B F W R → gI τ 172 0 = 0 → Q (.inl (some (vi (if w = 0 then a else b)))) τ) : CC E mX12_makers [vr 172, vi w] σ Q := by
  refine C_X12_makers (B_X12_makers_0 h.1 (fun τ1 e1 hL1 => ?_))
  obtain ⟨hI, q0⟩ := h.go hK e1
  have hn := hI.n15
  have n120 := hn.2
  refine S_in (fun r r1 r0 => ⟨hL1, fun _ => ⟨fun hr _ => ?_, fun hr _ => ?_⟩⟩)
  · have hw := of_ne9 r0 hr
    refine S_bad0 hL1 q0 ⟨hL1, fun _ => ⟨fun _ _ => ?_, fun h9 => absurd rfl h9⟩⟩
    refine loopU (N := els.length) (G := fun i τ => GG E mX12_makers 32 [some (vr 172), some (vi w), some (vi i), none] [] τ 0 0 Q) (P := fun i τ => MI K g c t τ D told els past B F W R ∧ gI τ 172 0 = 0 ∧ ∀ k l, k < i → l < els.length → ¬ mkAll els.length (gmt D els) k l) ?_ ?_ 0 τ1 (by omega) ⟨hI, q0, fun k l hk => absurd hk (by omega)⟩
    · rintro i τ hi ⟨Iτ, qτ, hz⟩ next
      refine B_X12_makers_32 Iτ.1 ?_
      rw [Iτ.n15.1]
      refine ⟨fun h => absurd h (by omega), fun _ _ => ?_⟩
      refine loopU (N := els.length) (G := fun j τ => GG E mX12_makers 42 [some (vr 172), some (vi w), some (vi i), some (vi j)] [] τ 0 0 Q) (P := fun j τ => MI K g c t τ D told els past B F W R ∧ gI τ 172 0 = 0 ∧ ∀ l, l < j → ¬ mkAll els.length (gmt D els) i l) ?_ ?_ 0 τ (by omega) ⟨Iτ, qτ, fun l hl => absurd hl (by omega)⟩
      · rintro j ρ hj ⟨Iρ, qρ, hy⟩ nextj
        refine B_X12_makers_42 Iρ.1 ?_
        rw [Iρ.n15.1]
        refine ⟨fun h => absurd h (by omega), fun _ _ => S_makes Iρ.1 hG Iρ.mt.1 hi hj (fun χ mem hLχ hFχ hm hM => ⟨hLχ, ?_⟩)⟩
        have Iχ := Iρ.scr hK hLχ hFχ (fun a j h9 => by omega) (fun _ h => h.elim)
        have qχ := (hFχ.i (a := 172) (k := 0) (by omega) (by omega)).trans qρ
        rw [hM.1, Iχ.n15.1]
        refine ⟨fun hne => ⟨⟨by omega, by omega⟩, fun _ => nextj χ ⟨Iχ, qχ, fun l hl => ?_⟩⟩, fun he => ?_⟩
        · by_cases hlj : l = j
          · rw [hlj]; exact fun h9 => hne (by rw [hm.all.mpr h9])
          · exact hy l (by omega)
        · have hmk : IsMk els.length (gmt D els) (i : Int) (j : Int) := .inl ⟨i, j, rfl, rfl, hi, hj, hm.all.mp (by omega), fun k' l' hk' hl' hlex => by
            rcases hlex with h8 | ⟨rfl, h8⟩
            · exact hz k' l' h8 hl'
            · exact hy l' h8⟩
          have := h2 hw.1 hw.2 _ _ hmk χ Iχ qχ
          refine ⟨fun h9 _ => ?_, fun h9 _ => ?_⟩
          · rw [if_neg h9] at this; exact this
          · rw [if_pos h9] at this; exact this
      · rintro ρ ⟨Iρ, qρ, hy⟩
        refine B_X12_makers_42 Iρ.1 ?_
        rw [Iρ.n15.1]
        refine ⟨fun _ => ⟨⟨by omega, by omega⟩, fun _ => next ρ ⟨Iρ, qρ, fun k l hk hl => ?_⟩⟩, fun h9 => absurd (by omega) h9⟩
        by_cases hki : k = i
        · rw [hki]; exact hy l hl
        · exact hz k l (by omega) hl
    · rintro τ ⟨Iτ, qτ, hz⟩
      refine B_X12_makers_32 Iτ.1 ?_
      rw [Iτ.n15.1]
      refine ⟨fun _ _ => ?_, fun h9 => absurd (by omega) h9⟩
      have := h2 hw.1 hw.2 (-1) (-1) (.inr ⟨rfl, rfl, hz⟩) τ Iτ qτ
      rw [ite_self] at this
      exact this
  · have hw := of_eq9 r1 hr
    exact S_bad1 (r := 1) hL1 hI hK q0 (by decide) (by decide) (by decide) (hRB 1 (by omega)) (fun τ hIτ qτ => ⟨hIτ.1, fun _ => ⟨fun h9 => absurd h9 (by decide), fun _ _ => h0 (by omega) τ hIτ qτ⟩⟩)
end S87
