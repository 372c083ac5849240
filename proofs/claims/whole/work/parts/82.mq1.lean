/-! ===== queries of elements: the reference ===== -/
section S82
variable {E : Ev} {σ : Sg} {Q : NO → Sg → Prop} {g : Sg} {c t : Nat}
variable {K : Int → List (List Int) → Sg → Prop} {D : Int} {told els : List (List Int)} {past : List (List (List Int))} {B : List Int} {F : Int} {W R : Nat → Int}
theorem S_isElement {k : Int} {N : Nat} (hL : Lay LM g c t σ) (h15 : gI σ 172 15 = (N : Int)) (hN : N ≤ 120) (hq : ∀ r : Int, (0 ≤ k ∧ k < (N : Int) → r = 1) → (¬ (0 ≤ k ∧ k < (N : Int)) → r = 0) → Q (.inl (some (vi r))) σ) : CC E mX12_isElement [vr 172, vi k] σ Q := by
  refine C_X12_isElement (B_X12_isElement_0 hL ?_)
  rw [h15]
  refine ⟨⟨by omega, by omega⟩, fun _ => S_in (fun r r1 r0 => ⟨hL, fun _ => ⟨?_, fun _ => hq r (fun h9 => r1 (by omega)) (fun h9 => r0 (by omega))⟩⟩)⟩
  by_cases h9 : 0 ≤ k ∧ k ≤ (N : Int) - 1
  · exact .inr (r1 h9)
  · exact .inl (r0 h9)
theorem MI.n15 (h : MI K g c t σ D told els past B F W R) : gI σ 172 15 = (els.length : Int) ∧ els.length ≤ 120 := by
  obtain ⟨d, p, s, m1, m2, m3, m4⟩ := h.2.2.1
  exact ⟨m4.2.1.1, m4.2.1.2.1⟩
/-- thrown nothing, on -/
theorem MI.go {τ1 : Sg} (h : MI K g c t σ D told els past B F W R) (hK : KFM K) (e1 : τ1 = sI σ 172 0 0) : MI K g c t τ1 D told els past B F W R ∧ gI τ1 172 0 = 0 := by
  have hL1 : Lay LM g c t τ1 := h.1.wI e1 (by decide) (.inl (by decide))
  subst e1
  exact ⟨h.th hK 0 hL1, by rw [gI_sI, if_pos ⟨rfl, rfl⟩]⟩
theorem M_element {k w : Int} (h : MI K g c t σ D told els past B F W R) (hK : KFM K) (hRB : ∀ i, i < 3 → inR (R i + 1))
    (h0 : (k < 0 ∨ (els.length : Int) ≤ k) → ∀ τ, MI K g c t τ D told els past B F W (bmp R 0) → gI τ 172 0 = 1 → Q (.inl (some (vi 0))) τ)
    (h1 : 0 ≤ k → k < (els.length : Int) → (w < 0 ∨ 10 < w) → ∀ τ, MI K g c t τ D told els past B F W (bmp R 1) → gI τ 172 0 = 2 → Q (.inl (some (vi 0))) τ)
    (h2 : ∀ k' w' : Nat, k = k' → w = w' → k' < els.length → w' ≤ 10 → ∀ τ, MI K g c t τ D told els past B F W R → gI τ 172 0 = 0 → Q (.inl (some (vi (elW D els k' w')))) τ) : CC E mX12_element [vr 172, vi k, vi w] σ Q := by
  refine C_X12_element (B_X12_element_0 h.1 (fun τ1 e1 hL1 => ?_))
  obtain ⟨hI, q0⟩ := h.go hK e1
  have hn := hI.n15
  have fin : ∀ ρ, Q (.inl (some (vi 0))) ρ → Lay LM g c t ρ → GG E mX12_element 51 [none, none, none] [] ρ 0 0 Q := fun ρ hq hLρ => B_X12_element_51 hLρ (fun _ => hq)
  refine S_isElement hL1 hn.1 hn.2 (fun r r1 r0 => ⟨hL1, fun _ => ⟨fun hr _ => ?_, fun hr _ => ?_⟩⟩)
  · have hk : 0 ≤ k ∧ k < (els.length : Int) := by
      by_cases h9 : 0 ≤ k ∧ k < (els.length : Int)
      · exact h9
      · exact absurd (r0 h9) hr
    refine S_bad0 hL1 q0 ⟨hL1, fun _ => ⟨fun h9 => absurd rfl h9, fun _ _ => S_in (fun r r1 r0 => ⟨hL1, fun _ => ⟨fun hr2 _ => ?_, fun hr2 _ => ?_⟩⟩)⟩⟩
    · have hw : 0 ≤ w ∧ w ≤ 10 := by
        by_cases h9 : 0 ≤ w ∧ w ≤ 10
        · exact h9
        · exact absurd (r0 h9) hr2
      obtain ⟨k', rfl⟩ : ∃ k' : Nat, k = k' := ⟨k.toNat, by omega⟩
      obtain ⟨w', rfl⟩ : ∃ w' : Nat, w = w' := ⟨w.toNat, by omega⟩
      have hk' : k' < els.length := by omega
      have hq := h2 k' w' rfl rfl hk' (by omega) τ1 hI q0
      unfold elW elV at hq
      obtain ⟨d, p, s, m1, m2, m3, m4⟩ := hI.2.2.1
      refine S_bad0 hL1 q0 ⟨hL1, fun _ => ⟨fun _ _ => ?_, fun h9 => absurd rfl h9⟩⟩
      refine B_X12_element_53 hL1 ?_
      rw [show ((k' : Nat) : Int).toNat = k' by omega, show ((w' : Nat) : Int).toNat = w' by omega, m4.2.2.2.2.1.1 k' hk', m4.2.2.1 k' hk', m4.2.2.2.1.1 k' hk']
      refine ⟨fun h8 => ⟨fun h88 => ⟨fun h99 => ⟨⟨by omega, by omega⟩, fun _ => ?_⟩, fun h99 => ⟨⟨by omega, by omega⟩, fun _ => ?_⟩⟩, fun h88 => ⟨⟨by omega, by omega⟩, fun _ => ?_⟩⟩, fun h8 => ⟨⟨by omega, by omega⟩, ⟨by omega, by omega⟩, fun _ => ?_⟩⟩
      · rw [if_neg (by omega), if_neg (by omega), if_neg (by omega)] at hq; exact hq
      · rw [if_neg (by omega), if_neg (by omega), if_pos (by omega)] at hq; exact hq
      · rw [if_neg (by omega), if_pos (by omega)] at hq; exact hq
      · rw [if_pos (by omega), ← (m4.1.2 k' hk').2 w' (by omega)] at hq; exact hq
    · have hw : w < 0 ∨ 10 < w := by
        by_cases h9 : 0 ≤ w ∧ w ≤ 10
        · have := r1 h9; omega
        · omega
      exact S_bad1 (r := 1) hL1 hI hK q0 (by decide) (by decide) (by decide) (hRB 1 (by omega)) (fun τ hIτ qτ => ⟨hIτ.1, fun _ => ⟨fun h9 => absurd h9 (by decide), fun _ _ => fin τ (h1 hk.1 hk.2 hw τ hIτ qτ) hIτ.1⟩⟩)
  · have hk : k < 0 ∨ (els.length : Int) ≤ k := by
      by_cases h9 : 0 ≤ k ∧ k < (els.length : Int)
      · have := r1 h9; omega
      · omega
    exact S_bad1 (r := 0) hL1 hI hK q0 (by decide) (by decide) (by decide) (hRB 0 (by omega)) (fun τ hIτ qτ => ⟨hIτ.1, fun _ => ⟨fun _ _ => fin τ (h0 hk τ hIτ qτ) hIτ.1, fun h9 => absurd h9 (by decide)⟩⟩)
theorem M_product {k l : Int} (h : MI K g c t σ D told els past B F W R) (hK : KFM K) (hRB : ∀ i, i < 3 → inR (R i + 1))
    (h0 : (k < 0 ∨ (els.length : Int) ≤ k ∨ l < 0 ∨ (els.length : Int) ≤ l) → ∀ τ, MI K g c t τ D told els past B F W (bmp R 0) → gI τ 172 0 = 1 → Q (.inl (some (vi 0))) τ)
    (h2 : ∀ k' l' : Nat, k = k' → l = l' → k' < els.length → l' < els.length → ∀ τ, MI K g c t τ D told els past B F W R → gI τ 172 0 = 0 → Q (.inl (some (vi (gmt D els k' l' : Int)))) τ) : CC E mX12_product [vr 172, vi k, vi l] σ Q := by
  refine C_X12_product (B_X12_product_0 h.1 (fun τ1 e1 hL1 => ?_))
  obtain ⟨hI, q0⟩ := h.go hK e1
  have hn := hI.n15
  refine S_isElement hL1 hn.1 hn.2 (fun r r1 r0 => ⟨hL1, fun _ => ⟨fun hr _ => ?_, fun hr _ => S_isElement hL1 hn.1 hn.2 (fun r' r1' r0' => ⟨hL1, fun _ => ⟨fun hr2 _ => ?_, fun hr2 _ => ?_⟩⟩)⟩⟩)
  · have hk : k < 0 ∨ (els.length : Int) ≤ k := by
      by_cases h9 : 0 ≤ k ∧ k < (els.length : Int)
      · have := r1 h9; omega
      · omega
    exact S_bad1 (r := 0) hL1 hI hK q0 (by decide) (by decide) (by decide) (hRB 0 (by omega)) (fun τ hIτ qτ => ⟨hIτ.1, fun _ => ⟨fun h9 => absurd h9 (by decide), fun _ _ => h0 (by omega) τ hIτ qτ⟩⟩)
  · have hk : 0 ≤ k ∧ k < (els.length : Int) := by
      by_cases h9 : 0 ≤ k ∧ k < (els.length : Int)
      · exact h9
      · exact absurd (r0 h9) hr
    have hl : 0 ≤ l ∧ l < (els.length : Int) := by
      by_cases h9 : 0 ≤ l ∧ l < (els.length : Int)
      · exact h9
      · exact absurd (r0' h9) hr2
    obtain ⟨k', rfl⟩ : ∃ k' : Nat, k = k' := ⟨k.toNat, by omega⟩
    obtain ⟨l', rfl⟩ : ∃ l' : Nat, l = l' := ⟨l.toNat, by omega⟩
    obtain ⟨d, p, s, m1, m2, m3, m4⟩ := hI.2.2.1
    have hq := h2 k' l' rfl rfl (by omega) (by omega) τ1 hI q0
    refine S_bad0 hL1 q0 ⟨hL1, fun _ => ⟨fun _ => ⟨⟨by omega, by omega⟩, ⟨by omega, by omega⟩, fun _ => ?_⟩, fun h9 => absurd rfl h9⟩⟩
    rw [show ((k' : Nat) : Int).toNat = k' by omega, show ((l' : Nat) : Int).toNat = l' by omega, m4.2.1.2.2 k' l' (by omega) (by omega)]
    exact hq
  · have hl : l < 0 ∨ (els.length : Int) ≤ l := by
      by_cases h9 : 0 ≤ l ∧ l < (els.length : Int)
      · have := r1' h9; omega
      · omega
    exact S_bad1 (r := 0) hL1 hI hK q0 (by decide) (by decide) (by decide) (hRB 0 (by omega)) (fun τ hIτ qτ => ⟨hIτ.1, fun _ => ⟨fun h9 => absurd h9 (by decide), fun _ _ => h0 (by omega) τ hIτ qτ⟩⟩)
theorem M_power {k x : Int} (h : MI K g c t σ D told els past B F W R) (hK : KFM K) (hRB : ∀ i, i < 3 → inR (R i + 1)) (hG : IsG els.length (gmt D els)) (hB : OdB els.length (gmt D els))
    (h0 : (k < 0 ∨ (els.length : Int) ≤ k) → ∀ τ, MI K g c t τ D told els past B F W (bmp R 0) → gI τ 172 0 = 1 → Q (.inl (some (vi 0))) τ)
    (h2 : ∀ k' : Nat, k = k' → k' < els.length → ∀ τ, MI K g c t τ D told els past B F W R → gI τ 172 0 = 0 → Q (.inl (some (vi (pwr (gmt D els) k' (x % (od els.length (gmt D els) k' : Int)).toNat : Int)))) τ) : CC E mX12_power [vr 172, vi k, vi x] σ Q := by
  refine C_X12_power (B_X12_power_0 h.1 (fun τ1 e1 hL1 => ?_))
  obtain ⟨hI, q0⟩ := h.go hK e1
  have hn := hI.n15
  refine S_isElement hL1 hn.1 hn.2 (fun r r1 r0 => ⟨hL1, fun _ => ⟨fun hr _ => ?_, fun hr _ => ?_⟩⟩)
  · have hk : 0 ≤ k ∧ k < (els.length : Int) := by
      by_cases h9 : 0 ≤ k ∧ k < (els.length : Int)
      · exact h9
      · exact absurd (r0 h9) hr
    obtain ⟨k', rfl⟩ : ∃ k' : Nat, k = k' := ⟨k.toNat, by omega⟩
    have hk' : k' < els.length := by omega
    obtain ⟨d, p, s, m1, m2, m3, m4⟩ := hI.2.2.1
    have hq := h2 k' rfl hk' τ1 hI q0
    have o1 := (od_s hG hk').1
    have o2 := (hB k' hk').2
    have n120 := hn.2
    refine S_bad0 hL1 q0 ⟨hL1, fun _ => ⟨fun _ _ => ?_, fun h9 => absurd rfl h9⟩⟩
    have hpos := Int.emod_nonneg x (show (od els.length (gmt D els) k' : Int) ≠ 0 by omega)
    have hlt := Int.emod_lt_of_pos x (show (0 : Int) < (od els.length (gmt D els) k' : Int) by omega)
    have hb : x.tmod (od els.length (gmt D els) k' : Int) = x % (od els.length (gmt D els) k' : Int) - ((if 0 ≤ x ∨ (od els.length (gmt D els) k' : Int) ∣ x then 0 else (od els.length (gmt D els) k' : Int).natAbs : Nat) : Int) := Int.tmod_eq_emod
    obtain ⟨e, he⟩ : ∃ e : Nat, x % (od els.length (gmt D els) k' : Int) = e := ⟨_, (Int.toNat_of_nonneg hpos).symm⟩
    rw [he] at hq hlt hb
    rw [show ((e : Nat) : Int).toNat = e by omega] at hq
    have main : GG E mX12_power 59 [some (vr 172), some (vi k'), none, none, some (vi 0), some (vi e)] [] τ1 0 0 Q := by
      have K := loopU (N := e) (G := fun i τ => GG E mX12_power 59 [some (vr 172), some (vi k'), none, none, some (vi (pwr (gmt D els) k' i)), some (vi ((e : Int) - (i : Int)))] [] τ 0 0 Q) (P := fun i τ => τ = τ1) ?_ ?_ 0 τ1 (by omega) rfl
      · rw [show (e : Int) - ((0 : Nat) : Int) = (e : Int) by omega] at K
        exact K
      · rintro i τ hi rfl next
        have hp := pwr_lt hG hk' i
        refine B_X12_power_59 hL1 ?_
        rw [show ((k' : Nat) : Int).toNat = k' by omega, show ((pwr (gmt D els) k' i : Nat) : Int).toNat = pwr (gmt D els) k' i by omega, m4.2.1.2.2 _ _ hp hk']
        refine ⟨fun h => absurd h (by omega), fun _ => ⟨⟨by omega, by omega⟩, ⟨by omega, by omega⟩, ⟨by omega, by omega⟩, fun _ => ?_⟩⟩
        have K9 := next τ rfl
        rw [show (e : Int) - ((i + 1 : Nat) : Int) = (e : Int) - (i : Int) + (-1) by omega] at K9
        exact K9
      · rintro τ rfl
        exact B_X12_power_59 hL1 ⟨fun _ _ => hq, fun h9 => absurd (by omega) h9⟩
    refine B_X12_power_29 hL1 ?_
    rw [show ((k' : Nat) : Int).toNat = k' by omega, m4.2.2.2.1.1 k' hk']
    by_cases hx : 0 ≤ x ∨ (od els.length (gmt D els) k' : Int) ∣ x
    · rw [if_pos hx] at hb
      have hb2 : x.tmod (od els.length (gmt D els) k' : Int) = (e : Int) := by omega
      rw [hb2]
      exact ⟨⟨by omega, by omega⟩, by omega, fun _ _ => main, fun h => absurd h (by omega)⟩
    · rw [if_neg hx] at hb
      have hb2 : x.tmod (od els.length (gmt D els) k' : Int) = (e : Int) - (od els.length (gmt D els) k' : Int) := by omega
      rw [hb2]
      refine ⟨⟨by omega, by omega⟩, by omega, fun h => absurd h (by omega), fun _ => ⟨⟨by omega, by omega⟩, fun v4 e4 _ => ?_⟩⟩
      have : v4 = (e : Int) := by omega
      rw [this]
      exact main
  · have hk : k < 0 ∨ (els.length : Int) ≤ k := by
      by_cases h9 : 0 ≤ k ∧ k < (els.length : Int)
      · have := r1 h9; omega
      · omega
    exact S_bad1 (r := 0) hL1 hI hK q0 (by decide) (by decide) (by decide) (hRB 0 (by omega)) (fun τ hIτ qτ => ⟨hIτ.1, fun _ => ⟨fun h9 => absurd h9 (by decide), fun _ _ => B_X12_power_27 hIτ.1 (fun _ => h0 hk τ hIτ qτ)⟩⟩)
theorem M_print (h : MI K g c t σ D told els past B F W R) (hK : KFM K) (hq : ∀ τ, MI K g c t τ D told els past B F W R → gI τ 172 0 = 0 → Q (.inl (some (vl (prtV els.length (gmt D els) (clAll els.length (gmt D els) els.length).1 els.length)))) τ) : CC E mX12_print [vr 172] σ Q := by
  refine C_X12_print (B_X12_print_0 h.1 (fun τ1 e1 hL1 => ?_))
  obtain ⟨hI, q0⟩ := h.go hK e1
  have hn := hI.n15
  have n120 := hn.2
  obtain ⟨d, p, s, m1, m2, m3, m4⟩ := hI.2.2.1
  refine loopU (N := els.length) (G := fun i τ => GG E mX12_print 9 [some (vr 172), some (vl (prtV els.length (gmt D els) (clAll els.length (gmt D els) els.length).1 i)), none, some (vi i)] [] τ 0 0 Q) (P := fun i τ => τ = τ1) ?_ ?_ 0 τ1 (by omega) rfl
  · rintro i τ hi rfl next
    refine B_X12_print_9 hL1 ?_
    rw [hn.1, show ((i : Nat) : Int).toNat = i by omega, m4.2.2.2.1.1 i hi, m4.2.2.2.2.1.1 i hi]
    refine ⟨fun h => absurd h (by omega), fun _ => ⟨⟨by omega, by omega⟩, fun v2 e2 => ⟨⟨by omega, by omega⟩, fun _ => ?_⟩⟩⟩
    subst e2
    exact next τ rfl
  · rintro τ rfl
    refine B_X12_print_9 hL1 ?_
    rw [hn.1]
    exact ⟨fun _ _ => hq τ hI q0, fun h9 => absurd (by omega) h9⟩
theorem M_ofOrder {x w : Int} (h : MI K g c t σ D told els past B F W R) (hK : KFM K) (hRB : ∀ i, i < 3 → inR (R i + 1))
    (h0 : (x < 1 ∨ 120 < x ∨ w < 0 ∨ 1 < w) → ∀ τ, MI K g c t τ D told els past B F W (bmp R 1) → gI τ 172 0 = 1 → Q (.inl (some (vi 0))) τ)
    (h1 : 1 ≤ x → x ≤ 120 → w = 1 → ∀ τ, MI K g c t τ D told els past B F W R → gI τ 172 0 = 0 → Q (.inl (some (vi (cntO els.length (gmt D els) x els.length)))) τ)
    (h2 : 1 ≤ x → x ≤ 120 → w = 0 → ∀ r, IsLo els.length (gmt D els) x r → ∀ τ, MI K g c t τ D told els past B F W R → gI τ 172 0 = 0 → Q (.inl (some (vi r))) τ) : CC E mX12_ofOrder [vr 172, vi x, vi w] σ Q := by
  refine C_X12_ofOrder (B_X12_ofOrder_0 h.1 (fun τ1 e1 hL1 => ?_))
  obtain ⟨hI, q0⟩ := h.go hK e1
  have hn := hI.n15
  have n120 := hn.2
  obtain ⟨d, p, s, m1, m2, m3, m4⟩ := hI.2.2.1
  have hcN := cntO_le els.length (gmt D els) x els.length
  refine S_in (fun r r1 r0 => ⟨hL1, fun _ => ⟨fun hr _ => ?_, fun hr _ => S_in (fun r' r1' r0' => ⟨hL1, fun _ => ⟨fun hr2 _ => ?_, fun hr2 _ => ?_⟩⟩)⟩⟩)
  · have hx : x < 1 ∨ 120 < x := by
      by_cases h9 : 1 ≤ x ∧ x ≤ 120
      · have := r1 h9; omega
      · omega
    exact S_bad1 (r := 1) hL1 hI hK q0 (by decide) (by decide) (by decide) (hRB 1 (by omega)) (fun τ hIτ qτ => ⟨hIτ.1, fun _ => ⟨fun h9 => absurd h9 (by decide), fun _ _ => h0 (by omega) τ hIτ qτ⟩⟩)
  · have hx : 1 ≤ x ∧ x ≤ 120 := by
      by_cases h9 : 1 ≤ x ∧ x ≤ 120
      · exact h9
      · exact absurd (r0 h9) hr
    have hw : 0 ≤ w ∧ w ≤ 1 := by
      by_cases h9 : 0 ≤ w ∧ w ≤ 1
      · exact h9
      · exact absurd (r0' h9) hr2
    refine S_bad0 hL1 q0 ⟨hL1, fun _ => ⟨fun _ => ?_, fun h9 => absurd rfl h9⟩⟩
    rw [hn.1]
    refine ⟨⟨by omega, by omega⟩, fun _ => ?_⟩
    have loop : ∀ i : Nat, i ≤ els.length → ∀ (cn : Nat) (r : Int), cn + cntO els.length (gmt D els) x i = cntO els.length (gmt D els) x els.length → ((∃ k : Nat, i ≤ k ∧ k < els.length ∧ (od els.length (gmt D els) k : Int) = x ∧ r = k ∧ ∀ j, i ≤ j → j < k → (od els.length (gmt D els) j : Int) ≠ x) ∨ (r = -1 ∧ ∀ k, i ≤ k → k < els.length → (od els.length (gmt D els) k : Int) ≠ x)) →
        GG E mX12_ofOrder 53 [some (vr 172), some (vi x), some (vi w), some (vi cn), some (vi r), some (vi ((i : Int) - 1))] [] τ1 0 0 Q := by
      intro i
      induction i with
      | zero =>
        intro _ cn r hcn hr
        refine B_X12_ofOrder_53 hL1 ⟨fun _ => ⟨fun hw1 _ => ?_, fun hw1 _ => ?_⟩, fun h9 => absurd (by omega) h9⟩
        · have : cn = cntO els.length (gmt D els) x els.length := hcn
          rw [this]
          exact h1 hx.1 hx.2 (by omega) τ1 hI q0
        · refine h2 hx.1 hx.2 hw1 r ?_ τ1 hI q0
          rcases hr with ⟨k, _, q2, q3, q4, q5⟩ | ⟨q1, q2⟩
          · exact .inl ⟨k, q2, q3, q4, fun j hj => q5 j (by omega) hj⟩
          · exact .inr ⟨q1, fun k hk => q2 k (by omega) hk⟩
      | succ i ih =>
        intro hi cn r hcn hr
        have e9 : cntO els.length (gmt D els) x (i + 1) = if (od els.length (gmt D els) i : Int) = x then cntO els.length (gmt D els) x i + 1 else cntO els.length (gmt D els) x i := rfl
        rw [e9] at hcn
        refine B_X12_ofOrder_53 hL1 ?_
        rw [show (((i + 1 : Nat) : Int) - 1) = (i : Int) by omega, show ((i : Nat) : Int).toNat = i by omega, m4.2.2.2.1.1 i (by omega)]
        refine ⟨fun h => absurd h (by omega), fun _ => ⟨⟨by omega, by omega⟩, fun he => ⟨⟨by omega, by omega⟩, ⟨by omega, by omega⟩, fun _ => ?_⟩, fun hne => ⟨⟨by omega, by omega⟩, fun _ => ?_⟩⟩⟩
        · rw [if_pos he] at hcn
          have K9 := ih (by omega) (cn + 1) (i : Int) (by omega) (.inl ⟨i, Nat.le_refl _, by omega, he, rfl, fun j h8 h9 => absurd h9 (by omega)⟩)
          exact K9
        · rw [if_neg hne] at hcn
          refine ih (by omega) cn r hcn ?_
          rcases hr with ⟨k, q1, q2, q3, q4, q5⟩ | ⟨q1, q2⟩
          · refine .inl ⟨k, by omega, q2, q3, q4, fun j h8 h9 => ?_⟩
            by_cases hji : j = i
            · rw [hji]; exact hne
            · exact q5 j (by omega) h9
          · refine .inr ⟨q1, fun k h8 h9 => ?_⟩
            by_cases hki : k = i
            · rw [hki]; exact hne
            · exact q2 k (by omega) h9
    exact loop els.length (Nat.le_refl _) 0 (-1) (by omega) (.inr ⟨rfl, fun k h8 h9 => absurd h8 (by omega)⟩)
  · have hw : w < 0 ∨ 1 < w := by
      by_cases h9 : 0 ≤ w ∧ w ≤ 1
      · have := r1' h9; omega
      · omega
    exact S_bad1 (r := 1) hL1 hI hK q0 (by decide) (by decide) (by decide) (hRB 1 (by omega)) (fun τ hIτ qτ => ⟨hIτ.1, fun _ => ⟨fun h9 => absurd h9 (by decide), fun _ _ => h0 (by omega) τ hIτ qτ⟩⟩)
theorem M_find {x0 x1 x2 x3 x4 x5 x6 x7 : Int} (h : MI K g c t σ D told els past B F W R) (hK : KFM K) (hnd : els.Nodup)
    (hq : ∀ τ, MI K g c t τ D told els past B F W R → gI τ 172 0 = 0 → Q (.inl (some (vi (fnd els [x0, x1, x2, x3, x4, x5, x6, x7])))) τ) : CC E mX12_find [vr 172, vi x0, vi x1, vi x2, vi x3, vi x4, vi x5, vi x6, vi x7] σ Q := by
  generalize hv : [x0, x1, x2, x3, x4, x5, x6, x7] = v at *
  refine C_X12_find (B_X12_find_0 h.1 (fun τ1 e1 => ⟨by decide, by decide, fun b4 τ5 eb e5 => ?_⟩))
  obtain ⟨hI, q0⟩ := h.go hK e1
  have hL3 := hI.1
  have hz3 : 2968 ≤ gz τ1 := hL3.2.2.2.2.2.2.2.1
  have hg3 : gz g ≤ gz τ1 := hL3.2.2.2.2.2.2.2.2.1
  have sb : ∀ τ, gS τ = gS τ5 → gS τ b4 = (20, 8) := fun τ e => by rw [e, e5, eb]; exact if_pos rfl
  have b16 : 16 ≤ b4 ∧ gz g ≤ b4 := by omega
  refine ⟨okB_of (sb τ5 rfl) b16.1 (by decide), b16, fun τ8 e8 => ⟨okB_of (sb τ8 (by rw [e8]; rfl)) b16.1 (by decide), fun τ10 e10 => ⟨okB_of (sb τ10 (by rw [e10, e8]; rfl)) b16.1 (by decide), fun τ12 e12 => ⟨okB_of (sb τ12 (by rw [e12, e10, e8]; rfl)) b16.1 (by decide), fun τ14 e14 => ⟨okB_of (sb τ14 (by rw [e14, e12, e10, e8]; rfl)) b16.1 (by decide), fun τ16 e16 => ⟨okB_of (sb τ16 (by rw [e16, e14, e12, e10, e8]; rfl)) b16.1 (by decide), fun τ18 e18 => ⟨okB_of (sb τ18 (by rw [e18, e16, e14, e12, e10, e8]; rfl)) b16.1 (by decide), fun τ20 e20 => ⟨okB_of (sb τ20 (by rw [e20, e18, e16, e14, e12, e10, e8]; rfl)) b16.1 (by decide), fun τ22 e22 hL22 => ?_⟩⟩⟩⟩⟩⟩⟩⟩
  have qI : ∀ b j, b < 2968 → gI τ22 b j = gI τ1 b j := fun b j hb => by
    rw [e22, e20, e18, e16, e14, e12, e10, e8]
    simp only [gI_sI]
    rw [if_neg (by omega), if_neg (by omega), if_neg (by omega), if_neg (by omega), if_neg (by omega), if_neg (by omega), if_neg (by omega), if_neg (by omega), e5]
    exact if_neg (by omega)
  have qR : ∀ b j, b < 2968 → gR τ22 b j = gR τ1 b j := fun b j hb => by
    rw [e22, e20, e18, e16, e14, e12, e10, e8, e5]
    exact if_neg (by omega)
  have hF22 : Fr (fun _ _ => False) (fun _ => False) τ1 τ22 := fun a ha k => ⟨fun _ => qI a k ha, fun _ => qR a k ha⟩
  have s22 : gS τ22 b4 = (20, 8) := sb τ22 (by rw [e22, e20, e18, e16, e14, e12, e10, e8]; rfl)
  have v22 : ∀ j, j < 8 → gI τ22 b4 j = gd v j := by
    intro j hj
    rw [← hv, e22, e20, e18, e16, e14, e12, e10, e8]
    have : j = 0 ∨ j = 1 ∨ j = 2 ∨ j = 3 ∨ j = 4 ∨ j = 5 ∨ j = 6 ∨ j = 7 := by omega
    rcases this with rfl | rfl | rfl | rfl | rfl | rfl | rfl | rfl <;> simp [gI_sI, gd]
  have I22 : MI K g c t τ22 D told els past B F W R := hI.scr hK hL22 hF22 (fun _ _ h => h.elim) (fun _ h => h.elim)
  obtain ⟨d, p, s, m1, m2, m3, m4⟩ := I22.2.2.1
  rw [m4.2.1.1]
  exact S_placeEl (z := v) m4.1 hnd (by omega) (sh_elm hL22) (by omega) (fun k hk => hL22.rx (i := 2) (n := 120) rfl hk) (fun k hk => ⟨by omega, (pa_el hk).sh hL22⟩) ⟨b16.1, s22, by omega⟩ (by rw [← hv]; rfl) v22 ⟨hL22, fun _ _ => hq τ22 I22 ((qI _ _ (by omega)).trans q0)⟩
end S82
