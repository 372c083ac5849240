/-! ===== the law, from its start ===== -/
section S9o
variable {E : Ev} {σ τ : Sg} {Q : NO → Sg → Prop} {g : Sg} {c t : Nat}
variable {K K' : Int → List (List Int) → Sg → Prop} {D : Int} {told els : List (List Int)} {past : List (List (List Int))} {B : List Int} {F : Int} {W R : Nat → Int}
theorem nw_lo {p : Nat × Nat} {a : Nat} (ha : a < gz σ) : gS (nw σ p) a = gS σ a ∧ ∀ j, gI (nw σ p) a j = gI σ a j ∧ gR (nw σ p) a j = gR σ a j :=
  ⟨if_neg (by omega), fun j => ⟨if_neg (by omega), if_neg (by omega)⟩⟩
theorem Lay.born {Y : LY} {p : Nat × Nat} (h : Lay Y g c t σ) (hy : (∀ q ∈ yR Y, q.2.1 ≤ yh Y) ∧ (∀ q ∈ yF Y, q.1 < yh Y) ∧ (∀ q ∈ yX Y, q.1 < yh Y) ∧ (∀ q ∈ yS Y, q.1 < yh Y) ∧ 16 < yh Y := by decide +kernel) : Lay Y (nw σ p) c t (nw σ p) := by
  have hz : yh Y ≤ gz σ := h.2.2.2.2.2.2.2.1
  have hgz : gz (nw σ p) = gz σ + 1 := rfl
  have e : ∀ a, a < yh Y → gS (nw σ p) a = gS σ a ∧ ∀ j, gI (nw σ p) a j = gI σ a j ∧ gR (nw σ p) a j = gR σ a j := fun a ha => nw_lo (by omega)
  have h16 := hy.2.2.2.2
  have x := h.xt
  refine ⟨fun q hq a h1 h2 => ?_, fun q hq => ?_, fun q hq j hj => ?_, fun q hq j hj => ?_, fun hl => ?_, h.ct, ?_, by omega, Nat.le_refl _, fun _ _ _ _ => ⟨rfl, fun _ => ⟨rfl, rfl⟩⟩⟩
  · have := hy.1 q hq
    rw [(e a (by omega)).1]; exact h.1 q hq a h1 h2
  · rw [((e _ (hy.2.1 q hq)).2 _).2]; exact h.2.1 q hq
  · rw [((e _ (hy.2.2.1 q hq)).2 _).2]; exact h.2.2.1 q hq j hj
  · rw [((e _ (hy.2.2.2.1 q hq)).2 _).2]; exact h.2.2.2.1 q hq j hj
  · rw [((e 16 h16).2 _).2, ((e 16 h16).2 _).2]; exact h.2.2.2.2.1 hl
  · have eS : ∀ a, a < 16 → gS (nw σ p) a = gS σ a := fun a ha => (e a (by omega)).1
    have eI : ∀ a j, a < 16 → gI (nw σ p) a j = gI σ a j := fun a j ha => ((e a (by omega)).2 j).1
    have eR : ∀ a j, a < 16 → gR (nw σ p) a j = gR σ a j := fun a j ha => ((e a (by omega)).2 j).2
    refine ⟨⟨by rw [eS 1 (by decide)]; exact x.1.1, fun j hj => by rw [eI 1 j (by decide)]; exact x.1.2 j hj⟩, ⟨by rw [eS 2 (by decide)]; exact x.2.1.1, fun j hj => by rw [eI 2 j (by decide)]; exact x.2.1.2 j hj⟩, ⟨by rw [eS 3 (by decide)]; exact x.2.2.1.1, fun j hj => by rw [eI 3 j (by decide)]; exact x.2.2.1.2 j hj⟩, ⟨by rw [eS 4 (by decide)]; exact x.2.2.2.1.1, fun j hj => by rw [eI 4 j (by decide)]; exact x.2.2.2.1.2 j hj⟩, fun z hz => ?_⟩
    obtain ⟨z1, z2, z3, z4, z5, z6⟩ := x.2.2.2.2 z hz
    have hz16 : z.1 < 16 := by
      rcases z with ⟨u, v⟩
      simp at hz
      rcases hz with ⟨rfl, _⟩ | ⟨rfl, _⟩ | ⟨rfl, _⟩ | ⟨rfl, _⟩ <;> simp
    refine ⟨by rw [eS _ hz16]; exact z1, by rw [eI _ _ hz16]; exact z2, by rw [eR _ _ hz16]; exact z3, by rw [eR _ _ hz16]; exact z4, ?_, fun j hj => ?_⟩
    · rw [eR _ _ hz16, eS _ z4]; exact z5
    · rw [eR _ _ hz16, eI _ _ z4]; exact z6 j hj
theorem fr_born {p : Nat × Nat} (hz : 2968 ≤ gz σ) : Fr (fun _ _ => False) (fun _ => False) σ (nw σ p) := fun a ha k =>
  ⟨fun _ => ((nw_lo (show a < gz σ by omega)).2 k).1, fun _ => ((nw_lo (show a < gz σ by omega)).2 k).2⟩
theorem CI.to {g' : Sg} (h : CI K g c t σ D told els past B F W R) (hK : KF K) (hL : Lay LC g' c t τ) (f : Fr (fun _ _ => False) (fun _ => False) σ τ) : CI K g' c t τ D told els past B F W R := by
  have ci := hL.isc
  have cr := ci.rg
  obtain ⟨l1, l2, l3, l4, l5, l6, l7, l8, l9, l10, l11⟩ := h
  refine ⟨hL, l2.fr f ci ⟨fun j => id, id, id⟩, l3.fr f ci ⟨fun j => id, id⟩, l4.fr f (fun a j h1 h2 => id), l5.fr f ⟨fun j => ⟨id, id⟩, id⟩, l6.fr f ⟨fun j => id, id⟩, (f.i (by omega) id).trans l7, fun i hi => (f.i (by omega) id).trans (l8 i hi), l9.fr f (fun j => id), ?_, ?_⟩
  · refine ⟨l10.1.fr f ⟨id, id, id⟩ (fun a j h9 => id), ?_⟩
    replace l10 := l10.2
    rw [f.i (by omega) id]
    rcases l10 with h | h
    · exact .inl h
    · exact .inr ⟨h.1, hK D els σ τ (f.mono (fun a j h1 => h1.elim) (fun a h1 => h1.elim)) h.2⟩
  · rw [f.i (by omega) id]
    rcases l11 with h | h
    · exact .inl h
    · exact .inr ⟨h.1, h.2.fr f ⟨id, id⟩⟩
theorem MI.to {g' : Sg} (h : MI K g c t σ D told els past B F W R) (hK : KFM K) (hL : Lay LM g' c t τ) (f : Fr (fun _ _ => False) (fun _ => False) σ τ) : MI K g' c t τ D told els past B F W R := by
  obtain ⟨l1, l2, l3, l4, l5, l6, l7, l8, l9⟩ := h
  refine ⟨hL, l2.fr f (by omega) (fun j => id), l3.fr f ⟨fun a j h1 h2 => id, fun j h1 h2 => id⟩, l4.fr f ⟨id, fun a j h1 h2 => id⟩, l5.fr f ⟨id, fun j => id⟩, (f.i (by omega) id).trans l6, fun i hi => (f.i (by omega) id).trans (l7 i hi), l8.fr f (fun j => id), ?_⟩
  refine ⟨l9.1.fr f ⟨id, id⟩, ?_⟩
  replace l9 := l9.2
  rw [f.i (by omega) id]
  rcases l9 with h | h
  · exact .inl h
  · exact .inr ⟨h.1, hK D els σ τ (f.mono (fun a j h1 => h1.elim) (fun a h1 => h1.elim)) h.2⟩
theorem law_go {rc rs : Nat} (hK : KF K) (hK' : KFM K') (hz : gz σ = 16) (hX : XT σ) (h30 : (eS E 5).1 = 30) (hlen : (eS E 5).2 ≤ 4608) (hSI : ∀ j, j < (eS E 5).2 → inR (eI E 5 j))
    (h_told : LOP E K K' Q 566) (h_of : LOP E K K' Q 941) (h_couples : LOP E K K' Q 1009) (h_degree : LOP E K K' Q 1145) (h_value : LOP E K K' Q 1201) (h_often : LOP E K K' Q 1269) (h_opposite : LOP E K K' Q 1349) (h_ways : LOP E K K' Q 1405) (h_far : LOP E K K' Q 1473) (h_withWays : LOP E K K' Q 1541) (h_inRow : LOP E K K' Q 1653) (h_row : LOP E K K' Q 1721)
    (hrc : 10000 ≤ rc) (hrs : 200000 ≤ rs) : GG E mL_law 0 [some (vr 5), none, none, none, none, none, none] [] σ rc rs Q := by
  refine B_L_law_0 ⟨by omega, by omega, fun b1 e1 => ?_⟩
  rw [hz] at e1
  subst e1
  refine ⟨by omega, by omega, by decide, X_init (K := K) hz hX (fun τ3 hC3 hz3 => ⟨by omega, by omega, fun b4 e4 => ?_⟩)⟩
  rw [hz3] at e4
  subst e4
  refine ⟨by omega, by omega, by decide, M_init (K := K') hz3 hC3.1.xt (fun τ6 hM6 hz6 => ⟨by omega, by omega, fun b7 e7 => ?_⟩)⟩
  rw [hz6] at e7
  subst e7
  have hC3' : CI K τ3 158 165 τ3 2 [] [oneL] [] [] (-1) W0 (fun _ => 0) := hC3.re
  -- the class's cells stand beside the reference's
  have hL6 : Lay LC τ6 158 165 τ6 := by
    have hL := hC3'.1
    have k := hM6.1
    have e : ∀ a, 16 ≤ a → a < 172 → gS τ6 a = gS τ3 a ∧ ∀ j, gI τ6 a j = gI τ3 a j ∧ gR τ6 a j = gR τ3 a j := fun a h1 h2 => k.fr h1 (by omega) (.inl (by show a < 172; omega))
    have b1 : ∀ q ∈ yR LC, 16 ≤ q.1 ∧ q.2.1 ≤ 172 := by decide +kernel
    have b2 : ∀ q ∈ yF LC, 16 ≤ q.1 ∧ q.1 < 172 := by decide +kernel
    have b3 : ∀ q ∈ yX LC, 16 ≤ q.1 ∧ q.1 < 172 := by decide +kernel
    have b4 : ∀ q ∈ yS LC, 16 ≤ q.1 ∧ q.1 < 172 := by decide +kernel
    refine ⟨fun q hq a h1 h2 => ?_, fun q hq => ?_, fun q hq j hj => ?_, fun q hq j hj => ?_, fun hl => ?_, .inl ⟨rfl, rfl⟩, k.xt, by show 172 ≤ gz τ6; omega, Nat.le_refl _, fun _ _ _ _ => ⟨rfl, fun _ => ⟨rfl, rfl⟩⟩⟩
    · have := b1 q hq
      rw [(e a (by omega) (by omega)).1]; exact hL.1 q hq a h1 h2
    · rw [((e _ (b2 q hq).1 (b2 q hq).2).2 _).2]; exact hL.2.1 q hq
    · rw [((e _ (b3 q hq).1 (b3 q hq).2).2 _).2]; exact hL.2.2.1 q hq j hj
    · rw [((e _ (b4 q hq).1 (b4 q hq).2).2 _).2]; exact hL.2.2.2.1 q hq j hj
    · rw [((e 16 (by decide) (by decide)).2 _).2, ((e 16 (by decide) (by decide)).2 _).2]; exact hL.2.2.2.2.1 hl
  have f6 : Fr (fun a _ => 172 ≤ a ∨ a < 16) (fun a => 172 ≤ a ∨ a < 16) τ3 τ6 := fun a ha j => by
    by_cases h9 : 172 ≤ a ∨ a < 16
    · exact ⟨fun h8 => absurd h9 h8, fun h8 => absurd h9 h8⟩
    · have := hM6.1.fr (a := a) (by omega) (by omega) (.inl (by show a < 172; omega))
      exact ⟨fun _ => (this.2 j).1, fun _ => (this.2 j).2⟩
  have hC6 : CI K τ6 158 165 τ6 2 [] [oneL] [] [] (-1) W0 (fun _ => 0) := by
    have ci := hL6.isc
    obtain ⟨l1, l2, l3, l4, l5, l6, l7, l8, l9, l10, l11⟩ := hC3'
    refine ⟨hL6, l2.fr f6 ci ⟨fun j => by omega, by omega, by omega⟩, l3.fr f6 ci ⟨fun j => by omega, by omega⟩, l4.fr f6 (fun a j h1 h2 => by omega), l5.fr f6 ⟨fun j => ⟨by omega, by omega⟩, by omega⟩, l6.fr f6 ⟨fun j => by omega, by omega⟩, (f6.i (by omega) (by omega)).trans l7, fun i hi => (f6.i (by omega) (by omega)).trans (l8 i hi), l9.fr f6 (fun j => by omega), ?_, ?_⟩
    · refine ⟨l10.1.fr f6 ⟨by omega, by omega, by omega⟩ (fun a j h9 => by omega), ?_⟩
      replace l10 := l10.2
      rw [f6.i (by omega) (by omega)]
      rcases l10 with h | h
      · exact .inl h
      · exact .inr ⟨h.1, hK 2 [oneL] τ3 τ6 (f6.mono (fun a j h1 => by omega) (fun a h1 => by omega)) h.2⟩
    · rw [f6.i (by omega) (by omega)]
      rcases l11 with h | h
      · exact .inl h
      · exact .inr ⟨h.1, h.2.fr f6 ⟨by omega, by omega⟩⟩
  have fb : Fr (fun _ _ => False) (fun _ => False) τ6 (nw τ6 (23, 1)) := fr_born (by omega)
  have hI : INV K K' (nw τ6 (23, 1)) 0 2 [] [oneL] [] [] (-1) W0 (fun _ => 0) := by
    refine ⟨⟨158, 165, hC6.to hK hL6.born fb⟩, ⟨158, 165, hM6.to hK' hM6.1.born fb⟩, ⟨.inl rfl, ⟨by decide, fun u hu => absurd hu (by simp)⟩, rfl, by decide, fun i hi => absurd hi (by simp)⟩, ?_, ?_, fun i _ => ⟨Int.le_refl _, Int.le_refl _⟩⟩
    · exact if_pos hz6.symm
    · show 2969 ≤ gz τ6 + 1; omega
  have g := law_loop hK hK' h30 hlen hSI h_told h_of h_couples h_degree h_value h_often h_opposite h_ways h_far h_withWays h_inRow h_row 513 0 (nw τ6 (23, 1)) (rc - 1 - 155 - 1 - 2795 - 1) (rs - 17 - 22704 - 42 - 136109 - 1) _ _ _ _ _ _ _ _ (by decide) hI (by omega) (by omega)
  exact g
end S9o
