/-! ===== the law: what lies outside; the two layouts side by side ===== -/
def OutE (E : Ev) (σ : Sg) : Prop := ∀ a, a < 16 → gS σ a = eS E a ∧ ∀ j, gI σ a j = eI E a j ∧ gR σ a j = eR E a j
section S9f
variable {E : Ev} {M : MD} {pc : Nat} {l : List (Option NV)} {st : List NV} {σ τ : Sg} {rc rs : Nat} {Q : NO → Sg → Prop} {g : Sg} {c t : Nat}
theorem GG.ev (h : OutE E σ → GG E M pc l st σ rc rs Q) : GG E M pc l st σ rc rs Q := by
  intro p e s m args below meth cc H locs cells slots ls C K L hz hR hl hst hlo hc hs
  exact h hR.2.2.2.2.1 p e s m args below meth cc H locs cells slots ls C K L hz hR hl hst hlo hc hs
theorem CC.out {av : List NV} (h : CC E M av σ (fun o ρ => OutE E ρ → Q o ρ)) : CC E M av σ Q := by
  intro p e he h1 h2 s m args below h3 h4 h5 h6
  obtain ⟨n, o, k1, k2, k3, k4⟩ := h p e he h1 h2 s m args below h3 h4 h5 h6
  refine ⟨n, o, k1, k2, k3, ?_⟩
  rcases k4 with ⟨⟨v, σ', e1, e2, e3, e4⟩, k5⟩ | ⟨q, e1, N, ce, L, ⟨k, σ', f1, f2, f3, f4⟩, k5⟩
  · exact .inl ⟨⟨v, σ', e1, e2 e3.2.2.2.2.1, e3, e4⟩, k5⟩
  · exact .inr ⟨q, e1, N, ce, L, ⟨k, σ', f1, f2, f3 f4.2.2.2.2.1, f4⟩, k5⟩
theorem Lay.re {Y : LY} (h : Lay Y g c t σ) : Lay Y σ c t σ :=
  ⟨h.1, h.2.1, h.2.2.1, h.2.2.2.1, h.2.2.2.2.1, h.ct, h.xt, h.2.2.2.2.2.2.2.1, Nat.le_refl _, fun _ _ _ _ => ⟨rfl, fun _ => ⟨rfl, rfl⟩⟩⟩
/-- one layout stands while the other changes -/
theorem Lay.by {Y Y' : LY} {c' t' : Nat} (h : Lay Y g c t σ) (k : Lay Y' σ c' t' τ) (hd : yh Y ≤ yl Y' ∨ yh Y' ≤ yl Y)
    (hy : (∀ q ∈ yR Y, yl Y ≤ q.1 ∧ q.2.1 ≤ yh Y) ∧ (∀ q ∈ yF Y, yl Y ≤ q.1 ∧ q.1 < yh Y) ∧ (∀ q ∈ yX Y, yl Y ≤ q.1 ∧ q.1 < yh Y) ∧ (∀ q ∈ yS Y, yl Y ≤ q.1 ∧ q.1 < yh Y) ∧ 16 ≤ yl Y ∧ 16 < yh Y := by decide +kernel) : Lay Y τ c t τ := by
  have hz : yh Y ≤ gz σ := h.2.2.2.2.2.2.2.1
  have hg : gz σ ≤ gz τ := k.2.2.2.2.2.2.2.2.1
  have e : ∀ a, yl Y ≤ a → a < yh Y → gS τ a = gS σ a ∧ ∀ j, gI τ a j = gI σ a j ∧ gR τ a j = gR σ a j := fun a h1 h2 => k.fr (by have := hy.2.2.2.2.1; omega) (by omega) (by omega)
  refine ⟨fun q hq a h1 h2 => ?_, fun q hq => ?_, fun q hq j hj => ?_, fun q hq j hj => ?_, fun hl => ?_, h.ct, k.xt, Nat.le_trans hz hg, Nat.le_refl _, fun _ _ _ _ => ⟨rfl, fun _ => ⟨rfl, rfl⟩⟩⟩
  · have := hy.1 q hq
    rw [(e a (by omega) (by omega)).1]; exact h.1 q hq a h1 h2
  · have := hy.2.1 q hq
    rw [((e _ this.1 this.2).2 _).2]; exact h.2.1 q hq
  · have := hy.2.2.1 q hq
    rw [((e _ this.1 this.2).2 _).2]; exact h.2.2.1 q hq j hj
  · have := hy.2.2.2.1 q hq
    rw [((e _ this.1 this.2).2 _).2]; exact h.2.2.2.1 q hq j hj
  · have h16 := hy.2.2.2.2.2
    rw [((e 16 (by omega) h16).2 _).2, ((e 16 (by omega) h16).2 _).2]
    exact h.2.2.2.2.1 hl
theorem Fr.lay {Y' : LY} {c' t' : Nat} (k : Lay Y' σ c' t' τ) (hz : 2968 ≤ gz σ) (h16 : 16 ≤ yl Y') {W : Nat → Nat → Prop} {V : Nat → Prop} (hW : ∀ a, a < 2968 → (a < 16 ∨ (yl Y' ≤ a ∧ a < yh Y')) → (∀ j, W a j) ∧ V a) : Fr W V σ τ := by
  intro a ha j
  by_cases h9 : a < 16 ∨ (yl Y' ≤ a ∧ a < yh Y')
  · exact ⟨fun h8 => absurd ((hW a ha h9).1 j) h8, fun h8 => absurd (hW a ha h9).2 h8⟩
  · have := k.fr (a := a) (by omega) (by omega) (by omega)
    exact ⟨fun _ => (this.2 j).1, fun _ => (this.2 j).2⟩
variable {K K' : Int → List (List Int) → Sg → Prop} {D : Int} {told els : List (List Int)} {past : List (List (List Int))} {B : List Int} {F : Int} {W R : Nat → Int}
theorem CI.re (h : CI K g c t σ D told els past B F W R) : CI K σ c t σ D told els past B F W R := ⟨h.1.re, h.2⟩
theorem MI.re (h : MI K g c t σ D told els past B F W R) : MI K σ c t σ D told els past B F W R := ⟨h.1.re, h.2⟩
theorem MI.by {c' t' : Nat} (h : MI K g c t σ D told els past B F W R) (hK : KFM K) (k : Lay LC σ c' t' τ) : MI K τ c t τ D told els past B F W R := by
  have hL := h.1.by k (.inr (by decide))
  have hz : 2968 ≤ gz σ := h.1.2.2.2.2.2.2.2.1
  have f : Fr (fun a _ => a < 172) (fun a => a < 172) σ τ := Fr.lay k hz (by decide) (fun a ha h9 => by
    have h1 : yh LC = 172 := rfl
    rw [h1] at h9
    exact ⟨fun _ => by omega, by omega⟩)
  obtain ⟨l1, l2, l3, l4, l5, l6, l7, l8, l9⟩ := h
  refine ⟨hL, l2.fr f (by omega) (fun j => by omega), l3.fr f ⟨fun a j h1 h2 => by omega, fun j h1 h2 => by omega⟩, l4.fr f ⟨by omega, fun a j h1 h2 => by omega⟩, l5.fr f ⟨by omega, fun j => by omega⟩, (f.i (by omega) (by omega)).trans l6, fun i hi => (f.i (by omega) (by omega)).trans (l7 i hi), l8.fr f (fun j => by omega), ?_⟩
  refine ⟨l9.1.fr f ⟨by omega, by omega⟩, ?_⟩
  replace l9 := l9.2
  rw [f.i (by omega) (by omega)]
  rcases l9 with h | h
  · exact .inl h
  · exact .inr ⟨h.1, hK D els σ τ (f.mono (fun a j h1 => by omega) (fun a h1 => by omega)) h.2⟩
theorem CI.by {c' t' : Nat} (h : CI K g c t σ D told els past B F W R) (hK : KF K) (hz : 2968 ≤ gz σ) (k : Lay LM σ c' t' τ) : CI K τ c t τ D told els past B F W R := by
  have hL := h.1.by k (.inl (by decide))
  have ci := hL.isc
  have cr := ci.rg
  have f : Fr (fun a _ => 172 ≤ a ∨ a < 16) (fun a => 172 ≤ a ∨ a < 16) σ τ := Fr.lay k hz (by decide) (fun a ha h9 => by
    have h1 : yl LM = 172 := rfl
    rw [h1] at h9
    exact ⟨fun _ => by omega, by omega⟩)
  obtain ⟨l1, l2, l3, l4, l5, l6, l7, l8, l9, l10, l11⟩ := h
  refine ⟨hL, l2.fr f ci ⟨fun j => by omega, by omega, by omega⟩, l3.fr f ci ⟨fun j => by omega, by omega⟩, l4.fr f (fun a j h1 h2 => by omega), l5.fr f ⟨fun j => ⟨by omega, by omega⟩, by omega⟩, l6.fr f ⟨fun j => by omega, by omega⟩, (f.i (by omega) (by omega)).trans l7, fun i hi => (f.i (by omega) (by omega)).trans (l8 i hi), l9.fr f (fun j => by omega), ?_, ?_⟩
  · refine ⟨l10.1.fr f ⟨by omega, by omega, by omega⟩ (fun a j h9 => by omega), ?_⟩
    replace l10 := l10.2
    rw [f.i (by omega) (by omega)]
    rcases l10 with h | h
    · exact .inl h
    · exact .inr ⟨h.1, hK D els σ τ (f.mono (fun a j h1 => by omega) (fun a h1 => by omega)) h.2⟩
  · rw [f.i (by omega) (by omega)]
    rcases l11 with h | h
    · exact .inl h
    · exact .inr ⟨h.1, h.2.fr f ⟨by omega, by omega⟩⟩
end S9f
