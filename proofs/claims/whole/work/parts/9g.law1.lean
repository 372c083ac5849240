/-! ===== the law: one call after the other ===== -/
def INV (K K' : Int → List (List Int) → Sg → Prop) (σ : Sg) (n : Nat) (D : Int) (told els : List (List Int)) (past : List (List (List Int))) (B : List Int) (F : Int) (W R : Nat → Int) : Prop :=
  (∃ c t, CI K σ c t σ D told els past B F W R) ∧ (∃ c t, MI K' σ c t σ D told els past B F W R) ∧ OKs D told els past ∧ gS σ 2968 = (23, 1) ∧ 2969 ≤ gz σ ∧ ∀ i, i < 3 → 0 ≤ R i ∧ R i ≤ n
def OUT (σ : Sg) : Prop := gS σ 2968 = (23, 1) ∧ 2969 ≤ gz σ
/-- the script, at place x -/
def SCR (E : Ev) (x : Int) : Prop := (eS E 5).1 = 30 ∧ 0 ≤ x ∧ x + 9 ≤ ((eS E 5).2 : Int) ∧ (eS E 5).2 ≤ 4608
section S9g
variable {E : Ev} {σ τ : Sg} {Q : NO → Sg → Prop} {g : Sg} {c t c' t' : Nat}
variable {K K' : Int → List (List Int) → Sg → Prop} {D : Int} {told els : List (List Int)} {past : List (List (List Int))} {B : List Int} {F : Int} {W R : Nat → Int}
variable {D' : Int} {told' els' : List (List Int)} {past' : List (List (List Int))} {B' : List Int} {F' : Int} {W' R' : Nat → Int} {x4 : Int} {n : Nat}
theorem oka (hS : SCR E x4) (ho : OutE E τ) {j : Int} (hj : 0 ≤ j ∧ j ≤ 8) : okA 20 τ 5 (x4 + j) := by
  obtain ⟨s1, s2, s3, s4⟩ := hS
  have e := (ho 5 (by decide)).1
  refine ⟨.inr ⟨by decide, by decide, by rw [e]; exact s1⟩, by omega, by rw [e]; omega⟩
theorem inx (hS : SCR E x4) {j : Int} (hj : 0 ≤ j ∧ j ≤ 9) : inR (x4 + j) := by
  obtain ⟨s1, s2, s3, s4⟩ := hS
  exact ⟨by omega, by omega⟩
theorem arg (ho : OutE E σ) (hp : OutE E τ) (j : Nat) : gI τ 5 j = gI σ 5 j := by
  rw [((hp 5 (by decide)).2 j).1, ((ho 5 (by decide)).2 j).1]
theorem okC16 (h : CI K g c t σ D told els past B F W R) : okO σ 16 11 := okO_of (N := 17) (h.1.1 (16, 17, 12, 17) (by decide) 16 (by decide) (by decide)) (by decide)
theorem okM172 (h : MI K g c t σ D told els past B F W R) : okO σ 172 12 := okO_of (N := 42) (h.1.1 (172, 173, 13, 42) (by decide) 172 (by decide) (by decide)) (by decide)
theorem x2o (hL : Lay LC σ c t τ) (ho : OUT σ) : OUT τ := by
  have hg : gz σ ≤ gz τ := hL.2.2.2.2.2.2.2.2.1
  have h2 := ho.2
  have f := hL.fr (a := 2968) (by omega) (by omega) (.inr (by show 172 ≤ 2968; omega))
  exact ⟨f.1.trans ho.1, by omega⟩
theorem m2o (hL : Lay LM σ c t τ) (ho : OUT σ) : OUT τ ∧ gI τ 2968 0 = gI σ 2968 0 := by
  have hg : gz σ ≤ gz τ := hL.2.2.2.2.2.2.2.2.1
  have h2 := ho.2
  have f := hL.fr (a := 2968) (by omega) (by omega) (.inr (by show 2968 ≤ 2968; omega))
  exact ⟨⟨f.1.trans ho.1, by omega⟩, (f.2 0).1⟩
theorem okO23 (ho : OUT σ) : okB 23 σ 2968 0 := ⟨by decide, by rw [ho.1], by decide, by rw [ho.1]; decide⟩
/-- an answer is written out -/
theorem Lay.put {Y : LY} {r : Int} (h : Lay Y g c t σ) (e : τ = sI σ 2968 0 r) (hy : (∀ q ∈ yF Y, q.1 ≠ 2968) ∧ (∀ q ∈ yX Y, q.1 ≠ 2968) ∧ (∀ q ∈ yS Y, q.1 ≠ 2968) := by decide +kernel) : Lay Y τ c t τ := by
  subst e
  have x := h.xt
  have q : ∀ b j, b < 2968 → gI (sI σ 2968 0 r) b j = gI σ b j := fun b j hb => by rw [gI_sI, if_neg (by omega)]
  refine ⟨h.1, h.2.1, h.2.2.1, h.2.2.2.1, h.2.2.2.2.1, h.ct, ?_, h.2.2.2.2.2.2.2.1, Nat.le_refl _, fun _ _ _ _ => ⟨rfl, fun _ => ⟨rfl, rfl⟩⟩⟩
  refine ⟨⟨x.1.1, fun j hj => (q _ _ (by decide)).trans (x.1.2 j hj)⟩, ⟨x.2.1.1, fun j hj => (q _ _ (by decide)).trans (x.2.1.2 j hj)⟩, ⟨x.2.2.1.1, fun j hj => (q _ _ (by decide)).trans (x.2.2.1.2 j hj)⟩, ⟨x.2.2.2.1.1, fun j hj => (q _ _ (by decide)).trans (x.2.2.2.1.2 j hj)⟩, fun z hz => ?_⟩
  obtain ⟨z1, z2, z3, z4, z5, z6⟩ := x.2.2.2.2 z hz
  have z4' : gR σ z.1 0 < 16 := z4
  have hz16 : z.1 < 16 := by
    rcases z with ⟨u, v⟩
    simp at hz
    rcases hz with ⟨rfl, _⟩ | ⟨rfl, _⟩ | ⟨rfl, _⟩ | ⟨rfl, _⟩ <;> simp
  refine ⟨z1, (q _ _ (by omega)).trans z2, z3, z4, z5, fun j hj => ?_⟩
  show gI (sI σ 2968 0 r) (gR σ z.1 0) j = _
  rw [q _ _ (by omega)]; exact z6 j hj
theorem fr_put {r : Int} (e : τ = sI σ 2968 0 r) : Fr (fun _ _ => False) (fun _ => False) σ τ := by
  subst e
  exact fun a ha k => ⟨fun _ => by rw [gI_sI, if_neg (by omega)], fun _ => rfl⟩
theorem CI.put {r : Int} (h : CI K g c t σ D told els past B F W R) (hK : KF K) (e : τ = sI σ 2968 0 r) : CI K τ c t τ D told els past B F W R := by
  have hL := h.1.put e
  have f := fr_put e
  have ci := hL.isc
  have cr := ci.rg
  obtain ⟨l1, l2, l3, l4, l5, l6, l7, l8, l9, l10, l11⟩ := h
  refine ⟨hL, l2.fr f ci ⟨fun j => id, id, id⟩, l3.fr f ci ⟨fun j => id, id⟩, l4.fr f (fun a j h1 h2 => id), l5.fr f ⟨fun j => ⟨id, id⟩, id⟩, l6.fr f ⟨fun j => id, id⟩, (f.i (by omega) id).trans l7, fun i hi => (f.i (by omega) id).trans (l8 i hi), l9.fr f (fun j => id), ?_, ?_⟩
  · refine ⟨l10.1.fr f ⟨id, id, id⟩ (fun a j h9 => id), ?_⟩
    replace l10 := l10.2
    rw [f.i (by omega) id]
    rcases l10 with h | h
    · exact .inl h
    · exact .inr ⟨h.1, hK D els σ τ (f.mono (fun a j h1 => h1.elim) (fun a h1 => h1.elim)) h.2⟩
  · rw [f.i (by omega) id]
    rcases l11 with h | h
    · exact .inl h
    · exact .inr ⟨h.1, h.2.fr f ⟨id, id⟩⟩
theorem MI.put {r : Int} (h : MI K g c t σ D told els past B F W R) (hK : KFM K) (e : τ = sI σ 2968 0 r) : MI K τ c t τ D told els past B F W R := by
  have hL := h.1.put e
  have f := fr_put e
  obtain ⟨l1, l2, l3, l4, l5, l6, l7, l8, l9⟩ := h
  refine ⟨hL, l2.fr f (by omega) (fun j => id), l3.fr f ⟨fun a j h1 h2 => id, fun j h1 h2 => id⟩, l4.fr f ⟨id, fun a j h1 h2 => id⟩, l5.fr f ⟨id, fun j => id⟩, (f.i (by omega) id).trans l6, fun i hi => (f.i (by omega) id).trans (l7 i hi), l8.fr f (fun j => id), ?_⟩
  refine ⟨l9.1.fr f ⟨id, id⟩, ?_⟩
  replace l9 := l9.2
  rw [f.i (by omega) id]
  rcases l9 with h | h
  · exact .inl h
  · exact .inr ⟨h.1, hK D els σ τ (f.mono (fun a j h1 => h1.elim) (fun a h1 => h1.elim)) h.2⟩
theorem OUT.put {r : Int} (h : OUT σ) (e : τ = sI σ 2968 0 r) : OUT τ ∧ gI τ 2968 0 = r := by
  subst e
  exact ⟨h, by rw [gI_sI, if_pos ⟨rfl, rfl⟩]⟩
/-- after both: the invariant again -/
theorem inv_of (hC : CI K g c t σ D told els past B F W R) (hK : KF K) (hM : MI K' σ c' t' τ D told els past B F W R) (ho : OUT σ) (hO : OKs D told els past) (hR : ∀ i, i < 3 → 0 ≤ R i ∧ R i ≤ n) : INV K K' τ n D told els past B F W R := by
  have h2 := ho.2
  have o := (m2o hM.1 ho).1
  exact ⟨⟨c, t, hC.by hK (by omega) hM.1⟩, ⟨c', t', hM.re⟩, hO, o.1, o.2, hR⟩
theorem bmp_le (hR : ∀ i, i < 3 → 0 ≤ R i ∧ R i ≤ n) (k : Nat) : ∀ i, i < 3 → 0 ≤ bmp R k i ∧ bmp R k i ≤ (n + 1 : Nat) := fun i hi => by
  have := hR i hi
  show 0 ≤ ups R k (R k + 1) i ∧ ups R k (R k + 1) i ≤ _
  unfold ups
  split
  · rename_i h
    rw [← h]; omega
  · omega
theorem le_1 (hR : ∀ i, i < 3 → 0 ≤ R i ∧ R i ≤ n) : ∀ i, i < 3 → 0 ≤ R i ∧ R i ≤ (n + 1 : Nat) := fun i hi => by have := hR i hi; omega
theorem inR_1 (hR : ∀ i, i < 3 → 0 ≤ R i ∧ R i ≤ n) (hn : n ≤ 5000) : ∀ i, i < 3 → inR (R i + 1) := fun i hi => by have := hR i hi; exact ⟨by omega, by omega⟩
abbrev NXT (E : Ev) (K K' : Int → List (List Int) → Sg → Prop) (x4 : Int) (n rc rs : Nat) (Q : NO → Sg → Prop) : Prop := ∀ τ D told els past B F W R, INV K K' τ n D told els past B F W R → GG E mL_law 2194 [some (vr 5), some (vr 16), some (vr 172), some (vr 2968), some (vi x4), none, none] [] τ rc rs Q
variable {rc rs : Nat}
theorem law_fault (hI : INV K K' σ n D told els past B F W R) (hK : KF K) (hK' : KFM K') (hN : NXT E K K' x4 (n + 1) rc rs Q) : GG E mL_law 313 [some (vr 5), some (vr 16), some (vr 172), some (vr 2968), some (vi x4), none, none] [] σ rc rs Q := by
  obtain ⟨⟨c, t, hC⟩, ⟨c', t', hM⟩, hO, o1, o2, hR⟩ := hI
  exact B_L_law_313 ⟨okC16 hC, X_fault hC (fun _ => ⟨okM172 hM, M_fault hM hK' (fun τ hMτ h0 _ => ⟨fun _ => hN τ _ _ _ _ _ _ _ _ (inv_of hC hK hMτ ⟨o1, o2⟩ hO (le_1 hR)), fun h9 => absurd rfl h9⟩)⟩)⟩
theorem law_why (hS : SCR E x4) (hI : INV K K' σ n D told els past B F W R) (hK : KF K) (hK' : KFM K') (hN : NXT E K K' x4 (n + 1) rc rs Q) : GG E mL_law 541 [some (vr 5), some (vr 16), some (vr 172), some (vr 2968), some (vi x4), none, none] [] σ rc rs Q := by
  obtain ⟨⟨c, t, hC⟩, ⟨c', t', hM⟩, hO, o1, o2, hR⟩ := hI
  refine GG.ev (fun ho => ?_)
  exact B_L_law_541 ⟨inx hS (by decide), oka hS ho (by decide), okC16 hC, X_why hC (fun _ => ⟨oka hS ho (by decide), okM172 hM, M_why hM hK' (fun τ hMτ h0 _ => ⟨fun _ => hN τ _ _ _ _ _ _ _ _ (inv_of hC hK hMτ ⟨o1, o2⟩ hO (le_1 hR)), fun h9 => absurd rfl h9⟩)⟩)⟩
theorem law_status (hS : SCR E x4) (hI : INV K K' σ n D told els past B F W R) (hK : KF K) (hK' : KFM K') (hN : NXT E K K' x4 (n + 1) rc rs Q) : GG E mL_law 2169 [some (vr 5), some (vr 16), some (vr 172), some (vr 2968), some (vi x4), none, none] [] σ rc rs Q := by
  obtain ⟨⟨c, t, hC⟩, ⟨c', t', hM⟩, hO, o1, o2, hR⟩ := hI
  refine GG.ev (fun ho => ?_)
  exact B_L_law_2169 ⟨inx hS (by decide), oka hS ho (by decide), okC16 hC, X_status hC (fun _ => ⟨oka hS ho (by decide), okM172 hM, M_status hM hK' (fun τ hMτ h0 _ => ⟨fun _ => hN τ _ _ _ _ _ _ _ _ (inv_of hC hK hMτ ⟨o1, o2⟩ hO (le_1 hR)), fun h9 => absurd rfl h9⟩)⟩)⟩
theorem law_print (hI : INV K K' σ n D told els past B F W R) (hK : KF K) (hK' : KFM K') (hN : NXT E K K' x4 (n + 1) rc rs Q) : GG E mL_law 2155 [some (vr 5), some (vr 16), some (vr 172), some (vr 2968), some (vi x4), none, none] [] σ rc rs Q := by
  obtain ⟨⟨c, t, hC⟩, ⟨c', t', hM⟩, hO, o1, o2, hR⟩ := hI
  exact B_L_law_2155 ⟨okC16 hC, X_print hC (fun _ => ⟨okM172 hM, M_print hM hK' (fun τ hMτ h0 _ => ⟨fun _ => hN τ _ _ _ _ _ _ _ _ (inv_of hC hK hMτ ⟨o1, o2⟩ hO (le_1 hR)), fun h9 => absurd rfl h9⟩)⟩)⟩
theorem law_undo (hI : INV K K' σ n D told els past B F W R) (hK : KF K) (hK' : KFM K') (hN : NXT E K K' x4 (n + 1) rc rs Q) : GG E mL_law 528 [some (vr 5), some (vr 16), some (vr 172), some (vr 2968), some (vi x4), none, none] [] σ rc rs Q := by
  obtain ⟨⟨c, t, hC⟩, ⟨c', t', hM⟩, hO, o1, o2, hR⟩ := hI
  refine B_L_law_528 ⟨okC16 hC, X_undo hC hK hO (fun hp _ => ⟨okM172 hM, M_undo hM hK' hO (fun _ τ hMτ h0 _ => ⟨fun _ => hN τ _ _ _ _ _ _ _ _ (inv_of hC hK hMτ ⟨o1, o2⟩ hO (le_1 hR)), fun h9 => absurd rfl h9⟩) (fun hp9 => absurd hp9 (by rw [hp]; decide))⟩) (fun hp e1 hO1 τ1 hC1 _ => ?_)⟩
  have hM1 := hM.by hK' hC1.1
  have oo := x2o hC1.1 ⟨o1, o2⟩
  refine ⟨okM172 hM1, M_undo hM1 hK' hO (fun hp9 => absurd hp (by rw [hp9]; decide)) (fun _ e2 hO2 τ hMτ h0 _ => ?_)⟩
  have ee : e1 = e2 := by
    have a := hO1.2.2.1
    rw [hO2.2.2.1] at a
    injection a with a
    injection a with a
    exact a.symm
  subst ee
  exact ⟨fun _ => hN τ _ _ _ _ _ _ _ _ (inv_of hC1 hK hMτ oo hO1 (le_1 hR)), fun h9 => absurd rfl h9⟩
theorem law_feed (hS : SCR E x4) (hI : INV K K' σ n D told els past B F W R) (hK : KF K) (hK' : KFM K') (hN : NXT E K K' x4 (n + 1) rc rs Q) : GG E mL_law 184 [some (vr 5), some (vr 16), some (vr 172), some (vr 2968), some (vi x4), none, none] [] σ rc rs Q := by
  obtain ⟨⟨c, t, hC⟩, ⟨c', t', hM⟩, hO, o1, o2, hR⟩ := hI
  refine GG.ev (fun ho => ?_)
  refine B_L_law_184 ⟨inx hS (by decide), oka hS ho (by decide), inx hS (by decide), oka hS ho (by decide), inx hS (by decide), oka hS ho (by decide), inx hS (by decide), oka hS ho (by decide), inx hS (by decide), oka hS ho (by decide), okC16 hC, CC.out (X_feed hC hK (fun hb hp _ => ?_) (fun hb τ1 hC1 hp _ => ?_))⟩
  · refine ⟨oka hS hp (by decide), oka hS hp (by decide), oka hS hp (by decide), oka hS hp (by decide), oka hS hp (by decide), okM172 hM, M_feed hM hK' (fun _ τ hMτ h0 _ => ?_) (fun hb9 => absurd hb9 (by omega))⟩
    exact ⟨fun _ => hN τ _ _ _ _ _ _ _ _ (inv_of hC hK hMτ ⟨o1, o2⟩ hO (le_1 hR)), fun h9 => absurd rfl h9⟩
  · have hM1 := hM.by hK' hC1.1
    have oo := x2o hC1.1 ⟨o1, o2⟩
    refine ⟨oka hS hp (by decide), oka hS hp (by decide), oka hS hp (by decide), oka hS hp (by decide), oka hS hp (by decide), okM172 hM1, ?_⟩
    rw [arg ho hp, arg ho hp, arg ho hp, arg ho hp, arg ho hp]
    refine M_feed hM1 hK' (fun hb9 => absurd hb9 (by omega)) (fun _ τ hMτ h0 _ => ?_)
    exact ⟨fun _ => hN τ _ _ _ _ _ _ _ _ (inv_of hC1 hK hMτ oo hO (le_1 hR)), fun h9 => absurd rfl h9⟩
end S9g
