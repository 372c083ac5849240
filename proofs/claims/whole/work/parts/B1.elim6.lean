/-! ===== the reference's elimination, all of it ===== -/
abbrev AF (σ : Sg) : Nat → Nat → Int := fun e b => gI σ (gR σ 2861 e) b
abbrev frFo : Nat → Nat → Prop := fun a _ => (2862 ≤ a ∧ a < 2910) ∨ a = 2912 ∨ a = 2911
abbrev frFv : Nat → Prop := fun a => a = 2861
section SB1
variable {E : Ev} {σ : Sg} {Q : NO → Sg → Prop} {g : Sg} {c t : Nat}
theorem fo_9 {p r : Nat} {A0 : Nat → Nat → Int} (hpr : isPr p) (h242 : p < 242) (h48 : r ≤ 48) (h16 : gI σ 172 16 = (r : Int)) (h18 : gI σ 172 18 = (p : Int))
    (h : ∀ τ (f : Nat), Lay LM g c t τ → JM τ → Fr frFo frFv σ τ → FO p r A0 f (gI τ 2911) → Q (.inl (some (vi f))) τ) :
    ∀ (d b k f : Nat) (lf : Int) (ρ : Sg), b + d = r → Lay LM g c t ρ → JM ρ → Fr frFo frFv σ ρ → EL p r A0 (AF ρ) (gI ρ 2912) b k f lf → GG E mX12_freeOf 9 [some (vr 172), some (vi k), some (vi f), some (vi lf), some (vi b), none, none, none, none, none, none] [] ρ 0 0 Q := by
  have p1 := hpr.1
  intro d
  induction d with
  | zero =>
    intro b k f lf ρ hd hL hJ hF hE
    have k16 : gI ρ 172 16 = (r : Int) := (hF.i (by omega) (by omega)).trans h16
    have k18 : gI ρ 172 18 = (p : Int) := (hF.i (by omega) (by omega)).trans h18
    have hbr : b = r := by omega
    subst hbr
    refine B_X12_freeOf_9 hL ?_
    rw [k16]
    refine ⟨fun _ _ => ?_, fun h9 => absurd (by omega) h9⟩
    have h8 := hE.2.2.2.2.2.2.2
    have hv : ∀ i, i < b → gI ρ 2912 i = -1 ∨ (0 ≤ gI ρ 2912 i ∧ gI ρ 2912 i < (b : Int)) := fun i hi => by
      rcases hE.2.2.2.2.1 i hi with ⟨g1, _⟩ | ⟨q, g1, g2, _⟩
      · exact .inl g1
      · have := hE.1; exact .inr (by omega)
    rcases h8 with ⟨g1, g2, g3⟩ | ⟨g1, l, g2, g3, g4⟩
    · subst g2
      exact fo_277n hL (h ρ f hL hJ hF (hE.fo p1 (fun l hl => by omega)))
    · subst g2
      refine fo_277 hL k16 k18 h48 (by omega) g3 (fun i j hi hj => hE.2.2.1 i j hi hj) hv (fun τ hL2 hF2 hk => h τ f hL2 (hJ.fr hF2 ⟨by decide, by decide⟩) (hF.trans (hF2.mono (fun a j h9 => .inr (.inr h9)) (fun _ h => h.elim))) ?_)
      exact hE.fo p1 (fun l' hl' i hi => by
        have : l' = l := by omega
        subst this
        exact hk i hi)
  | succ d ih =>
    intro b k f lf ρ hd hL hJ hF hE
    have k16 : gI ρ 172 16 = (r : Int) := (hF.i (by omega) (by omega)).trans h16
    have k18 : gI ρ 172 18 = (p : Int) := (hF.i (by omega) (by omega)).trans h18
    have hbr : b < r := by omega
    have hkb := hE.1
    have rw9 : ∀ e, e < 48 → 2862 ≤ gR ρ 2861 e ∧ gR ρ 2861 e < 2910 := fun e he => hL.2.2.2.1 (2861, 48, 2862, 2910) (by decide) e he
    refine B_X12_freeOf_9 hL ?_
    rw [k16]
    refine ⟨fun h9 => absurd h9 (by omega), fun _ _ => ?_⟩
    refine fo_21 hL k16 h48 (by omega) hbr (fun q hkq hqr hz hnz => ?_)
    by_cases hq : q < r
    · have hne := hnz hq
      have hkr : k < r := by omega
      refine fo_49 hL hJ k16 h48 hkr hq hbr (fun τ1 hL1 hJ1 hF1 R1 P1 => ?_)
      have A1 : ∀ e i, e < r → gI τ1 (gR τ1 2861 e) i = AF ρ (swI k q e) i := fun e i he => by
        have s := swI_lt (n := 48) (k := k) (q := q) (e := e) (by omega) (by omega) (by omega)
        have := rw9 _ s
        rw [R1]
        exact hF1.i (by omega) (by omega)
      have g16 : gI τ1 172 16 = (r : Int) := (hF1.i (by omega) (by omega)).trans k16
      have g18 : gI τ1 172 18 = (p : Int) := (hF1.i (by omega) (by omega)).trans k18
      have sk : swI k q k = q := by unfold swI; rw [if_pos rfl]
      refine fo_119 hL1 hJ1 g16 g18 h48 (by omega) hkr (fun i hi => ?_) ?_ (fun τ2 hL2 hF2 K2 O2 => ?_)
      · rw [A1 k i hkr, sk]; exact hE.2.2.1 q i hq hi
      · exact hE.2.2.1 q b hq hbr
      have R2 : ∀ e, gR τ2 2861 e = gR τ1 2861 e := fun e => hF2.r (by omega) id
      have K2' : ∀ i, i < r → gI τ2 (gR τ2 2861 k) i = ovV p (AF ρ q i) (AF ρ q b) := fun i hi => by
        rw [R2, K2 i hi, A1 k i hkr, sk]
      have O2' : ∀ e i, e < r → e ≠ k → gI τ2 (gR τ2 2861 e) i = AF ρ (swI k q e) i := fun e i he hek => by
        rw [R2, O2 e i (by omega) hek, A1 e i he]
      have f16 : gI τ2 172 16 = (r : Int) := (hF2.i (by omega) (by omega)).trans g16
      have f18 : gI τ2 172 18 = (p : Int) := (hF2.i (by omega) (by omega)).trans g18
      refine fo_161 hL2 (hJ1.fr hF2 ⟨id, id⟩) f16 f18 h48 (by omega) hkr hbr (fun e i he hi => ?_) (fun τ3 hL3 hF3 K3 P3 => ?_)
      · by_cases hek : e = k
        · rw [hek, K2' i hi]; exact ov_rng (by omega) _ _
        · rw [O2' e i he hek]; exact hE.2.2.1 _ i (swI_lt hkr hq he) hi
      have R3 : ∀ e, gR τ3 2861 e = gR τ2 2861 e := fun e => hF3.r (by omega) id
      have K3' : ∀ i, i < r → AF τ3 k i = ovV p (AF ρ q i) (AF ρ q b) := fun i hi => by
        show gI τ3 (gR τ3 2861 k) i = _
        rw [R3, K3 k i hkr hi, if_pos rfl, K2' i hi]
      refine ih (b + 1) (k + 1) f lf τ3 (by omega) hL3 ((hJ1.fr hF2 ⟨id, id⟩).fr hF3 ⟨id, id⟩) (((hF.trans (hF1.mono (fun a j h9 => .inr (.inl h9)) (fun _ h => h))).trans (hF2.mono (fun a j h9 => .inl h9) (fun _ h => h.elim))).trans (hF3.mono (fun a j h9 => h9.elim (fun h9 => .inl h9) (fun h9 => .inr (.inl h9))) (fun _ h => h.elim))) ?_
      refine hE.piv hpr h242 hbr hkq hq hne K3' (fun e i he hi hek => ?_) (fun j hj => ?_)
      · rw [K3' i hi]
        show gI τ3 (gR τ3 2861 e) i = _
        rw [R3, K3 e i he hi, if_neg hek, O2' e i he hek, O2' e b he hek, K2' i hi]
      · rw [P3]
        by_cases hjb : j = b
        · rw [if_pos hjb, if_pos hjb]
        · rw [if_neg hjb, if_neg hjb, hF2.i (by omega) (by omega), P1, if_neg hjb]
    · have hqr2 : q = r := by omega
      subst hqr2
      refine B_X12_freeOf_49 hL ?_
      rw [show ((b : Nat) : Int).toNat = b by omega]
      refine ⟨⟨by omega, by omega⟩, fun τ2 e2 => ?_⟩
      have hF2 : Fr (fun a _ => a = 2912) (fun _ => False) ρ τ2 := by rw [e2]; exact Fr_of1 rfl
      have g16 : gI τ2 172 16 = (q : Int) := (hF2.i (by omega) (by omega)).trans k16
      rw [g16]
      refine ⟨fun h9 => absurd rfl h9, fun _ => ⟨⟨by omega, by omega⟩, ⟨by omega, by omega⟩, fun hL2 => ?_⟩⟩
      have R2 : ∀ e, gR τ2 2861 e = gR ρ 2861 e := fun e => hF2.r (by omega) id
      have A2 : ∀ e i, e < q → AF τ2 e i = AF ρ e i := fun e i he => by
        have := rw9 e (by omega)
        show gI τ2 (gR τ2 2861 e) i = _
        rw [R2]
        exact hF2.i (by omega) (by omega)
      have hE2 : EL p q A0 (AF τ2) (gI ρ 2912) b k f lf := by
        obtain ⟨q1, q2, q3, q4, q5, q6⟩ := hE
        refine ⟨q1, q2, fun e i he hi => by rw [A2 e i he]; exact q3 e i he hi, fun x => (q4 x).trans (Slv.ex (fun e i he hi => by rw [A2 e i he]) x), fun i hi => ?_, q6⟩
        rcases q5 i hi with ⟨a1, a2⟩ | ⟨u, a1, a2, a3, a4⟩
        · exact .inl ⟨a1, fun e h1 h2 => by rw [A2 e i h2]; exact a2 e h1 h2⟩
        · exact .inr ⟨u, a1, a2, by rw [A2 u i (by omega)]; exact a3, fun e h1 h2 => by rw [A2 e i h1]; exact a4 e h1 h2⟩
      exact ih (b + 1) k (f + 1) (b : Int) τ2 (by omega) hL2 (hJ.fr hF2 ⟨by decide, by decide⟩) (hF.trans (hF2.mono (fun a j h9 => .inr (.inl h9)) (fun _ h => h.elim))) (hE2.free hbr (fun e h1 h2 => by rw [A2 e b h2]; exact hz e h1 h2) (fun j hj => by rw [e2, gI_sI]; by_cases hjb : j = b <;> simp [hjb]))
theorem M_freeOf {p r : Nat} (hL : Lay LM g c t σ) (hJ : JM σ) (hpr : isPr p) (h242 : p < 242) (h48 : r ≤ 48) (h16 : gI σ 172 16 = (r : Int)) (h18 : gI σ 172 18 = (p : Int)) (hA : ∀ e b, e < r → b < r → 0 ≤ AF σ e b ∧ AF σ e b < (p : Int))
    (h : ∀ τ (f : Nat), Lay LM g c t τ → JM τ → Fr frFo frFv σ τ → FO p r (AF σ) f (gI τ 2911) → Q (.inl (some (vi f))) τ) : CC E mX12_freeOf [vr 172] σ Q := by
  refine C_X12_freeOf (B_X12_freeOf_0 hL (fun _ => ?_))
  refine fo_9 hpr h242 h48 h16 h18 h r 0 0 0 (-1) σ (by omega) hL hJ (Fr.refl _) ⟨rfl, by omega, hA, fun x => Iff.rfl, fun i hi => absurd hi (by omega), fun i j hi => absurd hi (by omega), fun q hq => absurd hq (by omega), .inl ⟨rfl, rfl, fun i hi => absurd hi (by omega)⟩⟩
end SB1
