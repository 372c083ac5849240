/-! ===== the reference lays its rows: the walk ===== -/
theorem FD.fr {W : Nat → Nat → Prop} {V : Nat → Prop} {σ τ : Sg} {D : Int} {els : List (List Int)} {mx : Nat → Int} {n f : Nat} {s : Nat → Nat} (h : FD σ D els mx n f s) (hw : ∀ j, j < f → 2914 ≤ gR σ 2913 j ∧ gR σ 2913 j < 2962) (k : Fr W V σ τ) (w : ¬ W 172 35 ∧ (∀ j, ¬ W 2962 j) ∧ (∀ a j, 2914 ≤ a → a < 2962 → ¬ W a j) ∧ ¬ V 2913) : FD τ D els mx n f s := by
  obtain ⟨h1, h2, h3, h4, h5⟩ := h
  refine ⟨(k.i (by omega) w.1).trans h1, h2, h3, h4, fun j hj => ⟨(k.i (by omega) (w.2.1 j)).trans (h5 j hj).1, fun a ha => ?_⟩⟩
  have := hw j hj
  rw [k.r (by omega) w.2.2.2]
  exact (k.i (by omega) (w.2.2.1 _ _ this.1 this.2)).trans ((h5 j hj).2 a ha)
section SB7
variable {E : Ev} {σ : Sg} {Q : NO → Sg → Prop} {g : Sg} {c t : Nat}
variable {D : Int} {els : List (List Int)}
def SL (g : Sg) (c t : Nat) (σ : Sg) (D : Int) (els : List (List Int)) (τ : Sg) : Prop := Lay LM g c t τ ∧ JM τ ∧ CplM τ els.length (gmt D els) ∧ Fr frLr frLv σ τ
theorem lr_88 {X s9 : Nat} {y : Int} (hM : MAll σ D els (pN D els) s9) (hI : IsG els.length (gmt D els)) (hG : GD D els) (hpr : isPr (pN D els)) (h242 : pN D els < 242)
    (hdone : ∀ τ s, SL g c t σ D els τ → FD τ D els (mxZ (pN D els) X) (pN D els) (rG D els) s → GG E mX12_laysRows 24 [some (vr 172), some (vl y), none, none, none, none] [] τ 0 0 Q)
    (hagain : (∃ i j, i < rG D els ∧ j < rG D els ∧ i ≠ j ∧ mxS (rG D els) (omN D els) (mxZ (pN D els) X) i % (pN D els : Int) = mxS (rG D els) (omN D els) (mxZ (pN D els) X) j % (pN D els : Int)) → ∀ τ, SL g c t σ D els τ → gI τ 172 35 = 0 → GG E mX12_laysRows 24 [some (vr 172), some (vl y), none, none, none, none] [] τ 0 0 Q) :
    ∀ (d n f : Nat) (s : Nat → Nat) (τ : Sg), n + d = pN D els → SL g c t σ D els τ → (∀ a, a < rG D els → gI τ 2910 a = mxZ (pN D els) X a) → FD τ D els (mxZ (pN D els) X) n f s → GG E mX12_laysRows 88 [some (vr 172), some (vl y), none, some (vi 1), some (vi n), none] [] τ 0 0 Q := by
  have r12 : rG D els ≤ 12 := hG.1
  have r48 : rG D els ≤ 48 := Nat.le_trans r12 (by decide)
  have p1 := hpr.1
  obtain ⟨ev, hS⟩ := hG.sp
  have mxr := fun a => mxZ_rng (p := pN D els) (by omega) X a
  generalize hmx : mxZ (pN D els) X = mx at *
  have gk : ∀ τ, Fr frLr frLv σ τ → gI τ 172 16 = (rG D els : Int) ∧ gI τ 172 18 = (pN D els : Int) := fun τ hF => ⟨(hF.i (by omega) (by omega)).trans hM.2.2.2.2.1.2.1, (hF.i (by omega) (by omega)).trans hM.2.2.2.2.2.1⟩
  have gM : ∀ τ, Fr frLr frLv σ τ → MAll τ D els (pN D els) s9 := fun τ hF => hM.fr hF ⟨fun a j h1 h2 => by omega, fun j h1 h2 => by omega⟩
  -- not apart: from anew
  have leave : ∀ (n : Nat) τ, SL g c t σ D els τ → (∃ i j, i < rG D els ∧ j < rG D els ∧ i ≠ j ∧ mxS (rG D els) (omN D els) mx i % (pN D els : Int) = mxS (rG D els) (omN D els) mx j % (pN D els : Int)) → GG E mX12_laysRows 88 [some (vr 172), some (vl y), none, some (vi 0), some (vi n), none] [] τ 0 0 Q := by
    rintro n τ ⟨hL1, hJ1, hC1, hF1⟩ hex
    have z : ∀ τ2, τ2 = sI τ 172 35 0 → Lay LM g c t τ2 → GG E mX12_laysRows 24 [some (vr 172), some (vl y), none, none, none, none] [] τ2 0 0 Q := fun τ2 e2 hL2 => by
      have hF2 : Fr (fun a k => a = 172 ∧ k = 35) (fun _ => False) τ τ2 := by rw [e2]; exact Fr_of1 ⟨rfl, rfl⟩
      exact hagain hex τ2 ⟨hL2, hJ1.fr hF2 ⟨id, id⟩, hC1.fr r48 hF2 (fun a j h1 h2 h3 => by omega), hF1.trans (hF2.mono (fun a j h9 => .inr h9) (fun _ h => h.elim))⟩ (by rw [e2, gI_sI, if_pos ⟨rfl, rfl⟩])
    exact B_X12_laysRows_88 hL1 ⟨fun _ => ⟨fun h9 => absurd rfl h9, fun _ => z⟩, fun _ => ⟨fun _ => ⟨fun h9 => absurd rfl h9, fun _ => z⟩, fun h9 => absurd rfl h9⟩⟩
  intro d
  induction d with
  | zero =>
    rintro n f s τ hd ⟨hL1, hJ1, hC1, hF1⟩ hmv hFD
    obtain ⟨k16, k18⟩ := gk τ hF1
    have hfr : f = rG D els := by
      have a := inj_le (fun j hj => (hFD.2.1 j hj).1) hFD.2.2.1
      have b := sur_le (r := rG D els) (fun i hi => hFD.2.2.2.1 i hi (by
        have := em_rng (p := pN D els) (by omega) (mxS (rG D els) (omN D els) mx i)
        omega))
      omega
    have hnp : n = pN D els := by omega
    rw [hfr, hnp] at hFD
    refine B_X12_laysRows_88 hL1 ?_
    rw [k18]
    exact ⟨fun _ => ⟨fun _ _ => hdone τ s ⟨hL1, hJ1, hC1, hF1⟩ hFD, fun h9 => absurd h9 (by decide)⟩, fun h9 => absurd (by omega) h9⟩
  | succ d ih =>
    rintro n f s τ hd ⟨hL1, hJ1, hC1, hF1⟩ hmv hFD
    obtain ⟨k16, k18⟩ := gk τ hF1
    have hfr := inj_le (fun j hj => (hFD.2.1 j hj).1) hFD.2.2.1
    have rw9 : ∀ e, e < 48 → 2914 ≤ gR τ 2913 e ∧ gR τ 2913 e < 2962 := fun e he => hL1.2.2.2.1 (2913, 48, 2914, 2962) (by decide) e he
    refine B_X12_laysRows_88 hL1 ?_
    rw [k18]
    refine ⟨fun h9 => absurd h9 (by omega), fun _ => ⟨fun h9 => absurd h9 (by decide), fun _ _ => ?_⟩⟩
    refine M_laysSheet (mx := mx) hL1 (gM τ hF1) hC1 hJ1 (fun a ha => ⟨hmv a ha, mxr a⟩) r48 (by omega) (by omega) (fun τ4 hL4 hF4 hv4 => ⟨hL4, fun _ => ?_⟩)
    have hF14 : Fr frLr frLv σ τ4 := hF1.trans (hF4.mono (fun a j h9 => .inl (by omega)) (fun _ h => h.elim))
    obtain ⟨k16b, k18b⟩ := gk τ4 hF14
    have hJ4 := hJ1.fr hF4 ⟨id, id⟩
    have hC4 := hC1.fr r48 hF4 (fun a j h1 h2 h3 => by omega)
    have R4 : ∀ e, gR τ4 2861 e = gR τ 2861 e := fun e => hF4.r (by omega) id
    have A4 : ∀ e b, e < rG D els → b < rG D els → AF τ4 e b = shV els.length (gmt D els) (pN D els) mx n e b := fun e b he hb => by
      show gI τ4 (gR τ4 2861 e) b = _
      rw [R4]; exact hv4 e b he hb
    have FD4 := hFD.fr (fun j hj => rw9 j (by omega)) hF4 ⟨by omega, fun j => by omega, fun a j h1 h2 => by omega, id⟩
    refine M_freeOf hL4 hJ4 hpr h242 r48 k16b k18b (fun e b he hb => ?_) (fun τ6 fr hL6 hJ6 hF6 hfo => ⟨hL6, fun _ => ?_⟩)
    · rw [A4 e b he hb]; exact em_rng (by omega) _
    have hF16 : Fr frLr frLv σ τ6 := hF14.trans (hF6.mono (fun a j h9 => .inl (by omega)) (fun a h => .inl h))
    have hC6 := hC4.fr r48 hF6 (fun a j h1 h2 h3 => by omega)
    have rw4 : ∀ e, e < 48 → 2914 ≤ gR τ4 2913 e ∧ gR τ4 2913 e < 2962 := fun e he => hL4.2.2.2.1 (2913, 48, 2914, 2962) (by decide) e he
    have rw6 : ∀ e, e < 48 → 2914 ≤ gR τ6 2913 e ∧ gR τ6 2913 e < 2962 := fun e he => hL6.2.2.2.1 (2913, 48, 2914, 2962) (by decide) e he
    have FD6 := FD4.fr (fun j hj => rw4 j (by omega)) hF6 ⟨by omega, fun j => by omega, fun a j h1 h2 => by omega, by omega⟩
    have mv6 : ∀ a, a < rG D els → gI τ6 2910 a = mx a := fun a ha => ((hF6.i (by omega) (by omega)).trans (hF4.i (by omega) (by omega))).trans (hmv a ha)
    have np : (n : Int) % (pN D els : Int) = n := Int.emod_eq_of_lt (by omega) (by omega)
    rcases hS.fo hpr h242 (shV_A A4) hfo with ⟨f0, hno⟩ | ⟨f1, i, u, hi, hin, hun, hk, l, hl, hl1⟩ | ⟨f2, i, j, hi, hj, hij, hin, hjn⟩
    · -- none
      subst f0
      rw [np] at hno
      refine ⟨fun h9 => absurd h9 (by decide), fun _ => ⟨fun _ => ⟨⟨by omega, by omega⟩, fun _ => ?_⟩, fun h9 => absurd h9 (by decide)⟩⟩
      refine ih (n + 1) f s τ6 (by omega) ⟨hL6, hJ6, hC6, hF16⟩ mv6 ⟨FD6.1, fun j hj => ⟨(FD6.2.1 j hj).1, by have := (FD6.2.1 j hj).2; omega⟩, FD6.2.2.1, fun i hi hlt => FD6.2.2.2.1 i hi ?_, FD6.2.2.2.2⟩
      have := hno i hi
      omega
    · -- one
      subst f1
      rw [np] at hin hun
      have hnew : ∀ j, j < f → s j ≠ i := fun j hj e => by
        have := (FD6.2.1 j hj).2
        rw [e] at this
        omega
      have hinj : ∀ a b, a < f + 1 → b < f + 1 → ups s f i a = ups s f i b → a = b := fun a b ha hb e => by
        unfold ups at e
        by_cases h1 : a = f
        · by_cases h2 : b = f
          · omega
          · rw [if_pos h1, if_neg h2] at e
            exact absurd e.symm (hnew b (by omega))
        · by_cases h2 : b = f
          · rw [if_neg h1, if_pos h2] at e
            exact absurd e (hnew a (by omega))
          · rw [if_neg h1, if_neg h2] at e
            exact FD6.2.2.1 a b (by omega) (by omega) e
      have hfr1 : f + 1 ≤ rG D els := inj_le (s := ups s f i) (fun j hj => by
        unfold ups
        by_cases h1 : j = f
        · rw [if_pos h1]; exact hi
        · rw [if_neg h1]; exact (FD6.2.1 j (by omega)).1) hinj
      have ci := hS.1 i hi
      have hE : ∀ a e, a < rG D els → e < rG D els → sm (fun b => cG D els a b e * gI τ6 2911 b) (rG D els) % (pN D els : Int) = (omN D els i a * gI τ6 2911 e) % (pN D els : Int) := fun a e ha he => by
        rw [sm_em (h := fun b => u * (ev i b * cG D els a b e)) (rG D els) (fun b hb => ?_), sm_mul]
        · rw [em_mul (u := u) rfl (hS.left hi ha he), em_mul (u := omN D els i a) rfl (hk e he).2.2]
          congr 1
          rw [← Int.mul_assoc, ← Int.mul_assoc, Int.mul_comm u]
        · rw [em_mul (u := cG D els a b e) rfl (hk b hb).2.2]
          congr 1
          rw [Int.mul_comm, Int.mul_assoc]
      refine ⟨fun h9 => absurd h9 (by decide), fun _ => ⟨fun h9 => absurd rfl h9, fun _ _ => ?_⟩⟩
      refine M_takesRow (om := omN D els i) hL6 (gM τ6 hF16) hI hC6 r48 hpr h242 FD6.1 (by omega) (fun b hb => ⟨(hk b hb).1, (hk b hb).2.1⟩) hl hl1 ci.2.1 hE (hG.2.2.1 _ ci) (fun τ9 hL9 hF9 q35 q62 qv => ⟨hL9, ⟨by omega, by omega⟩, fun _ => ?_⟩)
      have hx := rw6 f (by omega)
      have R9 : ∀ e, gR τ9 2913 e = gR τ6 2913 e := fun e => hF9.r (by omega) id
      refine ih (n + 1) (f + 1) (ups s f i) τ9 (by omega) ⟨hL9, hJ6.fr hF9 ⟨id, id⟩, hC6.fr r48 hF9 (fun a j h1 h2 h3 => by omega), hF16.trans (hF9.mono (fun a j h9 => by omega) (fun _ h => h.elim))⟩ (fun a ha => (hF9.i (by omega) (by omega)).trans (mv6 a ha)) ⟨q35, fun j hj => ?_, hinj, fun i' hi' hlt => ?_, fun j hj => ?_⟩
      · unfold ups
        by_cases h1 : j = f
        · rw [if_pos h1]; exact ⟨hi, by omega⟩
        · rw [if_neg h1]
          have := FD6.2.1 j (by omega)
          exact ⟨this.1, by omega⟩
      · by_cases h1 : i' = i
        · exact ⟨f, by omega, by rw [h1]; unfold ups; rw [if_pos rfl]⟩
        · obtain ⟨j, hj, e⟩ := FD6.2.2.2.1 i' hi' (by
            have : ¬ (mxS (rG D els) (omN D els) mx i' % (pN D els : Int) = n) := fun h9 => h1 (hun i' hi' h9)
            omega)
          exact ⟨j, by omega, by unfold ups; rw [if_neg (by omega)]; exact e⟩
      · unfold ups
        by_cases h1 : j = f
        · rw [if_pos h1, h1, R9]
          exact ⟨q62, qv⟩
        · rw [if_neg h1, R9]
          have o := FD6.2.2.2.2 j (by omega)
          have hxj := rw6 j (by omega)
          have ne : gR τ6 2913 j ≠ gR τ6 2913 f := fun h9 => h1 (hJ6 2913 (.inr rfl) j f (by omega) (by omega) h9)
          exact ⟨(hF9.i (by omega) (by omega)).trans o.1, fun a ha => (hF9.i (by omega) (by omega)).trans (o.2 a ha)⟩
    · -- more
      have fne : (fr : Int) ≠ 1 := by omega
      refine ⟨fun _ => ⟨fun _ => ⟨⟨by omega, by omega⟩, fun _ => ?_⟩, fun h9 => absurd h9 fne⟩, fun h9 => absurd (by omega) h9⟩
      exact leave (n + 1) τ6 ⟨hL6, hJ6, hC6, hF16⟩ ⟨i, j, hi, hj, hij, hin.trans hjn.symm⟩
end SB7
