/-! ===== the reference lays its sheet ===== -/
abbrev frSh : Nat → Nat → Prop := fun a _ => 2862 ≤ a ∧ a < 2910
theorem cpl_le (N : Nat) (m : Nat → Nat → Nat) (a b e : Nat) : cplN N m a b e ≤ N := cn_le _
theorem shS_bd {N : Nat} {m : Nat → Nat → Nat} {mx : Nat → Int} {p : Nat} (hN : N ≤ 120) (hp : p ≤ 1000) {b e : Nat} {s : Int} (hs : s.natAbs ≤ 1000) : ∀ a, (∀ i, i < a → 0 ≤ mx i ∧ mx i < (p : Int)) → (shS N m mx b e s a).natAbs ≤ 1000 + 120000 * a := by
  intro a
  induction a with
  | zero => intro _; show s.natAbs ≤ _; omega
  | succ a ih =>
    intro h
    have i1 := ih (fun i hi => h i (by omega))
    have h1 := h a (by omega)
    have h2 := cpl_le N m a b e
    have h3 := m4 (show (mx a).natAbs ≤ 1000 by omega) (show ((cplN N m a b e : Nat) : Int).natAbs ≤ 120 by omega)
    show (shS N m mx b e s a + mx a * (cplN N m a b e : Int)).natAbs ≤ _
    omega
section S9s
variable {E : Ev} {σ : Sg} {Q : NO → Sg → Prop} {g : Sg} {c t : Nat}
variable {D : Int} {els : List (List Int)}
theorem M_laysSheet {p s n : Nat} {mx : Nat → Int} (hL : Lay LM g c t σ) (hM : MAll σ D els p s) (hCp : CplM σ els.length (gmt D els)) (hJ : JM σ) (hmx : ∀ a, a < rsN els.length (gmt D els) → gI σ 2910 a = mx a ∧ 0 ≤ mx a ∧ mx a < (p : Int)) (h48 : rsN els.length (gmt D els) ≤ 48) (hp : 2 ≤ p ∧ p ≤ 1000) (hn : n ≤ 1000)
    (h : ∀ τ, Lay LM g c t τ → Fr frSh (fun _ => False) σ τ → (∀ e b, e < rsN els.length (gmt D els) → b < rsN els.length (gmt D els) → gI τ (gR σ 2861 e) b = shV els.length (gmt D els) p mx n e b) → Q (.inl none) τ) : CC E mX12_laysSheet [vr 172, vi n] σ Q := by
  have n120 := hM.1.1
  have rw9 : ∀ e, e < 48 → 2862 ≤ gR σ 2861 e ∧ gR σ 2861 e < 2910 := fun e he => hL.2.2.2.1 (2861, 48, 2862, 2910) (by decide) e he
  have inj : ∀ i j, i < 48 → j < 48 → gR σ 2861 i = gR σ 2861 j → i = j := hJ 2861 (.inl rfl)
  have k16 : ∀ τ, Fr frSh (fun _ => False) σ τ → gI τ 172 16 = (rsN els.length (gmt D els) : Int) := fun τ hF => (hF.i (by omega) (by omega)).trans hM.2.2.2.2.1.2.1
  have k18 : ∀ τ, Fr frSh (fun _ => False) σ τ → gI τ 172 18 = (p : Int) := fun τ hF => (hF.i (by omega) (by omega)).trans hM.2.2.2.2.2.1
  have kR : ∀ τ, Fr frSh (fun _ => False) σ τ → ∀ e, gR τ 2861 e = gR σ 2861 e := fun τ hF e => hF.r (by omega) id
  generalize hr : rsN els.length (gmt D els) = r at *
  have eV : ∀ e b, shV els.length (gmt D els) p mx n e b = shS els.length (gmt D els) mx b e (if b = e then -(n : Int) else 0) r % (p : Int) := fun e b => by unfold shV; rw [hr]
  refine C_X12_laysSheet (B_X12_laysSheet_0 hL (fun _ => ?_))
  refine loopU (N := r) (G := fun e τ => GG E mX12_laysSheet 2 [some (vr 172), some (vi n), some (vi e), none, none, none, none] [] τ 0 0 Q)
    (P := fun e τ => Lay LM g c t τ ∧ Fr frSh (fun _ => False) σ τ ∧ ∀ e' b, e' < e → b < r → gI τ (gR σ 2861 e') b = shV els.length (gmt D els) p mx n e' b) ?_ ?_ 0 σ (by omega) ⟨hL, Fr.refl _, fun e' b h1 => absurd h1 (by omega)⟩
  · rintro e τ he ⟨hL1, hF1, hv⟩ next
    refine B_X12_laysSheet_2 hL1 ?_
    rw [k16 τ hF1]
    refine ⟨fun h9 => absurd h9 (by omega), fun _ _ => ?_⟩
    refine loopU (N := r) (G := fun b τ => GG E mX12_laysSheet 12 [some (vr 172), some (vi n), some (vi e), some (vi b), none, none, none] [] τ 0 0 Q)
      (P := fun b τ => Lay LM g c t τ ∧ Fr frSh (fun _ => False) σ τ ∧ (∀ e' b, e' < e → b < r → gI τ (gR σ 2861 e') b = shV els.length (gmt D els) p mx n e' b) ∧ ∀ b', b' < b → gI τ (gR σ 2861 e) b' = shV els.length (gmt D els) p mx n e b') ?_ ?_ 0 τ (by omega) ⟨hL1, hF1, hv, fun b' h1 => absurd h1 (by omega)⟩
    · rintro b τ2 hb ⟨hL2, hF2, hv2, hw2⟩ next2
      -- the sum
      have go : ∀ z : Int, z = (if b = e then -(n : Int) else 0) → GG E mX12_laysSheet 37 [some (vr 172), some (vi n), some (vi e), some (vi b), some (vl z), none, some (vi (0 : Nat))] [] τ2 0 0 Q := by
        intro z hz
        have hz9 : z.natAbs ≤ 1000 := by rw [hz]; split <;> omega
        refine loopU (N := r) (G := fun a τ => GG E mX12_laysSheet 37 [some (vr 172), some (vi n), some (vi e), some (vi b), some (vl (shS els.length (gmt D els) mx b e z a)), none, some (vi a)] [] τ 0 0 Q) (P := fun a τ => τ = τ2) ?_ ?_ 0 τ2 (by omega) rfl
        · rintro a τ3 ha rfl next3
          have q1 : gI τ3 2910 a = mx a := (hF2.i (by omega) (by omega)).trans (hmx a ha).1
          have q2 : gI τ3 (557 + (48 * a + b)) e = (cplN els.length (gmt D els) a b e : Int) := (hF2.i (by omega) (by omega)).trans (hCp a b e (by omega) (by omega) (by omega))
          have bd := shS_bd (m := gmt D els) (mx := mx) (p := p) n120 (by omega) (b := b) (e := e) hz9 (a + 1) (fun i hi => (hmx i (by omega)).2)
          have e9 : shS els.length (gmt D els) mx b e z (a + 1) = shS els.length (gmt D els) mx b e z a + mx a * (cplN els.length (gmt D els) a b e : Int) := rfl
          have h1 := (hmx a ha).2
          have h2 := cpl_le els.length (gmt D els) a b e
          have h3 := m4 (show (mx a).natAbs ≤ 1000 by omega) (show ((cplN els.length (gmt D els) a b e : Nat) : Int).natAbs ≤ 120 by omega)
          have w1 : wL (mx a * (cplN els.length (gmt D els) a b e : Int)) = mx a * (cplN els.length (gmt D els) a b e : Int) := wL_id ⟨by omega, by omega⟩
          have w2 : wL (shS els.length (gmt D els) mx b e z a + mx a * (cplN els.length (gmt D els) a b e : Int)) = shS els.length (gmt D els) mx b e z (a + 1) := by rw [← e9]; exact wL_id ⟨by omega, by omega⟩
          refine B_X12_laysSheet_37 hL2 ?_
          rw [k16 _ hF2, show ((a : Nat) : Int).toNat = a by omega, show ((e : Nat) : Int).toNat = e by omega, show ((48 : Int) * (a : Int) + (b : Int)).toNat = 48 * a + b by omega, q1, q2, w1]
          refine ⟨fun h9 => absurd h9 (by omega), fun _ => ⟨⟨by omega, by omega⟩, ⟨by omega, by omega⟩, ⟨by omega, by omega⟩, ⟨by omega, by omega⟩, ⟨by omega, by omega⟩, fun v15 e15 => ?_⟩⟩
          subst e15
          rw [w2]
          exact ⟨⟨by omega, by omega⟩, fun _ => next3 τ3 rfl⟩
        · rintro τ3 rfl
          refine B_X12_laysSheet_37 hL2 ?_
          rw [k16 _ hF2, show ((e : Nat) : Int).toNat = e by omega, show ((b : Nat) : Int).toNat = b by omega]
          refine ⟨fun _ => ⟨⟨by omega, by omega⟩, fun b2 eb2 hb2 _ => M_mod hL2 (k18 _ hF2) (by omega) ⟨hL2, fun _ => ⟨⟨by omega, by omega⟩, fun τ7 e7 => ⟨⟨by omega, by omega⟩, fun hL7 => ?_⟩⟩⟩⟩, fun h9 => absurd (by omega) h9⟩
          have eb : b2 = gR σ 2861 e := eb2.trans (kR _ hF2 e)
          have ev : shS els.length (gmt D els) mx b e z r % (p : Int) = shV els.length (gmt D els) p mx n e b := by rw [eV, hz]
          rw [ev, eb] at e7
          have hF7 : Fr frSh (fun _ => False) τ3 τ7 := by rw [e7]; exact Fr_of1 (by rw [← eb]; exact hb2)
          have q7 : ∀ x y, gI τ7 x y = if x = gR σ 2861 e ∧ y = b then shV els.length (gmt D els) p mx n e b else gI τ3 x y := fun x y => by rw [e7, gI_sI]
          refine next2 τ7 ⟨hL7, hF2.trans hF7, fun e' b' h1 h2 => ?_, fun b' h1 => ?_⟩
          · rw [q7, if_neg (fun h9 => by have := inj e' e (by omega) (by omega) h9.1; omega)]
            exact hv2 e' b' h1 h2
          · rw [q7]
            by_cases hbb : b' = b
            · rw [hbb, if_pos ⟨rfl, rfl⟩]
            · rw [if_neg (fun h9 => hbb h9.2)]; exact hw2 b' (by omega)
      refine B_X12_laysSheet_12 hL2 ?_
      rw [k16 τ2 hF2]
      refine ⟨fun h9 => absurd h9 (by omega), fun _ => ⟨fun hne _ => go 0 (by rw [if_neg (by omega)]), fun heq => ⟨⟨by omega, by omega⟩, fun _ => go _ (by rw [if_pos (by omega)])⟩⟩⟩
    · rintro τ2 ⟨hL2, hF2, hv2, hw2⟩
      refine B_X12_laysSheet_12 hL2 ?_
      rw [k16 τ2 hF2]
      refine ⟨fun _ => ⟨⟨by omega, by omega⟩, fun _ => next τ2 ⟨hL2, hF2, fun e' b h1 h2 => ?_⟩⟩, fun h9 => absurd (by omega) h9⟩
      by_cases hee : e' = e
      · rw [hee]; exact hw2 b h2
      · exact hv2 e' b (by omega) h2
  · rintro τ ⟨hL1, hF1, hv⟩
    refine B_X12_laysSheet_2 hL1 ?_
    rw [k16 τ hF1]
    exact ⟨fun _ _ => h τ hL1 hF1 hv, fun h9 => absurd (by omega) h9⟩
end S9s
