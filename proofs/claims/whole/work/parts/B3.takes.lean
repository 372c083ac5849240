/-! ===== the reference takes a row ===== -/
noncomputable def ivc (N : Nat) (m : Nat → Nat → Nat) (a : Nat) : Nat := csN N m (iv N m (lsN N m a))
theorem ivc_lt {N : Nat} {m : Nat → Nat → Nat} (h : IsG N m) {a : Nat} (ha : a < rsN N m) : ivc N m a < rsN N m := (csN_s h (iv_lt h (lsN_s h ha).2.1)).2
noncomputable def cpZ (N : Nat) (m : Nat → Nat → Nat) (a b c : Nat) : Int := (cplN N m a b c : Int)
/-- norm, degree, values of a central row -/
def nrmV (p r : Nat) (sz : Nat → Nat) (ic : Nat → Nat) (v : Nat → Int) (n : Nat) : Int := sm (fun a => v a * ovV p (v (ic a)) (sz a)) n
def okDg (p N : Nat) (nm : Int) (d : Nat) : Prop := (((d : Int) * (d : Int)) * (nm % (p : Int)) - (N : Int)) % (p : Int) = 0
def IsDeg (p N : Nat) (nm : Int) (d : Nat) : Prop := 1 ≤ d ∧ d ≤ 9 ∧ okDg p N nm d ∧ ∀ j, 1 ≤ j → j < d → ¬ okDg p N nm j
noncomputable def dgV (p N : Nat) (nm : Int) : Nat := theN (IsDeg p N nm)
theorem dgV_s {p N : Nat} {nm : Int} (h : ∃ d, 1 ≤ d ∧ d ≤ 9 ∧ okDg p N nm d) : IsDeg p N nm (dgV p N nm) := by
  obtain ⟨d, h1, h2, h3⟩ := h
  obtain ⟨e, e1, e2, e3⟩ := least_of (p := fun d => 1 ≤ d ∧ okDg p N nm d) d ⟨h1, h3⟩
  exact theN_of ⟨e, e2.1, by omega, e2.2, fun j j1 j2 j3 => e3 j j2 ⟨j1, j3⟩⟩
def chV (p : Nat) (d : Nat) (sz : Nat → Nat) (v : Nat → Int) (a : Nat) : Int := ovV p (((d : Int) * v a) % (p : Int)) (sz a)
theorem zsN_le (N : Nat) (m : Nat → Nat → Nat) (c : Nat) : zsN N m c ≤ N := cntF_le _ _ _
section SB3
variable {E : Ev} {σ : Sg} {Q : NO → Sg → Prop} {g : Sg} {c t : Nat}
variable {D : Int} {els : List (List Int)}
abbrev frTr (x f : Nat) : Nat → Nat → Prop := fun a k => a = x ∨ (a = 2962 ∧ k = f) ∨ (a = 172 ∧ k = 35)
theorem M_takesRow {p s f l : Nat} {om : Nat → Int} (hL : Lay LM g c t σ) (hM : MAll σ D els p s) (hI : IsG els.length (gmt D els)) (hCp : CplM σ els.length (gmt D els)) (h48 : rsN els.length (gmt D els) ≤ 48) (hpr : isPr p) (h242 : p < 242) (hf : gI σ 172 35 = (f : Int)) (hf48 : f < 48)
    (hk : ∀ b, b < rsN els.length (gmt D els) → 0 ≤ gI σ 2911 b ∧ gI σ 2911 b < (p : Int)) (hl : l < rsN els.length (gmt D els)) (hl1 : gI σ 2911 l = 1) (hom : ∀ a, a < rsN els.length (gmt D els) → 0 ≤ om a ∧ om a < (p : Int))
    (hE : ∀ a e, a < rsN els.length (gmt D els) → e < rsN els.length (gmt D els) → sm (fun b => cpZ els.length (gmt D els) a b e * gI σ 2911 b) (rsN els.length (gmt D els)) % (p : Int) = (om a * gI σ 2911 e) % (p : Int))
    (hd : ∃ d, 1 ≤ d ∧ d ≤ 9 ∧ okDg p els.length (nrmV p (rsN els.length (gmt D els)) (zsN els.length (gmt D els)) (ivc els.length (gmt D els)) om (rsN els.length (gmt D els))) d)
    (h : ∀ τ, Lay LM g c t τ → Fr (frTr (gR σ 2913 f) f) (fun _ => False) σ τ → gI τ 172 35 = ((f + 1 : Nat) : Int) → gI τ 2962 f = (dgV p els.length (nrmV p (rsN els.length (gmt D els)) (zsN els.length (gmt D els)) (ivc els.length (gmt D els)) om (rsN els.length (gmt D els))) : Int) → (∀ a, a < rsN els.length (gmt D els) → gI τ (gR σ 2913 f) a = chV p (dgV p els.length (nrmV p (rsN els.length (gmt D els)) (zsN els.length (gmt D els)) (ivc els.length (gmt D els)) om (rsN els.length (gmt D els)))) (zsN els.length (gmt D els)) om a) → Q (.inl none) τ) : CC E mX12_takesRow [vr 172] σ Q := by
  have n120 := hM.1.1
  have p1 := hpr.1
  have x9 : 2914 ≤ gR σ 2913 f ∧ gR σ 2913 f < 2962 := hL.2.2.2.1 (2913, 48, 2914, 2962) (by decide) f hf48
  generalize hx : gR σ 2913 f = x at *
  have d16 : gI σ 172 16 = (rsN els.length (gmt D els) : Int) := hM.2.2.2.2.1.2.1
  have d18 : gI σ 172 18 = (p : Int) := hM.2.2.2.2.2.1
  have d15 : gI σ 172 15 = (els.length : Int) := hM.2.1.1
  have dl : ∀ a, a < rsN els.length (gmt D els) → gI σ 554 a = (lsN els.length (gmt D els) a : Int) ∧ gI σ 555 a = (zsN els.length (gmt D els) a : Int) := fun a ha => by
    have := hM.2.2.2.2.1.2.2 a ha
    rw [this.1, this.2]
    exact ⟨(lsN_s hI ha).1, zsN_s hI ha⟩
  have dv : ∀ k, k < els.length → gI σ 552 k = (iv els.length (gmt D els) k : Int) := hM.2.2.1
  have dc : ∀ k, k < els.length → gI σ 553 k = (csN els.length (gmt D els) k : Int) := fun k hk => (hM.2.2.2.2.1.1 k hk).trans (csN_s hI hk).1
  have dN := dgV_s hd
  have hcp : ∀ a b c, cplN els.length (gmt D els) a b c ≤ 120 := fun a b c => Nat.le_trans (cpl_le _ _ a b c) n120
  have rN := rsN_le els.length (gmt D els)
  have ils := fun a (ha : a < rsN els.length (gmt D els)) => (lsN_s hI ha).2.1
  have iil := fun a (ha : a < rsN els.length (gmt D els)) => iv_lt hI (ils a ha)
  have iic := fun a (ha : a < rsN els.length (gmt D els)) => ivc_lt hI ha
  have zs := zsN_le els.length (gmt D els)
  have eic : ∀ a, csN els.length (gmt D els) (iv els.length (gmt D els) (lsN els.length (gmt D els) a)) = ivc els.length (gmt D els) a := fun a => rfl
  generalize hr : rsN els.length (gmt D els) = r at *
  generalize hsz : zsN els.length (gmt D els) = sz at *
  generalize hic : ivc els.length (gmt D els) = ic at *
  generalize hnm : nrmV p r sz ic om r = nm at *
  generalize hdg : dgV p els.length nm = dd at *
  have kp : ∀ τ, Fr (frTr x f) (fun _ => False) σ τ → gI τ 172 16 = (r : Int) ∧ gI τ 172 18 = (p : Int) ∧ gI τ 172 15 = (els.length : Int) := fun τ hF => ⟨(hF.i (by omega) (by omega)).trans d16, (hF.i (by omega) (by omega)).trans d18, (hF.i (by omega) (by omega)).trans d15⟩
  -- the last loop: the values
  have fin : ∀ τ, Lay LM g c t τ → Fr (frTr x f) (fun _ => False) σ τ → gI τ 172 35 = (f : Int) → gI τ 2962 f = (dd : Int) → (∀ a, a < r → gI τ x a = om a) → GG E mX12_takesRow 229 [some (vr 172), none, some (vr x), none, none, some (vi dd), some (vi (0 : Nat))] [] τ 0 0 Q := by
    intro τ0 hL0 hF0 h35 h62 hv0
    refine loopU (N := r) (G := fun a τ => GG E mX12_takesRow 229 [some (vr 172), none, some (vr x), none, none, some (vi dd), some (vi a)] [] τ 0 0 Q)
      (P := fun n τ => Lay LM g c t τ ∧ Fr (frTr x f) (fun _ => False) σ τ ∧ gI τ 172 35 = (f : Int) ∧ gI τ 2962 f = (dd : Int) ∧ ∀ a, a < r → gI τ x a = if a < n then chV p dd sz om a else om a) ?_ ?_ 0 τ0 (by omega) ⟨hL0, hF0, h35, h62, fun a ha => by rw [if_neg (by omega)]; exact hv0 a ha⟩
    · rintro a τ ha ⟨hL1, hF1, g35, g62, hv⟩ next
      obtain ⟨k16, k18, _⟩ := kp τ hF1
      have cur := hv a ha
      rw [if_neg (by omega)] at cur
      have o1 := hom a ha
      have m1 := m4 (show ((dd : Nat) : Int).natAbs ≤ 10 by have := dN.2.1; omega) (show (om a).natAbs ≤ 1000 by omega)
      have w1 : wL ((dd : Int) * om a) = (dd : Int) * om a := wL_id ⟨by omega, by omega⟩
      have r1 := em_rng (p := p) (by omega) ((dd : Int) * om a)
      have z1 : gI τ 555 a = (sz a : Int) := (hF1.i (by omega) (by omega)).trans (dl a ha).2
      have z2 := zs a
      refine B_X12_takesRow_229 hL1 x9 ?_
      rw [k16, show ((a : Nat) : Int).toNat = a by omega, cur, w1]
      refine ⟨fun h9 => absurd h9 (by omega), fun _ => ⟨⟨by omega, by omega⟩, fun _ => M_mod hL1 k18 (by omega) ⟨hL1, fun _ => ⟨⟨by omega, by omega⟩, fun _ => ?_⟩⟩⟩⟩
      rw [z1]
      refine M_over hL1 k18 (by omega) (by omega) (by omega) ⟨hL1, fun _ τ9 e9 => ⟨⟨by omega, by omega⟩, fun hL9 => ?_⟩⟩
      have q9 : ∀ b i, gI τ9 b i = if b = x ∧ i = a then chV p dd sz om a else gI τ b i := fun b i => by rw [e9, gI_sI]; rfl
      refine next τ9 ⟨hL9, hF1.trans (by rw [e9]; exact Fr_of1 (.inl rfl)), by rw [q9, if_neg (by omega)]; exact g35, by rw [q9, if_neg (by omega)]; exact g62, fun b hb => ?_⟩
      rw [q9]
      by_cases hba : b = a
      · rw [if_pos ⟨rfl, hba⟩, if_pos (by omega), hba]
      · rw [if_neg (fun h9 => hba h9.2), hv b hb]
        by_cases hlt : b < a
        · rw [if_pos hlt, if_pos (by omega)]
        · rw [if_neg hlt, if_neg (by omega)]
    · rintro τ ⟨hL1, hF1, g35, g62, hv⟩
      obtain ⟨k16, k18, _⟩ := kp τ hF1
      refine B_X12_takesRow_229 hL1 x9 ?_
      rw [k16, g35]
      refine ⟨fun _ => ⟨⟨by omega, by omega⟩, fun τ2 e2 hL2 => ?_⟩, fun h9 => absurd (by omega) h9⟩
      have q2 : ∀ b i, gI τ2 b i = if b = 172 ∧ i = 35 then (f : Int) + 1 else gI τ b i := fun b i => by rw [e2, gI_sI]
      exact h τ2 hL2 (hF1.trans (by rw [e2]; exact Fr_of1 (.inr (.inr ⟨rfl, rfl⟩)))) (by rw [q2, if_pos ⟨rfl, rfl⟩]; rfl) (by rw [q2, if_neg (by omega)]; exact g62) (fun a ha => by rw [q2, if_neg (by omega), hv a ha, if_pos ha])
  -- the degree
  have deg : ∀ τ, Lay LM g c t τ → Fr (frTr x f) (fun _ => False) σ τ → gI τ 172 35 = (f : Int) → (∀ a, a < r → gI τ x a = om a) → nm.natAbs ≤ 1000000000 → GG E mX12_takesRow 175 [some (vr 172), none, some (vr x), some (vl nm), none, some (vi (1 : Nat)), none] [] τ 0 0 Q := by
    intro τ hL1 hF1 h35 hv hb
    obtain ⟨k16, k18, k15⟩ := kp τ hF1
    have stop : ∀ τ2, τ2 = sI τ 2962 f (dd : Int) → Lay LM g c t τ2 → GG E mX12_takesRow 229 [some (vr 172), none, some (vr x), none, none, some (vi dd), some (vi 0)] [] τ2 0 0 Q := fun τ2 e2 hL2 => by
      have q2 : ∀ b i, gI τ2 b i = if b = 2962 ∧ i = f then (dd : Int) else gI τ b i := fun b i => by rw [e2, gI_sI]
      exact fin τ2 hL2 (hF1.trans (by rw [e2]; exact Fr_of1 (.inr (.inl ⟨rfl, rfl⟩)))) (by rw [q2, if_neg (by omega)]; exact h35) (by rw [q2, if_pos ⟨rfl, rfl⟩]) (fun a ha => by rw [q2, if_neg (by omega)]; exact hv a ha)
    have key : ∀ (e d : Nat), d + e = dd → 1 ≤ d → GG E mX12_takesRow 175 [some (vr 172), none, some (vr x), some (vl nm), none, some (vi d), none] [] τ 0 0 Q := by
      intro e
      induction e with
      | zero =>
        intro d hde h1
        have hdd : d = dd := by omega
        subst hdd
        have r1 := em_rng (p := p) (by omega) nm
        have d9 := dN.2.1
        have m0 := m4 (show ((d : Nat) : Int).natAbs ≤ 10 by omega) (show ((d : Nat) : Int).natAbs ≤ 10 by omega)
        have m1 := m4 m0 (show (nm % (p : Int)).natAbs ≤ 1000 by omega)
        have w1 : wL ((d : Int) * (d : Int)) = (d : Int) * (d : Int) := wL_id ⟨by omega, by omega⟩
        have w2 : wL ((d : Int) * (d : Int) * (nm % (p : Int))) = (d : Int) * (d : Int) * (nm % (p : Int)) := wL_id ⟨by omega, by omega⟩
        have w3 : wL ((d : Int) * (d : Int) * (nm % (p : Int)) - (els.length : Int)) = (d : Int) * (d : Int) * (nm % (p : Int)) - (els.length : Int) := wL_id ⟨by omega, by omega⟩
        refine B_X12_takesRow_175 hL1 x9 ?_
        rw [h35, show ((f : Nat) : Int).toNat = f by omega]
        refine ⟨fun _ => ⟨⟨by omega, by omega⟩, stop⟩, fun _ _ => M_mod hL1 k18 (by omega) ⟨hL1, fun _ v5 e5 _ => ?_⟩⟩
        rw [w1, w2, k15, w3] at e5
        subst e5
        refine M_mod hL1 k18 (by omega) ⟨hL1, fun _ => ⟨fun _ => ?_, fun hne => absurd dN.2.2.1 hne⟩⟩
        rw [h35, show ((f : Nat) : Int).toNat = f by omega]
        exact ⟨⟨by omega, by omega⟩, stop⟩
      | succ e ih =>
        intro d hde h1
        have r1 := em_rng (p := p) (by omega) nm
        have d9 := dN.2.1
        have m0 := m4 (show ((d : Nat) : Int).natAbs ≤ 10 by omega) (show ((d : Nat) : Int).natAbs ≤ 10 by omega)
        have m1 := m4 m0 (show (nm % (p : Int)).natAbs ≤ 1000 by omega)
        have w1 : wL ((d : Int) * (d : Int)) = (d : Int) * (d : Int) := wL_id ⟨by omega, by omega⟩
        have w2 : wL ((d : Int) * (d : Int) * (nm % (p : Int))) = (d : Int) * (d : Int) * (nm % (p : Int)) := wL_id ⟨by omega, by omega⟩
        have w3 : wL ((d : Int) * (d : Int) * (nm % (p : Int)) - (els.length : Int)) = (d : Int) * (d : Int) * (nm % (p : Int)) - (els.length : Int) := wL_id ⟨by omega, by omega⟩
        refine B_X12_takesRow_175 hL1 x9 ?_
        refine ⟨fun h9 => absurd h9 (by omega), fun _ _ => M_mod hL1 k18 (by omega) ⟨hL1, fun _ v5 e5 _ => ?_⟩⟩
        rw [w1, w2, k15, w3] at e5
        subst e5
        exact M_mod hL1 k18 (by omega) ⟨hL1, fun _ => ⟨fun h9 => absurd h9 (dN.2.2.2 d h1 (by omega)), fun _ => ⟨⟨by omega, by omega⟩, fun _ => ih (d + 1) (by omega) (by omega)⟩⟩⟩
    exact key (dd - 1) 1 (by have := dN.1; omega) (Nat.le_refl _)
  -- the norm
  have nrm : ∀ τ, Lay LM g c t τ → Fr (frTr x f) (fun _ => False) σ τ → gI τ 172 35 = (f : Int) → (∀ a, a < r → gI τ x a = om a) → GG E mX12_takesRow 117 [some (vr 172), none, some (vr x), some (vl 0), none, some (vi (0 : Nat)), none] [] τ 0 0 Q := by
    intro τ hL1 hF1 h35 hv
    obtain ⟨k16, k18, k15⟩ := kp τ hF1
    refine loopU (N := r) (G := fun a τ => GG E mX12_takesRow 117 [some (vr 172), none, some (vr x), some (vl (nrmV p r sz ic om a)), none, some (vi a), none] [] τ 0 0 Q)
      (P := fun n ρ => ρ = τ ∧ (nrmV p r sz ic om n).natAbs ≤ 1000000 * n) ?_ ?_ 0 τ (by omega) ⟨rfl, by show (0 : Int).natAbs ≤ _; decide⟩
    · rintro a ρ ha ⟨rfl, hbd⟩ next
      have o1 := hom a ha
      have o2 := hom (ic a) (iic a ha)
      have b1 := ils a ha
      have b2 := iil a ha
      have z2 := zs a
      have q1 : gI ρ 554 a = (lsN els.length (gmt D els) a : Int) := (hF1.i (by omega) (by omega)).trans (dl a ha).1
      have q2 : gI ρ 555 a = (sz a : Int) := (hF1.i (by omega) (by omega)).trans (dl a ha).2
      have q3 : gI ρ 552 (lsN els.length (gmt D els) a) = (iv els.length (gmt D els) (lsN els.length (gmt D els) a) : Int) := (hF1.i (by omega) (by omega)).trans (dv _ b1)
      have q4 : gI ρ 553 (iv els.length (gmt D els) (lsN els.length (gmt D els) a)) = (ic a : Int) := by rw [(hF1.i (by omega) (by omega)).trans (dc _ b2), eic]
      have b3 := iic a ha
      have ov := ov_rng (p := p) (by omega) (om (ic a)) (sz a : Int)
      have m1 := m4 (show (om a).natAbs ≤ 1000 by omega) (show (ovV p (om (ic a)) (sz a : Int)).natAbs ≤ 1000 by omega)
      have e9 : nrmV p r sz ic om (a + 1) = nrmV p r sz ic om a + om a * ovV p (om (ic a)) (sz a : Int) := rfl
      have w1 : wL (om a * ovV p (om (ic a)) (sz a : Int)) = om a * ovV p (om (ic a)) (sz a : Int) := wL_id ⟨by omega, by omega⟩
      have w2 : wL (nrmV p r sz ic om a + om a * ovV p (om (ic a)) (sz a : Int)) = nrmV p r sz ic om (a + 1) := by rw [← e9]; exact wL_id ⟨by omega, by omega⟩
      refine B_X12_takesRow_117 hL1 x9 ?_
      rw [k16, show ((a : Nat) : Int).toNat = a by omega, q1, show ((lsN els.length (gmt D els) a : Nat) : Int).toNat = lsN els.length (gmt D els) a by omega, q3, show ((iv els.length (gmt D els) (lsN els.length (gmt D els) a) : Nat) : Int).toNat = iv els.length (gmt D els) (lsN els.length (gmt D els) a) by omega, q4, show ((ic a : Nat) : Int).toNat = ic a by omega]
      refine ⟨fun h9 => absurd h9 (by omega), fun _ => ⟨⟨by omega, by omega⟩, ⟨by omega, by omega⟩, ⟨by omega, by omega⟩, ⟨by omega, by omega⟩, ⟨by omega, by omega⟩, fun v6 e6 _ => ?_⟩⟩
      rw [hv _ b3] at e6
      subst e6
      rw [q2]
      refine M_over hL1 k18 (by omega) (by omega) (by omega) ⟨hL1, fun _ => ⟨⟨by omega, by omega⟩, fun _ => ?_⟩⟩
      rw [hv a ha, w1, w2]
      exact next ρ ⟨rfl, by rw [e9]; omega⟩
    · rintro ρ ⟨rfl, hbd⟩
      refine B_X12_takesRow_117 hL1 x9 ?_
      rw [k16, hnm]
      rw [hnm] at hbd
      exact ⟨fun _ _ => deg ρ hL1 hF1 h35 hv (by omega), fun h9 => absurd (by omega) h9⟩
  -- the row itself
  have row : ∀ at9 : Nat, at9 < r → gI σ 2911 at9 ≠ 0 → GG E mX12_takesRow 29 [some (vr 172), some (vi at9), some (vr x), some (vi (0 : Nat)), none, none, none] [] σ 0 0 Q := by
    intro at9 hat hne
    have kat := hk at9 hat
    refine loopU (N := r) (G := fun a τ => GG E mX12_takesRow 29 [some (vr 172), some (vi at9), some (vr x), some (vi a), none, none, none] [] τ 0 0 Q)
      (P := fun n τ => Lay LM g c t τ ∧ Fr (frTr x f) (fun _ => False) σ τ ∧ gI τ 172 35 = (f : Int) ∧ ∀ a, a < n → gI τ x a = om a) ?_ ?_ 0 σ (by omega) ⟨hL, Fr.refl _, hf, fun a ha => absurd ha (by omega)⟩
    · rintro a τ ha ⟨hL1, hF1, h35, hv⟩ next
      obtain ⟨k16, k18, _⟩ := kp τ hF1
      have kk : ∀ b, gI τ 2911 b = gI σ 2911 b := fun b => hF1.i (by omega) (by omega)
      refine B_X12_takesRow_29 hL1 x9 ?_
      rw [k16]
      refine ⟨fun h9 => absurd h9 (by omega), fun _ _ => ?_⟩
      refine loopU (N := r) (G := fun b ρ => GG E mX12_takesRow 43 [some (vr 172), some (vi at9), some (vr x), some (vi a), some (vl (sm (fun b => cpZ els.length (gmt D els) a b at9 * gI σ 2911 b) b)), none, some (vi b)] [] ρ 0 0 Q)
        (P := fun b ρ => ρ = τ ∧ (sm (fun b => cpZ els.length (gmt D els) a b at9 * gI σ 2911 b) b).natAbs ≤ 120000 * b) ?_ ?_ 0 τ (by omega) ⟨rfl, by show (0 : Int).natAbs ≤ _; decide⟩
      · rintro b ρ hb ⟨rfl, hbd⟩ next2
        have kb := hk b hb
        have c1 := hcp a b at9
        have q1 : gI ρ (557 + (48 * a + b)) at9 = cpZ els.length (gmt D els) a b at9 := (hF1.i (by omega) (by omega)).trans (hCp a b at9 (by omega) (by omega) (by omega))
        have m1 := m4 (show (cpZ els.length (gmt D els) a b at9).natAbs ≤ 120 by show ((cplN els.length (gmt D els) a b at9 : Nat) : Int).natAbs ≤ 120; omega) (show (gI σ 2911 b).natAbs ≤ 1000 by omega)
        have e9 : sm (fun b => cpZ els.length (gmt D els) a b at9 * gI σ 2911 b) (b + 1) = sm (fun b => cpZ els.length (gmt D els) a b at9 * gI σ 2911 b) b + cpZ els.length (gmt D els) a b at9 * gI σ 2911 b := rfl
        generalize sm (fun b => cpZ els.length (gmt D els) a b at9 * gI σ 2911 b) b = s0 at *
        have w1 : wL (cpZ els.length (gmt D els) a b at9 * gI σ 2911 b) = cpZ els.length (gmt D els) a b at9 * gI σ 2911 b := wL_id ⟨by omega, by omega⟩
        have w2 : wL (s0 + cpZ els.length (gmt D els) a b at9 * gI σ 2911 b) = sm (fun b => cpZ els.length (gmt D els) a b at9 * gI σ 2911 b) (b + 1) := by rw [e9]; exact wL_id ⟨by omega, by omega⟩
        refine B_X12_takesRow_43 hL1 x9 ?_
        rw [k16, show ((at9 : Nat) : Int).toNat = at9 by omega, show ((b : Nat) : Int).toNat = b by omega, show ((48 : Int) * (a : Int) + (b : Int)).toNat = 48 * a + b by omega, q1, kk, w1]
        refine ⟨fun h9 => absurd h9 (by omega), fun _ => ⟨⟨by omega, by omega⟩, ⟨by omega, by omega⟩, ⟨by omega, by omega⟩, ⟨by omega, by omega⟩, ⟨by omega, by omega⟩, fun v15 e15 => ?_⟩⟩
        subst e15
        rw [w2]
        exact ⟨⟨by omega, by omega⟩, fun _ => next2 ρ ⟨rfl, by rw [e9]; omega⟩⟩
      · rintro ρ ⟨rfl, hbd⟩
        have r1 := em_rng (p := p) (by omega) (sm (fun b => cpZ els.length (gmt D els) a b at9 * gI σ 2911 b) r)
        have eV : ovV p (sm (fun b => cpZ els.length (gmt D els) a b at9 * gI σ 2911 b) r % (p : Int)) (gI σ 2911 at9) = om a := by
          have e1 := ov_mul hpr h242 (a := om a * gI σ 2911 at9) (y := gI σ 2911 at9) ⟨by omega, kat.2⟩
          have e0 := hom a ha
          rw [hE a at9 ha hat]
          have e2 : ovV p ((om a * gI σ 2911 at9) % (p : Int)) (gI σ 2911 at9) % (p : Int) = om a % (p : Int) := by
            rw [ov_e]
            have e3 := inv_ok hpr h242 (y := gI σ 2911 at9) ⟨by omega, kat.2⟩
            rw [em_mul (u := gI σ 2911 at9 ^ (p - 2)) rfl (em_id (p : Int) (om a * gI σ 2911 at9))]
            rw [show gI σ 2911 at9 ^ (p - 2) * (om a * gI σ 2911 at9) = om a * (gI σ 2911 at9 * gI σ 2911 at9 ^ (p - 2)) by rw [Int.mul_comm, Int.mul_assoc]]
            rw [em_mul (u := om a) (v := 1) rfl e3, Int.mul_one]
          have e4 := ov_rng (p := p) (by omega) ((om a * gI σ 2911 at9) % (p : Int)) (gI σ 2911 at9)
          rwa [Int.emod_eq_of_lt e4.1 e4.2, Int.emod_eq_of_lt e0.1 e0.2] at e2
        refine B_X12_takesRow_43 hL1 x9 ?_
        rw [k16]
        refine ⟨fun _ _ => M_mod hL1 k18 (by omega) ⟨hL1, fun _ => ⟨⟨by omega, by omega⟩, fun _ => ?_⟩⟩, fun h9 => absurd (by omega) h9⟩
        rw [show ((at9 : Nat) : Int).toNat = at9 by omega, kk]
        refine M_over hL1 k18 (by omega) (by omega) (by omega) ⟨hL1, fun _ => ⟨⟨by omega, by omega⟩, fun τ7 e7 => ⟨⟨by omega, by omega⟩, fun hL7 => ?_⟩⟩⟩
        rw [eV, show ((a : Nat) : Int).toNat = a by omega] at e7
        have q7 : ∀ b i, gI τ7 b i = if b = x ∧ i = a then om a else gI ρ b i := fun b i => by rw [e7, gI_sI]
        refine next τ7 ⟨hL7, hF1.trans (by rw [e7]; exact Fr_of1 (.inl rfl)), by rw [q7, if_neg (by omega)]; exact h35, fun b hb => ?_⟩
        rw [q7]
        by_cases hba : b = a
        · rw [if_pos ⟨rfl, hba⟩, hba]
        · rw [if_neg (fun h9 => hba h9.2)]; exact hv b (by omega)
    · rintro τ ⟨hL1, hF1, h35, hv⟩
      obtain ⟨k16, k18, _⟩ := kp τ hF1
      refine B_X12_takesRow_29 hL1 x9 ?_
      rw [k16]
      exact ⟨fun _ _ => nrm τ hL1 hF1 h35 hv, fun h9 => absurd (by omega) h9⟩
  refine C_X12_takesRow (B_X12_takesRow_0 hL (fun _ => ?_))
  refine loopU (N := l) (G := fun a τ => GG E mX12_takesRow 2 [some (vr 172), some (vi a), none, none, none, none, none] [] τ 0 0 Q) (P := fun _ τ => τ = σ) ?_ ?_ 0 σ (by omega) rfl
  · rintro a τ ha rfl next
    refine B_X12_takesRow_2 hL ?_
    rw [show ((a : Nat) : Int).toNat = a by omega, hf, show ((f : Nat) : Int).toNat = f by omega]
    refine ⟨⟨by omega, by omega⟩, fun hne => ⟨⟨by omega, by omega⟩, fun b3 e3 _ _ => ?_⟩, fun he => ⟨⟨by omega, by omega⟩, fun _ => next τ rfl⟩⟩
    rw [hx] at e3
    subst e3
    exact row a (by omega) hne
  · rintro τ rfl
    refine B_X12_takesRow_2 hL ?_
    rw [show ((l : Nat) : Int).toNat = l by omega, hf, show ((f : Nat) : Int).toNat = f by omega]
    refine ⟨⟨by omega, by omega⟩, fun hne => ⟨⟨by omega, by omega⟩, fun b3 e3 _ _ => ?_⟩, fun he => absurd he (by rw [hl1]; decide)⟩
    rw [hx] at e3
    subst e3
    exact row l hl hne
end SB3
