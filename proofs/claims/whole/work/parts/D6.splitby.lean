/-! ===== the class: splitBy ===== -/
section SD6
variable {E : Ev} {σ : Sg} {Q : NO → Sg → Prop} {g : Sg} {c t : Nat}
theorem S_takeParts {r f m : Nat} (hL : Lay LC g c t σ) (h11 : gI σ 54 11 = (r : Int)) (h12 : gI σ 54 12 = (f : Int)) (h14 : gI σ 54 14 = (m : Int)) (hr : r ≤ 12) (hf : f + m ≤ 12)
    (h : ∀ τ, Lay LC g c t τ → Fr (fun a _ => 57 + f ≤ a ∧ a < 57 + f + m) (fun _ => False) σ τ → (∀ s j, s < m → j < r → gI τ (57 + (f + s)) j = RX 69 σ 0 s j) → Q (.inl none) τ) : CC E mX8_takeParts [vr 54] σ Q := by
  have rw69 : ∀ e, e < 12 → 70 ≤ gR σ 69 e ∧ gR σ 69 e < 82 := fun e he => hL.2.2.2.1 (69, 12, 70, 82) (by decide) e he
  refine C_X8_takeParts (B_X8_takeParts_0 hL (fun _ => ?_))
  refine loopU (N := m) (G := fun s τ => GG E mX8_takeParts 2 [some (vr 54), some (vi s)] [] τ 0 0 Q)
    (P := fun k τ => Lay LC g c t τ ∧ Fr (fun a _ => 57 + f ≤ a ∧ a < 57 + f + m) (fun _ => False) σ τ ∧ ∀ s j, s < k → j < r → gI τ (57 + (f + s)) j = RX 69 σ 0 s j) ?_ ?_ 0 σ (by omega) ⟨hL, Fr.refl _, fun s j hs => absurd hs (by omega)⟩
  · rintro s τ hs ⟨hL1, hF, hv⟩ next
    have k11 : gI τ 54 11 = (r : Int) := (hF.i (by omega) (by omega)).trans h11
    have k12 : gI τ 54 12 = (f : Int) := (hF.i (by omega) (by omega)).trans h12
    have k14 : gI τ 54 14 = (m : Int) := (hF.i (by omega) (by omega)).trans h14
    have kR : ∀ i, gR τ 69 i = gR σ 69 i := fun i => hF.r (by omega) id
    have r9 := rw69 s (by omega)
    refine B_X8_takeParts_2 hL1 ?_
    rw [k14, k12, k11, show ((s : Nat) : Int).toNat = s by omega, show ((f : Int) + (s : Int)).toNat = f + s by omega, show ((r : Nat) : Int).toNat = r by omega, kR]
    refine ⟨fun h9 => absurd h9 (by omega), fun _ => ⟨⟨by omega, by omega⟩, fun b2 e2 _ => ⟨⟨by omega, by omega⟩, ⟨by omega, by omega⟩, ⟨by decide, by omega⟩, by omega, fun τ9 e9 => ⟨⟨by omega, by omega⟩, fun hL9 => ?_⟩⟩⟩⟩
    rw [e2] at e9
    have q9 : ∀ a j, gI τ9 a j = if a = 57 + (f + s) ∧ 0 ≤ j ∧ j < 0 + r then gI τ (gR σ 69 s) (0 + (j - 0)) else gI τ a j := fun a j => by rw [e9, gI_cp]
    refine next τ9 ⟨hL9, hF.trans (fun a ha j => ⟨fun hw => by rw [q9, if_neg (by omega)], fun _ => by rw [e9]; rfl⟩), fun s' j hs' hj => ?_⟩
    rw [q9]
    by_cases hss : s' = s
    · rw [if_pos ⟨by omega, by omega, by omega⟩, hss, show 0 + (j - 0) = j by omega, hF.i (by omega) (by omega)]
      show _ = gI σ (gR σ 69 (0 + s)) j
      rw [Nat.zero_add]
    · rw [if_neg (by omega)]; exact hv s' j (by omega) hj
  · rintro τ ⟨hL1, hF, hv⟩
    have k14 : gI τ 54 14 = (m : Int) := (hF.i (by omega) (by omega)).trans h14
    refine B_X8_takeParts_2 hL1 ?_
    rw [k14]
    exact ⟨fun _ _ => h τ hL1 hF hv, fun h9 => absurd (by omega) h9⟩
abbrev frSb : Nat → Nat → Prop := fun a k => (a = 54 ∧ 12 ≤ k ∧ k ≤ 14) ∨ (57 ≤ a ∧ a < 69) ∨ (70 ≤ a ∧ a < 82) ∨ (83 ≤ a ∧ a < 95) ∨ (96 ≤ a ∧ a < 108) ∨ (109 ≤ a ∧ a < 121) ∨ (121 ≤ a ∧ a < 125)
theorem S_splitBy {p r cls : Nat} {cp : Nat → Nat → Nat → Int} {om ev : Nat → Nat → Int} (hpr : isPr p) (h242 : p < 242) (hr : r ≤ 12) (hrp : r < p) (hc : cls < r) (hS : SPEC p r cp om ev) {own : Nat → Nat} (hL : Lay LC g c t σ) (hJ : JC σ) (h35 : gI σ 35 0 = (p : Int)) (h11 : gI σ 54 11 = (r : Int)) (hCp : CpC σ r cp) (hB : BST p r om (fun u j => gI σ (57 + u) j) (gI σ 124) own) (hA : ∀ i j, i < r → j < r → own i = own j → ∀ a, a < cls → om i a = om j a)
    (h : ∀ τ own', Lay LC g c t τ → JC τ → Fr frSb frPv σ τ → BST p r om (fun u j => gI τ (57 + u) j) (gI τ 124) own' → (∀ i j, i < r → j < r → own' i = own' j → ∀ a, a < cls + 1 → om i a = om j a) → Q (.inl none) τ) : CC E mX8_splitBy [vr 54, vi cls] σ Q := by
  have p1 := hpr.1
  have hom : ∀ i a, i < r → a < r → 0 ≤ om i a ∧ om i a < (p : Int) := fun i a hi ha => (hS.1 i hi).2.1 a ha
  have go : ∀ (m : Nat) (ρ : Sg) (own : Nat → Nat), m ≤ r → Lay LC g c t ρ → JC ρ → Fr frSb frPv σ ρ → BST p r om (fun u j => gI ρ (57 + u) j) (gI ρ 124) own → AGR r om own m cls → GG E mX8_splitBy 7 [some (vr 54), some (vi cls), some (vi ((m : Int) - 1)), none] [] ρ 0 0 Q := by
    intro m
    induction m with
    | zero =>
      intro ρ own hm hL1 hJ1 hF1 hB1 hA1
      refine B_X8_splitBy_7 hL1 ⟨fun _ _ => h ρ own hL1 hJ1 hF1 hB1 (fun i j hi hj he a ha => ?_), fun h9 => absurd (by decide) h9⟩
      by_cases hac : a = cls
      · rw [hac]; exact (hA1 i j hi hj he).2 (by omega)
      · exact (hA1 i j hi hj he).1 a (by omega)
    | succ m ih =>
      intro ρ own hm hL1 hJ1 hF1 hB1 hA1
      have k11 : gI ρ 54 11 = (r : Int) := (hF1.i (by omega) (by omega)).trans h11
      have k35 : gI ρ 35 0 = (p : Int) := (hF1.i (by omega) (by omega)).trans h35
      have hmr : m < r := by omega
      have em : ((m + 1 : Nat) : Int) - 1 = (m : Int) := by omega
      rw [em]
      refine B_X8_splitBy_7 hL1 ?_
      rw [k11, show ((m : Nat) : Int).toNat = m by omega]
      refine ⟨fun h9 => absurd h9 (by omega), fun _ => ⟨⟨by omega, by omega⟩, fun hle => ⟨⟨by omega, by omega⟩, fun _ => ?_⟩, fun hgt => ?_⟩⟩
      · have nx := ih ρ own (by omega) hL1 hJ1 hF1 hB1 (agr_skip hB1 hmr hle hA1)
        rw [show (m : Int) - 1 = (m : Int) + -1 by omega] at nx
        exact nx
      obtain ⟨n, n1, n2, n3, n4, col, hE, hN⟩ := hB1.2.2 m hmr (by omega)
      rw [n1]
      refine ⟨⟨by omega, by omega⟩, fun h9 => absurd h9 (by omega), fun _ τ5 e5 τ6 e6 τ7 e7 hL7 => ?_⟩
      have s5 : gI τ5 124 m = (n : Int) := by rw [e5, gI_sI, if_neg (by omega)]; exact n1
      rw [s5] at e6
      have q7 : ∀ a j, gI τ7 a j = if a = 54 ∧ j = 14 then 0 else if a = 54 ∧ j = 13 then (n : Int) else if a = 54 ∧ j = 12 then (m : Int) else gI ρ a j := fun a j => by rw [e7, gI_sI, e6, gI_sI, e5, gI_sI]
      have hJ7 : JC τ7 := ((hJ1.sI e5 (.inr (by omega))).sI e6 (.inr (by omega))).sI e7 (.inr (by omega))
      have hF7 : Fr (fun a k => a = 54 ∧ 12 ≤ k ∧ k ≤ 14) (fun _ => False) ρ τ7 := fun a ha j => ⟨fun hw => by rw [q7, if_neg (by omega), if_neg (by omega), if_neg (by omega)], fun _ => by rw [e7, e6, e5]; rfl⟩
      have g11 : gI τ7 54 11 = (r : Int) := (hF7.i (by omega) (by omega)).trans k11
      have g12 : gI τ7 54 12 = (m : Int) := by rw [q7, if_neg (by omega), if_neg (by omega), if_pos ⟨rfl, rfl⟩]
      have g13 : gI τ7 54 13 = (n : Int) := by rw [q7, if_neg (by omega), if_pos ⟨rfl, rfl⟩]
      have g14 : gI τ7 54 14 = 0 := by rw [q7, if_pos ⟨rfl, rfl⟩]
      have g35 : gI τ7 35 0 = (p : Int) := (hF7.i (by omega) (by omega)).trans k35
      have gRA : ∀ s j, s < n → RA τ7 m s j = gI ρ (57 + (m + s)) j := fun s j hs => hF7.i (by omega) (by omega)
      have hCp7 : CpC τ7 r cp := fun a b k ha hb hk => by
        have := hCp a b k ha hb hk
        exact ⟨((hF7.i (by omega) (by omega)).trans (hF1.i (by omega) (by omega))).trans this.1, this.2⟩
      have hE7 : ECH p r n (RA τ7 m) col := ⟨fun s j hs hj => by rw [gRA s j hs]; exact hE.1 s j hs hj, fun s hs => ⟨(hE.2 s hs).1, by rw [gRA s _ hs]; exact (hE.2 s hs).2.1, fun j hj => by rw [gRA s j hs]; exact (hE.2 s hs).2.2.1 j hj, fun e he hes => by rw [gRA e _ he]; exact (hE.2 s hs).2.2.2 e he hes⟩⟩
      have hN7 : ANB p r n (RA τ7 m) (fun i => own i = m) om := fun y => (SlR.cg (fun s j hs _ => gRA s j hs) y).trans (hN y)
      refine S_fillTable hL7 g35 (by omega) g11 g12 g13 hr (by omega) hE7 hCp7 hc (fun τ9 hL9 hF9 hT9 => ⟨hL9, fun _ => ?_⟩)
      generalize hTd : (fun u v => tbR r cp cls (RA τ7 m) col u v % (p : Int)) = T at *
      have hT : ∀ u v, u < n → v < n → gI τ9 (83 + u) v = T u v ∧ 0 ≤ T u v ∧ T u v < (p : Int) := fun u v hu hv => by
        rw [hT9 u v hu hv, ← hTd]
        exact ⟨rfl, em_rng (by omega) _⟩
      have hTt : ∀ u v, u < n → v < n → T u v % (p : Int) = tbR r cp cls (RA τ7 m) col u v % (p : Int) := fun u v hu hv => by rw [← hTd]; exact em_id _ _
      have hJ9 : JC τ9 := hJ7.fr hF9 ⟨id, id, id⟩ (fun a j h9 => by omega)
      refine S_fillEquation (T := T) hL9 ((hF9.i (by omega) (by omega)).trans g35) (by omega) ((hF9.i (by omega) (by omega)).trans g13) (by omega) hT (fun τ11 hL11 hF11 hq11 => ⟨hL11, fun _ => ?_⟩)
      have hJ11 : JC τ11 := hJ9.fr hF11 ⟨id, id, id⟩ (fun a j h9 => by omega)
      have hF711 : Fr frSb frPv τ7 τ11 := (hF9.mono (fun a j h9 => by omega) (fun _ h => h.elim)).trans (hF11.mono (fun a j h9 => by omega) (fun _ h => h.elim))
      have same : ∀ a j, a < 2968 → (a < 83 ∨ (108 ≤ a ∧ a < 121) ∨ 124 ≤ a) → gI τ11 a j = gI τ7 a j := fun a j h1 h2 => (hF11.i h1 (by omega)).trans (hF9.i h1 (by omega))
      have hT11 : ∀ u v, u < n → v < n → gI τ11 (83 + u) v = T u v ∧ 0 ≤ T u v ∧ T u v < (p : Int) := fun u v hu hv => ⟨(hF11.i (by omega) (by omega)).trans (hT u v hu hv).1, (hT u v hu hv).2⟩
      have a35 : gI τ11 35 0 = (p : Int) := (same 35 0 (by omega) (by omega)).trans g35
      have a11 : gI τ11 54 11 = (r : Int) := (same 54 11 (by omega) (by omega)).trans g11
      have a12 : gI τ11 54 12 = (m : Int) := (same 54 12 (by omega) (by omega)).trans g12
      have a13 : gI τ11 54 13 = (n : Int) := (same 54 13 (by omega) (by omega)).trans g13
      have a14 : gI τ11 54 14 = 0 := (same 54 14 (by omega) (by omega)).trans g14
      have a124 : ∀ u, gI τ11 124 u = gI ρ 124 u := fun u => (same 124 u (by omega) (by omega)).trans (hF7.i (by omega) (by omega))
      generalize hBd : (fun i => own i = m) = B at *
      have Bi : ∀ i, B i ↔ own i = m := fun i => by rw [← hBd]
      have off9 := fun y : Int => off_le (r := r) (om := om) (cls := cls) (B := B) y
      have full : offN r om cls B (p : Int) = n := by
        rw [n3]
        exact cn_ext r (fun k hk => ⟨fun h9 => h9.1, fun h9 => ⟨h9, (hom k cls hk hc).2⟩⟩)
      have off0 : offN r om cls B ((0 : Nat) : Int) = 0 := cn_0 r (fun k hk h9 => by have := (hom k cls hk hc).1; have := h9.2; omega)
      -- placed are those below x
      let PL : Nat → Sg → Prop := fun x τ => Lay LC g c t τ ∧ JC τ ∧ Fr frPs frPv τ11 τ ∧ gI τ 54 14 = (offN r om cls B (x : Int) : Int) ∧ (∀ y : Nat, y < x → 0 < cntN r om cls B (y : Int) → gI τ 124 (m + offN r om cls B (y : Int)) = (cntN r om cls B (y : Int) : Int) ∧ (∀ v, offN r om cls B (y : Int) < v → v < offN r om cls B (y : Int) + cntN r om cls B (y : Int) → gI τ 124 (m + v) = 0) ∧ ∃ col, ECH p r (cntN r om cls B (y : Int)) (fun s j => RX 69 τ 0 (offN r om cls B (y : Int) + s) j) col ∧ ANB p r (cntN r om cls B (y : Int)) (fun s j => RX 69 τ 0 (offN r om cls B (y : Int) + s) j) (fun i => B i ∧ om i cls = y) om) ∧ (∀ u, (u < m ∨ m + offN r om cls B (x : Int) ≤ u) → gI τ 124 u = gI ρ 124 u)
      -- the end of a space
      have done : ∀ (x : Nat) τ, x ≤ p → offN r om cls B (x : Int) = n → PL x τ → CC E mX8_takeParts [vr 54] τ (KV (fun τ2 => Lay LC g c t τ2 ∧ inR ((m : Int) + (-1)) ∧ (Lay LC g c t τ2 → GG E mX8_splitBy 7 [some (vr 54), some (vi cls), some (vi ((m : Int) + (-1))), none] [] τ2 0 0 Q)) (fun _ _ => False)) := by
        rintro x τ hx hoff ⟨hLt, hJt, hFt, h14, hpl, hsp⟩
        rw [hoff] at h14 hsp
        refine S_takeParts (f := m) hLt ((hFt.i (by omega) (by omega)).trans a11) ((hFt.i (by omega) (by omega)).trans a12) h14 hr (by omega) (fun τ2 hL2 hF2 hv2 => ⟨hL2, ⟨by omega, by omega⟩, fun _ => ?_⟩)
        have hFall : Fr frSb frPv σ τ2 := (((hF1.trans (hF7.mono (fun a j h9 => .inl h9) (fun _ h => h.elim))).trans hF711).trans (hFt.mono (fun a j h9 => by omega) (fun _ h => h))).trans (hF2.mono (fun a j h9 => by omega) (fun _ h => h.elim))
        have hBn := bst_split (row' := fun u j => gI τ2 (57 + u) j) (sp' := gI τ2 124) hB1 hom hc hmr n1 (by omega) (fun u j hu h9 => ?_) (fun u hu h9 => ?_) (fun y hy hcy => ?_)
        · have nx := ih τ2 _ (by omega) hL2 (hJt.fr hF2 ⟨id, id, id⟩ (fun a j h9 => by omega)) hFall hBn (agr_split hB1 n1 (by omega) hmr hA1)
          rw [show (m : Int) - 1 = (m : Int) + -1 by omega] at nx
          exact nx
        · show gI τ2 (57 + u) j = gI ρ (57 + u) j
          rw [hF2.i (by omega) (by omega), hFt.i (by omega) (by omega), same _ _ (by omega) (by omega), hF7.i (by omega) (by omega)]
        · show gI τ2 124 u = gI ρ 124 u
          rw [hF2.i (by omega) (by omega)]
          exact hsp u h9
        · rw [hBd] at hcy ⊢
          have hyx : y < x := by
            apply Nat.not_le.mp
            intro h9
            have h1 := off_mono (r := r) (om := om) (cls := cls) (B := B) (show (x : Int) ≤ (y : Int) by omega)
            have h2 := off_cnt_le (r := r) (om := om) (cls := cls) (B := B) (y : Int)
            omega
          obtain ⟨b1, b2, col2, b3, b4⟩ := hpl y hyx hcy
          have hcl := off_cnt_le (r := r) (om := om) (cls := cls) (B := B) (y : Int)
          have rv : ∀ s j, s < cntN r om cls B (y : Int) → j < r → gI τ2 (57 + (m + (offN r om cls B (y : Int) + s))) j = RX 69 τ 0 (offN r om cls B (y : Int) + s) j := fun s j hs hj => hv2 _ j (by omega) hj
          refine ⟨by show gI τ2 124 _ = _; rw [hF2.i (by omega) (by omega)]; exact b1, fun v hv1 hv3 => by show gI τ2 124 _ = 0; rw [hF2.i (by omega) (by omega)]; exact b2 v hv1 hv3, col2, ⟨fun s j hs hj => by show 0 ≤ gI τ2 _ j ∧ gI τ2 _ j < _; rw [rv s j hs hj]; exact b3.1 s j hs hj, fun s hs => ?_⟩, fun z => ?_⟩
          · obtain ⟨d1, d2, d3, d4⟩ := b3.2 s hs
            exact ⟨d1, (rv s _ hs d1).trans d2, fun j hj => (rv s j hs (by omega)).trans (d3 j hj), fun e he hes => (rv e _ he d1).trans (d4 e he hes)⟩
          · have e7 : ∀ i, (own i = m ∧ om i cls = (y : Int)) ↔ (B i ∧ om i cls = (y : Int)) := fun i => by rw [Bi]
            refine (SlR.cg (fun s j hs hj => rv s j hs hj) z).trans ((b4 z).trans ⟨fun h9 i hi hi2 => h9 i hi ((e7 i).mp hi2), fun h9 i hi hi2 => h9 i hi ((e7 i).mpr hi2)⟩)
      have walk : ∀ (d x : Nat) τ, x + d = p → PL x τ → GG E mX8_splitBy 67 [some (vr 54), some (vi cls), some (vi m), some (vi x)] [] τ 0 0 Q := by
        intro d
        induction d with
        | zero =>
          intro x τ hx hP
          have hP' := hP
          obtain ⟨hLt, hJt, hFt, h14, hpl, hsp⟩ := hP
          have hxp : x = p := by omega
          refine B_X8_splitBy_67 hLt ?_
          rw [(hFt.i (a := 35) (k := 0) (by omega) (by omega)).trans a35]
          exact ⟨fun _ _ => done x τ (by omega) (by rw [hxp]; exact full) hP', fun h9 => absurd (by omega) h9⟩
        | succ d ih2 =>
          intro x τ hx hP
          have hP' := hP
          obtain ⟨hLt, hJt, hFt, h14, hpl, hsp⟩ := hP
          have t35 : gI τ 35 0 = (p : Int) := (hFt.i (by omega) (by omega)).trans a35
          have t13 : gI τ 54 13 = (n : Int) := (hFt.i (by omega) (by omega)).trans a13
          have t12 : gI τ 54 12 = (m : Int) := (hFt.i (by omega) (by omega)).trans a12
          have t11 : gI τ 54 11 = (r : Int) := (hFt.i (by omega) (by omega)).trans a11
          have hofx := off9 (x : Int)
          refine B_X8_splitBy_67 hLt ?_
          rw [t35, t13, h14]
          refine ⟨fun h9 => absurd h9 (by omega), fun _ => ⟨fun hle _ => done x τ (by omega) (by omega) hP', fun hlt _ => ?_⟩⟩
          have tT : ∀ u v, u < n → v < n → gI τ (83 + u) v = T u v ∧ 0 ≤ T u v ∧ T u v < (p : Int) := fun u v hu hv => ⟨(hFt.i (by omega) (by omega)).trans (hT11 u v hu hv).1, (hT11 u v hu hv).2⟩
          have tA : ∀ s j, s < n → RA τ m s j = RA τ7 m s j := fun s j hs => (hFt.i (by omega) (by omega)).trans (same _ _ (by omega) (by omega))
          have eq9 : ∀ i, i < r → (om i cls % (p : Int) = (x : Int) % (p : Int) ↔ om i cls = (x : Int)) := fun i hi => by
            have := hom i cls hi hc
            rw [Int.emod_eq_of_lt this.1 this.2, Int.emod_eq_of_lt (by omega) (by omega)]
          have ecn : cn (fun i => B i ∧ om i cls % (p : Int) = (x : Int) % (p : Int)) r = cntN r om cls B (x : Int) := cn_ext r (fun k hk => by rw [eq9 k hk])
          have es := off_s (r := r) (om := om) (cls := cls) (B := B) (x : Int)
          have ex1 : ((x + 1 : Nat) : Int) = (x : Int) + 1 := by omega
          refine S_solves (T := T) hLt t35 (by omega) t13 (by omega) (by omega) (fun k hk => (hFt.i (by omega) (by omega)).trans (hq11 k hk)) (fun y9 y1 y0 => ⟨hLt, fun _ => ⟨fun hz => ⟨⟨by omega, by omega⟩, fun _ => ?_⟩, fun hnz _ => ?_⟩⟩)
          · -- no root
            have c0 : cntN r om cls B (x : Int) = 0 := cn_0 r (fun i hi h9 => by
              have fl := FL_sol hpr h242 hE7 hN7 hS n3 (by omega) hc hTt hi h9.1
              rw [h9.2] at fl
              obtain ⟨n', rfl⟩ : ∃ n', n = n' + 1 := ⟨n - 1, by omega⟩
              have fr : 0 ≤ FLh p (n' + 1) T (x : Int) (n' + 1) ∧ FLh p (n' + 1) T (x : Int) (n' + 1) < (p : Int) := em_rng (by omega) _
              rw [Int.emod_eq_of_lt fr.1 fr.2] at fl
              have := y1 fl
              omega)
            have nx := ih2 (x + 1) τ (by omega) ⟨hLt, hJt, hFt, by rw [ex1, es, c0]; exact h14, fun y hy hcy => ?_, fun u hu => hsp u (by rw [ex1, es, c0] at hu; exact hu)⟩
            · exact nx
            · by_cases hyx : y = x
              · rw [hyx, c0] at hcy; omega
              · exact hpl y (by omega) hcy
          · have hE9 : ECH p r n (RA τ m) col := ⟨fun s j hs hj => by rw [tA s j hs]; exact hE7.1 s j hs hj, fun s hs => ⟨(hE7.2 s hs).1, by rw [tA s _ hs]; exact (hE7.2 s hs).2.1, fun j hj => by rw [tA s j hs]; exact (hE7.2 s hs).2.2.1 j hj, fun e he hes => by rw [tA e _ he]; exact (hE7.2 s hs).2.2.2 e he hes⟩⟩
            have hN9 : ANB p r n (RA τ m) B om := fun y => (SlR.cg (fun s j hs _ => tA s j hs) y).trans (hN7 y)
            have hTt9 : ∀ u v, u < n → v < n → T u v % (p : Int) = tbR r cp cls (RA τ m) col u v % (p : Int) := fun u v hu hv => by
              rw [hTt u v hu hv]
              congr 1
              exact sm_ext r (fun k _ => by rw [tA u k hu])
            have hle9 := off_cnt_le (r := r) (om := om) (cls := cls) (B := B) (x : Int)
            refine S_placeSpace (T := T) hLt hJt t35 hpr h242 t11 t12 t13 h14 hr (by omega) (by omega) tT hE9 hN9 hS hc hTt9 (by rw [ecn]; omega) (fun τ2 q hq hL2 hJ2 hF2 g14 hk2 hpl2 hsp2 => ⟨hL2, ⟨by omega, by omega⟩, fun _ => ?_⟩)
            rw [ecn] at hq
            subst hq
            have rx9 : ∀ f s j, RX 69 τ2 f s j = RX 69 τ2 0 (f + s) j := fun f s j => by
              show gI τ2 (gR τ2 69 (f + s)) j = gI τ2 (gR τ2 69 (0 + (f + s))) j
              rw [Nat.zero_add]
            have nx := ih2 (x + 1) τ2 (by omega) ⟨hL2, hJ2, hFt.trans hF2, by rw [ex1, es]; exact g14, fun y hy hcy => ?_, fun u hu => ?_⟩
            · exact nx
            · by_cases hyx : y = x
              · subst hyx
                obtain ⟨col2, d1, d2⟩ := hpl2
                refine ⟨by rw [hsp2, if_pos ⟨by omega, by omega⟩, if_pos rfl], fun v hv1 hv2 => by rw [hsp2, if_pos ⟨by omega, by omega⟩, if_neg (by omega)], col2, ⟨fun s j hs hj => by show 0 ≤ RX 69 τ2 0 _ j ∧ RX 69 τ2 0 _ j < _; rw [← rx9]; exact d1.1 s j hs hj, fun s hs => ?_⟩, fun z => ?_⟩
                · obtain ⟨f1, f2, f3, f4⟩ := d1.2 s hs
                  exact ⟨f1, (rx9 _ s _).symm.trans f2, fun j hj => (rx9 _ s j).symm.trans (f3 j hj), fun e he hes => (rx9 _ e _).symm.trans (f4 e he hes)⟩
                · refine (SlR.cg (fun s j _ _ => (rx9 _ s j).symm) z).trans ((d2 z).trans ⟨fun h9 i hi hi2 => h9 i hi ⟨hi2.1, (eq9 i hi).mpr hi2.2⟩, fun h9 i hi hi2 => h9 i hi ⟨hi2.1, (eq9 i hi).mp hi2.2⟩⟩)
              · obtain ⟨b1, b2, col2, b3, b4⟩ := hpl y (by omega) hcy
                have hoy := off_cnt (r := r) (om := om) (cls := cls) (B := B) (show (y : Int) < (x : Int) by omega)
                have kk : ∀ s j, s < cntN r om cls B (y : Int) → RX 69 τ2 0 (offN r om cls B (y : Int) + s) j = RX 69 τ 0 (offN r om cls B (y : Int) + s) j := fun s j hs => hk2 _ j (by omega)
                refine ⟨by rw [hsp2, if_neg (by omega)]; exact b1, fun v hv1 hv2 => by rw [hsp2, if_neg (by omega)]; exact b2 v hv1 hv2, col2, ⟨fun s j hs hj => by show 0 ≤ RX 69 τ2 0 _ j ∧ RX 69 τ2 0 _ j < _; rw [kk s j hs]; exact b3.1 s j hs hj, fun s hs => ?_⟩, fun z => (SlR.cg (fun s j hs _ => kk s j hs) z).trans (b4 z)⟩
                obtain ⟨f1, f2, f3, f4⟩ := b3.2 s hs
                exact ⟨f1, (kk s _ hs).trans f2, fun j hj => (kk s j hs).trans (f3 j hj), fun e he hes => (kk e _ he).trans (f4 e he hes)⟩
            · rw [ex1, es] at hu
              rw [hsp2, if_neg (by omega)]
              exact hsp u (by omega)
      exact walk p 0 τ11 (by omega) ⟨hL11, hJ11, Fr.refl _, by rw [off0]; exact a14, fun y hy => absurd hy (by omega), fun u _ => a124 u⟩
  refine C_X8_splitBy (B_X8_splitBy_0 hL ?_)
  rw [h11]
  exact ⟨⟨by omega, by omega⟩, fun _ => go r σ own (Nat.le_refl _) hL hJ (Fr.refl _) hB (fun i j hi hj he => ⟨hA i j hi hj he, fun h9 => by have := (hB.1 i hi).1; omega⟩)⟩
end SD6
