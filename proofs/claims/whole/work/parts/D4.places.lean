/-! ===== the class: a space's part is placed ===== -/
theorem SlR.cg {p : Int} {n w : Nat} {A A' : Nat → Nat → Int} (h : ∀ s j, s < n → j < w → A s j = A' s j) (y : Nat → Int) : SlR p n w A y ↔ SlR p n w A' y := by
  have e : ∀ s, s < n → dt w (A s) y = dt w (A' s) y := fun s hs => sm_ext w (fun j hj => by rw [h s j hs hj])
  exact ⟨fun k s hs => by rw [← e s hs]; exact k s hs, fun k s hs => by rw [e s hs]; exact k s hs⟩
theorem IND.cg {p : Int} {n w : Nat} {A A' : Nat → Nat → Int} (h : ∀ s j, s < n → j < w → A s j = A' s j) (k : IND p n w A) : IND p n w A' := fun d hd => k d (fun j hj => by
  rw [sm_ext n (fun s hs => by rw [h s j hs hj])]; exact hd j hj)
theorem CLE.cg {p n w C k : Nat} {A0 A0' A : Nat → Nat → Int} (h : ∀ s j, s < n → j < w → A0' s j = A0 s j) (hC : CLE p n w A0 A C k) : CLE p n w A0' A C k := by
  obtain ⟨c, c1, c2, h1, h2, h3, h4, h5⟩ := hC
  exact ⟨c, c1, c2, h1, h2, fun y => (SlR.cg h y).trans (h3 y), fun i => h4 (i.cg h), h5⟩
section SD4
variable {E : Ev} {σ : Sg} {Q : NO → Sg → Prop} {g : Sg} {c t : Nat}
theorem S_mixRows {p r f n a b : Nat} (hL : Lay LC g c t σ) (ha : 109 ≤ a ∧ a < 121) (hb : 70 ≤ b ∧ b < 82) (h35 : gI σ 35 0 = (p : Int)) (hp : 2 ≤ p ∧ p ≤ 241) (h11 : gI σ 54 11 = (r : Int)) (h12 : gI σ 54 12 = (f : Int)) (h13 : gI σ 54 13 = (n : Int)) (hr : r ≤ 12) (hf : f + n ≤ 12) (hA : ∀ s j, s < n → j < r → (RA σ f s j).natAbs ≤ 241) (hl : ∀ s, s < n → (gI σ a (n + s)).natAbs ≤ 241)
    (h : ∀ τ, Lay LC g c t τ → Fr (fun d _ => d = b) (fun _ => False) σ τ → (∀ j, j < r → gI τ b j = sm (fun s => gI σ a (n + s) * RA σ f s j) n % (p : Int)) → (∀ j, r ≤ j → gI τ b j = gI σ b j) → Q (.inl none) τ) : CC E mX8_mixRows [vr 54, vr a, vr b] σ Q := by
  refine C_X8_mixRows (B_X8_mixRows_0 hL (pa108 ha) (pa69 hb) (fun _ => ?_))
  refine loopU (N := r) (G := fun j τ => GG E mX8_mixRows 2 [some (vr 54), some (vr a), some (vr b), some (vi j), none, none] [] τ 0 0 Q)
    (P := fun m τ => Lay LC g c t τ ∧ Fr (fun d _ => d = b) (fun _ => False) σ τ ∧ ∀ j, gI τ b j = if j < m then sm (fun s => gI σ a (n + s) * RA σ f s j) n % (p : Int) else gI σ b j) ?_ ?_ 0 σ (by omega) ⟨hL, Fr.refl _, fun j => by rw [if_neg (by omega)]⟩
  · rintro j τ hj ⟨hL1, hF, hv⟩ next
    have k35 : gI τ 35 0 = (p : Int) := (hF.i (by omega) (by omega)).trans h35
    have k11 : gI τ 54 11 = (r : Int) := (hF.i (by omega) (by omega)).trans h11
    have k12 : gI τ 54 12 = (f : Int) := (hF.i (by omega) (by omega)).trans h12
    have k13 : gI τ 54 13 = (n : Int) := (hF.i (by omega) (by omega)).trans h13
    refine B_X8_mixRows_2 hL1 (pa108 ha) (pa69 hb) ?_
    rw [k11]
    refine ⟨fun h9 => absurd h9 (by omega), fun _ _ => ?_⟩
    let F9 : Nat → Int := fun s => gI σ a (n + s) * RA σ f s j
    have bF : ∀ s, s < n → (F9 s).natAbs ≤ 241 * 241 := fun s hs => m4 (hl s hs) (hA s j hs hj)
    refine loopU (N := n) (G := fun s τ => GG E mX8_mixRows 16 [some (vr 54), some (vr a), some (vr b), some (vi j), some (vi (sm F9 s)), some (vi s)] [] τ 0 0 Q) (P := fun _ ρ => ρ = τ) ?_ ?_ 0 τ (by omega) rfl
    · rintro s ρ hs rfl next2
      have b1 := sm_bd (f := F9) (b := 241 * 241) s (fun j hj => bF j (by omega))
      have b3 := bF s hs
      have q1 : gI ρ a (n + s) = gI σ a (n + s) := hF.i (by omega) (by omega)
      have q2 : gI ρ (57 + (f + s)) j = RA σ f s j := hF.i (by omega) (by omega)
      refine B_X8_mixRows_16 hL1 (pa108 ha) (pa69 hb) ?_
      rw [k13, k12, show ((n : Int) + (s : Int)).toNat = n + s by omega, show ((f : Int) + (s : Int)).toNat = f + s by omega, show ((j : Nat) : Int).toNat = j by omega, q1, q2]
      have e8 : gI σ a (n + s) * RA σ f s j = F9 s := rfl
      rw [e8]
      refine ⟨fun h9 => absurd h9 (by omega), fun _ => ⟨⟨by omega, by omega⟩, ⟨by omega, by omega⟩, ⟨by omega, by omega⟩, ⟨by omega, by omega⟩, ⟨by omega, by omega⟩, ⟨by omega, by omega⟩, fun v13 e13 => ?_⟩⟩
      rw [e13]
      exact ⟨⟨by omega, by omega⟩, ⟨by omega, by omega⟩, fun _ => next2 ρ rfl⟩
    · rintro ρ rfl
      refine B_X8_mixRows_16 hL1 (pa108 ha) (pa69 hb) ?_
      rw [k13, show ((j : Nat) : Int).toNat = j by omega]
      refine ⟨fun _ _ => S_mod2 hL1 k35 (by omega) ⟨hL1, fun _ => ⟨⟨by omega, by omega⟩, fun τ4 e4 => ⟨⟨by omega, by omega⟩, fun hL4 => next τ4 ⟨hL4, by rw [e4]; exact hF.sI rfl, fun i => ?_⟩⟩⟩⟩, fun h9 => absurd (by omega) h9⟩
      rw [e4, gI_sI]
      by_cases hij : i = j
      · rw [if_pos ⟨rfl, hij⟩, if_pos (by omega), hij]
      · rw [if_neg (fun h9 => hij h9.2), hv i]
        by_cases hlt : i < j
        · rw [if_pos hlt, if_pos (by omega)]
        · rw [if_neg hlt, if_neg (by omega)]
  · rintro τ ⟨hL1, hF, hv⟩
    have k11 : gI τ 54 11 = (r : Int) := (hF.i (by omega) (by omega)).trans h11
    refine B_X8_mixRows_2 hL1 (pa108 ha) (pa69 hb) ?_
    rw [k11]
    exact ⟨fun _ _ => h τ hL1 hF (fun j hj => by rw [hv j, if_pos hj]) (fun j hj => by rw [hv j, if_neg (by omega)]), fun h9 => absurd (by omega) h9⟩
/-- the lines are written -/
theorem ps_2 {p n x : Nat} {T : Nat → Nat → Int} (hL : Lay LC g c t σ) (hJ : JC σ) (h35 : gI σ 35 0 = (p : Int)) (hp : 2 ≤ p ∧ p ≤ 241) (h13 : gI σ 54 13 = (n : Int)) (hn : n ≤ 12) (hx : x < p) (hT : ∀ u v, u < n → v < n → gI σ (83 + u) v = T u v ∧ 0 ≤ T u v ∧ T u v < (p : Int))
    (h : ∀ τ, Lay LC g c t τ → JC τ → Fr frM108 (fun _ => False) σ τ → (∀ s j, s < n → j < n + n → RX 108 τ 0 s j = lnR p n T x s j) → CC E mX8_clear [vr 54, vr 108, vi 0, vi n, vi n] τ (KI (fun r1 τ2 => Lay LC g c t τ2 ∧ (inR r1 → (Lay LC g c t τ2 → GG E mX8_placeSpace 119 [some (vr 54), none, some (vi (gI τ 54 14)), some (vi r1)] [] τ2 0 0 Q))) (fun _ _ => False))) : GG E mX8_placeSpace 2 [some (vr 54), some (vi x), some (vi 0), none] [] σ 0 0 Q := by
  have rw9 : ∀ e, e < 12 → 109 ≤ gR σ 108 e ∧ gR σ 108 e < 121 := fun e he => hL.2.2.2.1 (108, 12, 109, 121) (by decide) e he
  have inj : ∀ i j, i < 12 → j < 12 → gR σ 108 i = gR σ 108 j → i = j := hJ.1 108 (by simp)
  have kp : ∀ τ, Fr frM108 (fun _ => False) σ τ → gI τ 35 0 = (p : Int) ∧ gI τ 54 13 = (n : Int) ∧ (∀ i, gR τ 108 i = gR σ 108 i) ∧ ∀ u v, u < n → v < n → gI τ (83 + u) v = T u v := fun τ hF => ⟨(hF.i (by omega) (by omega)).trans h35, (hF.i (by omega) (by omega)).trans h13, fun i => hF.r (by omega) id, fun u v hu hv => (hF.i (by omega) (by omega)).trans (hT u v hu hv).1⟩
  have jk : ∀ τ a j (y : Int) τ', JC τ → τ' = sI τ a j y → 0 ≤ y → y ≤ 241 → JC τ' := fun τ a j y τ' hJ1 e hy1 hy2 => by
    refine ⟨fun a' ha' i j' hi hj' e' => ?_, fun a' j' h9 => ?_⟩
    · rw [e] at e'
      exact hJ1.1 a' ha' i j' hi hj' e'
    · rw [e, gI_sI]
      split
      · exact ⟨hy1, hy2⟩
      · exact hJ1.2 a' j' h9
  refine loopU (N := n) (G := fun u τ => GG E mX8_placeSpace 2 [some (vr 54), some (vi x), some (vi u), none] [] τ 0 0 Q)
    (P := fun m τ => Lay LC g c t τ ∧ JC τ ∧ Fr frM108 (fun _ => False) σ τ ∧ ∀ s j, s < m → j < n + n → gI τ (gR σ 108 s) j = lnR p n T x s j) ?_ ?_ 0 σ (by omega) ⟨hL, hJ, Fr.refl _, fun s j hs => absurd hs (by omega)⟩
  · rintro u τ hu ⟨hL1, hJ1, hF1, hv1⟩ next
    obtain ⟨k35, k13, kR, kT⟩ := kp τ hF1
    have ru := rw9 u (by omega)
    refine B_X8_placeSpace_2 hL1 ?_
    rw [k13]
    refine ⟨fun h9 => absurd h9 (by omega), fun _ _ => ?_⟩
    refine loopU (N := n) (G := fun v τ => GG E mX8_placeSpace 12 [some (vr 54), some (vi x), some (vi u), some (vi v)] [] τ 0 0 Q)
      (P := fun m τ => Lay LC g c t τ ∧ JC τ ∧ Fr frM108 (fun _ => False) σ τ ∧ (∀ s j, s < u → j < n + n → gI τ (gR σ 108 s) j = lnR p n T x s j) ∧ ∀ v, v < m → gI τ (gR σ 108 u) v = lnR p n T x u v ∧ gI τ (gR σ 108 u) (n + v) = dl u v) ?_ ?_ 0 τ (by omega) ⟨hL1, hJ1, hF1, hv1, fun v hv => absurd hv (by omega)⟩
    · rintro v τ2 hv ⟨hL2, hJ2, hF2, hv2, hw2⟩ next2
      obtain ⟨g35, g13, gR9, gT⟩ := kp τ2 hF2
      have tv := (hT u v hu hv).2
      have step : ∀ (y z : Int) τ8 τ13, y = lnR p n T x u v → z = dl u v → 0 ≤ y → y ≤ 241 → τ8 = sI τ2 (gR σ 108 u) v y → τ13 = sI τ8 (gR σ 108 u) (n + v) z → Lay LC g c t τ13 → GG E mX8_placeSpace 12 [some (vr 54), some (vi x), some (vi u), some (vi ((v : Int) + 1))] [] τ13 0 0 Q := fun y z τ8 τ13 hy hz hy1 hy2 e8 e13 hL13 => by
        have hz9 : 0 ≤ z ∧ z ≤ 241 := by rw [hz]; unfold dl; split <;> omega
        have q13 : ∀ a j, gI τ13 a j = if a = gR σ 108 u ∧ j = n + v then z else if a = gR σ 108 u ∧ j = v then y else gI τ2 a j := fun a j => by rw [e13, gI_sI, e8, gI_sI]
        refine next2 τ13 ⟨hL13, jk τ8 _ _ z τ13 (jk τ2 _ _ y τ8 hJ2 e8 hy1 hy2) e13 hz9.1 hz9.2, by rw [e13, e8]; exact (hF2.sI ru).sI ru, fun s j hs hj => ?_, fun v' hv' => ?_⟩
        · have hne : gR σ 108 s ≠ gR σ 108 u := fun h9 => by have := inj s u (by omega) (by omega) h9; omega
          rw [q13, if_neg (fun h9 => hne h9.1), if_neg (fun h9 => hne h9.1)]; exact hv2 s j hs hj
        · by_cases hvv : v' = v
          · rw [q13, if_neg (by omega), if_pos ⟨rfl, hvv⟩, q13, if_pos ⟨rfl, by omega⟩, hy, hz, hvv]
            exact ⟨rfl, rfl⟩
          · have := hw2 v' (by omega)
            rw [q13, if_neg (by omega), if_neg (by omega), q13, if_neg (by omega), if_neg (by omega)]
            exact this
      refine B_X8_placeSpace_12 hL2 ?_
      rw [g13, show ((u : Nat) : Int).toNat = u by omega, show ((v : Nat) : Int).toNat = v by omega, gT u v hu hv]
      refine ⟨fun h9 => absurd h9 (by omega), fun _ => ⟨⟨by omega, by omega⟩, fun b3 e3 _ => ?_⟩⟩
      rw [gR9] at e3
      refine ⟨fun hne => ⟨⟨by omega, by omega⟩, ⟨by omega, by omega⟩, fun τ8 e8 b9 e9 _ => ?_⟩, fun heq => ⟨⟨by omega, by omega⟩, ⟨by omega, by omega⟩, fun _ => S_mod2 hL2 g35 (by omega) ⟨hL2, fun _ => ⟨⟨by omega, by omega⟩, fun τ24 e24 b25 e25 _ => ?_⟩⟩⟩⟩
      · have s8 : gI τ8 54 13 = (n : Int) := by rw [e8, gI_sI, if_neg (by omega)]; exact g13
        have r8 : b9 = gR σ 108 u := by rw [e9, e8]; exact gR9 u
        rw [s8, show ((n : Int) + (v : Int)).toNat = n + v by omega, r8]
        refine ⟨⟨by omega, by omega⟩, fun _ => ⟨⟨by omega, by omega⟩, fun τ13 e13 => ⟨⟨by omega, by omega⟩, fun hL13 => ?_⟩⟩, fun h9 => absurd h9 hne⟩
        rw [e3] at e8
        refine step _ 0 τ8 τ13 ?_ ?_ tv.1 (by omega) e8 e13 hL13
        · unfold lnR; rw [if_pos hv, if_neg (by omega)]
        · unfold dl; rw [if_neg (by omega)]
      · have s8 : gI τ24 54 13 = (n : Int) := by rw [e24, gI_sI, if_neg (by omega)]; exact g13
        have r8 : b25 = gR σ 108 u := by rw [e25, e24]; exact gR9 u
        have r1 := em_rng (p := p) (by omega) (T u v - (x : Int))
        rw [s8, show ((n : Int) + (v : Int)).toNat = n + v by omega, r8]
        refine ⟨⟨by omega, by omega⟩, fun h9 => absurd heq h9, fun _ => ⟨⟨by omega, by omega⟩, fun τ13 e13 => ⟨⟨by omega, by omega⟩, fun hL13 => ?_⟩⟩⟩
        rw [e3] at e24
        refine step _ 1 τ24 τ13 ?_ ?_ r1.1 (by omega) e24 e13 hL13
        · unfold lnR; rw [if_pos hv, if_pos (by omega)]
        · unfold dl; rw [if_pos (by omega)]
    · rintro τ2 ⟨hL2, hJ2, hF2, hv2, hw2⟩
      obtain ⟨g35, g13, gR9, gT⟩ := kp τ2 hF2
      refine B_X8_placeSpace_12 hL2 ?_
      rw [g13]
      refine ⟨fun _ => ⟨⟨by omega, by omega⟩, fun _ => next τ2 ⟨hL2, hJ2, hF2, fun s j h1 h2 => ?_⟩⟩, fun h9 => absurd (by omega) h9⟩
      by_cases hsu : s = u
      · rw [hsu]
        by_cases hjn : j < n
        · exact (hw2 j hjn).1
        · obtain ⟨v, rfl⟩ : ∃ v, j = n + v := ⟨j - n, by omega⟩
          rw [lnR_r]
          exact (hw2 v (by omega)).2
      · exact hv2 s j (by omega) h2
  · rintro τ ⟨hL1, hJ1, hF1, hv1⟩
    obtain ⟨k35, k13, kR, kT⟩ := kp τ hF1
    refine B_X8_placeSpace_2 hL1 ?_
    rw [k13]
    refine ⟨fun _ _ => h τ hL1 hJ1 hF1 (fun s j hs hj => ?_), fun h9 => absurd (by omega) h9⟩
    show gI τ (gR τ 108 (0 + s)) j = _
    rw [Nat.zero_add, kR]
    exact hv1 s j hs hj
abbrev frPs : Nat → Nat → Prop := fun a k => (a = 54 ∧ k = 14) ∨ a = 124 ∨ (70 ≤ a ∧ a < 82) ∨ (109 ≤ a ∧ a < 121)
abbrev frPv : Nat → Prop := fun a => a = 69 ∨ a = 108
theorem JC.sI {τ τ' : Sg} {a j : Nat} {y : Int} (h : JC τ) (e : τ' = sI τ a j y) (hy : (0 ≤ y ∧ y ≤ 241) ∨ ¬ ((70 ≤ a ∧ a < 82) ∨ (109 ≤ a ∧ a < 121))) : JC τ' := by
  refine ⟨fun a' ha' i j' hi hj' e' => ?_, fun a' j' h9 => ?_⟩
  · rw [e] at e'
    exact h.1 a' ha' i j' hi hj' e'
  · rw [e, gI_sI]
    by_cases hc : a' = a ∧ j' = j
    · rw [if_pos hc]
      rcases hy with hy | hy
      · exact hy
      · omega
    · rw [if_neg hc]; exact h.2 a' j' h9
theorem S_placeSpace {p r f n m9 x cls : Nat} {T : Nat → Nat → Int} {cp : Nat → Nat → Nat → Int} {om ev : Nat → Nat → Int} {B : Nat → Prop} {col : Nat → Nat} (hL : Lay LC g c t σ) (hJ : JC σ) (h35 : gI σ 35 0 = (p : Int)) (hpr : isPr p) (h242 : p < 242) (h11 : gI σ 54 11 = (r : Int)) (h12 : gI σ 54 12 = (f : Int)) (h13 : gI σ 54 13 = (n : Int)) (h14 : gI σ 54 14 = (m9 : Int)) (hr : r ≤ 12) (hf : f + n ≤ 12) (hx : x < p)
    (hT : ∀ u v, u < n → v < n → gI σ (83 + u) v = T u v ∧ 0 ≤ T u v ∧ T u v < (p : Int)) (hE : ECH p r n (RA σ f) col) (hN : ANB p r n (RA σ f) B om) (hS : SPEC p r cp om ev) (hc : cls < r) (hTt : ∀ u v, u < n → v < n → T u v % (p : Int) = tbR r cp cls (RA σ f) col u v % (p : Int)) (hm : m9 + cn (fun i => B i ∧ om i cls % (p : Int) = (x : Int) % (p : Int)) r ≤ n)
    (h : ∀ τ (q : Nat), q = cn (fun i => B i ∧ om i cls % (p : Int) = (x : Int) % (p : Int)) r → Lay LC g c t τ → JC τ → Fr frPs frPv σ τ → gI τ 54 14 = ((m9 + q : Nat) : Int) → (∀ s j, s < m9 → RX 69 τ 0 s j = RX 69 σ 0 s j) → (∃ col2, ECH p r q (RX 69 τ m9) col2 ∧ ANB p r q (RX 69 τ m9) (fun i => B i ∧ om i cls % (p : Int) = (x : Int) % (p : Int)) om) → (∀ u, gI τ 124 u = if f + m9 ≤ u ∧ u < f + m9 + q then (if u = f + m9 then (q : Int) else 0) else gI σ 124 u) → Q (.inl none) τ) : CC E mX8_placeSpace [vr 54, vi x] σ Q := by
  have p1 := hpr.1
  have hA : ∀ s j, s < n → j < r → (RA σ f s j).natAbs ≤ 241 := fun s j hs hj => ech_bd hE hs hj (by omega)
  refine C_X8_placeSpace (B_X8_placeSpace_0 hL (fun _ => ?_))
  refine ps_2 (T := T) hL hJ h35 (by omega) h13 (by omega) hx hT (fun τ1 hL1 hJ1 hF1 hv1 => ?_)
  have key := S_clear_108 (E := E) (Q := KI (fun r1 τ2 => Lay LC g c t τ2 ∧ (inR r1 → (Lay LC g c t τ2 → GG E mX8_placeSpace 119 [some (vr 54), none, some (vi (gI τ1 54 14)), some (vi r1)] [] τ2 0 0 Q))) (fun _ _ => False)) (f := 0) (n := n) (w := n + n) (C := n) hL1 hJ1 ((hF1.i (by omega) (by omega)).trans h35) hpr h242 (by omega) (by omega) (by omega) (fun s j hs hj => ?_) (fun τ2 k hL2 hJ2 hF2 hK2 hC2 => ?_)
  · rw [Nat.zero_add] at key
    exact key
  · rw [hv1 s j hs hj]
    unfold lnR
    split
    · split
      · exact em_rng (by omega) _
      · exact (hT s j hs (by omega)).2
    · unfold dl
      split <;> omega
  have hC2' : CLE p n (n + n) (lnR p n T x) (RX 108 τ2 0) n k := hC2.cg (fun s j hs hj => (hv1 s j hs hj).symm)
  have hkn : k ≤ n := by obtain ⟨_, _, _, h1, _⟩ := hC2'; exact h1
  rw [Nat.zero_add]
  have hF12 : Fr frPs frPv σ τ2 := (hF1.mono (fun a j h9 => .inr (.inr (.inr h9))) (fun _ h => h.elim)).trans (hF2.mono (fun a j h9 => .inr (.inr (.inr h9))) (fun a h9 => .inr h9))
  have k141 : gI τ1 54 14 = (m9 : Int) := (hF1.i (by omega) (by omega)).trans h14
  have k14 : gI τ2 54 14 = (m9 : Int) := ((hF2.i (by omega) (by omega)).trans (hF1.i (by omega) (by omega))).trans h14
  have k69 : ∀ i, gR τ2 69 i = gR σ 69 i := fun i => (hF2.r (by omega) (by omega)).trans (hF1.r (by omega) id)
  have rA : ∀ s j, gI τ2 (57 + (f + s)) j = gI σ (57 + (f + s)) j ∨ True := fun s j => .inr trivial
  obtain ⟨hle, hend⟩ := ps_end (p := p) hpr h242 hE hN hS hc (fun u v hu hv => (hT u v hu hv).2) hTt hC2'
  refine ⟨hL2, fun _ _ => ?_⟩
  rw [k141]
  -- rows are mixed
  have rw69 : ∀ e, e < 12 → 70 ≤ gR σ 69 e ∧ gR σ 69 e < 82 := fun e he => hL.2.2.2.1 (69, 12, 70, 82) (by decide) e he
  have rw108 : ∀ e, e < 12 → 109 ≤ gR τ2 108 e ∧ gR τ2 108 e < 121 := fun e he => hL2.2.2.2.1 (108, 12, 109, 121) (by decide) e he
  have inj : ∀ i j, i < 12 → j < 12 → gR σ 69 i = gR σ 69 j → i = j := hJ.1 69 (by simp)
  have fin : ∀ τ, Lay LC g c t τ → JC τ → Fr (fun a k => (a = 54 ∧ k = 14) ∨ a = 124 ∨ (70 ≤ a ∧ a < 82)) (fun _ => False) τ2 τ → gI τ 54 14 = ((m9 + (n - k) : Nat) : Int) → (∀ s j, s < m9 → gI τ (gR σ 69 s) j = gI σ (gR σ 69 s) j) → (∀ s j, s < n - k → j < r → gI τ (gR σ 69 (m9 + s)) j = mxR p n (RX 108 τ2 0) (RA σ f) k s j) → (∀ u, gI τ 124 u = if f + m9 ≤ u ∧ u < f + m9 + (n - k) then 0 else gI σ 124 u) → GG E mX8_placeSpace 188 [some (vr 54), none, some (vi m9), none] [] τ 0 0 Q := by
    intro τ hLt hJt hFt g14 hk9 hmx9 hsp
    have hFs : Fr frPs frPv σ τ := hF12.trans (hFt.mono (fun a j h9 => by omega) (fun _ h => h.elim))
    have g69 : ∀ i, gR τ 69 i = gR σ 69 i := fun i => (hFt.r (by omega) id).trans (k69 i)
    refine B_X8_placeSpace_188 hLt (fun _ => ?_)
    have g11 : gI τ 54 11 = (r : Int) := (hFs.i (by omega) (by omega)).trans h11
    have g35 : gI τ 35 0 = (p : Int) := (hFs.i (by omega) (by omega)).trans h35
    have rx : ∀ s j, RX 69 τ m9 s j = gI τ (gR σ 69 (m9 + s)) j := fun s j => by show gI τ (gR τ 69 (m9 + s)) j = _; rw [g69]
    rw [g14, g11]
    refine S_clear_69 (w := r) hLt hJt g35 hpr h242 (by omega) hr (Nat.le_refl _) (fun s j hs hj => ?_) (fun τ3 k2 hL3 hJ3 hF3 hK3 hC3 => ⟨hL3, fun _ => ?_⟩)
    · rw [rx, hmx9 s j hs hj]; exact em_rng (by omega) _
    obtain ⟨e1, e2, col2, e3, e4⟩ := hend (RX 69 τ3 m9) k2 (hC3.cg (fun s j hs hj => by rw [rx]; exact (hmx9 s j hs hj).symm))
    have f14 : gI τ3 54 14 = ((m9 + (n - k) : Nat) : Int) := (hF3.i (by omega) (by omega)).trans g14
    have f12 : gI τ3 54 12 = (f : Int) := ((hF3.i (by omega) (by omega)).trans (hFs.i (by omega) (by omega))).trans h12
    have f124 : ∀ u, gI τ3 124 u = if f + m9 ≤ u ∧ u < f + m9 + (n - k) then 0 else gI σ 124 u := fun u => (hF3.i (by omega) (by omega)).trans (hsp u)
    have hF3s : Fr frPs frPv σ τ3 := hFs.trans (hF3.mono (fun a j h9 => by omega) (fun a h9 => .inl h9))
    have keep3 : ∀ s j, s < m9 → RX 69 τ3 0 s j = RX 69 σ 0 s j := fun s j hs => by
      show gI τ3 (gR τ3 69 (0 + s)) j = gI σ (gR σ 69 (0 + s)) j
      rw [Nat.zero_add]
      obtain ⟨o1, o2⟩ := hK3 s (by omega) (.inl hs)
      rw [o1, o2 j, g69]
      exact hk9 s j hs
    rw [f14, f12]
    refine ⟨fun h0 _ => ?_, fun h0 => ⟨⟨by omega, by omega⟩, ⟨by omega, by omega⟩, ⟨by omega, by omega⟩, fun τ6 e6 hL6 => ?_⟩⟩
    · refine h τ3 (n - k) e2 hL3 hJ3 hF3s f14 keep3 ⟨col2, e3, e4⟩ (fun u => ?_)
      rw [f124 u, if_neg (by omega), if_neg (by omega)]
    · rw [show ((f : Int) + (m9 : Int)).toNat = f + m9 by omega] at e6
      have q6 : ∀ a j, gI τ6 a j = if a = 124 ∧ j = f + m9 then ((m9 + (n - k) : Nat) : Int) - (m9 : Int) else gI τ3 a j := fun a j => by rw [e6, gI_sI]
      have r6 : ∀ a i, gR τ6 a i = gR τ3 a i := fun a i => by rw [e6]; rfl
      have rw3 : ∀ e, e < 12 → 70 ≤ gR τ3 69 e ∧ gR τ3 69 e < 82 := fun e he => hL3.2.2.2.1 (69, 12, 70, 82) (by decide) e he
      have x6 : ∀ s j, m9 + s < 12 → RX 69 τ6 m9 s j = RX 69 τ3 m9 s j := fun s j hs => by
        have := rw3 (m9 + s) hs
        show gI τ6 (gR τ6 69 (m9 + s)) j = gI τ3 (gR τ3 69 (m9 + s)) j
        rw [r6, q6, if_neg (by omega)]
      have s6 : ∀ y, SlR (p : Int) (n - k) r (RX 69 τ6 m9) y ↔ SlR (p : Int) (n - k) r (RX 69 τ3 m9) y := fun y => SlR.cg (fun s j hs _ => x6 s j (by omega)) y
      refine h τ6 (n - k) e2 hL6 (hJ3.sI e6 (.inr (by omega))) (by rw [e6]; exact hF3s.sI (.inr (.inl rfl))) (by rw [q6, if_neg (by omega)]; exact f14) (fun s j hs => ?_) ⟨col2, ⟨fun s j hs hj => by rw [x6 s j (by omega)]; exact e3.1 s j hs hj, fun s hs => ?_⟩, fun y => (s6 y).trans (e4 y)⟩ (fun u => ?_)
      · rw [← keep3 s j hs]
        have := rw3 (0 + s) (by omega)
        show gI τ6 (gR τ6 69 (0 + s)) j = gI τ3 (gR τ3 69 (0 + s)) j
        rw [r6, q6, if_neg (by omega)]
      · obtain ⟨a1, a2, a3, a4⟩ := e3.2 s hs
        exact ⟨a1, by rw [x6 s _ (by omega)]; exact a2, fun j hj => by rw [x6 s j (by omega)]; exact a3 j hj, fun e he hes => by rw [x6 e _ (by omega)]; exact a4 e he hes⟩
      · rw [q6]
        by_cases hu : u = f + m9
        · rw [if_pos ⟨rfl, hu⟩, if_pos ⟨by omega, by omega⟩, if_pos hu]; omega
        · rw [if_neg (fun h9 => hu h9.2), f124 u]
          by_cases hin : f + m9 ≤ u ∧ u < f + m9 + (n - k)
          · rw [if_pos hin, if_pos hin, if_neg hu]
          · rw [if_neg hin, if_neg hin]
  have walk : ∀ (d e : Nat) τ, e + d = n - k → Lay LC g c t τ → JC τ → Fr (fun a k => (a = 54 ∧ k = 14) ∨ a = 124 ∨ (70 ≤ a ∧ a < 82)) (fun _ => False) τ2 τ → gI τ 54 14 = ((m9 + e : Nat) : Int) → (∀ s j, s < m9 → gI τ (gR σ 69 s) j = gI σ (gR σ 69 s) j) → (∀ s j, s < e → j < r → gI τ (gR σ 69 (m9 + s)) j = mxR p n (RX 108 τ2 0) (RA σ f) k s j) → (∀ u, gI τ 124 u = if f + m9 ≤ u ∧ u < f + m9 + e then 0 else gI σ 124 u) → GG E mX8_placeSpace 119 [some (vr 54), none, some (vi m9), some (vi ((k + e : Nat) : Int))] [] τ 0 0 Q := by
    intro d
    induction d with
    | zero =>
      intro e τ he hLt hJt hFt g14 hk9 hmx9 hsp
      have g13 : gI τ 54 13 = (n : Int) := ((hFt.i (by omega) (by omega)).trans (hF12.i (by omega) (by omega))).trans h13
      have hen : e = n - k := by omega
      subst hen
      refine B_X8_placeSpace_119 hLt ?_
      rw [g13]
      exact ⟨fun _ _ => fin τ hLt hJt hFt g14 hk9 hmx9 hsp, fun h9 => absurd (by omega) h9⟩
    | succ d ih =>
      intro e τ he hLt hJt hFt g14 hk9 hmx9 hsp
      have hFs : Fr frPs frPv σ τ := hF12.trans (hFt.mono (fun a j h9 => by omega) (fun _ h => h.elim))
      have g13 : gI τ 54 13 = (n : Int) := (hFs.i (by omega) (by omega)).trans h13
      have g12 : gI τ 54 12 = (f : Int) := (hFs.i (by omega) (by omega)).trans h12
      have g11 : gI τ 54 11 = (r : Int) := (hFs.i (by omega) (by omega)).trans h11
      have g35 : gI τ 35 0 = (p : Int) := (hFs.i (by omega) (by omega)).trans h35
      have g69 : ∀ i, gR τ 69 i = gR σ 69 i := fun i => (hFt.r (by omega) id).trans (k69 i)
      have g108 : ∀ i, gR τ 108 i = gR τ2 108 i := fun i => hFt.r (by omega) id
      have gA : ∀ s j, s < n → RA τ f s j = RA σ f s j := fun s j hs => hFs.i (by omega) (by omega)
      have r8 := rw108 (k + e) (by omega)
      have r9 := rw69 (m9 + e) (by omega)
      refine B_X8_placeSpace_119 hLt ?_
      rw [g13, g14, show ((k + e : Nat) : Int).toNat = k + e by omega, show ((m9 + e : Nat) : Int).toNat = m9 + e by omega, g108, g69]
      refine ⟨fun h9 => absurd h9 (by omega), fun _ => ⟨fun h9 => absurd h9 (by omega), fun _ => ⟨⟨by omega, by omega⟩, fun b2 e2 _ => ⟨⟨by omega, by omega⟩, fun b5 e5 _ _ => ?_⟩⟩⟩⟩
      rw [e2, e5]
      have lv : ∀ s, s < n → gI τ (gR τ2 108 (k + e)) (n + s) = RX 108 τ2 0 (k + e) (n + s) := fun s hs => by
        show _ = gI τ2 (gR τ2 108 (0 + (k + e))) (n + s)
        rw [Nat.zero_add]
        exact hFt.i (by omega) (by omega)
      refine S_mixRows hLt r8 r9 g35 (by omega) g11 g12 g13 hr hf (fun s j hs hj => by rw [gA s j hs]; exact hA s j hs hj) (fun s hs => by have := hJt.b108 r8 (show n + s < 24 by omega); omega) (fun τ8 hL8 hF8 hv8 hw8 => ⟨hL8, ?_⟩)
      have i12 : gI τ8 54 12 = (f : Int) := (hF8.i (by omega) (by omega)).trans g12
      have i14 : gI τ8 54 14 = ((m9 + e : Nat) : Int) := (hF8.i (by omega) (by omega)).trans g14
      rw [i12, i14, show ((f : Int) + ((m9 + e : Nat) : Int)).toNat = f + (m9 + e) by omega]
      refine ⟨⟨by omega, by omega⟩, ⟨by omega, by omega⟩, fun τ11 e11 => ?_⟩
      have j14 : gI τ11 54 14 = ((m9 + e : Nat) : Int) := by rw [e11, gI_sI, if_neg (by omega)]; exact i14
      rw [j14]
      refine ⟨⟨by omega, by omega⟩, fun τ13 e13 => ⟨⟨by omega, by omega⟩, fun hL13 => ?_⟩⟩
      have q13 : ∀ a j, gI τ13 a j = if a = 54 ∧ j = 14 then ((m9 + e : Nat) : Int) + 1 else if a = 124 ∧ j = f + (m9 + e) then 0 else gI τ8 a j := fun a j => by rw [e13, gI_sI, e11, gI_sI]
      have hJ8 : JC τ8 := ⟨hJt.1.fr hF8 ⟨id, id, id⟩, fun a j haj => by
        by_cases hab : a = gR σ 69 (m9 + e)
        · by_cases hjr : j < r
          · rw [hab, hv8 j hjr]
            have := em_rng (p := p) (by omega) (sm (fun s => gI τ (gR τ2 108 (k + e)) (n + s) * RA τ f s j) n)
            omega
          · rw [hab, hw8 j (by omega)]
            exact hJt.2 _ j (by omega)
        · rw [hF8.i (by omega) hab]
          exact hJt.2 a j haj⟩
      have nx := ih (e + 1) τ13 (by omega) hL13 ((hJ8.sI e11 (.inr (by omega))).sI e13 (.inr (by omega))) ((hFt.trans (hF8.mono (fun a j h9 => .inr (.inr (by omega))) (fun _ h => h))).trans (fun a ha j => ⟨fun hw => by rw [q13, if_neg (by omega), if_neg (by omega)], fun _ => by rw [e13, e11]; rfl⟩)) (by rw [q13, if_pos ⟨rfl, rfl⟩]; omega) (fun s j hs => ?_) (fun s j hs hj => ?_) (fun u => ?_)
      · rw [show ((k + (e + 1) : Nat) : Int) = ((k + e : Nat) : Int) + 1 by omega] at nx
        exact nx
      · have r0 := rw69 s (by omega)
        rw [q13, if_neg (by omega), if_neg (by omega), hF8.i (by omega) (fun h9 => by have := inj s (m9 + e) (by omega) (by omega) h9; omega)]
        exact hk9 s j hs
      · have r0 := rw69 (m9 + s) (by omega)
        rw [q13, if_neg (by omega), if_neg (by omega)]
        by_cases hse : s = e
        · rw [hse, hv8 j hj]
          show _ = sm (fun u => RX 108 τ2 0 (k + e) (n + u) * RA σ f u j) n % (p : Int)
          rw [sm_ext n (fun u hu => by rw [lv u hu, gA u j hu])]
        · rw [hF8.i (by omega) (fun h9 => by have := inj (m9 + s) (m9 + e) (by omega) (by omega) h9; omega)]
          exact hmx9 s j (by omega) hj
      · rw [q13, if_neg (by omega)]
        by_cases hu : u = f + (m9 + e)
        · rw [if_pos ⟨rfl, hu⟩, if_pos ⟨by omega, by omega⟩]
        · rw [if_neg (fun h9 => hu h9.2), hF8.i (by omega) (by omega), hsp u]
          by_cases hin : f + m9 ≤ u ∧ u < f + m9 + e
          · rw [if_pos hin, if_pos ⟨hin.1, by omega⟩]
          · rw [if_neg hin, if_neg (by omega)]
  have st := walk (n - k) 0 τ2 (by omega) hL2 hJ2 (Fr.refl _) (by rw [Nat.add_zero]; exact k14) (fun s j hs => ?_) (fun s j hs => absurd hs (by omega)) (fun u => ?_)
  · rw [Nat.add_zero] at st
    exact st
  · have r0 := rw69 s (by omega)
    exact (hF2.i (by omega) (by omega)).trans (hF1.i (by omega) (by omega))
  · rw [if_neg (by omega)]
    exact (hF2.i (by omega) (by omega)).trans (hF1.i (by omega) (by omega))
end SD4
