/-! ===== the class: matrices are cleared ===== -/
abbrev RX (b : Nat) (σ : Sg) (f : Nat) : Nat → Nat → Int := fun s j => gI σ (gR σ b (f + s)) j
section SD1_69
variable {E : Ev} {σ : Sg} {Q : NO → Sg → Prop} {g : Sg} {c t : Nat}
theorem pa69 {a : Nat} (h : 70 ≤ a ∧ a < 82) : PA LC a 12 := by
  have h1 : ∀ q ∈ yX LC, q.1 < 70 ∨ 82 ≤ q.1 := by decide
  refine ⟨by show 16 ≤ a; omega, by show a < 172; omega, by omega, fun q hq => by have := h1 q hq; omega, (70, 82, 20, 12), by decide, h.1, h.2, rfl⟩
abbrev frM69 : Nat → Nat → Prop := fun a _ => 70 ≤ a ∧ a < 82
abbrev frV69 : Nat → Prop := fun a => a = 69
def KP69 (f n : Nat) (σ τ : Sg) : Prop := ∀ i, i < 12 → (i < f ∨ f + n ≤ i) → gR τ 69 i = gR σ 69 i ∧ ∀ j, gI τ (gR σ 69 i) j = gI σ (gR σ 69 i) j
theorem JC.b69 {σ : Sg} (h : JC σ) {a j : Nat} (ha : 70 ≤ a ∧ a < 82) (hj : j < 12) : 0 ≤ gI σ a j ∧ gI σ a j ≤ 241 := h.2 a j (by omega)
/-- all rows lessened by one -/
theorem cl92_69 {p f n w k col b9 : Nat} {x4 : Int} (hL : Lay LC g c t σ) (hJ : JC σ) (h35 : gI σ 35 0 = (p : Int)) (hp : 2 ≤ p ∧ p ≤ 241) (hf : f + n ≤ 12) (hw : w ≤ 12) (hcw : col < w) (hk : k < n) (hb9 : b9 = gR σ 69 (f + k)) (hA : ∀ s j, s < n → j < w → 0 ≤ RX 69 σ f s j ∧ RX 69 σ f s j < (p : Int))
    (h : ∀ τ, Lay LC g c t τ → JC τ → Fr frM69 (fun _ => False) σ τ → KP69 f n σ τ → (∀ e j, e < n → j < w → RX 69 τ f e j = if e = k then RX 69 σ f e j else (RX 69 σ f e j - RX 69 σ f e col * RX 69 σ f k j) % (p : Int)) → GG E mX8_clear 6 [some (vr 54), some (vr 69), some (vi f), some (vi ((f + n : Nat) : Int)), some (vi x4), some (vi ((f + k : Nat) + 1 : Int)), some (vi ((col : Int) + 1)), none, none, none] [] τ 0 0 Q) :
    GG E mX8_clear 92 [some (vr 54), some (vr 69), some (vi f), some (vi ((f + n : Nat) : Int)), some (vi x4), some (vi ((f + k : Nat) : Int)), some (vi col), none, some (vr b9), some (vi f)] [] σ 0 0 Q := by
  have rw9 : ∀ e, e < 12 → 70 ≤ gR σ 69 e ∧ gR σ 69 e < 82 := fun e he => hL.2.2.2.1 (69, 12, 70, 82) (by decide) e he
  have inj : ∀ i j, i < 12 → j < 12 → gR σ 69 i = gR σ 69 j → i = j := hJ.1 69 (by simp)
  have kb : 70 ≤ b9 ∧ b9 < 82 := by rw [hb9]; exact rw9 _ (by omega)
  refine loopU (N := n) (G := fun e τ => GG E mX8_clear 92 [some (vr 54), some (vr 69), some (vi f), some (vi ((f + n : Nat) : Int)), some (vi x4), some (vi ((f + k : Nat) : Int)), some (vi col), none, some (vr b9), some (vi ((f + e : Nat) : Int))] [] τ 0 0 Q)
    (P := fun m τ => Lay LC g c t τ ∧ JC τ ∧ Fr frM69 (fun _ => False) σ τ ∧ KP69 f n σ τ ∧ ∀ e j, e < n → j < w → RX 69 τ f e j = if e < m ∧ e ≠ k then (RX 69 σ f e j - RX 69 σ f e col * RX 69 σ f k j) % (p : Int) else RX 69 σ f e j) ?_ ?_ 0 σ (by omega) ⟨hL, hJ, Fr.refl _, fun i _ _ => ⟨rfl, fun _ => rfl⟩, fun e j _ _ => by rw [if_neg (by omega)]⟩
  · rintro e τ he ⟨hL1, hJ1, hF, hK, hv⟩ next
    have kR : ∀ i, gR τ 69 i = gR σ 69 i := fun i => hF.r (by omega) id
    have k35 : gI τ 35 0 = (p : Int) := (hF.i (by omega) (by omega)).trans h35
    have cur : ∀ j, j < w → RX 69 τ f e j = RX 69 σ f e j := fun j hj => by rw [hv e j he hj, if_neg (by omega)]
    have curk : ∀ j, j < w → RX 69 τ f k j = RX 69 σ f k j := fun j hj => by rw [hv k j hk hj, if_neg (fun h9 => h9.2 rfl)]
    have re := rw9 (f + e) (by omega)
    have ecol : gI τ (gR σ 69 (f + e)) col = RX 69 σ f e col := by
      have := cur col hcw
      show _ = gI σ (gR σ 69 (f + e)) col
      rw [← kR (f + e)]
      exact this.trans (by rw [kR])
    have acol := hA e col he hcw
    refine B_X8_clear_69_92 hL1 kb ?_
    rw [show ((f + e : Nat) : Int).toNat = f + e by omega, show ((col : Nat) : Int).toNat = col by omega, kR]
    refine ⟨fun h9 => absurd h9 (by omega), fun _ => ⟨fun hek => ⟨⟨by omega, by omega⟩, fun _ => next τ ⟨hL1, hJ1, hF, hK, fun e' j h1 h2 => ?_⟩⟩, fun hek => ⟨⟨by omega, by omega⟩, fun b5 e5 _ b7 e7 _ => ⟨⟨by omega, by omega⟩, fun _ => ?_⟩⟩⟩⟩
    · rw [hv e' j h1 h2]
      by_cases hc : e' < e ∧ e' ≠ k
      · rw [if_pos hc, if_pos ⟨by omega, hc.2⟩]
      · rw [if_neg hc, if_neg (fun h9 => hc ⟨by omega, h9.2⟩)]
    · rw [e5, e7, ecol]
      have hne : gR σ 69 (f + e) ≠ b9 := fun h9 => by
        have := inj (f + e) (f + k) (by omega) (by omega) (h9.trans hb9)
        omega
      refine S_takeAway (n := 12) (p := p) hL1 (pa69 re) (pa69 kb) hne (by omega) (by omega) k35 (by omega) (by omega) (by omega) (fun j hj => by have := hJ1.b69 re hj; omega) (fun j hj => by have := hJ1.b69 kb hj; omega) (fun τ11 hL11 hF11 hv11 => ⟨hL11, ⟨by omega, by omega⟩, fun _ => ?_⟩)
      have R11 : ∀ i, gR τ11 69 i = gR σ 69 i := fun i => (hF11.r (by omega) id).trans (kR i)
      have hne9 : ∀ i, i < 12 → i ≠ f + e → gR σ 69 i ≠ gR σ 69 (f + e) := fun i hi h8 h9 => h8 (inj i (f + e) hi (by omega) h9)
      refine next τ11 ⟨hL11, ⟨hJ1.1.fr hF11 ⟨id, id, id⟩, fun a j haj => ?_⟩, hF.trans (hF11.mono (fun a j h9 => by omega) (fun _ h => h)), fun i hi h9 => ?_, fun e' j h1 h2 => ?_⟩
      · by_cases hae : a = gR σ 69 (f + e)
        · have hj : j < 12 := by omega
          rw [hae, hv11 j hj]
          split
          · exact hJ1.b69 re hj
          · have := em_rng (p := p) (by omega) (gI τ (gR σ 69 (f + e)) j - RX 69 σ f e col * gI τ b9 j)
            omega
        · rw [hF11.i (by omega) hae]
          exact hJ1.2 a j haj
      · rw [R11]
        refine ⟨rfl, fun j => ?_⟩
        have r2 := rw9 i hi
        rw [hF11.i (by omega) (hne9 i hi (by omega))]
        exact (hK i hi h9).2 j
      · show gI τ11 (gR τ11 69 (f + e')) j = _
        rw [R11]
        by_cases hee : e' = e
        · subst hee
          rw [if_pos ⟨by omega, fun h9 => hek (by omega)⟩, hv11 j (by omega)]
          have c1 : gI τ (gR σ 69 (f + e')) j = RX 69 σ f e' j := by
            have := cur j h2
            rw [← this]
            show _ = gI τ (gR τ 69 (f + e')) j
            rw [kR]
          have c2 : gI τ b9 j = RX 69 σ f k j := by
            have := curk j h2
            rw [← this, hb9]
            show _ = gI τ (gR τ 69 (f + k)) j
            rw [kR]
          rw [c1, c2]
          by_cases hz : RX 69 σ f e' col = 0
          · rw [if_pos hz, hz, Int.zero_mul, Int.sub_zero]
            have := hA e' j h1 h2
            exact (Int.emod_eq_of_lt this.1 this.2).symm
          · rw [if_neg hz]
        · have r2 := rw9 (f + e') (by omega)
          rw [hF11.i (by omega) (hne9 (f + e') (by omega) (by omega))]
          have := hv e' j h1 h2
          have t9 : gI τ (gR σ 69 (f + e')) j = RX 69 τ f e' j := by show _ = gI τ (gR τ 69 (f + e')) j; rw [kR]
          rw [t9, this]
          by_cases hc : e' < e ∧ e' ≠ k
          · rw [if_pos hc, if_pos ⟨by omega, hc.2⟩]
          · rw [if_neg hc, if_neg (fun h9 => hc ⟨by omega, h9.2⟩)]
  · rintro τ ⟨hL1, hJ1, hF, hK, hv⟩
    refine B_X8_clear_69_92 hL1 kb ⟨fun _ => ⟨⟨by omega, by omega⟩, ⟨by omega, by omega⟩, fun _ => h τ hL1 hJ1 hF hK (fun e j h1 h2 => ?_)⟩, fun h9 => absurd (by omega) h9⟩
    rw [hv e j h1 h2]
    by_cases hek : e = k
    · rw [if_neg (fun h9 => h9.2 hek), if_pos hek]
    · rw [if_pos ⟨h1, hek⟩, if_neg hek]
/-- a matrix is cleared -/
theorem cl6_69 {p f n w C : Nat} {A0 : Nat → Nat → Int} (h35 : gI σ 35 0 = (p : Int)) (hpr : isPr p) (h242 : p < 242) (hf : f + n ≤ 12) (hw : w ≤ 12) (hC : C ≤ w)
    (h : ∀ τ (k : Nat), Lay LC g c t τ → JC τ → Fr frM69 frV69 σ τ → KP69 f n σ τ → CLE p n w A0 (RX 69 τ f) C k → Q (.inl (some (vi ((f + k : Nat) : Int)))) τ) :
    ∀ (d col k : Nat) (ρ : Sg), col + d = C → Lay LC g c t ρ → JC ρ → Fr frM69 frV69 σ ρ → KP69 f n σ ρ → CLR p n w A0 (RX 69 ρ f) col k → GG E mX8_clear 6 [some (vr 54), some (vr 69), some (vi f), some (vi ((f + n : Nat) : Int)), some (vi C), some (vi ((f + k : Nat) : Int)), some (vi col), none, none, none] [] ρ 0 0 Q := by
  have p1 := hpr.1
  intro d
  induction d with
  | zero =>
    intro col k ρ hd hL hJ hF hK hR
    refine B_X8_clear_69_6 hL ⟨fun _ _ => h ρ k hL hJ hF hK ⟨col, by omega, .inl (by omega), hR⟩, fun h9 => absurd (by omega) h9⟩
  | succ d ih =>
    intro col k ρ hd hL hJ hF hK hR
    have hkn := hR.1
    have rw9 : ∀ e, e < 12 → 70 ≤ gR ρ 69 e ∧ gR ρ 69 e < 82 := fun e he => hL.2.2.2.1 (69, 12, 70, 82) (by decide) e he
    have inj : ∀ i j, i < 12 → j < 12 → gR ρ 69 i = gR ρ 69 j → i = j := hJ.1 69 (by simp)
    refine B_X8_clear_69_6 hL ⟨fun h9 => absurd h9 (by omega), fun _ => ⟨fun hke _ => h ρ k hL hJ hF hK ⟨col, by omega, .inr (by omega), hR⟩, fun hke _ => ?_⟩⟩
    have hkl : k < n := by omega
    have k35 : gI ρ 35 0 = (p : Int) := (hF.i (by omega) (by omega)).trans h35
    -- a row that is not 0 there
    have seek : (∀ q, k ≤ q → q ≤ n → (∀ e, k ≤ e → e < q → RX 69 ρ f e col = 0) → (q < n → RX 69 ρ f q col ≠ 0) → GG E mX8_clear 45 [some (vr 54), some (vr 69), some (vi f), some (vi ((f + n : Nat) : Int)), some (vi C), some (vi ((f + k : Nat) : Int)), some (vi col), some (vi ((f + q : Nat) : Int)), none, none] [] ρ 0 0 Q) → GG E mX8_clear 23 [some (vr 54), some (vr 69), some (vi f), some (vi ((f + n : Nat) : Int)), some (vi C), some (vi ((f + k : Nat) : Int)), some (vi col), some (vi ((f + k : Nat) : Int)), none, none] [] ρ 0 0 Q := by
      intro hg
      refine loopU (N := n) (G := fun q τ => GG E mX8_clear 23 [some (vr 54), some (vr 69), some (vi f), some (vi ((f + n : Nat) : Int)), some (vi C), some (vi ((f + k : Nat) : Int)), some (vi col), some (vi ((f + q : Nat) : Int)), none, none] [] τ 0 0 Q)
        (P := fun q τ => τ = ρ ∧ k ≤ q ∧ ∀ e, k ≤ e → e < q → RX 69 ρ f e col = 0) ?_ ?_ k ρ (by omega) ⟨rfl, Nat.le_refl _, fun e h1 h2 => absurd h2 (by omega)⟩
      · rintro q τ hq ⟨rfl, hkq, hz⟩ next
        refine B_X8_clear_69_23 hL ?_
        rw [show ((f + q : Nat) : Int).toNat = f + q by omega, show ((col : Nat) : Int).toNat = col by omega]
        refine ⟨fun h9 => absurd h9 (by omega), fun _ => ⟨⟨by omega, by omega⟩, fun b2 e2 _ => ⟨⟨by omega, by omega⟩, fun hne _ => ?_, fun he => ⟨⟨by omega, by omega⟩, fun _ => next τ ⟨rfl, by omega, fun e h1 h2 => ?_⟩⟩⟩⟩⟩
        · rw [e2] at hne
          exact hg q hkq (by omega) hz (fun _ => hne)
        · rw [e2] at he
          by_cases heq : e = q
          · rw [heq]; exact he
          · exact hz e h1 (by omega)
      · rintro τ ⟨rfl, hkq, hz⟩
        exact B_X8_clear_69_23 hL ⟨fun _ _ => hg n hkq (Nat.le_refl _) hz (fun h9 => absurd h9 (by omega)), fun h9 => absurd (by omega) h9⟩
    refine seek (fun q hkq hqn hz hnz => ?_)
    by_cases hq : q < n
    · have hne := hnz hq
      have ya := hR.2.1 q col hq (by omega)
      refine B_X8_clear_69_45 hL ?_
      rw [show ((f + q : Nat) : Int).toNat = f + q by omega, show ((col : Nat) : Int).toNat = col by omega, show ((f + k : Nat) : Int).toNat = f + k by omega]
      refine ⟨fun h9 => absurd h9 (by omega), fun _ => ⟨⟨by omega, by omega⟩, fun b3 e3 hb3 => ⟨⟨by omega, by omega⟩, fun b6 e6 _ τ8 e8 τ9 e9 => ⟨⟨by omega, by omega⟩, fun hL9 => ?_⟩⟩⟩⟩
      have R9 : ∀ a i, gR τ9 a i = if a = 69 then gR ρ 69 (swI (f + k) (f + q) i) else gR ρ a i := fun a i => by
        rw [e9, e8, e6, e3]
        show (if a = 69 ∧ i = f + k then gR ρ 69 (f + q) else if a = 69 ∧ i = f + q then gR ρ 69 (f + k) else ρ.2.1 a i) = _
        by_cases ha : a = 69
        · subst ha
          rw [if_pos rfl]
          unfold swI gR
          by_cases h1 : i = f + k
          · rw [if_pos ⟨rfl, h1⟩, if_pos h1]
          · rw [if_neg (fun h9 => h1 h9.2), if_neg h1]
            by_cases h2 : i = f + q
            · rw [if_pos ⟨rfl, h2⟩, if_pos h2]
            · rw [if_neg (fun h9 => h2 h9.2), if_neg h2]
        · rw [if_neg (fun h9 => ha h9.1), if_neg (fun h9 => ha h9.1), if_neg ha]; rfl
      have I9 : ∀ a j, gI τ9 a j = gI ρ a j := fun a j => by rw [e9, e8]; rfl
      have hJ9 : JC τ9 := ⟨fun a ha i j hi hj e => by
        rw [R9, R9] at e
        by_cases ha1 : a = 69
        · rw [if_pos ha1, if_pos ha1] at e
          exact swI_inj (hJ.1 69 (by simp) _ _ (swI_lt (by omega) (by omega) hi) (swI_lt (by omega) (by omega) hj) e)
        · rw [if_neg ha1, if_neg ha1] at e
          exact hJ.1 a ha i j hi hj e, fun a j haj => by rw [I9]; exact hJ.2 a j haj⟩
      have hF9 : Fr (fun _ _ => False) frV69 ρ τ9 := fun a ha j => ⟨fun _ => I9 a j, fun hv => by rw [R9, if_neg hv]⟩
      have k359 : gI τ9 35 0 = (p : Int) := by rw [I9]; exact k35
      have yv : gI τ9 b3 col = RX 69 ρ f q col := by rw [I9, e3]
      rw [yv]
      refine S_inverse2 hL9 k359 (by omega) ⟨hL9, fun _ _ => ?_⟩
      have iv9 := em_rng (p := p) (by omega) (RX 69 ρ f q col ^ (p - 2))
      have ivr : 0 ≤ ivV p (RX 69 ρ f q col) ∧ ivV p (RX 69 ρ f q col) < (p : Int) := iv9
      refine S_stretchRow (n := 12) (p := p) hL9 (pa69 hb3) (by omega) k359 (by omega) (by omega) (by omega) (fun j hj => by have := hJ9.b69 hb3 hj; omega) (fun τ14 hL14 hF14 hv14 => ⟨hL14, fun _ => ?_⟩)
      have R14 : ∀ a i, a < 2968 → gR τ14 a i = gR τ9 a i := fun a i ha => hF14.r ha id
      have hJ14 : JC τ14 := ⟨hJ9.1.fr hF14 ⟨id, id, id⟩, fun a j haj => by
        by_cases hab : a = b3
        · have hj : j < 12 := by omega
          rw [hab, hv14 j hj]
          have := em_rng (p := p) (by omega) (gI τ9 b3 j * ivV p (RX 69 ρ f q col))
          omega
        · rw [hF14.i (by omega) hab]
          exact hJ9.2 a j haj⟩
      have swk : ∀ e, swI (f + k) (f + q) (f + e) = f + swI k q e := fun e => by
        unfold swI
        by_cases h1 : e = k
        · rw [if_pos (by omega), if_pos h1]
        · rw [if_neg (by omega), if_neg h1]
          by_cases h2 : e = q
          · rw [if_pos (by omega), if_pos h2]
          · rw [if_neg (by omega), if_neg h2]
      have sk : swI k q k = q := by unfold swI; rw [if_pos rfl]
      -- rows behind the exchange and the stretch
      have K14 : ∀ j, j < w → RX 69 τ14 f k j = ovV p (RX 69 ρ f q j) (RX 69 ρ f q col) := fun j hj => by
        show gI τ14 (gR τ14 69 (f + k)) j = _
        rw [R14 _ _ (by omega), R9, if_pos rfl, swk, sk, ← e3, hv14 j (by omega), I9, iv_ov, e3]
      have O14 : ∀ e j, e < n → e ≠ k → RX 69 τ14 f e j = RX 69 ρ f (swI k q e) j := fun e j he hek => by
        have hs := swI_lt (n := n) (k := k) (q := q) (e := e) hkl hq he
        have r2 := rw9 (f + swI k q e) (by omega)
        show gI τ14 (gR τ14 69 (f + e)) j = _
        rw [R14 _ _ (by omega), R9, if_pos rfl, swk]
        rw [hF14.i (by omega) (fun h9 => hek ?_), I9]
        have e7 := inj _ _ (by omega) (by omega) (h9.trans e3)
        exact swI_inj (show swI k q e = swI k q k by rw [sk]; omega)
      refine cl92_69 (w := w) (k := k) (col := col) hL14 hJ14 ((hF14.i (by omega) (by omega)).trans k359) (by omega) hf hw (by omega) hkl (by rw [R14 _ _ (by omega), R9, if_pos rfl, swk, sk, e3]) (fun s j hs hj => ?_) (fun τ hLt hJt hFt hKt hvt => ?_)
      · by_cases hsk : s = k
        · rw [hsk, K14 j hj]; exact ov_rng (by omega) _ _
        · rw [O14 s j hs hsk]; exact hR.2.1 _ j (swI_lt hkl hq hs) hj
      · have nx := ih (col + 1) (k + 1) τ (by omega) hLt hJt (((hF.trans (hF9.mono (fun a j h9 => h9.elim) (fun _ h => h))).trans (hF14.mono (fun a j h9 => by omega) (fun _ h => h.elim))).trans (hFt.mono (fun a j h9 => h9) (fun _ h => h.elim))) (fun i hi h9 => ?_) (hR.piv hpr h242 (show col < w by omega) hkq hq hne (fun j hj => ?_) (fun e j he hj hek => ?_))
        · rw [show ((f + (k + 1) : Nat) : Int) = ((f + k : Nat) : Int) + 1 by omega, show ((col + 1 : Nat) : Int) = (col : Int) + 1 by omega] at nx
          exact nx
        · obtain ⟨m1, m2⟩ := hKt i hi h9
          obtain ⟨o1, o2⟩ := hK i hi h9
          have si : swI (f + k) (f + q) i = i := by unfold swI; rw [if_neg (by omega), if_neg (by omega)]
          have e5 : gR τ14 69 i = gR ρ 69 i := by rw [R14 _ _ (by omega), R9, if_pos rfl, si]
          have r2 := rw9 i hi
          refine ⟨by rw [m1, e5]; exact o1, fun j => ?_⟩
          rw [← o1]
          rw [e5] at m2
          rw [m2 j, hF14.i (by omega) (fun h8 => ?_), I9, o1]
          · exact o2 j
          · have := inj _ _ hi (by omega) (h8.trans e3)
            omega
        · rw [hvt k j hkl hj, if_pos rfl]; exact K14 j hj
        · rw [hvt e j he hj, if_neg hek, hvt k j hkl hj, if_pos rfl, O14 e j he hek, O14 e col he hek]
    · have hqe : q = n := by omega
      refine B_X8_clear_69_45 hL ⟨fun _ => ⟨⟨by omega, by omega⟩, fun _ => ?_⟩, fun h9 => absurd (by omega) h9⟩
      exact ih (col + 1) k ρ (by omega) hL hJ hF hK (hR.skip (fun e h1 h2 => hz e h1 (by omega)))
theorem S_clear_69 {p f n w C : Nat} (hL : Lay LC g c t σ) (hJ : JC σ) (h35 : gI σ 35 0 = (p : Int)) (hpr : isPr p) (h242 : p < 242) (hf : f + n ≤ 12) (hw : w ≤ 12) (hC : C ≤ w) (hA : ∀ s j, s < n → j < w → 0 ≤ RX 69 σ f s j ∧ RX 69 σ f s j < (p : Int))
    (h : ∀ τ (k : Nat), Lay LC g c t τ → JC τ → Fr frM69 frV69 σ τ → KP69 f n σ τ → CLE p n w (RX 69 σ f) (RX 69 τ f) C k → Q (.inl (some (vi ((f + k : Nat) : Int)))) τ) : CC E mX8_clear [vr 54, vr 69, vi f, vi ((f + n : Nat) : Int), vi C] σ Q := by
  refine C_X8_clear (B_X8_clear_69_0 hL (fun _ => ?_))
  exact cl6_69 h35 hpr h242 hf hw hC h C 0 0 σ (by omega) hL hJ (Fr.refl _) (fun i _ _ => ⟨rfl, fun _ => rfl⟩) ⟨Nat.zero_le _, hA, fun y => Iff.rfl, fun h9 => h9, ⟨fun i => i, fun q hq => absurd hq (by omega)⟩, fun e j _ _ hj => absurd hj (by omega)⟩
end SD1_69

section SD1_108
variable {E : Ev} {σ : Sg} {Q : NO → Sg → Prop} {g : Sg} {c t : Nat}
theorem pa108 {a : Nat} (h : 109 ≤ a ∧ a < 121) : PA LC a 24 := by
  have h1 : ∀ q ∈ yX LC, q.1 < 109 ∨ 121 ≤ q.1 := by decide
  refine ⟨by show 16 ≤ a; omega, by show a < 172; omega, by omega, fun q hq => by have := h1 q hq; omega, (109, 121, 20, 24), by decide, h.1, h.2, rfl⟩
abbrev frM108 : Nat → Nat → Prop := fun a _ => 109 ≤ a ∧ a < 121
abbrev frV108 : Nat → Prop := fun a => a = 108
def KP108 (f n : Nat) (σ τ : Sg) : Prop := ∀ i, i < 12 → (i < f ∨ f + n ≤ i) → gR τ 108 i = gR σ 108 i ∧ ∀ j, gI τ (gR σ 108 i) j = gI σ (gR σ 108 i) j
theorem JC.b108 {σ : Sg} (h : JC σ) {a j : Nat} (ha : 109 ≤ a ∧ a < 121) (hj : j < 24) : 0 ≤ gI σ a j ∧ gI σ a j ≤ 241 := h.2 a j (by omega)
/-- all rows lessened by one -/
theorem cl92_108 {p f n w k col b9 : Nat} {x4 : Int} (hL : Lay LC g c t σ) (hJ : JC σ) (h35 : gI σ 35 0 = (p : Int)) (hp : 2 ≤ p ∧ p ≤ 241) (hf : f + n ≤ 12) (hw : w ≤ 24) (hcw : col < w) (hk : k < n) (hb9 : b9 = gR σ 108 (f + k)) (hA : ∀ s j, s < n → j < w → 0 ≤ RX 108 σ f s j ∧ RX 108 σ f s j < (p : Int))
    (h : ∀ τ, Lay LC g c t τ → JC τ → Fr frM108 (fun _ => False) σ τ → KP108 f n σ τ → (∀ e j, e < n → j < w → RX 108 τ f e j = if e = k then RX 108 σ f e j else (RX 108 σ f e j - RX 108 σ f e col * RX 108 σ f k j) % (p : Int)) → GG E mX8_clear 6 [some (vr 54), some (vr 108), some (vi f), some (vi ((f + n : Nat) : Int)), some (vi x4), some (vi ((f + k : Nat) + 1 : Int)), some (vi ((col : Int) + 1)), none, none, none] [] τ 0 0 Q) :
    GG E mX8_clear 92 [some (vr 54), some (vr 108), some (vi f), some (vi ((f + n : Nat) : Int)), some (vi x4), some (vi ((f + k : Nat) : Int)), some (vi col), none, some (vr b9), some (vi f)] [] σ 0 0 Q := by
  have rw9 : ∀ e, e < 12 → 109 ≤ gR σ 108 e ∧ gR σ 108 e < 121 := fun e he => hL.2.2.2.1 (108, 12, 109, 121) (by decide) e he
  have inj : ∀ i j, i < 12 → j < 12 → gR σ 108 i = gR σ 108 j → i = j := hJ.1 108 (by simp)
  have kb : 109 ≤ b9 ∧ b9 < 121 := by rw [hb9]; exact rw9 _ (by omega)
  refine loopU (N := n) (G := fun e τ => GG E mX8_clear 92 [some (vr 54), some (vr 108), some (vi f), some (vi ((f + n : Nat) : Int)), some (vi x4), some (vi ((f + k : Nat) : Int)), some (vi col), none, some (vr b9), some (vi ((f + e : Nat) : Int))] [] τ 0 0 Q)
    (P := fun m τ => Lay LC g c t τ ∧ JC τ ∧ Fr frM108 (fun _ => False) σ τ ∧ KP108 f n σ τ ∧ ∀ e j, e < n → j < w → RX 108 τ f e j = if e < m ∧ e ≠ k then (RX 108 σ f e j - RX 108 σ f e col * RX 108 σ f k j) % (p : Int) else RX 108 σ f e j) ?_ ?_ 0 σ (by omega) ⟨hL, hJ, Fr.refl _, fun i _ _ => ⟨rfl, fun _ => rfl⟩, fun e j _ _ => by rw [if_neg (by omega)]⟩
  · rintro e τ he ⟨hL1, hJ1, hF, hK, hv⟩ next
    have kR : ∀ i, gR τ 108 i = gR σ 108 i := fun i => hF.r (by omega) id
    have k35 : gI τ 35 0 = (p : Int) := (hF.i (by omega) (by omega)).trans h35
    have cur : ∀ j, j < w → RX 108 τ f e j = RX 108 σ f e j := fun j hj => by rw [hv e j he hj, if_neg (by omega)]
    have curk : ∀ j, j < w → RX 108 τ f k j = RX 108 σ f k j := fun j hj => by rw [hv k j hk hj, if_neg (fun h9 => h9.2 rfl)]
    have re := rw9 (f + e) (by omega)
    have ecol : gI τ (gR σ 108 (f + e)) col = RX 108 σ f e col := by
      have := cur col hcw
      show _ = gI σ (gR σ 108 (f + e)) col
      rw [← kR (f + e)]
      exact this.trans (by rw [kR])
    have acol := hA e col he hcw
    refine B_X8_clear_108_92 hL1 kb ?_
    rw [show ((f + e : Nat) : Int).toNat = f + e by omega, show ((col : Nat) : Int).toNat = col by omega, kR]
    refine ⟨fun h9 => absurd h9 (by omega), fun _ => ⟨fun hek => ⟨⟨by omega, by omega⟩, fun _ => next τ ⟨hL1, hJ1, hF, hK, fun e' j h1 h2 => ?_⟩⟩, fun hek => ⟨⟨by omega, by omega⟩, fun b5 e5 _ b7 e7 _ => ⟨⟨by omega, by omega⟩, fun _ => ?_⟩⟩⟩⟩
    · rw [hv e' j h1 h2]
      by_cases hc : e' < e ∧ e' ≠ k
      · rw [if_pos hc, if_pos ⟨by omega, hc.2⟩]
      · rw [if_neg hc, if_neg (fun h9 => hc ⟨by omega, h9.2⟩)]
    · rw [e5, e7, ecol]
      have hne : gR σ 108 (f + e) ≠ b9 := fun h9 => by
        have := inj (f + e) (f + k) (by omega) (by omega) (h9.trans hb9)
        omega
      refine S_takeAway (n := 24) (p := p) hL1 (pa108 re) (pa108 kb) hne (by omega) (by omega) k35 (by omega) (by omega) (by omega) (fun j hj => by have := hJ1.b108 re hj; omega) (fun j hj => by have := hJ1.b108 kb hj; omega) (fun τ11 hL11 hF11 hv11 => ⟨hL11, ⟨by omega, by omega⟩, fun _ => ?_⟩)
      have R11 : ∀ i, gR τ11 108 i = gR σ 108 i := fun i => (hF11.r (by omega) id).trans (kR i)
      have hne9 : ∀ i, i < 12 → i ≠ f + e → gR σ 108 i ≠ gR σ 108 (f + e) := fun i hi h8 h9 => h8 (inj i (f + e) hi (by omega) h9)
      refine next τ11 ⟨hL11, ⟨hJ1.1.fr hF11 ⟨id, id, id⟩, fun a j haj => ?_⟩, hF.trans (hF11.mono (fun a j h9 => by omega) (fun _ h => h)), fun i hi h9 => ?_, fun e' j h1 h2 => ?_⟩
      · by_cases hae : a = gR σ 108 (f + e)
        · have hj : j < 24 := by omega
          rw [hae, hv11 j hj]
          split
          · exact hJ1.b108 re hj
          · have := em_rng (p := p) (by omega) (gI τ (gR σ 108 (f + e)) j - RX 108 σ f e col * gI τ b9 j)
            omega
        · rw [hF11.i (by omega) hae]
          exact hJ1.2 a j haj
      · rw [R11]
        refine ⟨rfl, fun j => ?_⟩
        have r2 := rw9 i hi
        rw [hF11.i (by omega) (hne9 i hi (by omega))]
        exact (hK i hi h9).2 j
      · show gI τ11 (gR τ11 108 (f + e')) j = _
        rw [R11]
        by_cases hee : e' = e
        · subst hee
          rw [if_pos ⟨by omega, fun h9 => hek (by omega)⟩, hv11 j (by omega)]
          have c1 : gI τ (gR σ 108 (f + e')) j = RX 108 σ f e' j := by
            have := cur j h2
            rw [← this]
            show _ = gI τ (gR τ 108 (f + e')) j
            rw [kR]
          have c2 : gI τ b9 j = RX 108 σ f k j := by
            have := curk j h2
            rw [← this, hb9]
            show _ = gI τ (gR τ 108 (f + k)) j
            rw [kR]
          rw [c1, c2]
          by_cases hz : RX 108 σ f e' col = 0
          · rw [if_pos hz, hz, Int.zero_mul, Int.sub_zero]
            have := hA e' j h1 h2
            exact (Int.emod_eq_of_lt this.1 this.2).symm
          · rw [if_neg hz]
        · have r2 := rw9 (f + e') (by omega)
          rw [hF11.i (by omega) (hne9 (f + e') (by omega) (by omega))]
          have := hv e' j h1 h2
          have t9 : gI τ (gR σ 108 (f + e')) j = RX 108 τ f e' j := by show _ = gI τ (gR τ 108 (f + e')) j; rw [kR]
          rw [t9, this]
          by_cases hc : e' < e ∧ e' ≠ k
          · rw [if_pos hc, if_pos ⟨by omega, hc.2⟩]
          · rw [if_neg hc, if_neg (fun h9 => hc ⟨by omega, h9.2⟩)]
  · rintro τ ⟨hL1, hJ1, hF, hK, hv⟩
    refine B_X8_clear_108_92 hL1 kb ⟨fun _ => ⟨⟨by omega, by omega⟩, ⟨by omega, by omega⟩, fun _ => h τ hL1 hJ1 hF hK (fun e j h1 h2 => ?_)⟩, fun h9 => absurd (by omega) h9⟩
    rw [hv e j h1 h2]
    by_cases hek : e = k
    · rw [if_neg (fun h9 => h9.2 hek), if_pos hek]
    · rw [if_pos ⟨h1, hek⟩, if_neg hek]
/-- a matrix is cleared -/
theorem cl6_108 {p f n w C : Nat} {A0 : Nat → Nat → Int} (h35 : gI σ 35 0 = (p : Int)) (hpr : isPr p) (h242 : p < 242) (hf : f + n ≤ 12) (hw : w ≤ 24) (hC : C ≤ w)
    (h : ∀ τ (k : Nat), Lay LC g c t τ → JC τ → Fr frM108 frV108 σ τ → KP108 f n σ τ → CLE p n w A0 (RX 108 τ f) C k → Q (.inl (some (vi ((f + k : Nat) : Int)))) τ) :
    ∀ (d col k : Nat) (ρ : Sg), col + d = C → Lay LC g c t ρ → JC ρ → Fr frM108 frV108 σ ρ → KP108 f n σ ρ → CLR p n w A0 (RX 108 ρ f) col k → GG E mX8_clear 6 [some (vr 54), some (vr 108), some (vi f), some (vi ((f + n : Nat) : Int)), some (vi C), some (vi ((f + k : Nat) : Int)), some (vi col), none, none, none] [] ρ 0 0 Q := by
  have p1 := hpr.1
  intro d
  induction d with
  | zero =>
    intro col k ρ hd hL hJ hF hK hR
    refine B_X8_clear_108_6 hL ⟨fun _ _ => h ρ k hL hJ hF hK ⟨col, by omega, .inl (by omega), hR⟩, fun h9 => absurd (by omega) h9⟩
  | succ d ih =>
    intro col k ρ hd hL hJ hF hK hR
    have hkn := hR.1
    have rw9 : ∀ e, e < 12 → 109 ≤ gR ρ 108 e ∧ gR ρ 108 e < 121 := fun e he => hL.2.2.2.1 (108, 12, 109, 121) (by decide) e he
    have inj : ∀ i j, i < 12 → j < 12 → gR ρ 108 i = gR ρ 108 j → i = j := hJ.1 108 (by simp)
    refine B_X8_clear_108_6 hL ⟨fun h9 => absurd h9 (by omega), fun _ => ⟨fun hke _ => h ρ k hL hJ hF hK ⟨col, by omega, .inr (by omega), hR⟩, fun hke _ => ?_⟩⟩
    have hkl : k < n := by omega
    have k35 : gI ρ 35 0 = (p : Int) := (hF.i (by omega) (by omega)).trans h35
    -- a row that is not 0 there
    have seek : (∀ q, k ≤ q → q ≤ n → (∀ e, k ≤ e → e < q → RX 108 ρ f e col = 0) → (q < n → RX 108 ρ f q col ≠ 0) → GG E mX8_clear 45 [some (vr 54), some (vr 108), some (vi f), some (vi ((f + n : Nat) : Int)), some (vi C), some (vi ((f + k : Nat) : Int)), some (vi col), some (vi ((f + q : Nat) : Int)), none, none] [] ρ 0 0 Q) → GG E mX8_clear 23 [some (vr 54), some (vr 108), some (vi f), some (vi ((f + n : Nat) : Int)), some (vi C), some (vi ((f + k : Nat) : Int)), some (vi col), some (vi ((f + k : Nat) : Int)), none, none] [] ρ 0 0 Q := by
      intro hg
      refine loopU (N := n) (G := fun q τ => GG E mX8_clear 23 [some (vr 54), some (vr 108), some (vi f), some (vi ((f + n : Nat) : Int)), some (vi C), some (vi ((f + k : Nat) : Int)), some (vi col), some (vi ((f + q : Nat) : Int)), none, none] [] τ 0 0 Q)
        (P := fun q τ => τ = ρ ∧ k ≤ q ∧ ∀ e, k ≤ e → e < q → RX 108 ρ f e col = 0) ?_ ?_ k ρ (by omega) ⟨rfl, Nat.le_refl _, fun e h1 h2 => absurd h2 (by omega)⟩
      · rintro q τ hq ⟨rfl, hkq, hz⟩ next
        refine B_X8_clear_108_23 hL ?_
        rw [show ((f + q : Nat) : Int).toNat = f + q by omega, show ((col : Nat) : Int).toNat = col by omega]
        refine ⟨fun h9 => absurd h9 (by omega), fun _ => ⟨⟨by omega, by omega⟩, fun b2 e2 _ => ⟨⟨by omega, by omega⟩, fun hne _ => ?_, fun he => ⟨⟨by omega, by omega⟩, fun _ => next τ ⟨rfl, by omega, fun e h1 h2 => ?_⟩⟩⟩⟩⟩
        · rw [e2] at hne
          exact hg q hkq (by omega) hz (fun _ => hne)
        · rw [e2] at he
          by_cases heq : e = q
          · rw [heq]; exact he
          · exact hz e h1 (by omega)
      · rintro τ ⟨rfl, hkq, hz⟩
        exact B_X8_clear_108_23 hL ⟨fun _ _ => hg n hkq (Nat.le_refl _) hz (fun h9 => absurd h9 (by omega)), fun h9 => absurd (by omega) h9⟩
    refine seek (fun q hkq hqn hz hnz => ?_)
    by_cases hq : q < n
    · have hne := hnz hq
      have ya := hR.2.1 q col hq (by omega)
      refine B_X8_clear_108_45 hL ?_
      rw [show ((f + q : Nat) : Int).toNat = f + q by omega, show ((col : Nat) : Int).toNat = col by omega, show ((f + k : Nat) : Int).toNat = f + k by omega]
      refine ⟨fun h9 => absurd h9 (by omega), fun _ => ⟨⟨by omega, by omega⟩, fun b3 e3 hb3 => ⟨⟨by omega, by omega⟩, fun b6 e6 _ τ8 e8 τ9 e9 => ⟨⟨by omega, by omega⟩, fun hL9 => ?_⟩⟩⟩⟩
      have R9 : ∀ a i, gR τ9 a i = if a = 108 then gR ρ 108 (swI (f + k) (f + q) i) else gR ρ a i := fun a i => by
        rw [e9, e8, e6, e3]
        show (if a = 108 ∧ i = f + k then gR ρ 108 (f + q) else if a = 108 ∧ i = f + q then gR ρ 108 (f + k) else ρ.2.1 a i) = _
        by_cases ha : a = 108
        · subst ha
          rw [if_pos rfl]
          unfold swI gR
          by_cases h1 : i = f + k
          · rw [if_pos ⟨rfl, h1⟩, if_pos h1]
          · rw [if_neg (fun h9 => h1 h9.2), if_neg h1]
            by_cases h2 : i = f + q
            · rw [if_pos ⟨rfl, h2⟩, if_pos h2]
            · rw [if_neg (fun h9 => h2 h9.2), if_neg h2]
        · rw [if_neg (fun h9 => ha h9.1), if_neg (fun h9 => ha h9.1), if_neg ha]; rfl
      have I9 : ∀ a j, gI τ9 a j = gI ρ a j := fun a j => by rw [e9, e8]; rfl
      have hJ9 : JC τ9 := ⟨fun a ha i j hi hj e => by
        rw [R9, R9] at e
        by_cases ha1 : a = 108
        · rw [if_pos ha1, if_pos ha1] at e
          exact swI_inj (hJ.1 108 (by simp) _ _ (swI_lt (by omega) (by omega) hi) (swI_lt (by omega) (by omega) hj) e)
        · rw [if_neg ha1, if_neg ha1] at e
          exact hJ.1 a ha i j hi hj e, fun a j haj => by rw [I9]; exact hJ.2 a j haj⟩
      have hF9 : Fr (fun _ _ => False) frV108 ρ τ9 := fun a ha j => ⟨fun _ => I9 a j, fun hv => by rw [R9, if_neg hv]⟩
      have k359 : gI τ9 35 0 = (p : Int) := by rw [I9]; exact k35
      have yv : gI τ9 b3 col = RX 108 ρ f q col := by rw [I9, e3]
      rw [yv]
      refine S_inverse2 hL9 k359 (by omega) ⟨hL9, fun _ _ => ?_⟩
      have iv9 := em_rng (p := p) (by omega) (RX 108 ρ f q col ^ (p - 2))
      have ivr : 0 ≤ ivV p (RX 108 ρ f q col) ∧ ivV p (RX 108 ρ f q col) < (p : Int) := iv9
      refine S_stretchRow (n := 24) (p := p) hL9 (pa108 hb3) (by omega) k359 (by omega) (by omega) (by omega) (fun j hj => by have := hJ9.b108 hb3 hj; omega) (fun τ14 hL14 hF14 hv14 => ⟨hL14, fun _ => ?_⟩)
      have R14 : ∀ a i, a < 2968 → gR τ14 a i = gR τ9 a i := fun a i ha => hF14.r ha id
      have hJ14 : JC τ14 := ⟨hJ9.1.fr hF14 ⟨id, id, id⟩, fun a j haj => by
        by_cases hab : a = b3
        · have hj : j < 24 := by omega
          rw [hab, hv14 j hj]
          have := em_rng (p := p) (by omega) (gI τ9 b3 j * ivV p (RX 108 ρ f q col))
          omega
        · rw [hF14.i (by omega) hab]
          exact hJ9.2 a j haj⟩
      have swk : ∀ e, swI (f + k) (f + q) (f + e) = f + swI k q e := fun e => by
        unfold swI
        by_cases h1 : e = k
        · rw [if_pos (by omega), if_pos h1]
        · rw [if_neg (by omega), if_neg h1]
          by_cases h2 : e = q
          · rw [if_pos (by omega), if_pos h2]
          · rw [if_neg (by omega), if_neg h2]
      have sk : swI k q k = q := by unfold swI; rw [if_pos rfl]
      -- rows behind the exchange and the stretch
      have K14 : ∀ j, j < w → RX 108 τ14 f k j = ovV p (RX 108 ρ f q j) (RX 108 ρ f q col) := fun j hj => by
        show gI τ14 (gR τ14 108 (f + k)) j = _
        rw [R14 _ _ (by omega), R9, if_pos rfl, swk, sk, ← e3, hv14 j (by omega), I9, iv_ov, e3]
      have O14 : ∀ e j, e < n → e ≠ k → RX 108 τ14 f e j = RX 108 ρ f (swI k q e) j := fun e j he hek => by
        have hs := swI_lt (n := n) (k := k) (q := q) (e := e) hkl hq he
        have r2 := rw9 (f + swI k q e) (by omega)
        show gI τ14 (gR τ14 108 (f + e)) j = _
        rw [R14 _ _ (by omega), R9, if_pos rfl, swk]
        rw [hF14.i (by omega) (fun h9 => hek ?_), I9]
        have e7 := inj _ _ (by omega) (by omega) (h9.trans e3)
        exact swI_inj (show swI k q e = swI k q k by rw [sk]; omega)
      refine cl92_108 (w := w) (k := k) (col := col) hL14 hJ14 ((hF14.i (by omega) (by omega)).trans k359) (by omega) hf hw (by omega) hkl (by rw [R14 _ _ (by omega), R9, if_pos rfl, swk, sk, e3]) (fun s j hs hj => ?_) (fun τ hLt hJt hFt hKt hvt => ?_)
      · by_cases hsk : s = k
        · rw [hsk, K14 j hj]; exact ov_rng (by omega) _ _
        · rw [O14 s j hs hsk]; exact hR.2.1 _ j (swI_lt hkl hq hs) hj
      · have nx := ih (col + 1) (k + 1) τ (by omega) hLt hJt (((hF.trans (hF9.mono (fun a j h9 => h9.elim) (fun _ h => h))).trans (hF14.mono (fun a j h9 => by omega) (fun _ h => h.elim))).trans (hFt.mono (fun a j h9 => h9) (fun _ h => h.elim))) (fun i hi h9 => ?_) (hR.piv hpr h242 (show col < w by omega) hkq hq hne (fun j hj => ?_) (fun e j he hj hek => ?_))
        · rw [show ((f + (k + 1) : Nat) : Int) = ((f + k : Nat) : Int) + 1 by omega, show ((col + 1 : Nat) : Int) = (col : Int) + 1 by omega] at nx
          exact nx
        · obtain ⟨m1, m2⟩ := hKt i hi h9
          obtain ⟨o1, o2⟩ := hK i hi h9
          have si : swI (f + k) (f + q) i = i := by unfold swI; rw [if_neg (by omega), if_neg (by omega)]
          have e5 : gR τ14 108 i = gR ρ 108 i := by rw [R14 _ _ (by omega), R9, if_pos rfl, si]
          have r2 := rw9 i hi
          refine ⟨by rw [m1, e5]; exact o1, fun j => ?_⟩
          rw [← o1]
          rw [e5] at m2
          rw [m2 j, hF14.i (by omega) (fun h8 => ?_), I9, o1]
          · exact o2 j
          · have := inj _ _ hi (by omega) (h8.trans e3)
            omega
        · rw [hvt k j hkl hj, if_pos rfl]; exact K14 j hj
        · rw [hvt e j he hj, if_neg hek, hvt k j hkl hj, if_pos rfl, O14 e j he hek, O14 e col he hek]
    · have hqe : q = n := by omega
      refine B_X8_clear_108_45 hL ⟨fun _ => ⟨⟨by omega, by omega⟩, fun _ => ?_⟩, fun h9 => absurd (by omega) h9⟩
      exact ih (col + 1) k ρ (by omega) hL hJ hF hK (hR.skip (fun e h1 h2 => hz e h1 (by omega)))
theorem S_clear_108 {p f n w C : Nat} (hL : Lay LC g c t σ) (hJ : JC σ) (h35 : gI σ 35 0 = (p : Int)) (hpr : isPr p) (h242 : p < 242) (hf : f + n ≤ 12) (hw : w ≤ 24) (hC : C ≤ w) (hA : ∀ s j, s < n → j < w → 0 ≤ RX 108 σ f s j ∧ RX 108 σ f s j < (p : Int))
    (h : ∀ τ (k : Nat), Lay LC g c t τ → JC τ → Fr frM108 frV108 σ τ → KP108 f n σ τ → CLE p n w (RX 108 σ f) (RX 108 τ f) C k → Q (.inl (some (vi ((f + k : Nat) : Int)))) τ) : CC E mX8_clear [vr 54, vr 108, vi f, vi ((f + n : Nat) : Int), vi C] σ Q := by
  refine C_X8_clear (B_X8_clear_108_0 hL (fun _ => ?_))
  exact cl6_108 h35 hpr h242 hf hw hC h C 0 0 σ (by omega) hL hJ (Fr.refl _) (fun i _ _ => ⟨rfl, fun _ => rfl⟩) ⟨Nat.zero_le _, hA, fun y => Iff.rfl, fun h9 => h9, ⟨fun i => i, fun q hq => absurd hq (by omega)⟩, fun e j _ _ hj => absurd hj (by omega)⟩
end SD1_108
