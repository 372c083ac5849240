/-! ===== the class: characters begun ===== -/
section SD8
variable {E : Ev} {σ : Sg} {Q : NO → Sg → Prop} {g : Sg} {c t : Nat}
variable {D : Int} {told els : List (List Int)}
theorem GAll.cl (h : GAll σ D els) (hI : IsG els.length (gmt D els)) {a : Nat} (ha : a < rG D els) : gI σ 29 a = (lsN els.length (gmt D els) a : Int) ∧ gI σ 30 a = (zG D els a : Int) ∧ gI σ 26 (lsN els.length (gmt D els) a) = (iv els.length (gmt D els) (lsN els.length (gmt D els) a) : Int) ∧ gI σ 28 (iv els.length (gmt D els) (lsN els.length (gmt D els) a)) = (iG D els a : Int) ∧ lsN els.length (gmt D els) a < els.length ∧ iv els.length (gmt D els) (lsN els.length (gmt D els) a) < els.length ∧ iG D els a < rG D els ∧ zG D els a ≤ 120 := by
  obtain ⟨hT, hV, hO, hC, _⟩ := h
  have l := lsN_s hI ha
  have i1 := iv_lt hI l.2.1
  have h1 := hC.2.2.1 a ha
  have n := hT.2.1
  exact ⟨h1.1.trans l.1, h1.2.trans (zsN_s hI ha), hV _ l.2.1, (hC.1 _ i1).trans (csN_s hI i1).1, l.2.1, i1, ivc_lt hI ha, Nat.le_trans (zsN_le _ _ a) n⟩
theorem S_inverseClass {a : Nat} (hL : Lay LC g c t σ) (hG : GAll σ D els) (hI : IsG els.length (gmt D els)) (ha : a < rG D els) (hq : Q (.inl (some (vi (iG D els a)))) σ) : CC E mX4_inverseClass [vr 24, vi a] σ Q := by
  obtain ⟨q1, q2, q3, q4, q5, q6, q7, q8⟩ := hG.cl hI ha
  have n120 := hG.1.2.1
  have r120 : rG D els ≤ els.length := rsN_le _ _
  refine C_X4_inverseClass (B_X4_inverseClass_0 hL (fun _ => S_atN (by decide) (sh29 hL) (by decide) (by omega) ⟨hL, fun _ _ => ?_⟩))
  rw [q1]
  refine S_atN (by decide) (sh26 hL) (by decide) (by omega) ⟨hL, fun _ _ => ?_⟩
  rw [q3]
  refine S_atN (by decide) (sh28 hL) (by decide) (by omega) ⟨hL, fun _ _ => ?_⟩
  rw [q4]; exact hq
/-- what is begun: how many, the prime, natural values, sizes, inverses -/
def BCh (σ : Sg) (D : Int) (els : List (List Int)) : Prop := gI σ 34 7 = (rG D els : Int) ∧ gI σ 34 8 = (els.length : Int) ∧ gI σ 34 9 = ivV (pN D els) els.length ∧ gI σ 35 0 = (pN D els : Int) ∧ gI σ 35 1 = (sN D els : Int) ∧ ∀ a, a < rG D els → gI σ 50 a = natN D els a ∧ gI σ 51 a = (zG D els a : Int) ∧ gI σ 52 a = (iG D els a : Int)
theorem BCh.fr {W : Nat → Nat → Prop} {V : Nat → Prop} {τ : Sg} (h : BCh σ D els) (k : Fr W V σ τ) (w : (∀ j, 7 ≤ j → j ≤ 9 → ¬ W 34 j) ∧ (∀ j, ¬ W 35 j) ∧ (∀ j, ¬ W 50 j ∧ ¬ W 51 j ∧ ¬ W 52 j)) : BCh τ D els := by
  obtain ⟨h1, h2, h3, h4, h5, h6⟩ := h
  exact ⟨(k.i (by omega) (w.1 _ (by omega) (by omega))).trans h1, (k.i (by omega) (w.1 _ (by omega) (by omega))).trans h2, (k.i (by omega) (w.1 _ (by omega) (by omega))).trans h3, (k.i (by omega) (w.2.1 _)).trans h4, (k.i (by omega) (w.2.1 _)).trans h5, fun a ha => ⟨(k.i (by omega) (w.2.2 _).1).trans (h6 a ha).1, (k.i (by omega) (w.2.2 _).2.1).trans (h6 a ha).2.1, (k.i (by omega) (w.2.2 _).2.2).trans (h6 a ha).2.2⟩⟩
abbrev frBc : Nat → Nat → Prop := fun a k => a = 35 ∨ (a = 34 ∧ 7 ≤ k ∧ k ≤ 9) ∨ a = 50 ∨ a = 51 ∨ a = 52
theorem S_cbegin {d : Nat} (hL : Lay LC g c t σ) (hX : FX D told els) (hG : GAll σ D els) (hE : CloE σ c D els) (h6 : gI σ c 6 = D) (hD : D = d) (hP : PR els.length (expo els.length (gmt D els) els.length) d (pN D els) (sN D els)) (he : 1 ≤ expo els.length (gmt D els) els.length ∧ expo els.length (gmt D els) els.length ≤ 120)
    (h : ∀ τ, Lay LC g c t τ → Fr frBc (fun _ => False) σ τ → BCh τ D els → Q (.inl none) τ) : CC E mX0_begin [vr 34, vr 24, vr c] σ Q := by
  obtain ⟨hC, hGd, hp, h242, hN, hs, hD3⟩ := hX
  have hI := hC.isG
  have p1 := hp.1
  have ci := hL.isc
  have cr := ci.rg
  have n120 := hC.1
  have r12 : rG D els ≤ 12 := hGd.1
  have k24 : ∀ τ, Fr frBc (fun _ => False) σ τ → gI τ 24 6 = (els.length : Int) ∧ gI τ 24 7 = (rG D els : Int) ∧ gI τ 24 9 = (expo els.length (gmt D els) els.length : Int) := fun τ hF => ⟨(hF.i (by omega) (by omega)).trans hG.1.1, (hF.i (by omega) (by omega)).trans hG.2.2.2.1.2.1, (hF.i (by omega) (by omega)).trans hG.2.2.1.2.1⟩
  refine C_X0_begin (B_X0_begin_0 hL ci (fun _ => ?_))
  obtain ⟨q6, q7, q9⟩ := k24 σ (Fr.refl _)
  have h6d : gI σ c 6 = (d : Int) := h6.trans hD
  rw [q6, q9, h6d]
  refine S_choose hL n120 he hP (by omega) (fun τ2 hL2 hF2 p2 s2 => ⟨hL2, fun v3 e3 τ4 e4 τ5 e5 hL5 => ?_⟩)
  have hF2' : Fr frBc (fun _ => False) σ τ2 := hF2.mono (fun a j h9 => .inl h9) (fun _ h => h)
  obtain ⟨o6, o7, _⟩ := k24 τ2 hF2'
  have ev3 : v3 = (rG D els : Int) := by rw [e3, o7, if_neg (by omega)]
  have x46 : gI τ4 24 6 = (els.length : Int) := by rw [e4, gI_sI, if_neg (by omega)]; exact o6
  rw [x46] at e5
  have q5 : ∀ a j, gI τ5 a j = if a = 34 ∧ j = 8 then (els.length : Int) else if a = 34 ∧ j = 7 then (rG D els : Int) else gI τ2 a j := fun a j => by rw [e5, gI_sI, e4, gI_sI, ev3]
  have hF5 : Fr frBc (fun _ => False) σ τ5 := by rw [e5, e4]; exact (hF2'.sI (.inr (.inl ⟨rfl, by omega, by omega⟩))).sI (.inr (.inl ⟨rfl, by omega, by omega⟩))
  have p5 : gI τ5 35 0 = (pN D els : Int) := by rw [q5, if_neg (by omega), if_neg (by omega)]; exact p2
  have y8 : gI τ5 34 8 = (els.length : Int) := by rw [q5, if_pos ⟨rfl, rfl⟩]
  rw [y8]
  refine S_inverse2 hL5 p5 (by omega) ⟨hL5, fun _ τ8 e8 hL8 => ?_⟩
  have q8 : ∀ a j, gI τ8 a j = if a = 34 ∧ j = 9 then ivV (pN D els) els.length else gI τ5 a j := fun a j => by rw [e8, gI_sI]
  have hF8 : Fr frBc (fun _ => False) σ τ8 := by rw [e8]; exact hF5.sI (.inr (.inl ⟨rfl, by omega, by omega⟩))
  refine loopU (N := rG D els) (G := fun a τ => GG E mX0_begin 57 [some (vr 34), some (vr 24), some (vr c), some (vi a), none, none, none] [] τ 0 0 Q)
    (P := fun m τ => Lay LC g c t τ ∧ Fr frBc (fun _ => False) σ τ ∧ (gI τ 34 7 = (rG D els : Int) ∧ gI τ 34 8 = (els.length : Int) ∧ gI τ 34 9 = ivV (pN D els) els.length ∧ gI τ 35 0 = (pN D els : Int) ∧ gI τ 35 1 = (sN D els : Int)) ∧ ∀ a, a < m → gI τ 50 a = natN D els a ∧ gI τ 51 a = (zG D els a : Int) ∧ gI τ 52 a = (iG D els a : Int)) ?_ ?_ 0 τ8 (by omega) ⟨hL8, hF8, ⟨?_, ?_, ?_, ?_, ?_⟩, fun a ha => absurd ha (by omega)⟩
  · rintro a τ ha ⟨hL1, hF1, ⟨f7, f8, f9, fp, fs⟩, hv⟩ next
    have hG1 : GAll τ D els := hG.fr hF1 (fun a j h1 h2 => by omega)
    obtain ⟨z1, z2, z3, z4, z5, z6, z7, z8⟩ := hG1.cl hI ha
    have hE1 := hE.2.2 _ z5
    have bd := hE1.1.2.bd (show 1 ≤ D by omega)
    have b0 := bd 0 (by omega)
    have b1 := bd 1 (by omega)
    have w0 : wG D els a 0 = gd (els.getD (lsN els.length (gmt D els) a) []) 0 := rfl
    have w1 : wG D els a 1 = gd (els.getD (lsN els.length (gmt D els) a) []) 1 := rfl
    have c0 : gI τ (c + 2) (8 * lsN els.length (gmt D els) a) = wG D els a 0 := (hF1.i (by omega) (by omega)).trans (hE1.2 0 (by omega))
    have c1 : gI τ (c + 2) (8 * lsN els.length (gmt D els) a + 1) = wG D els a 1 := (hF1.i (by omega) (by omega)).trans (hE1.2 1 (by omega))
    rw [← w0] at b0
    rw [← w1] at b1
    have enat : natN D els a = ovV (pN D els) ((wG D els a 0 + (sN D els : Int) * wG D els a 1) % (pN D els : Int)) 2 := rfl
    have m1 := m4 (show (wG D els a 1).natAbs ≤ 4 by omega) (show ((sN D els : Nat) : Int).natAbs ≤ 241 by omega)
    have sh2 : gS τ (c + 2) = (20, 960) := ci.s hL1 (k := 1) (by decide)
    refine B_X0_begin_57 hL1 ci ?_
    rw [f7]
    refine ⟨fun h9 => absurd h9 (by omega), fun _ _ => S_atN (by decide) (sh29 hL1) (by decide) (by omega) ⟨hL1, fun _ => ?_⟩⟩
    rw [z1, show ((lsN els.length (gmt D els) a : Nat) : Int) * 8 = ((8 * lsN els.length (gmt D els) a : Nat) : Int) by omega]
    refine ⟨⟨by omega, by omega⟩, fun _ => S_atN (by omega) sh2 (by decide) (by omega) ⟨hL1, fun _ => ⟨⟨by omega, by omega⟩, fun _ => ?_⟩⟩⟩
    rw [c0, show ((8 * lsN els.length (gmt D els) a : Nat) : Int) + 1 = ((8 * lsN els.length (gmt D els) a + 1 : Nat) : Int) by omega]
    refine S_atN (by omega) sh2 (by decide) (by omega) ⟨hL1, fun _ => ?_⟩
    rw [c1, fs]
    refine ⟨⟨by omega, by omega⟩, ⟨by omega, by omega⟩, fun _ => S_mod2 hL1 fp (by omega) ⟨hL1, fun _ _ => S_inverse2 hL1 fp (by omega) ⟨hL1, fun _ _ => ?_⟩⟩⟩
    have r1 := em_rng (p := pN D els) (by omega) (wG D els a 0 + wG D els a 1 * (sN D els : Int))
    have r2 : 0 ≤ ivV (pN D els) 2 ∧ ivV (pN D els) 2 < (pN D els : Int) := em_rng (by omega) _
    refine S_times2 hL1 fp (by omega) (by omega) (by omega) ⟨hL1, fun _ => ⟨⟨by omega, by omega⟩, fun τ18 e18 hL18 => ?_⟩⟩
    rw [iv_ov, Int.mul_comm (wG D els a 1), ← enat, show ((a : Nat) : Int).toNat = a by omega] at e18
    have q18 : ∀ b j, gI τ18 b j = if b = 50 ∧ j = a then natN D els a else gI τ b j := fun b j => by rw [e18, gI_sI]
    have s30 : gI τ18 30 a = (zG D els a : Int) := by rw [q18, if_neg (by omega)]; exact z2
    refine S_atN (by decide) (sh30 hL18) (by decide) (by omega) ⟨hL18, fun _ τ21 e21 hL21 => ?_⟩
    rw [s30, show ((a : Nat) : Int).toNat = a by omega] at e21
    have q21 : ∀ b j, gI τ21 b j = if b = 51 ∧ j = a then (zG D els a : Int) else gI τ18 b j := fun b j => by rw [e21, gI_sI]
    have hF21 : Fr frBc (fun _ => False) σ τ21 := by rw [e21, e18]; exact (hF1.sI (.inr (.inr (.inl rfl)))).sI (.inr (.inr (.inr (.inl rfl))))
    refine S_inverseClass hL21 (hG.fr hF21 (fun a j h1 h2 => by omega)) hI ha ⟨hL21, fun _ v24 e24 τ25 e25 => ⟨⟨by omega, by omega⟩, fun hL25 => ?_⟩⟩
    have ev : v24 = (iG D els a : Int) := by rw [e24, if_neg (by omega)]
    rw [ev, show ((a : Nat) : Int).toNat = a by omega] at e25
    have q25 : ∀ b j, gI τ25 b j = if b = 52 ∧ j = a then (iG D els a : Int) else if b = 51 ∧ j = a then (zG D els a : Int) else if b = 50 ∧ j = a then natN D els a else gI τ b j := fun b j => by rw [e25, gI_sI, q21, q18]
    refine next τ25 ⟨hL25, by rw [e25]; exact hF21.sI (.inr (.inr (.inr (.inr rfl)))), ⟨?_, ?_, ?_, ?_, ?_⟩, fun a' ha' => ?_⟩
    · rw [q25, if_neg (by omega), if_neg (by omega), if_neg (by omega)]; exact f7
    · rw [q25, if_neg (by omega), if_neg (by omega), if_neg (by omega)]; exact f8
    · rw [q25, if_neg (by omega), if_neg (by omega), if_neg (by omega)]; exact f9
    · rw [q25, if_neg (by omega), if_neg (by omega), if_neg (by omega)]; exact fp
    · rw [q25, if_neg (by omega), if_neg (by omega), if_neg (by omega)]; exact fs
    · rw [q25, q25, q25]
      by_cases haa : a' = a
      · subst haa
        simp
      · have := hv a' (by omega)
        simp [haa, this]
  · rintro τ ⟨hL1, hF1, ⟨f7, f8, f9, fp, fs⟩, hv⟩
    refine B_X0_begin_57 hL1 ci ?_
    rw [f7]
    exact ⟨fun _ _ => h τ hL1 hF1 ⟨f7, f8, f9, fp, fs, hv⟩, fun h9 => absurd (by omega) h9⟩
  · rw [q8, if_neg (by omega), q5, if_neg (by omega), if_pos ⟨rfl, rfl⟩]
  · rw [q8, if_neg (by omega)]; exact y8
  · rw [q8, if_pos ⟨rfl, rfl⟩]
  · rw [q8, if_neg (by omega)]; exact p5
  · rw [q8, if_neg (by omega), q5, if_neg (by omega), if_neg (by omega)]; exact s2
/-- a character -/
abbrev frFc (x cc : Nat) : Nat → Nat → Prop := fun a k => a = 53 ∨ a = x ∨ (a = 49 ∧ k = cc)
theorem S_fillCharacter {b cc : Nat} {v : Nat → Int} (hL : Lay LC g c t σ) (hX : FX D told els) (hP : PA LC b 12) (hb : b < 37 ∨ (54 ≤ b ∧ b < 2968)) (hB : BCh σ D els) (hcc : cc < 12) (hv0 : v 0 = 1) (hvr : ∀ a, a < rG D els → 0 ≤ v a ∧ v a < (pN D els : Int)) (hr9 : ∀ a, a < rG D els → 0 ≤ gI σ b a ∧ gI σ b a < (pN D els : Int)) (h0 : gI σ b 0 ≠ 0) (hr : ∀ a, a < rG D els → gI σ b a % (pN D els : Int) = (gI σ b 0 * v a) % (pN D els : Int)) (hd : ∃ d, 1 ≤ d ∧ d ≤ 9 ∧ okDg (pN D els) els.length (nmN D els v) d)
    (h : ∀ τ, Lay LC g c t τ → Fr (frFc (gR σ 36 cc) cc) (fun _ => False) σ τ → gI τ 49 cc = (dgV (pN D els) els.length (nmN D els v) : Int) → (∀ a, a < rG D els → gI τ (gR σ 36 cc) a = chV (pN D els) (dgV (pN D els) els.length (nmN D els v)) (zG D els) v a) → Q (.inl none) τ) : CC E mX0_fillCharacter [vr 34, vi cc, vr b] σ Q := by
  obtain ⟨hC, hGd, hp, h242, hN, hs, hD3⟩ := hX
  have hI := hC.isG
  have p1 := hp.1
  have n120 := hC.1
  have r12 : rG D els ≤ 12 := hGd.1
  have rp : 0 < rG D els := rsN_pos hI
  have x9 : 37 ≤ gR σ 36 cc ∧ gR σ 36 cc < 49 := hL.2.2.2.1 (36, 12, 37, 49) (by decide) cc hcc
  generalize hx : gR σ 36 cc = x at *
  have dN := dgV_s hd
  have zs : ∀ a, zG D els a ≤ 120 := fun a => Nat.le_trans (zsN_le _ _ a) n120
  have ii : ∀ a, a < rG D els → iG D els a < rG D els := fun a ha => ivc_lt hI ha
  generalize hnm : nmN D els v = nm at *
  generalize hdg : dgV (pN D els) els.length nm = dd at *
  have kb : ∀ τ, Fr (frFc x cc) (fun _ => False) σ τ → BCh τ D els := fun τ hF => hB.fr hF ⟨fun j h1 h2 => by omega, fun j => by omega, fun j => ⟨by omega, by omega, by omega⟩⟩
  have hb0 := hr9 0 rp
  have iv0 : 0 ≤ ivV (pN D els) (gI σ b 0) ∧ ivV (pN D els) (gI σ b 0) < (pN D els : Int) := em_rng (by omega) _
  have emix : ∀ a, a < rG D els → (gI σ b a * ivV (pN D els) (gI σ b 0)) % (pN D els : Int) = v a := fun a ha => by
    rw [iv_ov]
    have e1 : ovV (pN D els) (gI σ b a) (gI σ b 0) = ovV (pN D els) (v a * gI σ b 0) (gI σ b 0) := ovV_cg _ (by rw [hr a ha, Int.mul_comm])
    have e2 := ov_can hp h242 (y := gI σ b 0) ⟨by omega, hb0.2⟩ (v a)
    have e3 := ov_rng (p := pN D els) (by omega) (v a * gI σ b 0) (gI σ b 0)
    rw [Int.emod_eq_of_lt e3.1 e3.2, Int.emod_eq_of_lt (hvr a ha).1 (hvr a ha).2] at e2
    rw [e1, e2]
  -- values
  have fin : ∀ τ, Lay LC g c t τ → Fr (frFc x cc) (fun _ => False) σ τ → gI τ 49 cc = (dd : Int) → (∀ a, a < rG D els → gI τ 53 a = v a) → GG E mX0_fillCharacter 149 [some (vr 34), some (vi cc), none, none, none, some (vi (0 : Nat)), none] [] τ 0 0 Q := by
    intro τ0 hL0 hF0 h49 h53
    refine loopU (N := rG D els) (G := fun a τ => GG E mX0_fillCharacter 149 [some (vr 34), some (vi cc), none, none, none, some (vi a), none] [] τ 0 0 Q)
      (P := fun m τ => Lay LC g c t τ ∧ Fr (frFc x cc) (fun _ => False) σ τ ∧ gI τ 49 cc = (dd : Int) ∧ (∀ a, a < rG D els → gI τ 53 a = v a) ∧ ∀ a, a < m → gI τ x a = chV (pN D els) dd (zG D els) v a) ?_ ?_ 0 τ0 (by omega) ⟨hL0, hF0, h49, h53, fun a ha => absurd ha (by omega)⟩
    · rintro a τ ha ⟨hL1, hF1, g49, g53, hw⟩ next
      obtain ⟨f7, f8, f9, fp, fs, f6⟩ := kb τ hF1
      have kR : gR τ 36 cc = x := (hF1.r (by omega) id).trans hx
      have va := hvr a ha
      have r1 := em_rng (p := pN D els) (by omega) ((dd : Int) * v a)
      have r2 : 0 ≤ ivV (pN D els) (zG D els a : Int) ∧ ivV (pN D els) (zG D els a : Int) < (pN D els : Int) := em_rng (by omega) _
      refine B_X0_fillCharacter_149 hL1 ?_
      rw [f7, show ((cc : Nat) : Int).toNat = cc by omega, show ((a : Nat) : Int).toNat = a by omega, g49, g53 a ha, kR]
      refine ⟨fun h9 => absurd h9 (by omega), fun _ => ⟨⟨by omega, by omega⟩, fun b2 e2 _ => ⟨⟨by omega, by omega⟩, fun _ => S_times2 hL1 fp (by omega) (by have := dN.2.1; omega) (by omega) ⟨hL1, fun _ _ => ?_⟩⟩⟩⟩
      rw [(f6 a ha).2.1]
      refine S_inverse2 hL1 fp (by omega) ⟨hL1, fun _ _ => S_times2 hL1 fp (by omega) (by omega) (by omega) ⟨hL1, fun _ τ11 e11 => ⟨⟨by omega, by omega⟩, fun hL11 => ?_⟩⟩⟩
      rw [iv_ov, e2] at e11
      have q11 : ∀ b' j, gI τ11 b' j = if b' = x ∧ j = a then chV (pN D els) dd (zG D els) v a else gI τ b' j := fun b' j => by rw [e11, gI_sI]; rfl
      refine next τ11 ⟨hL11, by rw [e11]; exact hF1.sI (.inr (.inl rfl)), by rw [q11, if_neg (by omega)]; exact g49, fun a' ha' => by rw [q11, if_neg (by omega)]; exact g53 a' ha', fun a' ha' => ?_⟩
      rw [q11]
      by_cases haa : a' = a
      · rw [if_pos ⟨rfl, haa⟩, haa]
      · rw [if_neg (fun h9 => haa h9.2)]; exact hw a' (by omega)
    · rintro τ ⟨hL1, hF1, g49, g53, hw⟩
      obtain ⟨f7, f8, f9, fp, fs, f6⟩ := kb τ hF1
      refine B_X0_fillCharacter_149 hL1 ?_
      rw [f7]
      exact ⟨fun _ _ => h τ hL1 hF1 g49 hw, fun h9 => absurd (by omega) h9⟩
  -- the norm
  have nrm : ∀ τ, Lay LC g c t τ → Fr (frFc x cc) (fun _ => False) σ τ → (∀ a, a < rG D els → gI τ 53 a = v a) → GG E mX0_fillCharacter 54 [some (vr 34), some (vi cc), none, none, some (vi 0), some (vi (0 : Nat)), none] [] τ 0 0 Q := by
    intro τ hL1 hF1 g53
    obtain ⟨f7, f8, f9, fp, fs, f6⟩ := kb τ hF1
    have z0 : (0 : Int) = nrmV (pN D els) (rG D els) (zG D els) (iG D els) v 0 % (pN D els : Int) := (Int.zero_emod _).symm
    rw [z0]
    refine loopU (N := rG D els) (G := fun a τ => GG E mX0_fillCharacter 54 [some (vr 34), some (vi cc), none, none, some (vi (nrmV (pN D els) (rG D els) (zG D els) (iG D els) v a % (pN D els : Int))), some (vi a), none] [] τ 0 0 Q) (P := fun _ ρ => ρ = τ) ?_ ?_ 0 τ (by omega) rfl
    · rintro a ρ ha rfl next
      have va := hvr a ha
      have vi9 := hvr _ (ii a ha)
      have iia := ii a ha
      have r0 := em_rng (p := pN D els) (by omega) (nrmV (pN D els) (rG D els) (zG D els) (iG D els) v a)
      have r1 := em_rng (p := pN D els) (by omega) (v a * v (iG D els a))
      have r2 : 0 ≤ ivV (pN D els) (zG D els a : Int) ∧ ivV (pN D els) (zG D els a : Int) < (pN D els : Int) := em_rng (by omega) _
      have r3 := em_rng (p := pN D els) (by omega) ((v a * v (iG D els a)) % (pN D els : Int) * ivV (pN D els) (zG D els a : Int))
      have e9 : nrmV (pN D els) (rG D els) (zG D els) (iG D els) v (a + 1) = nrmV (pN D els) (rG D els) (zG D els) (iG D els) v a + v a * ovV (pN D els) (v (iG D els a)) (zG D els a : Int) := rfl
      have e8 : (nrmV (pN D els) (rG D els) (zG D els) (iG D els) v a % (pN D els : Int) + (v a * v (iG D els a)) % (pN D els : Int) * ivV (pN D els) (zG D els a : Int) % (pN D els : Int)) % (pN D els : Int) = nrmV (pN D els) (rG D els) (zG D els) (iG D els) v (a + 1) % (pN D els : Int) := by
        rw [e9, ← Int.add_emod, Int.add_emod _ (v a * ovV _ _ _)]
        rw [Int.add_emod]
        congr 2
        rw [em_mul (em_id (pN D els : Int) (v a * v (iG D els a))) rfl, Int.mul_assoc]
        exact em_mul rfl ((em_id (pN D els : Int) _).symm.trans (by rw [iv_ov]))
      refine B_X0_fillCharacter_54 hL1 ?_
      rw [f7, show ((a : Nat) : Int).toNat = a by omega, (f6 a ha).2.2, g53 a ha]
      refine ⟨fun h9 => absurd h9 (by omega), fun _ => ⟨⟨by omega, by omega⟩, fun _ => S_atN (by decide) (hL1.1 (53, 54, 20, 12) (by decide) 53 (by decide) (by decide)) (by decide) (by omega) ⟨hL1, fun _ _ => ?_⟩⟩⟩
      rw [g53 _ (ii a ha)]
      refine S_times2 hL1 fp (by omega) (by omega) (by omega) ⟨hL1, fun _ _ => ?_⟩
      rw [(f6 a ha).2.1]
      refine S_inverse2 hL1 fp (by omega) ⟨hL1, fun _ _ => S_times2 hL1 fp (by omega) (by omega) (by omega) ⟨hL1, fun _ => ⟨⟨by omega, by omega⟩, fun _ => S_mod2 hL1 fp (by omega) ⟨hL1, fun _ => ⟨⟨by omega, by omega⟩, fun _ => ?_⟩⟩⟩⟩⟩
      rw [e8]
      exact next ρ rfl
    · rintro ρ rfl
      have en : nrmV (pN D els) (rG D els) (zG D els) (iG D els) v (rG D els) = nm := hnm
      have r0 := em_rng (p := pN D els) (by omega) nm
      refine B_X0_fillCharacter_54 hL1 ?_
      rw [f7, en]
      refine ⟨fun _ _ => ?_, fun h9 => absurd (by omega) h9⟩
      have stop : ∀ τ4, τ4 = sI ρ 49 cc (dd : Int) → Lay LC g c t τ4 → GG E mX0_fillCharacter 149 [some (vr 34), some (vi cc), none, none, none, some (vi 0), none] [] τ4 0 0 Q := fun τ4 e4 hL4 => by
        have q4 : ∀ b' j, gI τ4 b' j = if b' = 49 ∧ j = cc then (dd : Int) else gI ρ b' j := fun b' j => by rw [e4, gI_sI]
        exact fin τ4 hL4 (by rw [e4]; exact hF1.sI (.inr (.inr ⟨rfl, rfl⟩))) (by rw [q4, if_pos ⟨rfl, rfl⟩]) (fun a ha => by rw [q4, if_neg (by omega)]; exact g53 a ha)
      refine C_X0_degreeBy (B_X0_degreeBy_0 hL1 (fun _ => ?_))
      have key : ∀ (e d : Nat), d + e = dd → 1 ≤ d → GG E mX0_degreeBy 2 [some (vr 34), some (vi (nm % (pN D els : Int))), some (vi d)] [] ρ 0 0 (KI (fun r1 τ2 => Lay LC g c t τ2 ∧ (inR r1 → (0 ≤ (cc : Int) ∧ (cc : Int) < 12) ∧ ∀ τ4 : Sg, τ4 = sI τ2 49 ((cc : Nat) : Int).toNat r1 → (Lay LC g c t τ4 → GG E mX0_fillCharacter 149 [some (vr 34), some (vi cc), none, none, none, some (vi 0), none] [] τ4 0 0 Q))) (fun _ _ => False)) := by
        intro e
        induction e with
        | zero =>
          intro d hd h1
          have hdd : d = dd := by omega
          subst hdd
          have d9 := dN.2.1
          have m0 := m4 (show ((d : Nat) : Int).natAbs ≤ 9 by omega) (show ((d : Nat) : Int).natAbs ≤ 9 by omega)
          refine B_X0_degreeBy_2 hL1 ⟨fun h9 => absurd h9 (by omega), fun _ => ⟨⟨by omega, by omega⟩, fun _ => S_times2 hL1 fp (by omega) (by omega) (by omega) ⟨hL1, fun _ _ => ?_⟩⟩⟩
          rw [f8]
          refine S_mod2 hL1 fp (by omega) ⟨hL1, fun _ => ⟨fun hne => ?_, fun _ _ => ⟨hL1, fun _ => ⟨⟨by omega, by omega⟩, ?_⟩⟩⟩⟩
          · exact absurd (Int.emod_eq_emod_iff_emod_sub_eq_zero.mpr dN.2.2.1) hne
          · rw [show ((cc : Nat) : Int).toNat = cc by omega]
            exact stop
        | succ e ih =>
          intro d hd h1
          have d9 := dN.2.1
          have m0 := m4 (show ((d : Nat) : Int).natAbs ≤ 9 by omega) (show ((d : Nat) : Int).natAbs ≤ 9 by omega)
          refine B_X0_degreeBy_2 hL1 ⟨fun h9 => absurd h9 (by omega), fun _ => ⟨⟨by omega, by omega⟩, fun _ => S_times2 hL1 fp (by omega) (by omega) (by omega) ⟨hL1, fun _ _ => ?_⟩⟩⟩
          rw [f8]
          refine S_mod2 hL1 fp (by omega) ⟨hL1, fun _ => ⟨fun _ => ⟨⟨by omega, by omega⟩, fun _ => ih (d + 1) (by omega) (by omega)⟩, fun he => ?_⟩⟩
          exact absurd (Int.emod_eq_emod_iff_emod_sub_eq_zero.mp he) (dN.2.2.2 d h1 (by omega))
      exact key (dd - 1) 1 (by have := dN.1; omega) (Nat.le_refl _)
  have hx36 : b ≠ 53 := by
    rcases hb with h9 | h9 <;> omega
  refine C_X0_fillCharacter (B_X0_fillCharacter_0 hL hP ⟨⟨by decide, by decide⟩, fun _ => S_inverse2 hL hB.2.2.2.1 (by omega) ⟨hL, fun _ _ => ?_⟩⟩)
  refine loopU (N := rG D els) (G := fun a τ => GG E mX0_fillCharacter 14 [some (vr 34), some (vi cc), some (vr b), some (vi (ivV (pN D els) (gI σ b 0))), some (vi a), none, none] [] τ 0 0 Q)
    (P := fun m τ => Lay LC g c t τ ∧ Fr (fun a _ => a = 53) (fun _ => False) σ τ ∧ ∀ a, a < m → gI τ 53 a = v a) ?_ ?_ 0 σ (by omega) ⟨hL, Fr.refl _, fun a ha => absurd ha (by omega)⟩
  · rintro a τ ha ⟨hL1, hF1, hw⟩ next
    obtain ⟨f7, f8, f9, fp, fs, f6⟩ := kb τ (hF1.mono (fun a j h9 => .inl h9) (fun _ h => h))
    have qb : gI τ b a = gI σ b a := hF1.i (by omega) hx36
    have ra := hr9 a ha
    refine B_X0_fillCharacter_14 hL1 hP ?_
    rw [f7, show ((a : Nat) : Int).toNat = a by omega, qb]
    refine ⟨fun h9 => absurd h9 (by omega), fun _ => ⟨⟨by omega, by omega⟩, fun _ => S_times2 hL1 fp (by omega) (by omega) (by omega) ⟨hL1, fun _ => ⟨⟨by omega, by omega⟩, fun τ5 e5 => ⟨⟨by omega, by omega⟩, fun hL5 => next τ5 ⟨hL5, by rw [e5]; exact hF1.sI rfl, fun a' ha' => ?_⟩⟩⟩⟩⟩⟩
    rw [emix a ha] at e5
    rw [e5, gI_sI]
    by_cases haa : a' = a
    · rw [if_pos ⟨rfl, haa⟩, haa]
    · rw [if_neg (fun h9 => haa h9.2)]; exact hw a' (by omega)
  · rintro τ ⟨hL1, hF1, hw⟩
    have hF1' : Fr (frFc x cc) (fun _ => False) σ τ := hF1.mono (fun a j h9 => .inl h9) (fun _ h => h)
    obtain ⟨f7, f8, f9, fp, fs, f6⟩ := kb τ hF1'
    refine B_X0_fillCharacter_14 hL1 hP ?_
    rw [f7]
    exact ⟨fun _ _ => nrm τ hL1 hF1' hw, fun h9 => absurd (by omega) h9⟩
end SD8
