/-! ===== the reference: a turn read, a text ===== -/
/-- what becomes of the reasons -/
def WhyM (σ τ : Sg) (w : Option (Nat × Nat × Nat × Nat)) : Prop := ∀ i, i < 4 → gI τ 186 i = match w with
  | none => gI σ 186 i
  | some x => W4 x.1 x.2.1 x.2.2.1 x.2.2.2 i
abbrev frQm : Nat → Nat → Prop := fun a k => (a = 172 ∧ (k = 4 ∨ k = 6 ∨ k = 7 ∨ k = 12)) ∨ a = 177 ∨ a = 186 ∨ (188 ≤ a ∧ a ≤ 308)
section S97
variable {E : Ev} {σ : Sg} {Q : NO → Sg → Prop} {g : Sg} {c t : Nat} {B : List Int} {n : Nat}
theorem M_isTurn {x : Nat} {D : Int} {v : List Int} (hL : Lay LM g c t σ) (hx : x + 8 ≤ 34) (hD : 2 ≤ D ∧ D ≤ 5) (h0 : gI σ 177 0 = D) (hz : ∀ j, j < 8 → gI σ 177 (x + j) = gd v j ∧ -4 ≤ gd v j ∧ gd v j ≤ 4)
    (hq : ∀ r : Int, (isT D (gd v) → r = 1) → (¬ isT D (gd v) → r = 0) → Q (.inl (some (vi r))) σ) : CC E mX12_isTurn [vr 172, vi 1, vi x] σ Q := by
  have hf : ∀ j, j < 8 → (gd v j).natAbs ≤ 4 := fun j hj => by have := (hz j hj).2; omega
  have hD5 : D.natAbs ≤ 5 := by omega
  refine C_X12_isTurn (B_X12_isTurn_0 hL (fun _ => ?_))
  refine loopU (N := 4) (G := fun i τ => GG E mX12_isTurn 8 [some (vr 172), some (vi 1), some (vi x), some (vi (sqF D (gd v) i)), some (vi (2 * mxF (gd v) i)), some (vi i), none, none] [] τ 0 0 Q) (P := fun i ρ => ρ = σ) ?_ ?_ 0 σ (by omega) rfl
  · rintro i ρ hi rfl next
    obtain ⟨b1, b2⟩ := sqF_ab hD5 hf i (by omega)
    obtain ⟨b3, b4'⟩ := sqF_ab hD5 hf (i + 1) (by omega)
    have g1 := hf (2 * i) (by omega)
    have g2 := hf (2 * i + 1) (by omega)
    have a1 := m4 g1 g1
    have a2 := m4 hD5 g2
    have a3 := m4 a2 g2
    have a4 := m4 g1 g2
    have e3 : 2 * gd v (2 * i) * gd v (2 * i + 1) = 2 * (gd v (2 * i) * gd v (2 * i + 1)) := Int.mul_assoc _ _ _
    refine B_X12_isTurn_8 hL ⟨fun h => absurd h (by omega), fun _ => ?_⟩
    rw [show ((1 : Int)).toNat = 1 by decide, show (176 + 1 : Nat) = 177 by decide, show ((x : Int) + 2 * (i : Int)).toNat = x + 2 * i by omega, show ((x : Int) + 2 * (i : Int) + 1).toNat = x + (2 * i + 1) by omega, (hz (2 * i) (by omega)).1, (hz (2 * i + 1) (by omega)).1]
    refine ⟨⟨by omega, by omega⟩, ⟨by omega, by omega⟩, ⟨by omega, by omega⟩, ⟨by omega, by omega⟩, ⟨by omega, by omega⟩, ⟨by omega, by omega⟩, ⟨by omega, by omega⟩, fun v10 e10 _ => S_root (r := 1) hL (by omega) ⟨hL, fun _ => ?_⟩⟩
    rw [show gI ρ (176 + 1) 0 = D from h0]
    subst e10
    refine ⟨⟨by omega, by omega⟩, fun v14 e14 => ?_⟩
    subst e14
    refine ⟨⟨by omega, by omega⟩, fun v16 e16 => ?_⟩
    subst e16
    refine ⟨⟨by omega, by omega⟩, ⟨by omega, by omega⟩, ⟨by omega, by omega⟩, fun v20 e20 => ?_⟩
    subst e20
    refine ⟨by rw [e3]; exact ⟨by omega, by omega⟩, fun v22 e22 => ?_⟩
    subst e22
    rw [e3]
    refine ⟨⟨by omega, by omega⟩, ⟨by omega, by omega⟩, fun _ => ?_⟩
    have K9 := next ρ rfl
    rw [show 2 * mxF (gd v) (i + 1) = 2 * mxF (gd v) i + 2 * (gd v (2 * i) * gd v (2 * i + 1)) by show 2 * (mxF (gd v) i + _) = _; omega] at K9
    exact K9
  · rintro ρ rfl
    have e4 := sqF_4 D (gd v)
    refine B_X12_isTurn_8 hL ⟨fun _ => ⟨fun hne _ => hq 0 (fun h9 => absurd (e4.mpr h9).1 hne) (fun _ => rfl), fun he => ⟨fun hne _ => hq 0 (fun h9 => absurd (e4.mpr h9).2 (by omega)) (fun _ => rfl), fun h9 _ => hq 1 (fun _ => rfl) (fun h8 => absurd (e4.mp ⟨he, by omega⟩) h8)⟩⟩, fun h9 => absurd (by omega) h9⟩
/-- nothing more once a fault is found -/
theorem M_rt127 {x : Int} (hL : Lay LM g c t σ) (h6 : gI σ 172 6 ≠ 0) (hq : Q (.inl none) σ) : GG E mX12_readsTurn 127 [some (vr 172), some (vi x), none, none] [] σ 0 0 Q :=
  B_X12_readsTurn_127 hL (fun _ => M_fine0 hL h6 ⟨hL, fun _ => ⟨fun h9 => absurd rfl h9, fun _ _ => hq⟩⟩)
theorem M_rt50 {x : Int} (hL : Lay LM g c t σ) (h6 : gI σ 172 6 ≠ 0) (hq : Q (.inl none) σ) : GG E mX12_readsTurn 50 [some (vr 172), some (vi x), none, none] [] σ 0 0 Q :=
  B_X12_readsTurn_50 hL (fun _ => M_fine0 hL h6 ⟨hL, fun _ => ⟨fun h9 => absurd rfl h9, fun _ _ => hq⟩⟩)
theorem M_readsTurn {s : Nat} {D : Int} {told : List (List Int)} (hL : Lay LM g c t σ) (hR : RdM σ B n s) (hs : s ≤ n) (hnb : ¬ isBl (atB B n) s) (hf : FnM σ) (hT : ST σ 1 D told)
    (h1 : ∀ told' els q, pTurn (atB B n) D told s = .inr (told', q) → clos D told' = some (.inr els) → q ≤ n → told'.length = told.length + 1 → ∀ τ, Lay LM g c t τ → Fr frQm (fun _ => False) σ τ → RdM τ B n q → FnM τ → ST τ 1 D told' → WhyM σ τ none → Q (.inl none) τ)
    (h0 : ∀ k s' w, pTurn (atB B n) D told s = .inl (k, s', w) → ∀ τ, Lay LM g c t τ → Fr frQm (fun _ => False) σ τ → FlM τ k s' → WhyM σ τ w → Q (.inl none) τ) : CC E mX12_readsTurn [vr 172] σ Q := by
  have h400 := hR.2.1
  have h4 := hT.2.2.2.2.1
  have hD := hT.2.1
  have hD5 := hT.2.2.1
  have e0 : upto (isBl (atB B n)) s = s := upto_no noBl hnb
  refine C_X12_readsTurn (B_X12_readsTurn_0 hL (fun _ => M_here hL hR hs (fun τ2 hL2 hF2 hR2 => ⟨hL2, fun _ _ => ?_⟩)))
  rw [e0] at hR2
  have f2 : FnM τ2 := hf.fr hF2 ⟨by omega, by omega⟩
  rw [hR2.2.2.2.2]
  have w0 : ∀ {τ : Sg} {W : Nat → Nat → Prop}, Fr W (fun _ => False) σ τ → (∀ j, ¬ W 186 j) → WhyM σ τ none := fun hF hW i hi => hF.i (by omega) (hW i)
  refine M_takes (w := wTurn) e0.symm hs hL2 hR2 f2.1 (fun τ hLτ => hLτ.str.2.2.2) (fun j hj => (wR_ok j hj).2) (fun hw hle τ4 hL4 hF4 hR4 => ?_) (fun hw τ4 hL4 hF4 hR4 => ?_)
  · have hF49 : Fr frMp (fun _ => False) σ τ4 := hF2.trans hF4
    have f4 : FnM τ4 := f2.fr hF4 ⟨by omega, by omega⟩
    have T4 : ST τ4 1 D told := hT.fr hF49 (by omega) (fun j => by omega)
    have q1 : gI τ4 177 1 = (told.length : Int) := T4.2.2.2.1
    refine ⟨hL4, fun _ => ⟨fun _ _ => M_fine1 hL4 f4.1 ⟨hL4, fun _ => ⟨fun h9 => absurd h9 (by decide), fun _ => ?_⟩⟩, fun h9 => absurd h9 (by decide)⟩⟩
    rw [q1]
    refine ⟨fun hne _ => ?_, fun he _ => ?_⟩
    · have hlt4 : told.length < 4 := by omega
      have eT : pTurn (atB B n) D told s = (match pNums (atB B n) 8 [] (s + 4) with
          | .inl e => .inl (e.1, e.2, none)
          | .inr (v, q) => match pSign (atB B n) 59 q with
            | .inl e => .inl (e.1, e.2, none)
            | .inr q2 => @ite _ (isTL D v) (Classical.propDecidable _) (match clos D (told ++ [v]) with
              | some (.inr _) => .inr (told ++ [v], q2)
              | some (.inl w) => .inl (5, s, some w)
              | none => .inl (5, s, none)) (.inl (4, s, none))) := by
        unfold pTurn
        rw [if_pos hw, if_neg (by omega)]
        rfl
      refine B_X12_readsTurn_50 hL4 (fun _ => M_fine1 hL4 f4.1 ⟨hL4, fun _ => ⟨fun _ => ?_, fun h9 => absurd h9 (by decide)⟩⟩)
      rw [q1, show (2 : Int) + 8 * (told.length : Int) = ((2 + 8 * told.length : Nat) : Int) by omega]
      refine ⟨⟨by omega, by omega⟩, ⟨by omega, by omega⟩, fun _ => ?_⟩
      -- once a fault is found
      have bad : ∀ (i : Nat) (τ : Sg) (k s' : Nat) (w : Option (Nat × Nat × Nat × Nat)), i ≤ 8 → pTurn (atB B n) D told s = .inl (k, s', w) → Lay LM g c t τ → Fr frQm (fun _ => False) σ τ → FlM τ k s' → WhyM σ τ w → GG E mX12_readsTurn 74 [some (vr 172), some (vi s), some (vi ((2 + 8 * told.length : Nat) : Int)), some (vi i)] [] τ 0 0 Q := by
        intro i τ k s' w hi hp hLτ hF hfl hwy
        have hk := (pTurn_k hp).1
        dsimp only at hk
        refine loopU (N := 8) (G := fun i τ => GG E mX12_readsTurn 74 [some (vr 172), some (vi s), some (vi ((2 + 8 * told.length : Nat) : Int)), some (vi i)] [] τ 0 0 Q) (P := fun i τ => Lay LM g c t τ ∧ Fr frQm (fun _ => False) σ τ ∧ FlM τ k s' ∧ WhyM σ τ w) ?_ ?_ i τ hi ⟨hLτ, hF, hfl, hwy⟩
        · rintro i τ hi ⟨hLτ, hF, hfl, hwy⟩ next
          have h6 : gI τ 172 6 ≠ 0 := by rw [hfl.1]; omega
          refine B_X12_readsTurn_74 hLτ ⟨fun h9 => absurd h9 (by omega), fun _ => ⟨⟨by omega, by omega⟩, fun _ => M_number0 hLτ h6 ⟨hLτ, fun _ => ⟨⟨by omega, by omega⟩, fun τ13 e13 => ⟨⟨by omega, by omega⟩, fun hL13 => ?_⟩⟩⟩⟩⟩
          have hF13 : Fr (fun a _ => a = 177) (fun _ => False) τ τ13 := by rw [e13]; exact Fr_of1 rfl
          exact next τ13 ⟨hL13, hF.trans (hF13.mono (fun a j h9 => .inr (.inl h9)) (fun _ h => h)), ⟨(hF13.i (by omega) (by omega)).trans hfl.1, (hF13.i (by omega) (by omega)).trans hfl.2⟩, fun j hj => (hF13.i (by omega) (by omega)).trans (hwy j hj)⟩
        · rintro τ ⟨hLτ, hF, hfl, hwy⟩
          have h6 : gI τ 172 6 ≠ 0 := by rw [hfl.1]; omega
          refine B_X12_readsTurn_74 hLτ ⟨fun _ _ => M_ends0 hLτ h6 ⟨hLτ, fun _ => M_fine0 hLτ h6 ⟨hLτ, fun _ => ⟨fun _ _ => ?_, fun h9 => absurd rfl h9⟩⟩⟩, fun h9 => absurd (by omega) h9⟩
          exact M_rt127 hLτ h6 (h0 k s' w hp τ hLτ hF hfl hwy)
      refine loopU (N := 8) (G := fun i τ => ∀ (l : List Int) (p : Nat), l.length = i → (∀ j, j < i → gI τ 177 (2 + 8 * told.length + j) = gd l j ∧ -4 ≤ gd l j ∧ gd l j ≤ 4) → pNums (atB B n) 8 [] (s + 4) = pNums (atB B n) (8 - i) l p → p ≤ n → RdM τ B n p → GG E mX12_readsTurn 74 [some (vr 172), some (vi s), some (vi ((2 + 8 * told.length : Nat) : Int)), some (vi i)] [] τ 0 0 Q)
        (P := fun i τ => Lay LM g c t τ ∧ Fr (fun a k => (a = 172 ∧ k = 4) ∨ a = 177) (fun _ => False) σ τ ∧ FnM τ ∧ ST τ 1 D told) ?_ ?_ 0 τ4 (by omega) ⟨hL4, hF49.mono (fun a k h9 => .inl h9) (fun _ h => h), f4, T4⟩ [] (s + 4) rfl (fun j hj => absurd hj (by omega)) rfl hle hR4
      · rintro i τ hi ⟨hLτ, hF, fτ, hTτ⟩ next l p hl hv hP hp hRτ
        have hd : 8 - i = (8 - (i + 1)) + 1 := by omega
        have eP : pNums (atB B n) (8 - i) l p = match pTold (atB B n) p with
            | .inl e => .inl e
            | .inr (v, q) => pNums (atB B n) (8 - (i + 1)) (l ++ [v]) q := by rw [hd]; rfl
        refine B_X12_readsTurn_74 hLτ ⟨fun h9 => absurd h9 (by omega), fun _ => ⟨⟨by omega, by omega⟩, fun _ => M_told hp hLτ hRτ fτ.1 (fun v q hpt hq v1 v2 χ hLχ hFχ hRχ => ?_) (fun k s' hpt χ hLχ hFχ hfl => ?_)⟩⟩
        · rw [hpt] at eP
          refine ⟨hLχ, fun _ => ⟨⟨by omega, by omega⟩, fun τ13 e13 => ⟨⟨by omega, by omega⟩, fun hL13 => ?_⟩⟩⟩
          rw [show (((2 + 8 * told.length : Nat) : Int) + (i : Int)).toNat = 2 + 8 * told.length + i by omega] at e13
          have q13 : ∀ a k, gI τ13 a k = if a = 177 ∧ k = 2 + 8 * told.length + i then v else gI χ a k := fun a k => by rw [e13, gI_sI]
          have hF13 : Fr (fun a k => a = 177 ∧ k = 2 + 8 * told.length + i) (fun _ => False) χ τ13 := by rw [e13]; exact Fr_of1 ⟨rfl, rfl⟩
          have hTχ := hTτ.fr hFχ (by omega) (fun j => by omega)
          have hT13 : ST τ13 1 D told := ⟨(hF13.i (by omega) (by omega)).trans hTχ.1, hD, hD5, (hF13.i (by omega) (by omega)).trans hTχ.2.2.2.1, h4, fun u hu => ⟨(hTχ.2.2.2.2.2 u hu).1, fun j hj => (hF13.i (by omega) (by omega)).trans ((hTχ.2.2.2.2.2 u hu).2 j hj)⟩⟩
          refine next τ13 ⟨hL13, (hF.trans (hFχ.mono (fun a k h9 => .inl h9) (fun _ h => h))).trans (hF13.mono (fun a k h9 => .inr h9.1) (fun _ h => h)), (fτ.fr hFχ ⟨by omega, by omega⟩).fr hF13 ⟨by omega, by omega⟩, hT13⟩ (l ++ [v]) q (by simp [hl]) (fun j hj => ?_) (hP.trans eP) hq (hRχ.fr hF13 ⟨by omega, by omega, fun j => by omega⟩)
          by_cases hji : j = i
          · subst hji
            have e : gd (l ++ [v]) j = v := by rw [gd_app, if_neg (by omega), hl, Nat.sub_self]; rfl
            rw [e, q13, if_pos ⟨rfl, rfl⟩]
            exact ⟨rfl, v1, v2⟩
          · have e : gd (l ++ [v]) j = gd l j := by rw [gd_app, if_pos (by omega)]
            rw [e, q13, if_neg (by omega), hFχ.i (by omega) (by omega)]
            exact hv j (by omega)
        · rw [hpt] at eP
          have hkk := pTold_k hpt
          refine ⟨hLχ, fun _ => ⟨⟨by omega, by omega⟩, fun τ13 e13 => ⟨⟨by omega, by omega⟩, fun hL13 => ?_⟩⟩⟩
          have hF13 : Fr (fun a _ => a = 177) (fun _ => False) χ τ13 := by rw [e13]; exact Fr_of1 rfl
          have hF9 : Fr (fun a k => frMf a k ∨ a = 177) (fun _ => False) σ τ13 := ((hF.mono (fun a k h9 => by omega) (fun _ h => h)).trans (hFχ.mono (fun a k h9 => .inl h9) (fun _ h => h))).trans (hF13.mono (fun a k h9 => .inr h9) (fun _ h => h))
          refine bad (i + 1) τ13 k s' none (by omega) ?_ hL13 (hF9.mono (fun a k h9 => by omega) (fun _ h => h)) ⟨(hF13.i (by omega) (by omega)).trans hfl.1, (hF13.i (by omega) (by omega)).trans hfl.2⟩ (w0 hF9 (fun j => by omega))
          rw [eT, hP, eP]
      · rintro τ ⟨hLτ, hF, fτ, hTτ⟩ l p hl hv hP hp hRτ
        have eP : pNums (atB B n) 8 [] (s + 4) = .inr (l, p) := hP
        rw [eP] at eT
        dsimp only at eT
        refine B_X12_readsTurn_74 hLτ ⟨fun _ _ => M_ends hp hLτ hRτ fτ.1 (fun q hps hq χ hLχ hFχ hRχ => ?_) (fun k s' hps χ hLχ hFχ hfl => ?_), fun h9 => absurd (by omega) h9⟩
        · rw [hps] at eT
          dsimp only at eT
          have fχ := fτ.fr hFχ ⟨by omega, by omega⟩
          have hTχ := hTτ.fr hFχ (by omega) (fun j => by omega)
          have hF9 : Fr (fun a k => (a = 172 ∧ k = 4) ∨ a = 177) (fun _ => False) σ χ := hF.trans (hFχ.mono (fun a k h9 => .inl h9) (fun _ h => h))
          have vχ : ∀ j, j < 8 → gI χ 177 (2 + 8 * told.length + j) = gd l j ∧ -4 ≤ gd l j ∧ gd l j ≤ 4 := fun j hj => by rw [hFχ.i (by omega) (by omega)]; exact hv j hj
          refine ⟨hLχ, fun _ => M_fine1 hLχ fχ.1 ⟨hLχ, fun _ => ⟨fun h9 => absurd h9 (by decide), fun _ _ => M_isTurn hLχ (by omega) ⟨hD, hD5⟩ hTχ.1 vχ (fun r r1 r0 => ⟨hLχ, fun _ => ⟨fun hr _ => ?_, fun hr _ => ?_⟩⟩)⟩⟩⟩
          · have hy : isTL D l := ⟨hl, of_ne9 r0 hr⟩
            rw [if_pos hy] at eT
            have hl5 : (told ++ [l]).length = told.length + 1 := by simp
            refine B_X12_readsTurn_127 hLχ (fun _ => M_fine1 hLχ fχ.1 ⟨hLχ, fun _ => ⟨fun _ => ?_, fun h9 => absurd h9 (by decide)⟩⟩)
            rw [show gI χ 177 1 = (told.length : Int) from hTχ.2.2.2.1]
            refine ⟨⟨by omega, by omega⟩, fun τ4' e4' hL4' => ?_⟩
            have hF4' : Fr (fun a k => a = 177 ∧ k = 1) (fun _ => False) χ τ4' := by rw [e4']; exact Fr_of1 ⟨rfl, rfl⟩
            have S2 : ST τ4' 1 D (told ++ [l]) := by
              refine ⟨(hF4'.i (by omega) (by omega)).trans hTχ.1, hD, hD5, ?_, by omega, fun u hu => ?_⟩
              · show gI τ4' 177 1 = _
                rw [e4', gI_sI, if_pos ⟨rfl, rfl⟩, hl5]; rfl
              · by_cases hul : u < told.length
                · rw [getD_app9 hul]
                  exact ⟨(hTχ.2.2.2.2.2 u hul).1, fun j hj => (hF4'.i (by omega) (by omega)).trans ((hTχ.2.2.2.2.2 u hul).2 j hj)⟩
                · have : u = told.length := by omega
                  subst this
                  rw [getD_last9]
                  exact ⟨hy, fun j hj => (hF4'.i (by omega) (by omega)).trans (vχ j hj).1⟩
            have f4' := fχ.fr hF4' ⟨by omega, by omega⟩
            have hR4' : RdM τ4' B n q := hRχ.fr hF4' ⟨by omega, by omega, fun j => by omega⟩
            have hF49' : Fr (fun a k => (a = 172 ∧ k = 4) ∨ a = 177) (fun _ => False) σ τ4' := hF9.trans (hF4'.mono (fun a k h9 => .inr h9.1) (fun _ h => h))
            obtain ⟨res, hres⟩ := clos_ends (D := D) (told := told ++ [l]) (by omega)
            refine S_closes (r := 1) hL4' (by omega) S2 hres ?_
            rw [hres] at eT
            match res, hres with
            | .inr els', hres =>
              intro τ6 hL6 hF6 hR6 hN6
              refine ⟨hL6, fun _ => ⟨fun _ _ => ?_, fun h9 => absurd h9 (by decide)⟩⟩
              exact h1 (told ++ [l]) els' q eT hres hq hl5 τ6 hL6 ((hF49'.mono (fun a k h9 => by omega) (fun _ h => h)).trans (hF6.mono (fun a k h9 => by omega) (fun _ h => h))) (hR4'.fr hF6 ⟨by omega, by omega, fun j => by omega⟩) (f4'.fr hF6 ⟨by omega, by omega⟩) (S2.fr hF6 (by omega) (fun j => by omega)) (fun i hi => (hF6.i (by omega) (by omega)).trans (hF49'.i (by omega) (by omega)))
            | .inl (k, m, i, u), hres =>
              intro τ6 hL6 hF6 p0 p1 p2 p3
              refine ⟨hL6, fun _ => ⟨fun h9 => absurd rfl h9, fun _ _ => M_wrong1 hL6 ((hF6.i (by omega) (by omega)).trans f4'.1) (fun ψ hLψ hFψ q6 q7 => ⟨hLψ, fun _ => ?_⟩)⟩⟩
              refine h0 5 s (some (k, m, i, u)) eT ψ hLψ (((hF49'.mono (fun a k h9 => by omega) (fun _ h => h)).trans (hF6.mono (fun a k h9 => by omega) (fun _ h => h))).trans (hFψ.mono (fun a k h9 => by omega) (fun _ h => h))) ⟨q6, q7⟩ (fun j hj => ?_)
              rw [hFψ.i (by omega) (by omega)]
              have : j = 0 ∨ j = 1 ∨ j = 2 ∨ j = 3 := by omega
              rcases this with rfl | rfl | rfl | rfl
              · exact p0
              · exact p1
              · exact p2
              · exact p3
          · have hno : ¬ isTL D l := fun h9 => of_eq9 r1 hr h9.2
            rw [if_neg hno] at eT
            refine M_wrong1 hLχ fχ.1 (fun ψ hLψ hFψ q6 q7 => ⟨hLψ, fun _ => M_rt127 hLψ (by omega) ?_⟩)
            have hFψ9 : Fr (fun a k => frMf a k ∨ a = 177) (fun _ => False) σ ψ := (hF9.mono (fun a k h9 => by omega) (fun _ h => h)).trans (hFψ.mono (fun a k h9 => by omega) (fun _ h => h))
            exact h0 4 s none eT ψ hLψ (hFψ9.mono (fun a k h9 => by omega) (fun _ h => h)) ⟨q6, q7⟩ (w0 hFψ9 (fun j => by omega))
        · rw [hps] at eT
          dsimp only at eT
          have hkk := pSign_k hps
          have h6 : gI χ 172 6 ≠ 0 := by rw [hfl.1]; omega
          have hFχ9 : Fr (fun a k => frMf a k ∨ a = 177) (fun _ => False) σ χ := (hF.mono (fun a k h9 => by omega) (fun _ h => h)).trans (hFχ.mono (fun a k h9 => by omega) (fun _ h => h))
          exact ⟨hLχ, fun _ => M_fine0 hLχ h6 ⟨hLχ, fun _ => ⟨fun _ _ => M_rt127 hLχ h6 (h0 k s' none eT χ hLχ (hFχ9.mono (fun a k h9 => by omega) (fun _ h => h)) hfl (w0 hFχ9 (fun j => by omega))), fun h9 => absurd rfl h9⟩⟩⟩
    · have eT : pTurn (atB B n) D told s = .inl (3, s, none) := by
        unfold pTurn
        rw [if_pos hw, if_pos (by omega)]
      refine M_wrong1 hL4 f4.1 (fun ψ hLψ hFψ q6 q7 => ⟨hLψ, fun _ => M_rt50 hLψ (by omega) ?_⟩)
      have hFψ9 : Fr frMf (fun _ => False) σ ψ := (hF49.mono (fun a k h9 => by omega) (fun _ h => h)).trans (hFψ.mono (fun a k h9 => by omega) (fun _ h => h))
      exact h0 3 s none eT ψ hLψ (hFψ9.mono (fun a k h9 => by omega) (fun _ h => h)) ⟨q6, q7⟩ (w0 hFψ9 (fun j => by omega))
  · have eT : pTurn (atB B n) D told s = .inl (1, s, none) := by
      unfold pTurn
      rw [if_neg hw]
    have hF49 : Fr frMp (fun _ => False) σ τ4 := hF2.trans hF4
    have f4 : FnM τ4 := f2.fr hF4 ⟨by omega, by omega⟩
    refine ⟨hL4, fun _ => ⟨fun h9 => absurd rfl h9, fun _ _ => M_wrong1 hL4 f4.1 (fun ψ hLψ hFψ q6 q7 => ⟨hLψ, fun _ => M_fine0 hLψ (by omega) ⟨hLψ, fun _ => ⟨fun _ _ => M_rt50 hLψ (by omega) ?_, fun h9 => absurd rfl h9⟩⟩⟩)⟩⟩
    have hFψ9 : Fr frMf (fun _ => False) σ ψ := (hF49.mono (fun a k h9 => by omega) (fun _ h => h)).trans (hFψ.mono (fun a k h9 => by omega) (fun _ h => h))
    exact h0 1 s none eT ψ hLψ (hFψ9.mono (fun a k h9 => by omega) (fun _ h => h)) ⟨q6, q7⟩ (w0 hFψ9 (fun j => by omega))
end S97
