/-! ===== Reader: a turn, a text; the class's text ===== -/
theorem isT_ext {D : Int} {f h : Nat → Int} (e : ∀ j, j < 8 → f j = h j) : isT D f ↔ isT D h := by
  unfold isT nW nP ew ep
  simp only [Nat.mul_zero, Nat.mul_one, Nat.zero_add, Nat.reduceMul, Nat.reduceAdd]
  rw [e 0 (by omega), e 1 (by omega), e 2 (by omega), e 3 (by omega), e 4 (by omega), e 5 (by omega), e 6 (by omega), e 7 (by omega)]
/-- what goes wrong with a closing -/
def WhyC (σ : Sg) (a k : Nat) : Option (Nat × Nat × Nat × Nat) → Prop
  | none => k ≠ 5
  | some x => k = 5 ∧ gI σ a 9 = (x.1 : Int) ∧ gI σ a 8 = (x.2.1 : Int) ∧ gI σ a 10 = (x.2.2.1 : Int) ∧ gI σ a 11 = (x.2.2.2 : Int)
abbrev frRd (a : Nat) : Nat → Nat → Prop := fun b k => (b = 19 ∧ (k = 3 ∨ k = 4 ∨ k = 5)) ∨ b = 20 ∨ (a ≤ b ∧ b ≤ a + 6)
theorem pSign_k {f : Nat → Int} {x : Int} {p k s : Nat} (h : pSign f x p = .inl (k, s)) : k = 1 := by
  unfold pSign at h
  split at h
  · cases h
  · cases h; rfl
theorem pTold_k {f : Nat → Int} {p k s : Nat} (h : pTold f p = .inl (k, s)) : k = 1 ∨ k = 2 := by
  rw [pTold_e rfl rfl rfl] at h
  generalize upto (isBl f) p = s0 at h
  generalize (if f s0 = 45 then upto (isBl f) (s0 + 1) else s0) = s1 at h
  generalize upto (isDg f) s1 = q at h
  by_cases h1 : isDg f s1
  · rw [if_pos h1] at h
    by_cases h2 : 4 < dgv f s1 (q - s1)
    · rw [if_pos h2] at h
      cases h
      exact .inr rfl
    · rw [if_neg h2] at h
      cases h
  · rw [if_neg h1] at h
    cases h
    exact .inl rfl
section S94
variable {E : Ev} {σ : Sg} {Q : NO → Sg → Prop} {g : Sg} {c t : Nat} {B : List Int} {n : Nat}
theorem S_readTurn {a s : Nat} {D : Int} {told : List (List Int)} (ha : isCl a) (hL : Lay LC g c t σ) (hB : TapeC σ B) (hn : n ≤ B.length) (hR : RdC σ n s) (hs : s ≤ n) (hnb : ¬ isBl (atB B n) s) (hT : CloT σ a D told)
    (h1 : ∀ told' els q, pTurn (atB B n) D told s = .inr (told', q) → clos D told' = some (.inr els) → q ≤ n → told'.length = told.length + 1 → ∀ τ, Lay LC g c t τ → Fr (frRd a) (fun _ => False) σ τ → RdC τ n q → CloT τ a D told' → CloE τ a D els → Tab τ a D told' els els.length 0 → Org τ a D told' els → gI τ 19 5 = gI σ 19 5 → Q (.inl (some (vi 1))) τ)
    (h0 : ∀ k s' w, pTurn (atB B n) D told s = .inl (k, s', w) → ∀ τ, Lay LC g c t τ → Fr (frRd a) (fun _ => False) σ τ → Flt τ k s' → WhyC τ a k w → Q (.inl (some (vi 0))) τ) : CC E mX7_readTurn [vr 19, vr a] σ Q := by
  have ar := ha.rg
  have h400 := hB.2.1
  have h4 := hT.2.2.2.2.1
  have hD := hT.2.1
  have hD5 := hT.2.2.1
  have e0 : upto (isBl (atB B n)) s = s := upto_no noBl hnb
  refine C_X7_readTurn (B_X7_readTurn_0 hL ha (fun _ => S_readWord (w := wTurn) hs hL hB hn hR (fun τ hLτ => hLτ.str.2.1) (fun j hj => (wR_ok j hj).2) (fun hw hle τ2 hL2 hF2 hR2 => ?_) (fun hw τ2 hL2 hF2 hfl => ?_)))
  · rw [e0] at hw hle hR2
    have hT2 := hT.fr hF2 ha ⟨fun _ => by omega, by omega, by omega⟩
    have hB2 := hB.fr hF2 ⟨fun _ => by omega, by omega⟩
    refine ⟨hL2, fun _ => ?_⟩
    rw [hT2.2.2.2.1, hR.2]
    refine ⟨fun _ => ⟨fun hlt _ => ?_, fun hge _ => ?_⟩, fun h9 => absurd h9 (by decide)⟩
    · have hlt4 : told.length < 4 := by omega
      have eT : pTurn (atB B n) D told s = (match pNums (atB B n) 8 [] (s + 4) with
          | .inl e => .inl (e.1, e.2, none)
          | .inr (v, q) => match pSign (atB B n) 59 q with
            | .inl e => .inl (e.1, e.2, none)
            | .inr q2 => @ite _ (isTL D v) (Classical.propDecidable _) (match clos D (told ++ [v]) with
              | some (.inr _) => .inr (told ++ [v], q2)
              | some (.inl w) => .inl (5, s, some w)
              | none => .inl (5, s, none)) (.inl (4, s, none))) := by
        unfold pTurn
        rw [if_pos hw, if_neg (by omega)]
        rfl
      refine loopU (N := 8) (G := fun i τ => ∀ (l : List Int) (p : Nat), l.length = i → (∀ j, j < i → gI τ 20 j = gd l j ∧ -4 ≤ gd l j ∧ gd l j ≤ 4) → pNums (atB B n) 8 [] (s + 4) = pNums (atB B n) (8 - i) l p → p ≤ n → RdC τ n p → GG E mX7_readTurn 33 [some (vr 19), some (vr a), some (vi s), some (vi i)] [] τ 0 0 Q)
        (P := fun i τ => Lay LC g c t τ ∧ Fr (frRd a) (fun _ => False) σ τ ∧ CloT τ a D told ∧ TapeC τ B ∧ gI τ 19 5 = gI σ 19 5) ?_ ?_ 0 τ2 (by omega) ⟨hL2, hF2.mono (fun b k h9 => by omega) (fun _ h => h), hT2, hB2, hF2.i (by omega) (by omega)⟩ [] (s + 4) rfl (fun j hj => absurd hj (by omega)) rfl hle hR2
      · rintro i τ hi ⟨hLτ, hF, hTτ, hBτ, h5⟩ next l p hl hv hP hp hRτ
        have hd : 8 - i = (8 - (i + 1)) + 1 := by omega
        have eP : pNums (atB B n) (8 - i) l p = match pTold (atB B n) p with
            | .inl e => .inl e
            | .inr (v, q) => pNums (atB B n) (8 - (i + 1)) (l ++ [v]) q := by rw [hd]; rfl
        refine B_X7_readTurn_33 hLτ ha ⟨fun h => absurd h (by omega), fun _ _ => S_readTold hi hp hLτ hBτ hn hRτ (fun v q hpt hq v1 v2 χ hLχ hFχ hRχ hvi hoth h5' => ?_) (fun k s' hpt χ hLχ hFχ hfl => ?_)⟩
        · rw [hpt] at eP
          have hTχ := hTτ.fr hFχ ha ⟨fun _ => by omega, by omega, by omega⟩
          refine ⟨hLχ, fun _ => ⟨fun _ => ⟨⟨by omega, by omega⟩, fun _ => ?_⟩, fun h9 => absurd h9 (by decide)⟩⟩
          refine next χ ⟨hLχ, hF.trans (hFχ.mono (fun b k h9 => by omega) (fun _ h => h)), hTχ, hBτ.fr hFχ ⟨fun _ => by omega, by omega⟩, h5'.trans h5⟩ (l ++ [v]) q (by simp [hl]) (fun j hj => ?_) (hP.trans eP) hq hRχ
          rw [gd_app]
          by_cases hji : j = i
          · rw [if_neg (by omega), hji, hl, Nat.sub_self]
            exact ⟨hvi, v1, v2⟩
          · rw [if_pos (by omega), hoth j hji]
            exact hv j (by omega)
        · rw [hpt] at eP
          have hkk := pTold_k hpt
          refine ⟨hLχ, fun _ => ⟨fun h9 => absurd rfl h9, fun _ _ => h0 k s' none ?_ χ hLχ (hF.trans (hFχ.mono (fun b k h9 => by omega) (fun _ h => h))) hfl (by show k ≠ 5; omega)⟩⟩
          rw [eT, hP, eP]
      · rintro τ ⟨hLτ, hF, hTτ, hBτ, h5⟩ l p hl hv hP hp hRτ
        have eP : pNums (atB B n) 8 [] (s + 4) = .inr (l, p) := hP
        rw [eP] at eT
        dsimp only at eT
        refine B_X7_readTurn_33 hLτ ha ⟨fun _ _ => S_readSign (x := 59) (by decide) hp hLτ hBτ hn hRτ (fun q hps hq χ hLχ hFχ hRχ => ?_) (fun k s' hps χ hLχ hFχ hfl => ?_), fun h9 => absurd (by omega) h9⟩
        · rw [hps] at eT
          dsimp only at eT
          have hTχ := hTτ.fr hFχ ha ⟨fun _ => by omega, by omega, by omega⟩
          have s20 : gS χ 20 = (20, 8) := hLχ.1 (20, 21, 20, 8) (by decide) 20 (by decide) (by decide)
          have v20 : ∀ j, j < 8 → gI χ 20 j = gd l j := fun j hj => (hFχ.i (by omega) (by omega)).trans (hv j hj).1
          have hFχ9 : Fr (frRd a) (fun _ => False) σ χ := hF.trans (hFχ.mono (fun b k h9 => by omega) (fun _ h => h))
          refine ⟨hLχ, fun _ => ⟨fun _ _ => ?_, fun h9 => absurd h9 (by decide)⟩⟩
          rw [hTχ.1]
          refine (S_isTurn11 (by decide) s20 (by omega) (fun j hj => by have := (hv j hj).2; rw [v20 j hj]; omega) (fun r r1 r0 => ⟨hLχ, fun _ => ⟨fun hr _ => ?_, fun hr _ => ?_⟩⟩))
          · have hy : isTL D l := ⟨hl, (isT_ext v20).mp (of_ne9 r0 hr)⟩
            rw [if_pos hy] at eT
            refine S_tell (x := 0) (n := 8) (v := l) hLχ ha (PA.of (i := 4) (lo := 20) (hi := 21) rfl (by omega) (by omega) (by decide) (by decide)) (by omega) hTχ hlt4 hy (fun j hj => by rw [Nat.zero_add]; exact v20 j hj) (fun τ5 hL5 hF5 hT5 => ⟨hL5, fun _ => ?_⟩)
            have hl5 : (told ++ [l]).length = told.length + 1 := by simp
            obtain ⟨res, hres⟩ := clos_ends (D := D) (told := told ++ [l]) (by omega)
            have hF59 : Fr (frRd a) (fun _ => False) σ τ5 := hFχ9.trans (hF5.mono (fun b k h9 => by omega) (fun _ h => h))
            refine S_close hL5 ha hT5 hres ?_
            rw [hres] at eT
            match res, hres with
            | .inr els', hres =>
              intro τ6 hL6 hO6 hE6 hTb hOr hone h9'
              have hFo := hO6.toFr
              refine ⟨hL6, fun _ => ⟨fun _ _ => ?_, fun h9 => absurd h9 (by decide)⟩⟩
              refine h1 (told ++ [l]) els' q eT hres hq hl5 τ6 hL6 (hF59.trans (hFo.mono (fun b k h9 => by omega) (fun _ h => h))) ⟨(hFo.i (by omega) (by omega)).trans ((hF5.i (by omega) (by omega)).trans hRχ.1), (hFo.i (by omega) (by omega)).trans ((hF5.i (by omega) (by omega)).trans hRχ.2)⟩ (hT5.on hO6) hE6 hTb hOr ?_
              exact (hFo.i (by omega) (by omega)).trans ((hF5.i (by omega) (by omega)).trans ((hFχ.i (by omega) (by omega)).trans h5))
            | .inl (k, m, i, u), hres =>
              intro τ6 hL6 hO6 q8 q9 q10 q11
              have hFo := hO6.toFr
              refine ⟨hL6, fun _ => ⟨fun h9 => absurd rfl h9, fun _ _ => S_fail7 hL6 (fun ψ hLψ hFψ p4 p5 => ⟨hLψ, fun _ => ⟨fun _ _ => ?_, fun h9 => absurd rfl h9⟩⟩)⟩⟩
              refine h0 5 s (some (k, m, i, u)) eT ψ hLψ ((hF59.trans (hFo.mono (fun b k h9 => by omega) (fun _ h => h))).trans (hFψ.mono (fun b k h9 => by omega) (fun _ h => h))) ⟨p4, p5⟩ ⟨rfl, (hFψ.i (by omega) (by omega)).trans q9, (hFψ.i (by omega) (by omega)).trans q8, (hFψ.i (by omega) (by omega)).trans q10, (hFψ.i (by omega) (by omega)).trans q11⟩
          · have hno : ¬ isTL D l := fun h9 => of_eq9 r1 hr ((isT_ext v20).mpr h9.2)
            rw [if_neg hno] at eT
            exact S_fail7 hLχ (fun ψ hLψ hFψ p4 p5 => ⟨hLψ, fun _ => ⟨.inl rfl, fun _ => h0 4 s none eT ψ hLψ (hFχ9.trans (hFψ.mono (fun b k h9 => by omega) (fun _ h => h))) ⟨p4, p5⟩ (by show (4 : Nat) ≠ 5; decide)⟩⟩)
        · rw [hps] at eT
          dsimp only at eT
          have hkk := pSign_k hps
          refine ⟨hLχ, fun _ => ⟨fun h9 => absurd rfl h9, fun _ _ => h0 k s' none eT χ hLχ (hF.trans (hFχ.mono (fun b k h9 => by omega) (fun _ h => h))) hfl (by show k ≠ 5; omega)⟩⟩
    · have eT : pTurn (atB B n) D told s = .inl (3, s, none) := by
        unfold pTurn
        rw [if_pos hw, if_pos (by omega)]
      exact S_fail7 hL2 (fun ψ hLψ hFψ p4 p5 => ⟨hLψ, fun _ => ⟨.inl rfl, fun _ => h0 3 s none eT ψ hLψ ((hF2.mono (fun b k h9 => by omega) (fun _ h => h)).trans (hFψ.mono (fun b k h9 => by omega) (fun _ h => h))) ⟨p4, p5⟩ (by show (3 : Nat) ≠ 5; decide)⟩⟩)
  · rw [e0] at hw hfl
    have eT : pTurn (atB B n) D told s = .inl (1, s, none) := by
      unfold pTurn
      rw [if_neg hw]
    exact ⟨hL2, fun _ => ⟨fun h9 => absurd rfl h9, fun _ _ => h0 1 s none eT τ2 hL2 (hF2.mono (fun b k h9 => by omega) (fun _ h => h)) hfl (by show (1 : Nat) ≠ 5; decide)⟩⟩
abbrev frRe (a : Nat) : Nat → Nat → Prop := fun b _ => b = 19 ∨ b = 20 ∨ (a ≤ b ∧ b ≤ a + 6)
theorem S_read {a : Nat} (ha : isCl a) (hL : Lay LC g c t σ) (hB : TapeC σ B) (hn : n ≤ B.length)
    (h1 : ∀ D told els, pText (atB B n) n = .inr (D, told) → (D = 2 ∨ D = 3 ∨ D = 5) → clos D told = some (.inr els) → ∀ τ, Lay LC g c t τ → Fr (frRe a) (fun _ => False) σ τ → CloT τ a D told → CloE τ a D els → Tab τ a D told els els.length 0 → Org τ a D told els → gI τ 19 5 = -1 → Q (.inl (some (vi 1))) τ)
    (h0 : ∀ k s' w, pText (atB B n) n = .inl (k, s', w) → ∀ τ, Lay LC g c t τ → Fr (frRe a) (fun _ => False) σ τ → Flt τ k s' → WhyC τ a k w → Q (.inl (some (vi 0))) τ) : CC E mX7_read [vr 19, vi n, vr a] σ Q := by
  have ar := ha.rg
  have h400 := hB.2.1
  refine C_X7_read (B_X7_read_0 hL ha (fun τ1 e1 τ2 e2 τ3 e3 τ4 e4 hL4 => ?_))
  have hF4 : Fr (frRe a) (fun _ => False) σ τ4 := by rw [e4, e3, e2, e1]; exact ((((Fr.refl σ).sI (.inl rfl)).sI (.inl rfl)).sI (.inl rfl)).sI (.inl rfl)
  have hR4 : RdC τ4 n 0 := ⟨by rw [e4, e3, e2, e1]; simp [gI_sI], by rw [e4, e3, e2, e1]; simp [gI_sI]⟩
  have h54 : gI τ4 19 5 = -1 := by rw [e4, gI_sI, if_pos ⟨rfl, rfl⟩]
  have hB4 := hB.fr hF4 ⟨fun _ => by omega, by omega⟩
  clear e1 e2 e3 e4
  have K9 := fun (s1 q : Nat) (v : Int) (q1 : s1 = upto (isBl (atB B n)) (upto (isBl (atB B n)) 0 + 4)) (q2 : q = upto (isDg (atB B n)) s1) (q3 : v = dgv (atB B n) s1 (q - s1)) => pText_e (f := atB B n) (n := n) rfl q1 q2 q3
  refine S_readWord (w := wRoot) (p := 0) (by omega) hL4 hB4 hn hR4 (fun τ hLτ => hLτ.str.1) (fun j hj => (wR_ok j hj).1) (fun hw hle τ6 hL6 hF6 hR6 => ?_) (fun hw τ6 hL6 hF6 hfl => ?_)
  · generalize upto (isBl (atB B n)) 0 = s at *
    have hB6 := hB4.fr hF6 ⟨fun _ => by omega, by omega⟩
    have h56 : gI τ6 19 5 = -1 := (hF6.i (by omega) (by omega)).trans h54
    have hF69 : Fr (frRe a) (fun _ => False) σ τ6 := hF4.trans (hF6.mono (fun b k h9 => by omega) (fun _ h => h))
    refine ⟨hL6, fun _ => ⟨fun h9 => absurd h9 (by decide), fun _ _ => C_X7_readRoot (B_X7_readRoot_0 hL6 ha (fun _ => S_skip (n - (s + 4)) (s + 4) τ6 rfl hle hL6 hB6 hn hR6 (fun τ7 hL7 hF7 hR7 => ⟨hL7, fun _ => ?_⟩)))⟩⟩
    have hs1n : upto (isBl (atB B n)) (s + 4) ≤ n := upto_le noBl hle
    have hsb : ¬ isBl (atB B n) (upto (isBl (atB B n)) (s + 4)) := (upto_s noBl).2.1
    have hB7 := hB6.fr hF7 ⟨fun _ => by omega, by omega⟩
    have h57 : gI τ7 19 5 = -1 := (hF7.i (by omega) (by omega)).trans h56
    have hF79 : Fr (frRe a) (fun _ => False) σ τ7 := hF69.trans (hF7.mono (fun b k h9 => by omega) (fun _ h => h))
    have K8 := fun (q : Nat) (v : Int) (q2 : q = upto (isDg (atB B n)) (upto (isBl (atB B n)) (s + 4))) (q3 : v = dgv (atB B n) (upto (isBl (atB B n)) (s + 4)) (q - upto (isBl (atB B n)) (s + 4))) => (K9 _ q v rfl q2 q3).trans (if_pos hw)
    generalize upto (isBl (atB B n)) (s + 4) = s1 at *
    have e01 : upto (isBl (atB B n)) s1 = s1 := upto_no noBl hsb
    refine S_readNumber hs1n hL7 hB7 hn hR7 (fun s2 hs2 hdg q hq τ8 hL8 hF8 hR8 => ?_) (fun s2 hs2 hnd τ8 hL8 hF8 hfl => ?_)
    · have : s2 = s1 := by rw [hs2, e01]
      subst this
      have KK := K8 q _ hq rfl
      rw [if_pos hdg] at KK
      have hqn : q ≤ n := by rw [hq]; exact upto_le noDg hs1n
      have us := upto_s (P := isDg (atB B n)) (p := s2) noDg
      rw [← hq] at us
      have hrng := dgv_rng (f := atB B n) (p := s2) (q - s2) (fun j hj => us.2.2 (s2 + j) (by omega) (by omega))
      generalize dgv (atB B n) s2 (q - s2) = D at *
      have hB8 := hB7.fr hF8 ⟨fun _ => by omega, by omega⟩
      have h58 : gI τ8 19 5 = -1 := (hF8.i (by omega) (by omega)).trans h57
      have hF89 : Fr (frRe a) (fun _ => False) σ τ8 := hF79.trans (hF8.mono (fun b k h9 => by omega) (fun _ h => h))
      -- behind the root
      have go : (D = 2 ∨ D = 3 ∨ D = 5) → ∀ τ9, Lay LC g c t τ9 → Fr (fun b k => b = a ∧ (k = 6 ∨ k = 7)) (fun _ => False) τ8 τ9 → gI τ9 a 6 = D → gI τ9 a 7 = 0 → CC E mX7_readSign [vr 19, vi 59] τ9 (KI (fun r9 τ10 => Lay LC g c t τ10 ∧ (inR r9 → ((r9 ≠ 0 → (Lay LC g c t τ10 → CC E mX1_close [vr a] τ10 (KI (fun r11 τ12 => Lay LC g c t τ12 ∧ (inR r11 → (Lay LC g c t τ12 → GG E mX7_read 55 [some (vr 19), none, some (vr a), some (vi 0)] [] τ12 0 0 Q))) (fun _ _ => False)))) ∧ (r9 = 0 → (Lay LC g c t τ10 → Q (.inl (some (vi 0))) τ10))))) (fun _ _ => False)) := by
        intro hD τ9 hL9 hF9 q6 q7
        rw [if_pos hD] at KK
        have hB9 := hB8.fr hF9 ⟨fun _ => by omega, by omega⟩
        have hR9 : RdC τ9 n q := ⟨(hF9.i (by omega) (by omega)).trans hR8.1, (hF9.i (by omega) (by omega)).trans hR8.2⟩
        have hF99 : Fr (frRe a) (fun _ => False) σ τ9 := hF89.trans (hF9.mono (fun b k h9 => by omega) (fun _ h => h))
        have h59 : gI τ9 19 5 = -1 := (hF9.i (by omega) (by omega)).trans h58
        refine S_readSign (x := 59) (by decide) hqn hL9 hB9 hn hR9 (fun q2 hps hq2 χ hLχ hFχ hRχ => ?_) (fun k s' hps χ hLχ hFχ hfl => ?_)
        · rw [hps] at KK
          dsimp only at KK
          have hTχ : CloT χ a D [] := CloT.nil (by omega) ((hFχ.i (by omega) (by omega)).trans q6) ((hFχ.i (by omega) (by omega)).trans q7)
          refine ⟨hLχ, fun _ => ⟨fun _ _ => ?_, fun h9 => absurd h9 (by decide)⟩⟩
          have hc0 : clos D [] = some (.inr [oneL]) := rfl
          refine S_close hLχ ha hTχ hc0 (fun τc hLc hOc hEc hTbc hOrc honec h9c => ⟨hLc, fun _ _ => ?_⟩)
          have hFo := hOc.toFr
          have hFχ9 : Fr (frRe a) (fun _ => False) σ χ := hF99.trans (hFχ.mono (fun b k h9 => by omega) (fun _ h => h))
          refine loopU (N := 5) (G := fun i τ => ∀ (told els : List (List Int)) (p : Nat), told.length = i → clos D told = some (.inr els) → pTurns (atB B n) n D 5 [] q2 = pTurns (atB B n) n D (5 - i) told p → p ≤ n → RdC τ n p → CloT τ a D told → CloE τ a D els → Tab τ a D told els els.length 0 → Org τ a D told els → GG E mX7_read 55 [some (vr 19), none, some (vr a), some (vi i)] [] τ 0 0 Q)
            (P := fun i τ => Lay LC g c t τ ∧ Fr (frRe a) (fun _ => False) σ τ ∧ TapeC τ B ∧ gI τ 19 5 = -1) ?_ ?_ 0 τc (by omega) ⟨hLc, hFχ9.trans (hFo.mono (fun b k h9 => by omega) (fun _ h => h)), (hB9.fr hFχ ⟨fun _ => by omega, by omega⟩).fr hFo ⟨fun _ => by omega, by omega⟩, (hFo.i (by omega) (by omega)).trans ((hFχ.i (by omega) (by omega)).trans h59)⟩
            [] [oneL] q2 rfl hc0 rfl hq2 ⟨(hFo.i (by omega) (by omega)).trans hRχ.1, (hFo.i (by omega) (by omega)).trans hRχ.2⟩ (hTχ.on hOc) hEc hTbc hOrc
          · rintro i τ hi ⟨hLτ, hF, hBτ, h5⟩ next told els p hl hc hP hp hRτ hT hE hTb hOr
            have hd : 5 - i = (5 - (i + 1)) + 1 := by omega
            have eP : pTurns (atB B n) n D (5 - i) told p = if n ≤ upto (isBl (atB B n)) p then .inr told else match pTurn (atB B n) D told (upto (isBl (atB B n)) p) with
                | .inl e => .inl e
                | .inr (told', q) => pTurns (atB B n) n D (5 - (i + 1)) told' q := by rw [hd]; rfl
            refine B_X7_read_55 hLτ ha ⟨fun h => absurd h (by omega), fun _ _ => S_skip (n - p) p τ rfl hp hLτ hBτ hn hRτ (fun χ2 hLχ2 hFχ2 hRχ2 => ⟨hLχ2, ?_⟩)⟩
            have hpn : upto (isBl (atB B n)) p ≤ n := upto_le noBl hp
            have hpb : ¬ isBl (atB B n) (upto (isBl (atB B n)) p) := (upto_s noBl).2.1
            generalize upto (isBl (atB B n)) p = p2 at *
            rw [hRχ2.1, hRχ2.2]
            have hTχ2 := hT.fr hFχ2 ha ⟨fun _ => by omega, by omega, by omega⟩
            have hF2 : Fr (frRe a) (fun _ => False) σ χ2 := hF.trans (hFχ2.mono (fun b k h9 => by omega) (fun _ h => h))
            have h52 : gI χ2 19 5 = -1 := (hFχ2.i (by omega) (by omega)).trans h5
            refine ⟨fun hlt _ => ?_, fun hge _ => ?_⟩
            · rw [if_neg (by omega)] at eP
              refine S_readTurn ha hLχ2 (hBτ.fr hFχ2 ⟨fun _ => by omega, by omega⟩) hn hRχ2 hpn hpb hTχ2 (fun told' els' q3 hpt hc' hq3 hl' ψ hLψ hFψ hRψ hTψ hEψ hTbψ hOrψ h5ψ => ?_) (fun k s' w hpt ψ hLψ hFψ hfl hwy => ?_)
              · rw [hpt] at eP
                exact ⟨hLψ, fun _ => ⟨fun _ => ⟨⟨by omega, by omega⟩, fun _ => next ψ ⟨hLψ, hF2.trans (hFψ.mono (fun b k h9 => by omega) (fun _ h => h)), (hBτ.fr hFχ2 ⟨fun _ => by omega, by omega⟩).fr hFψ ⟨fun _ => by omega, by omega⟩, h5ψ.trans h52⟩ told' els' q3 (by omega) hc' (hP.trans eP) hq3 hRψ hTψ hEψ hTbψ hOrψ⟩, fun h9 => absurd h9 (by decide)⟩⟩
              · rw [hpt] at eP
                refine ⟨hLψ, fun _ => ⟨fun h9 => absurd rfl h9, fun _ _ => h0 k s' w ?_ ψ hLψ (hF2.trans (hFψ.mono (fun b k h9 => by omega) (fun _ h => h))) hfl hwy⟩⟩
                rw [KK, hP, eP]
            · rw [if_pos (by omega)] at eP
              refine h1 D told els ?_ hD hc χ2 hLχ2 hF2 hTχ2 (hE.fr hFχ2 ha ⟨fun _ => by omega, by omega⟩) (fun k w hk hw9 hkw => ?_) (fun l q1 q2 => ?_) h52
              · rw [KK, hP, eP]
              · obtain ⟨m, r1, r2, r3⟩ := hTb k w hk hw9 hkw
                exact ⟨m, r1, r2, by rw [hFχ2.i (by omega) (by omega)]; exact r3⟩
              · obtain ⟨k, w, r1, r2, r3, r4, r5⟩ := hOr l q1 q2
                exact ⟨k, w, r1, r2, by rw [hFχ2.i (by omega) (by omega)]; exact r3, by rw [hFχ2.i (by omega) (by omega)]; exact r4, r5⟩
          · rintro τ ⟨hLτ, hF, hBτ, h5⟩ told els p hl hc hP hp hRτ hT hE hTb hOr
            have := hT.2.2.2.2.1
            omega
        · rw [hps] at KK
          dsimp only at KK
          have hkk := pSign_k hps
          exact ⟨hLχ, fun _ => ⟨fun h9 => absurd rfl h9, fun _ _ => h0 k s' none KK χ hLχ (hF99.trans (hFχ.mono (fun b k h9 => by omega) (fun _ h => h))) hfl (by show k ≠ 5; omega)⟩⟩
      refine ⟨hL8, fun _ => ⟨fun _ => ⟨fun hd _ => ?_, fun hn2 => ⟨fun hd _ => ?_, fun hn3 => ⟨fun hd _ => ?_, fun hn5 _ => ?_⟩⟩⟩, fun h => absurd h (by omega)⟩⟩
      · exact S_begin hL8 ha (fun τ9 hL9 hF9 q6 q7 => ⟨hL9, fun _ => ⟨hL9, fun _ => ⟨fun h9 => absurd h9 (by decide), fun _ _ => go (.inl hd) τ9 hL9 hF9 q6 q7⟩⟩⟩)
      · exact S_begin hL8 ha (fun τ9 hL9 hF9 q6 q7 => ⟨hL9, fun _ => ⟨hL9, fun _ => ⟨fun h9 => absurd h9 (by decide), fun _ _ => go (.inr (.inl hd)) τ9 hL9 hF9 q6 q7⟩⟩⟩)
      · exact S_begin hL8 ha (fun τ9 hL9 hF9 q6 q7 => ⟨hL9, fun _ => ⟨hL9, fun _ => ⟨fun h9 => absurd h9 (by decide), fun _ _ => go (.inr (.inr hd)) τ9 hL9 hF9 q6 q7⟩⟩⟩)
      · rw [if_neg (by omega)] at KK
        rw [hR7.2]
        exact S_fail7 hL8 (fun ψ hLψ hFψ p4 p5 => ⟨hLψ, fun _ => ⟨.inl rfl, fun _ => ⟨hLψ, fun _ => ⟨fun _ _ => h0 2 s2 none KK ψ hLψ (hF89.trans (hFψ.mono (fun b k h9 => by omega) (fun _ h => h))) ⟨p4, p5⟩ (by show (2 : Nat) ≠ 5; decide), fun h9 => absurd rfl h9⟩⟩⟩⟩)
    · have : s2 = s1 := by rw [hs2, e01]
      subst this
      have KK := K8 _ _ rfl rfl
      rw [if_neg hnd] at KK
      refine ⟨hL8, fun _ => ⟨fun h9 => absurd rfl h9, fun _ _ => ⟨hL8, fun _ => ⟨fun _ _ => h0 1 s2 none KK τ8 hL8 (hF79.trans (hF8.mono (fun b k h9 => by omega) (fun _ h => h))) hfl (by show (1 : Nat) ≠ 5; decide), fun h9 => absurd rfl h9⟩⟩⟩⟩
  · have KK := K9 _ _ _ rfl rfl rfl
    rw [if_neg hw] at KK
    exact ⟨hL6, fun _ => ⟨fun _ _ => h0 1 _ none KK τ6 hL6 (hF4.trans (hF6.mono (fun b k h9 => by omega) (fun _ h => h))) hfl (by show (1 : Nat) ≠ 5; decide), fun h9 => absurd rfl h9⟩⟩
end S94
