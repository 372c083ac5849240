/-! ===== Reader: blanks, numbers, words, signs ===== -/
def RdC (σ : Sg) (n p : Nat) : Prop := gI σ 19 2 = (n : Int) ∧ gI σ 19 3 = (p : Int)
abbrev frQ : Nat → Nat → Prop := fun a k => a = 19 ∧ k = 3
abbrev frQ2 : Nat → Nat → Prop := fun a k => a = 19 ∧ (k = 3 ∨ k = 4 ∨ k = 5)
def Flt (σ : Sg) (k s : Nat) : Prop := gI σ 19 4 = (k : Int) ∧ gI σ 19 5 = (s : Int)
section S92
variable {E : Ev} {σ : Sg} {Q : NO → Sg → Prop} {g : Sg} {c t : Nat} {B : List Int} {n : Nat}
theorem S_here {p : Nat} (hL : Lay LC g c t σ) (hB : TapeC σ B) (hn : n ≤ B.length) (hR : RdC σ n p) (hq : Q (.inl (some (vi (atB B n p)))) σ) : CC E mX7_here [vr 19] σ Q := by
  have h4 := hB.2.1
  refine C_X7_here (B_X7_here_0 hL ?_)
  rw [hR.2, hR.1, hB.1, show ((p : Nat) : Int).toNat = p by omega]
  unfold atB at hq
  refine ⟨fun h => absurd h (by omega), fun _ => ⟨fun h _ => ?_, fun h => ⟨fun h => absurd h (by omega), fun _ => ⟨⟨by omega, by omega⟩, fun _ => ?_⟩⟩⟩⟩
  · rw [if_neg (by omega)] at hq; exact hq
  · rw [if_pos (by omega), ← hB.2.2 p (by omega)] at hq; exact hq
theorem S_skip : ∀ (d p : Nat) (σ : Sg), n - p = d → p ≤ n → Lay LC g c t σ → TapeC σ B → n ≤ B.length → RdC σ n p → (∀ τ, Lay LC g c t τ → Fr frQ (fun _ => False) σ τ → RdC τ n (upto (isBl (atB B n)) p) → Q (.inl none) τ) → CC E mX7_skipBlanks [vr 19] σ Q := by
  have main : ∀ (d p : Nat) (σ : Sg), n - p = d → p ≤ n → Lay LC g c t σ → TapeC σ B → n ≤ B.length → RdC σ n p → (∀ τ, Lay LC g c t τ → Fr frQ (fun _ => False) σ τ → RdC τ n (upto (isBl (atB B n)) p) → Q (.inl none) τ) → GG E mX7_skipBlanks 0 [some (vr 19)] [] σ 0 0 Q := by
    intro d
    induction d with
    | zero =>
      intro p σ hd hp hL hB hn hR h
      refine B_X7_skipBlanks_0 hL ?_
      rw [hR.1, hR.2]
      refine ⟨fun _ _ => h σ hL (Fr.refl _) (by rw [upto_no noBl (noBl p (by omega))]; exact hR), fun h => absurd h (by omega)⟩
    | succ d ih =>
      intro p σ hd hp hL hB hn hR h
      refine B_X7_skipBlanks_0 hL ?_
      rw [hR.1, hR.2]
      refine ⟨fun h => absurd h (by omega), fun _ _ => S_here hL hB hn hR ⟨hL, fun _ => ⟨fun hne _ => h σ hL (Fr.refl _) (by rw [upto_no noBl hne]; exact hR), fun he => ?_⟩⟩⟩
      rw [hR.2]
      have h400 := hB.2.1
      refine ⟨⟨by omega, by omega⟩, fun τ4 e4 hL4 => ?_⟩
      have hF : Fr frQ (fun _ => False) σ τ4 := by rw [e4]; exact Fr_of1 ⟨rfl, rfl⟩
      refine ih (p + 1) τ4 (by omega) (by omega) hL4 (hB.fr hF ⟨fun _ => by omega, by omega⟩) hn ⟨by rw [e4, gI_sI, if_neg (by omega)]; exact hR.1, by rw [e4, gI_sI, if_pos ⟨rfl, rfl⟩]; rfl⟩ (fun τ hLτ hFτ hRτ => h τ hLτ (hF.trans hFτ) ?_)
      rw [upto_go noBl he]; exact hRτ
  exact fun d p σ h1 h2 h3 h4 h5 h6 h7 => C_X7_skipBlanks (main d p σ h1 h2 h3 h4 h5 h6 h7)
theorem S_fail7 {k s : Int} (hL : Lay LC g c t σ) (h : ∀ τ, Lay LC g c t τ → Fr (fun a j => a = 19 ∧ (j = 4 ∨ j = 5)) (fun _ => False) σ τ → gI τ 19 4 = k → gI τ 19 5 = s → Q (.inl (some (vi 0))) τ) : CC E mX7_fail [vr 19, vi k, vi s] σ Q :=
  C_X7_fail (B_X7_fail_0 hL (fun τ1 e1 τ2 e2 hL2 => by
    subst e1 e2
    exact h _ hL2 (((Fr.refl σ).sI ⟨rfl, .inl rfl⟩).sI ⟨rfl, .inr rfl⟩) (by simp [gI_sI]) (by simp [gI_sI])))
theorem S_isDigit7 {x : Int} (hq : ∀ r : Int, (48 ≤ x ∧ x ≤ 57 → r = 1) → (¬ (48 ≤ x ∧ x ≤ 57) → r = 0) → Q (.inl (some (vi r))) σ) : CC E mX7_isDigit [vi x] σ Q :=
  C_X7_isDigit (B_X7_isDigit_0 ⟨fun h => hq 0 (fun h9 => by omega) (fun _ => rfl), fun h => ⟨fun h2 => hq 0 (fun h9 => by omega) (fun _ => rfl), fun h2 => hq 1 (fun _ => rfl) (fun h9 => by omega)⟩⟩)
theorem S_isLetter7 {x : Int} (hq : ∀ r : Int, (97 ≤ x ∧ x ≤ 122 → r = 1) → (¬ (97 ≤ x ∧ x ≤ 122) → r = 0) → Q (.inl (some (vi r))) σ) : CC E mX7_isSmallLetter [vi x] σ Q :=
  C_X7_isSmallLetter (B_X7_isSmallLetter_0 ⟨fun h => hq 0 (fun h9 => by omega) (fun _ => rfl), fun h => ⟨fun h2 => hq 0 (fun h9 => by omega) (fun _ => rfl), fun h2 => hq 1 (fun _ => rfl) (fun h9 => by omega)⟩⟩)
theorem S_readNumber {p : Nat} (hp : p ≤ n) (hL : Lay LC g c t σ) (hB : TapeC σ B) (hn : n ≤ B.length) (hR : RdC σ n p)
    (h1 : ∀ s1, s1 = upto (isBl (atB B n)) p → isDg (atB B n) s1 → ∀ q, q = upto (isDg (atB B n)) s1 → ∀ τ, Lay LC g c t τ → Fr frQ (fun _ => False) σ τ → RdC τ n q → Q (.inl (some (vi (dgv (atB B n) s1 (q - s1))))) τ)
    (h0 : ∀ s1, s1 = upto (isBl (atB B n)) p → ¬ isDg (atB B n) s1 → ∀ τ, Lay LC g c t τ → Fr frQ2 (fun _ => False) σ τ → Flt τ 1 s1 → Q (.inl (some (vi (-1)))) τ) : CC E mX7_readNumber [vr 19] σ Q := by
  have h400 := hB.2.1
  refine C_X7_readNumber (B_X7_readNumber_0 hL (fun _ => S_skip (n - p) p σ rfl hp hL hB hn hR (fun τ2 hL2 hF2 hR2 => ⟨hL2, fun _ => ?_⟩)))
  generalize hse : upto (isBl (atB B n)) p = s1 at *
  have hB2 := hB.fr hF2 ⟨fun _ => by omega, by omega⟩
  have hs1n : s1 ≤ n := by rw [← hse]; exact upto_le noBl hp
  refine S_here hL2 hB2 hn hR2 ⟨hL2, fun _ _ => S_isDigit7 (fun r r1 r0 => ⟨hL2, fun _ => ⟨fun hr _ => ?_, fun hr _ => ?_⟩⟩)⟩
  · have hdg : isDg (atB B n) s1 := of_ne9 r0 hr
    have us := upto_s (P := isDg (atB B n)) (p := s1) noDg
    have ul := upto_le (P := isDg (atB B n)) (p := s1) noDg hs1n
    have K := h1 s1 rfl hdg _ rfl
    generalize hqe : upto (isDg (atB B n)) s1 = q at *
    obtain ⟨u1, u2, u3⟩ := us
    refine loopU (N := q - s1) (G := fun k τ => GG E mX7_readNumber 28 [some (vr 19), some (vi (dgv (atB B n) s1 k))] [] τ 0 0 Q) (P := fun k τ => Lay LC g c t τ ∧ Fr frQ (fun _ => False) σ τ ∧ RdC τ n (s1 + k)) ?_ ?_ 0 τ2 (by omega) ⟨hL2, hF2, hR2⟩
    · rintro k τ hk ⟨hLτ, hF, hRτ⟩ next
      have hdk := u3 (s1 + k) (by omega) (by omega)
      have hrng := dgv_rng (f := atB B n) (p := s1) k (fun j hj => u3 (s1 + j) (by omega) (by omega))
      have hBτ := hB.fr hF ⟨fun _ => by omega, by omega⟩
      have hkn : s1 + k < n := by
        apply Nat.not_le.mp
        intro h9
        exact noDg _ h9 hdk
      have e9 : dgv (atB B n) s1 (k + 1) = if 1000 ≤ dgv (atB B n) s1 k then dgv (atB B n) s1 k else 10 * dgv (atB B n) s1 k + atB B n (s1 + k) - 48 := rfl
      rw [e9] at next
      have hdk' : 48 ≤ atB B n (s1 + k) ∧ atB B n (s1 + k) ≤ 57 := hdk
      refine B_X7_readNumber_28 hLτ ?_
      rw [hRτ.1, hRτ.2]
      refine ⟨fun h => absurd h (by omega), fun _ _ => S_here hLτ hBτ hn hRτ ⟨hLτ, fun _ _ => S_isDigit7 (fun r r1 r0 => ⟨hLτ, fun _ => ⟨fun hr => absurd (r1 hdk) (by omega), fun _ => ⟨fun hbig => ?_, fun hsm => ⟨⟨by omega, by omega⟩, fun _ => S_here hLτ hBτ hn hRτ ⟨hLτ, fun _ => ⟨⟨by omega, by omega⟩, ⟨by omega, by omega⟩, ?_⟩⟩⟩⟩⟩⟩)⟩⟩
      · rw [hRτ.2]
        refine ⟨⟨by omega, by omega⟩, fun τ6 e6 hL6 => ?_⟩
        rw [if_pos hbig] at next
        subst e6
        exact next _ ⟨hL6, hF.sI ⟨rfl, rfl⟩, by rw [gI_sI, if_neg (by omega)]; exact hRτ.1, by rw [gI_sI, if_pos ⟨rfl, rfl⟩]; rfl⟩
      · rw [hRτ.2]
        refine ⟨⟨by omega, by omega⟩, fun τ6 e6 hL6 => ?_⟩
        rw [if_neg hsm] at next
        subst e6
        exact next _ ⟨hL6, hF.sI ⟨rfl, rfl⟩, by rw [gI_sI, if_neg (by omega)]; exact hRτ.1, by rw [gI_sI, if_pos ⟨rfl, rfl⟩]; rfl⟩
    · rintro τ ⟨hLτ, hF, hRτ⟩
      rw [show s1 + (q - s1) = q by omega] at hRτ
      have hBτ := hB.fr hF ⟨fun _ => by omega, by omega⟩
      refine B_X7_readNumber_28 hLτ ?_
      rw [hRτ.1, hRτ.2]
      refine ⟨fun _ _ => K τ hLτ hF hRτ, fun _ _ => S_here hLτ hBτ hn hRτ ⟨hLτ, fun _ _ => S_isDigit7 (fun r r1 r0 => ⟨hLτ, fun _ => ⟨fun _ _ => K τ hLτ hF hRτ, fun hr => absurd (of_ne9 r0 hr) u2⟩⟩)⟩⟩
  · have hnd : ¬ isDg (atB B n) s1 := of_eq9 r1 hr
    rw [hR2.2]
    refine S_fail7 hL2 (fun τ hLτ hF q4 q5 => ⟨hLτ, fun _ _ => h0 s1 rfl hnd τ hLτ ((hF2.mono (fun a j h9 => by omega) (fun _ h => h)).trans (hF.mono (fun a j h9 => by omega) (fun _ h => h))) ⟨q4, q5⟩⟩)
theorem S_readSign {p : Nat} {x : Int} (hx : x ≠ -1) (hp : p ≤ n) (hL : Lay LC g c t σ) (hB : TapeC σ B) (hn : n ≤ B.length) (hR : RdC σ n p)
    (h1 : ∀ q, pSign (atB B n) x p = .inr q → q ≤ n → ∀ τ, Lay LC g c t τ → Fr frQ (fun _ => False) σ τ → RdC τ n q → Q (.inl (some (vi 1))) τ)
    (h0 : ∀ k s, pSign (atB B n) x p = .inl (k, s) → ∀ τ, Lay LC g c t τ → Fr frQ2 (fun _ => False) σ τ → Flt τ k s → Q (.inl (some (vi 0))) τ) : CC E mX7_readSign [vr 19, vi x] σ Q := by
  have h400 := hB.2.1
  refine C_X7_readSign (B_X7_readSign_0 hL (fun _ => S_skip (n - p) p σ rfl hp hL hB hn hR (fun τ2 hL2 hF2 hR2 => ⟨hL2, fun _ => ?_⟩)))
  have hs1n : upto (isBl (atB B n)) p ≤ n := upto_le noBl hp
  unfold pSign at h1 h0
  generalize upto (isBl (atB B n)) p = s1 at *
  have hB2 := hB.fr hF2 ⟨fun _ => by omega, by omega⟩
  refine S_here hL2 hB2 hn hR2 ⟨hL2, fun _ => ⟨fun he => ?_, fun hne _ => ?_⟩⟩
  · have hlt : s1 < n := by
      apply Nat.not_le.mp
      intro h9
      rw [atB_end h9] at he
      exact hx he.symm
    rw [hR2.2]
    refine ⟨⟨by omega, by omega⟩, fun τ6 e6 hL6 => ?_⟩
    subst e6
    exact h1 (s1 + 1) (if_pos he) (by omega) _ hL6 (hF2.sI ⟨rfl, rfl⟩) ⟨by rw [gI_sI, if_neg (by omega)]; exact hR2.1, by rw [gI_sI, if_pos ⟨rfl, rfl⟩]; rfl⟩
  · rw [hR2.2]
    exact S_fail7 hL2 (fun τ hLτ hF q4 q5 => ⟨hLτ, fun _ => ⟨.inl rfl, fun _ => h0 1 s1 (if_neg hne) τ hLτ ((hF2.mono (fun a j h9 => by omega) (fun _ h => h)).trans (hF.mono (fun a j h9 => by omega) (fun _ h => h))) ⟨q4, q5⟩⟩⟩)
/-- a string of four, outside -/
def Str4 (σ : Sg) (a : Nat) (w : Nat → Int) : Prop := (0 < a ∧ a < 16) ∧ (gS σ a).1 = 32 ∧ gI σ a 1 = 0 ∧ 0 < gR σ a 0 ∧ gR σ a 0 < 16 ∧ gS σ (gR σ a 0) = (31, 4) ∧ ∀ j, j < 4 → gI σ (gR σ a 0) j = w j
theorem Lay.str {Y : LY} (hL : Lay Y g c t σ) : Str4 σ 6 wRoot ∧ Str4 σ 7 wTurn ∧ Str4 σ 10 wRoot ∧ Str4 σ 11 wTurn := by
  have h := hL.xt.2.2.2.2
  exact ⟨⟨by omega, h (6, 0) (by decide)⟩, ⟨by omega, h (7, 1) (by decide)⟩, ⟨by omega, h (10, 0) (by decide)⟩, ⟨by omega, h (11, 1) (by decide)⟩⟩
theorem S_length {a : Nat} {w : Nat → Int} (hS : Str4 σ a w) (hq : Q (.inl (some (vi 4))) σ) : CC E mJ0_length_8abf5 [vr a] σ Q := by
  obtain ⟨s1, s2, s3, s4, s5, s6, s7⟩ := hS
  refine C_J0_length_8abf5 (B_J0_length_8abf5_0 ⟨⟨s1, s2⟩, ⟨.inr ⟨s4, s5, by rw [s6]; exact .inr rfl⟩, by rw [s6]; decide⟩, ⟨s1, s2⟩, C_J0_coder_7d493 (B_J0_coder_7d493_0 ⟨fun h => absurd h (by decide), fun _ => ⟨⟨s1, s2⟩, s3, fun _ => ?_⟩⟩)⟩)
  rw [s6, s3]
  exact hq
theorem S_charAt {a j : Nat} {w : Nat → Int} (hS : Str4 σ a w) (hj : j < 4) (hw : b_i2cq (b_iandq (w j) 255) = w j) (hr : 0 ≤ w j ∧ w j ≤ 65535) (hq : Q (.inl (some (vi (w j)))) σ) : CC E mJ0_charAt_5068e [vr a, vi j] σ Q := by
  obtain ⟨s1, s2, s3, s4, s5, s6, s7⟩ := hS
  have e7 := s7 j hj
  refine C_J0_charAt_5068e (B_J0_charAt_5068e_0 ⟨⟨s1, s2⟩, C_J0_isLatin1_aae02 (B_J0_isLatin1_aae02_0 ⟨fun h => absurd h (by decide), fun _ => ⟨⟨s1, s2⟩, fun h => absurd s3 h, fun _ _ => ⟨fun h => absurd h (by decide), fun _ => ⟨⟨s1, s2⟩, ?_⟩⟩⟩⟩)⟩)
  refine C_J1_charAt_3b067 (B_J1_charAt_3b067_0 ⟨⟨.inr ⟨s4, s5, by rw [s6]; exact .inr rfl⟩, by rw [s6]; decide⟩, ?_⟩)
  rw [s6]
  refine C_J0_checkIndex_df160 (B_J0_checkIndex_df160_0 (C_J3_checkIndex_8e157 (B_J3_checkIndex_8e157_0 ⟨fun h => absurd h (by omega), fun _ => ⟨fun _ _ => ⟨okA_ofX (n := 4) s6 ⟨s4, s5⟩ ⟨by omega, by omega⟩, ?_⟩, fun h => absurd (by show (j : Int) < ((4 : Nat) : Int); omega) h⟩⟩)))
  rw [show ((j : Nat) : Int).toNat = j by omega, e7, hw]
  exact ⟨hr, fun _ => ⟨hr, hq⟩⟩
theorem wR_ok : ∀ j, j < 4 → (b_i2cq (b_iandq (wRoot j) 255) = wRoot j ∧ 97 ≤ wRoot j ∧ wRoot j ≤ 122) ∧ (b_i2cq (b_iandq (wTurn j) 255) = wTurn j ∧ 97 ≤ wTurn j ∧ wTurn j ≤ 122) := by decide +kernel
end S92
