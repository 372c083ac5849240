/-! ===== the reference: reading ===== -/
def RdM (σ : Sg) (B : List Int) (n p : Nat) : Prop := gI σ 172 3 = (n : Int) ∧ n ≤ 400 ∧ n ≤ B.length ∧ (∀ i, i < n → gI σ 174 i = gd B i) ∧ gI σ 172 4 = (p : Int)
def FnM (σ : Sg) : Prop := gI σ 172 6 = 0 ∧ gI σ 172 7 = -1
def FlM (σ : Sg) (k s : Nat) : Prop := gI σ 172 6 = (k : Int) ∧ gI σ 172 7 = (s : Int)
abbrev frMp : Nat → Nat → Prop := fun a k => a = 172 ∧ k = 4
abbrev frMf : Nat → Nat → Prop := fun a k => a = 172 ∧ (k = 4 ∨ k = 6 ∨ k = 7)
theorem wordAt_iff {f w : Nat → Int} {n s : Nat} (hn : ∀ q, n ≤ q → ¬ isLe f q) (hw : ∀ j, j < 4 → 97 ≤ w j ∧ w j ≤ 122) : wordAt f w s ↔ (∀ i, i < 4 → f (s + i) = w i) ∧ ¬ isLe f (s + 4) := by
  constructor
  · intro h
    have us := upto_s (p := s) hn
    rw [h.1] at us
    exact ⟨h.2, us.2.1⟩
  · intro h
    refine ⟨upto_un hn (by omega) h.2 (fun j h1 h2 => ?_), h.1⟩
    obtain ⟨i, hi, rfl⟩ : ∃ i, i < 4 ∧ j = s + i := ⟨j - s, by omega, by omega⟩
    show 97 ≤ f (s + i) ∧ f (s + i) ≤ 122
    rw [h.1 i hi]
    exact hw i hi
section S96
variable {E : Ev} {σ : Sg} {Q : NO → Sg → Prop} {g : Sg} {c t : Nat} {B : List Int} {n : Nat}
theorem RdM.fr {W : Nat → Nat → Prop} {V : Nat → Prop} {τ : Sg} {p : Nat} (h : RdM σ B n p) (k : Fr W V σ τ) (w : ¬ W 172 3 ∧ ¬ W 172 4 ∧ ∀ j, ¬ W 174 j) : RdM τ B n p :=
  ⟨(k.i (by omega) w.1).trans h.1, h.2.1, h.2.2.1, fun i hi => (k.i (by omega) (w.2.2 i)).trans (h.2.2.2.1 i hi), (k.i (by omega) w.2.1).trans h.2.2.2.2⟩
theorem RdM.go {τ : Sg} {p q : Nat} (h : RdM σ B n p) (k : Fr frMp (fun _ => False) σ τ) (hq : gI τ 172 4 = (q : Int)) : RdM τ B n q :=
  ⟨(k.i (by omega) (by omega)).trans h.1, h.2.1, h.2.2.1, fun i hi => (k.i (by omega) (by omega)).trans (h.2.2.2.1 i hi), hq⟩
theorem FnM.fr {W : Nat → Nat → Prop} {V : Nat → Prop} {τ : Sg} (h : FnM σ) (k : Fr W V σ τ) (w : ¬ W 172 6 ∧ ¬ W 172 7) : FnM τ :=
  ⟨(k.i (by omega) w.1).trans h.1, (k.i (by omega) w.2).trans h.2⟩
theorem M_fine1 (hL : Lay LM g c t σ) (h : gI σ 172 6 = 0) (hq : Q (.inl (some (vi 1))) σ) : CC E mX12_fine [vr 172] σ Q :=
  C_X12_fine (B_X12_fine_0 hL ⟨fun h9 => absurd h h9, fun _ _ => hq⟩)
theorem M_fine0 (hL : Lay LM g c t σ) (h : gI σ 172 6 ≠ 0) (hq : Q (.inl (some (vi 0))) σ) : CC E mX12_fine [vr 172] σ Q :=
  C_X12_fine (B_X12_fine_0 hL ⟨fun _ _ => hq, fun h9 => absurd h9 h⟩)
theorem M_wrong1 {k s : Int} (hL : Lay LM g c t σ) (h : gI σ 172 6 = 0) (hq : ∀ τ, Lay LM g c t τ → Fr (fun a j => a = 172 ∧ (j = 6 ∨ j = 7)) (fun _ => False) σ τ → gI τ 172 6 = k → gI τ 172 7 = s → Q (.inl none) τ) : CC E mX12_wrong [vr 172, vi k, vi s] σ Q :=
  C_X12_wrong (B_X12_wrong_0 hL ⟨fun h9 => absurd h h9, fun _ τ1 e1 τ2 e2 hL2 => by
    subst e1 e2
    exact hq _ hL2 (((Fr.refl σ).sI ⟨rfl, .inl rfl⟩).sI ⟨rfl, .inr rfl⟩) (by simp [gI_sI]) (by simp [gI_sI])⟩)
theorem M_wrong0 {k s : Int} (hL : Lay LM g c t σ) (h : gI σ 172 6 ≠ 0) (hq : Q (.inl none) σ) : CC E mX12_wrong [vr 172, vi k, vi s] σ Q :=
  C_X12_wrong (B_X12_wrong_0 hL ⟨fun _ _ => hq, fun h9 => absurd h9 h⟩)
theorem M_isDigit {x : Int} (hq : ∀ r : Int, (48 ≤ x ∧ x ≤ 57 → r = 1) → (¬ (48 ≤ x ∧ x ≤ 57) → r = 0) → Q (.inl (some (vi r))) σ) : CC E mX12_isDigit [vi x] σ Q :=
  C_X12_isDigit (B_X12_isDigit_0 ⟨fun h => hq 0 (fun h9 => by omega) (fun _ => rfl), fun h => ⟨fun h2 => hq 0 (fun h9 => by omega) (fun _ => rfl), fun h2 => hq 1 (fun _ => rfl) (fun h9 => by omega)⟩⟩)
theorem M_isSmall {x : Int} (hq : ∀ r : Int, (97 ≤ x ∧ x ≤ 122 → r = 1) → (¬ (97 ≤ x ∧ x ≤ 122) → r = 0) → Q (.inl (some (vi r))) σ) : CC E mX12_isSmall [vi x] σ Q :=
  C_X12_isSmall (B_X12_isSmall_0 ⟨fun h => hq 0 (fun h9 => by omega) (fun _ => rfl), fun h => ⟨fun h2 => hq 0 (fun h9 => by omega) (fun _ => rfl), fun h2 => hq 1 (fun _ => rfl) (fun h9 => by omega)⟩⟩)
theorem M_byteAt {p q : Nat} {x : Int} (hx : x = (q : Int)) (hL : Lay LM g c t σ) (hR : RdM σ B n p) (hq : Q (.inl (some (vi (atB B n q)))) σ) : CC E mX12_byteAt [vr 172, vi x] σ Q := by
  have h4 := hR.2.1
  refine C_X12_byteAt (B_X12_byteAt_0 hL ?_)
  rw [hR.1, hx, show ((q : Nat) : Int).toNat = q by omega]
  unfold atB at hq
  refine ⟨fun h => ⟨⟨by omega, by omega⟩, fun _ => ?_⟩, fun h _ => ?_⟩
  · rw [if_pos (by omega)] at hq
    rw [hR.2.2.2.1 q (by omega)]; exact hq
  · rw [if_neg (by omega)] at hq; exact hq
theorem M_here {p : Nat} (hL : Lay LM g c t σ) (hR : RdM σ B n p) (hp : p ≤ n)
    (h : ∀ τ, Lay LM g c t τ → Fr frMp (fun _ => False) σ τ → RdM τ B n (upto (isBl (atB B n)) p) → Q (.inl (some (vi (atB B n (upto (isBl (atB B n)) p))))) τ) : CC E mX12_here [vr 172] σ Q := by
  have main : ∀ (d p : Nat) (σ : Sg), n - p = d → p ≤ n → Lay LM g c t σ → RdM σ B n p → (∀ τ, Lay LM g c t τ → Fr frMp (fun _ => False) σ τ → RdM τ B n (upto (isBl (atB B n)) p) → Q (.inl (some (vi (atB B n (upto (isBl (atB B n)) p))))) τ) → GG E mX12_here 0 [some (vr 172)] [] σ 0 0 Q := by
    intro d
    induction d with
    | zero =>
      intro p σ hd hp hL hR h
      have e0 : upto (isBl (atB B n)) p = p := upto_no noBl (noBl p (by omega))
      have K := h σ hL (Fr.refl _) (by rw [e0]; exact hR)
      rw [e0] at K
      refine B_X12_here_0 hL (fun _ => M_byteAt hR.2.2.2.2 hL hR ⟨hL, fun _ => ⟨fun _ _ => M_byteAt hR.2.2.2.2 hL hR ⟨hL, fun _ _ => K⟩, fun h9 => absurd h9 (noBl p (by omega))⟩⟩)
    | succ d ih =>
      intro p σ hd hp hL hR h
      have h400 := hR.2.1
      refine B_X12_here_0 hL (fun _ => M_byteAt hR.2.2.2.2 hL hR ⟨hL, fun _ => ⟨fun hne _ => ?_, fun he => ?_⟩⟩)
      · have e0 : upto (isBl (atB B n)) p = p := upto_no noBl hne
        have K := h σ hL (Fr.refl _) (by rw [e0]; exact hR)
        rw [e0] at K
        exact M_byteAt hR.2.2.2.2 hL hR ⟨hL, fun _ _ => K⟩
      · rw [hR.2.2.2.2]
        refine ⟨⟨by omega, by omega⟩, fun τ6 e6 hL6 => ?_⟩
        have hF : Fr frMp (fun _ => False) σ τ6 := by rw [e6]; exact Fr_of1 ⟨rfl, rfl⟩
        have e1 := upto_go (p := p) (noBl (B := B) (n := n)) he
        refine ih (p + 1) τ6 (by omega) (by omega) hL6 (hR.go hF (by rw [e6, gI_sI, if_pos ⟨rfl, rfl⟩]; rfl)) (fun τ hLτ hFτ hRτ => ?_)
        rw [← e1] at hRτ ⊢
        exact h τ hLτ (hF.trans hFτ) hRτ
  exact C_X12_here (main (n - p) p σ rfl hp hL hR h)
theorem M_takes0 {a : Nat} (hL : Lay LM g c t σ) (h6 : gI σ 172 6 ≠ 0) (hq : Q (.inl (some (vi 0))) σ) : CC E mX12_takes [vr 172, vr a] σ Q :=
  C_X12_takes (B_X12_takes_0 hL (fun _ => M_fine0 hL h6 ⟨hL, fun _ => ⟨fun h9 => absurd rfl h9, fun _ _ => hq⟩⟩))
theorem M_takes {a p s : Nat} {w : Nat → Int} (hs : s = upto (isBl (atB B n)) p) (hp : p ≤ n) (hL : Lay LM g c t σ) (hR : RdM σ B n p) (h6 : gI σ 172 6 = 0) (ha : ∀ τ, Lay LM g c t τ → Str4 τ a w) (hw : ∀ j, j < 4 → b_i2cq (b_iandq (w j) 255) = w j ∧ 97 ≤ w j ∧ w j ≤ 122)
    (h1 : wordAt (atB B n) w s → s + 4 ≤ n → ∀ τ, Lay LM g c t τ → Fr frMp (fun _ => False) σ τ → RdM τ B n (s + 4) → Q (.inl (some (vi 1))) τ)
    (h0 : ¬ wordAt (atB B n) w s → ∀ τ, Lay LM g c t τ → Fr frMp (fun _ => False) σ τ → RdM τ B n s → Q (.inl (some (vi 0))) τ) : CC E mX12_takes [vr 172, vr a] σ Q := by
  have h400 := hR.2.1
  have hsn : s ≤ n := by rw [hs]; exact upto_le noBl hp
  have hwi := wordAt_iff (f := atB B n) (w := w) (s := s) (n := n) noLe (fun j hj => (hw j hj).2)
  refine C_X12_takes (B_X12_takes_0 hL (fun _ => M_fine1 hL h6 ⟨hL, fun _ => ⟨fun _ _ => M_here hL hR hp (fun τ2 hL2 hF2 hR2 => ⟨hL2, fun _ _ => ?_⟩), fun h9 => absurd h9 (by decide)⟩⟩))
  rw [← hs] at hR2
  have hS := ha τ2 hL2
  have bad : ¬ wordAt (atB B n) w s → Q (.inl (some (vi 0))) τ2 := fun hno => h0 hno τ2 hL2 hF2 hR2
  refine loopU (N := 4) (G := fun k τ => GG E mX12_takes 16 [some (vr 172), some (vr a), some (vi k)] [] τ 0 0 Q) (P := fun k τ => τ = τ2 ∧ ∀ i, i < k → atB B n (s + i) = w i) ?_ ?_ 0 τ2 (by omega) ⟨rfl, fun i hi => absurd hi (by omega)⟩
  · rintro k τ hk ⟨rfl, hpre⟩ next
    have hwk := hw k hk
    have hsk : s + k ≤ n := by
      apply Nat.not_lt.mp
      intro h9
      have h8 := hpre (k - 1) (by omega)
      have h7 := hw (k - 1) (by omega)
      rw [atB_end (by omega)] at h8
      omega
    refine B_X12_takes_16 hL2 ⟨⟨hS.1, hS.2.1⟩, fun _ => S_length hS ⟨hL2, fun _ => ⟨fun h9 => absurd h9 (by omega), fun _ => ?_⟩⟩⟩
    rw [hR2.2.2.2.2]
    refine ⟨⟨by omega, by omega⟩, fun _ => M_byteAt (q := s + k) (by omega) hL2 hR2 ⟨hL2, fun _ => ⟨⟨hS.1, hS.2.1⟩, fun _ => S_charAt hS hk hwk.1 (by omega) ⟨hL2, fun _ => ⟨fun hne => ⟨⟨hS.1, hS.2.1⟩, fun _ => S_length hS ⟨hL2, fun _ => ⟨fun _ _ => bad (fun h9 => hne (h9.2 k hk)), fun h9 => absurd (by omega) h9⟩⟩⟩, fun he => ⟨⟨by omega, by omega⟩, fun _ => next τ ⟨rfl, fun i hi => ?_⟩⟩⟩⟩⟩⟩⟩
    by_cases hik : i = k
    · rw [hik]; exact he
    · exact hpre i (by omega)
  · rintro τ ⟨rfl, hpre⟩
    have hs4 : s + 4 ≤ n := by
      apply Nat.not_lt.mp
      intro h9
      have h8 := hpre 3 (by omega)
      have h7 := hw 3 (by omega)
      rw [atB_end (by omega)] at h8
      omega
    refine B_X12_takes_16 hL2 ⟨⟨hS.1, hS.2.1⟩, fun _ => S_length hS ⟨hL2, fun _ => ⟨fun _ => ⟨⟨hS.1, hS.2.1⟩, fun _ => S_length hS ⟨hL2, fun _ => ⟨fun h9 => absurd h9 (by omega), fun _ => ?_⟩⟩⟩, fun h9 => absurd (by omega) h9⟩⟩⟩
    rw [hR2.2.2.2.2]
    refine ⟨⟨by omega, by omega⟩, fun _ => M_byteAt (q := s + 4) (by omega) hL2 hR2 ⟨hL2, fun _ _ => M_isSmall (fun r r1 r0 => ⟨hL2, fun _ => ⟨fun hr => ?_, fun hr _ => bad (fun h9 => (hwi.mp h9).2 (of_ne9 r0 hr))⟩⟩)⟩⟩
    rw [hR2.2.2.2.2]
    refine ⟨⟨by omega, by omega⟩, fun τ13 e13 hL13 => ?_⟩
    have hF : Fr frMp (fun _ => False) τ τ13 := by rw [e13]; exact Fr_of1 ⟨rfl, rfl⟩
    exact h1 (hwi.mpr ⟨hpre, of_eq9 r1 hr⟩) hs4 τ13 hL13 (hF2.trans hF) (hR2.go hF (by rw [e13, gI_sI, if_pos ⟨rfl, rfl⟩]; omega))
theorem M_ends0 (hL : Lay LM g c t σ) (h6 : gI σ 172 6 ≠ 0) (hq : Q (.inl none) σ) : CC E mX12_ends [vr 172] σ Q :=
  C_X12_ends (B_X12_ends_0 hL (fun _ => M_fine0 hL h6 ⟨hL, fun _ => ⟨fun h9 => absurd rfl h9, fun _ _ => hq⟩⟩))
theorem M_ends {p : Nat} (hp : p ≤ n) (hL : Lay LM g c t σ) (hR : RdM σ B n p) (h6 : gI σ 172 6 = 0)
    (h1 : ∀ q, pSign (atB B n) 59 p = .inr q → q ≤ n → ∀ τ, Lay LM g c t τ → Fr frMp (fun _ => False) σ τ → RdM τ B n q → Q (.inl none) τ)
    (h0 : ∀ k s, pSign (atB B n) 59 p = .inl (k, s) → ∀ τ, Lay LM g c t τ → Fr frMf (fun _ => False) σ τ → FlM τ k s → Q (.inl none) τ) : CC E mX12_ends [vr 172] σ Q := by
  have h400 := hR.2.1
  have hsn : upto (isBl (atB B n)) p ≤ n := upto_le noBl hp
  have e : pSign (atB B n) 59 p = if atB B n (upto (isBl (atB B n)) p) = 59 then .inr (upto (isBl (atB B n)) p + 1) else .inl (1, upto (isBl (atB B n)) p) := rfl
  refine C_X12_ends (B_X12_ends_0 hL (fun _ => M_fine1 hL h6 ⟨hL, fun _ => ⟨fun _ _ => M_here hL hR hp (fun τ2 hL2 hF2 hR2 => ⟨hL2, fun _ => ?_⟩), fun h9 => absurd h9 (by decide)⟩⟩))
  generalize upto (isBl (atB B n)) p = s at *
  rw [hR2.2.2.2.2]
  have h62 : gI τ2 172 6 = 0 := (hF2.i (by omega) (by omega)).trans h6
  refine ⟨fun hne _ => ?_, fun he => ⟨⟨by omega, by omega⟩, fun τ8 e8 hL8 => ?_⟩⟩
  · rw [if_neg hne] at e
    exact M_wrong1 hL2 h62 (fun χ hLχ hFχ q6 q7 => ⟨hLχ, fun _ => h0 1 s e χ hLχ ((hF2.mono (fun a j h9 => by omega) (fun _ h => h)).trans (hFχ.mono (fun a j h9 => by omega) (fun _ h => h))) ⟨q6, q7⟩⟩)
  · rw [if_pos he] at e
    have hlt : s < n := by
      apply Nat.not_le.mp
      intro h9
      rw [atB_end h9] at he
      omega
    have hF : Fr frMp (fun _ => False) τ2 τ8 := by rw [e8]; exact Fr_of1 ⟨rfl, rfl⟩
    exact h1 (s + 1) e hlt τ8 hL8 (hF2.trans hF) (hR2.go hF (by rw [e8, gI_sI, if_pos ⟨rfl, rfl⟩]; rfl))
theorem M_digits {s q : Nat} {x1 x2 x3 : Int} (hs : s ≤ n) (hq : q = upto (isDg (atB B n)) s) (hL : Lay LM g c t σ) (hR : RdM σ B n s)
    (h : ∀ τ, Lay LM g c t τ → Fr frMp (fun _ => False) σ τ → RdM τ B n q → GG E mX12_number 134 [some (vr 172), some (vi x1), none, some (vi x3), some (vi (if x2 = 0 then mgv (atB B n) s (q - s) else -mgv (atB B n) s (q - s)))] [] τ 0 0 Q) : GG E mX12_number 74 [some (vr 172), some (vi x1), some (vi x2), some (vi x3), some (vi 0)] [] σ 0 0 Q := by
  have h400 := hR.2.1
  have us := upto_s (P := isDg (atB B n)) (p := s) noDg
  have ul := upto_le (P := isDg (atB B n)) (p := s) noDg hs
  rw [← hq] at us ul
  obtain ⟨u1, u2, u3⟩ := us
  refine loopU (N := q - s) (G := fun k τ => GG E mX12_number 74 [some (vr 172), some (vi x1), some (vi x2), some (vi x3), some (vi (mgv (atB B n) s k))] [] τ 0 0 Q) (P := fun k τ => Lay LM g c t τ ∧ Fr frMp (fun _ => False) σ τ ∧ RdM τ B n (s + k)) ?_ ?_ 0 σ (by omega) ⟨hL, Fr.refl _, hR⟩
  · rintro k τ hk ⟨hLτ, hF, hRτ⟩ next
    have hdk := u3 (s + k) (by omega) (by omega)
    have hm := mgv_rel (f := atB B n) (p := s) k (fun j hj => u3 (s + j) (by omega) (by omega))
    have e9 : mgv (atB B n) s (k + 1) = if 100000 < 10 * mgv (atB B n) s k + atB B n (s + k) - 48 then 100000 else 10 * mgv (atB B n) s k + atB B n (s + k) - 48 := rfl
    rw [e9] at next
    have hdk' : 48 ≤ atB B n (s + k) ∧ atB B n (s + k) ≤ 57 := hdk
    have go : ∀ r : Int, r = (if 100000 < 10 * mgv (atB B n) s k + atB B n (s + k) - 48 then 100000 else 10 * mgv (atB B n) s k + atB B n (s + k) - 48) → Lay LM g c t τ ∧ (inR r → inR ((gI τ 172 4) + 1) ∧ ∀ τ14 : Sg, τ14 = sI τ 172 4 ((gI τ 172 4) + 1) → (Lay LM g c t τ14 → GG E mX12_number 74 [some (vr 172), some (vi x1), some (vi x2), some (vi x3), some (vi r)] [] τ14 0 0 Q)) := by
      rintro r rfl
      refine ⟨hLτ, fun _ => ?_⟩
      rw [hRτ.2.2.2.2]
      refine ⟨⟨by omega, by omega⟩, fun τ14 e14 hL14 => ?_⟩
      have hF9 : Fr frMp (fun _ => False) τ τ14 := by rw [e14]; exact Fr_of1 ⟨rfl, rfl⟩
      exact next τ14 ⟨hL14, hF.trans hF9, hRτ.go hF9 (by rw [e14, gI_sI, if_pos ⟨rfl, rfl⟩]; rfl)⟩
    refine B_X12_number_74 hLτ (fun _ => M_byteAt hRτ.2.2.2.2 hLτ hRτ ⟨hLτ, fun _ _ => M_isDigit (fun r r1 r0 => ⟨hLτ, fun _ => ⟨fun hr => absurd (r1 hdk) (by omega), fun _ => ⟨⟨by omega, by omega⟩, fun _ => M_byteAt hRτ.2.2.2.2 hLτ hRτ ⟨hLτ, fun _ => ⟨⟨by omega, by omega⟩, ⟨by omega, by omega⟩, fun _ => C_X12_less (B_X12_less_0 ⟨fun h9 => go _ (by rw [if_neg (by omega)]), fun h9 => go _ (by rw [if_pos (by omega)])⟩)⟩⟩⟩⟩⟩)⟩)
  · rintro τ ⟨hLτ, hF, hRτ⟩
    rw [show s + (q - s) = q by omega] at hRτ
    have hm := mgv_rel (f := atB B n) (p := s) (q - s) (fun j hj => u3 (s + j) (by omega) (by omega))
    have K := h τ hLτ hF hRτ
    refine B_X12_number_74 hLτ (fun _ => M_byteAt hRτ.2.2.2.2 hLτ hRτ ⟨hLτ, fun _ _ => M_isDigit (fun r r1 r0 => ⟨hLτ, fun _ => ⟨fun _ => ⟨fun hx _ => ?_, fun hx => ⟨⟨by omega, by omega⟩, fun _ => ?_⟩⟩, fun hr => absurd (of_ne9 r0 hr) u2⟩⟩)⟩)
    · rw [if_pos hx] at K; exact K
    · rw [if_neg hx] at K; exact K
theorem M_number0 {x1 : Int} (hL : Lay LM g c t σ) (h6 : gI σ 172 6 ≠ 0) (hq : Q (.inl (some (vi 0))) σ) : CC E mX12_number [vr 172, vi x1] σ Q :=
  C_X12_number (B_X12_number_0 hL (fun _ => M_fine0 hL h6 ⟨hL, fun _ => ⟨fun h9 => absurd rfl h9, fun _ _ => hq⟩⟩))
/-- the root's number -/
theorem M_root {p s q : Nat} {v : Int} (hs : s = upto (isBl (atB B n)) p) (hq : q = upto (isDg (atB B n)) s) (hv : v = dgv (atB B n) s (q - s)) (hp : p ≤ n) (hL : Lay LM g c t σ) (hR : RdM σ B n p) (h6 : gI σ 172 6 = 0)
    (h1 : isDg (atB B n) s → (v = 2 ∨ v = 3 ∨ v = 5) → q ≤ n → ∀ τ, Lay LM g c t τ → Fr frMp (fun _ => False) σ τ → RdM τ B n q → Q (.inl (some (vi v))) τ)
    (h2 : isDg (atB B n) s → ¬ (v = 2 ∨ v = 3 ∨ v = 5) → ∀ τ, Lay LM g c t τ → Fr frMf (fun _ => False) σ τ → FlM τ 2 s → Q (.inl (some (vi 0))) τ)
    (h3 : ¬ isDg (atB B n) s → ∀ τ, Lay LM g c t τ → Fr frMf (fun _ => False) σ τ → FlM τ 1 s → Q (.inl (some (vi 0))) τ) : CC E mX12_number [vr 172, vi 0] σ Q := by
  have h400 := hR.2.1
  have hsn : s ≤ n := by rw [hs]; exact upto_le noBl hp
  have hsb : ¬ isBl (atB B n) s := by rw [hs]; exact (upto_s noBl).2.1
  have e01 : upto (isBl (atB B n)) s = s := upto_no noBl hsb
  have us := upto_s (P := isDg (atB B n)) (p := s) noDg
  have ul := upto_le (P := isDg (atB B n)) (p := s) noDg hsn
  rw [← hq] at us ul
  obtain ⟨u1, u2, u3⟩ := us
  have hm := mgv_rel (f := atB B n) (p := s) (q - s) (fun j hj => u3 (s + j) (by omega) (by omega))
  have hd := dgv_rng (f := atB B n) (p := s) (q - s) (fun j hj => u3 (s + j) (by omega) (by omega))
  rw [← hv] at hm hd
  refine C_X12_number (B_X12_number_0 hL (fun _ => M_fine1 hL h6 ⟨hL, fun _ => ⟨fun _ => ⟨fun _ _ => ?_, fun h9 => absurd rfl h9⟩, fun h9 => absurd h9 (by decide)⟩⟩))
  refine B_X12_number_28 hL (fun _ => M_here hL hR hp (fun τ2 hL2 hF2 hR2 => ⟨hL2, fun _ => ⟨fun _ _ => ?_, fun h9 => absurd rfl h9⟩⟩))
  rw [← hs] at hR2
  refine M_here hL2 hR2 hsn (fun τ4 hL4 hF4 hR4 => ⟨hL4, fun _ _ => M_isDigit (fun r r1 r0 => ⟨hL4, fun _ => ⟨fun hr _ => ?_, fun hr _ => ?_⟩⟩)⟩)
  · rw [e01] at hR4 r1 r0
    have hdg : isDg (atB B n) s := of_ne9 r0 hr
    refine M_digits hsn hq hL4 hR4 (fun τ7 hL7 hF7 hR7 => ?_)
    rw [if_pos rfl, hR2.2.2.2.2]
    have hF9 : Fr frMp (fun _ => False) σ τ7 := (hF2.trans hF4).trans hF7
    have h67 : gI τ7 172 6 = 0 := (hF9.i (by omega) (by omega)).trans h6
    have ok : (v = 2 ∨ v = 3 ∨ v = 5) → ∀ x : Int, mgv (atB B n) s (q - s) = x → v = x → CC E mX12_fine [vr 172] τ7 (KI (fun r1 τ2 => Lay LM g c t τ2 ∧ (inR r1 → ((r1 = 0 → (Lay LM g c t τ2 → Q (.inl (some (vi 0))) τ2)) ∧ (¬ (r1 = 0) → (Lay LM g c t τ2 → Q (.inl (some (vi (mgv (atB B n) s (q - s))))) τ2))))) (fun _ _ => False)) := by
      intro hv3 x e1 e2
      rw [e1, ← e2]
      exact M_fine1 hL7 h67 ⟨hL7, fun _ => ⟨fun h9 => absurd h9 (by decide), fun _ _ => h1 hdg hv3 ul τ7 hL7 hF9 hR7⟩⟩
    refine B_X12_number_134 hL7 ⟨fun _ => ⟨fun h2' _ => ok (by omega) 2 h2' (by omega), fun n2 => ⟨fun h3' _ => ok (by omega) 3 h3' (by omega), fun n3 => ⟨fun h5' _ => ok (by omega) 5 h5' (by omega), fun n5 _ => ?_⟩⟩⟩, fun h9 => absurd rfl h9⟩
    refine M_wrong1 hL7 h67 (fun χ hLχ hFχ q6 q7 => ⟨hLχ, fun _ => M_fine0 hLχ (by omega) ⟨hLχ, fun _ => ⟨fun _ _ => ?_, fun h9 => absurd rfl h9⟩⟩⟩)
    exact h2 hdg (by omega) χ hLχ ((hF9.mono (fun a j h9 => by omega) (fun _ h => h)).trans (hFχ.mono (fun a j h9 => by omega) (fun _ h => h))) ⟨q6, q7⟩
  · rw [e01] at hR4 r1 r0
    have hnd : ¬ isDg (atB B n) s := of_eq9 r1 hr
    have hqs : q = s := by rw [hq]; exact upto_no noDg hnd
    have hF9 : Fr frMp (fun _ => False) σ τ4 := hF2.trans hF4
    have h64 : gI τ4 172 6 = 0 := (hF9.i (by omega) (by omega)).trans h6
    rw [hR4.2.2.2.2]
    refine M_wrong1 hL4 h64 (fun χ hLχ hFχ q6 q7 => ⟨hLχ, fun _ => ?_⟩)
    have hFχ9 : Fr frMf (fun _ => False) σ χ := (hF9.mono (fun a j h9 => by omega) (fun _ h => h)).trans (hFχ.mono (fun a j h9 => by omega) (fun _ h => h))
    refine M_digits hsn hq hLχ (hR4.fr hFχ ⟨by omega, by omega, fun j => by omega⟩) (fun τ7 hL7 hF7 hR7 => ?_)
    have e0 : mgv (atB B n) s (q - s) = 0 := by rw [hqs, Nat.sub_self]; rfl
    rw [if_pos rfl, e0]
    have h67 : gI τ7 172 6 = 1 := (hF7.i (by omega) (by omega)).trans q6
    refine B_X12_number_134 hL7 ⟨fun _ => ⟨fun h9 => absurd h9 (by decide), fun _ => ⟨fun h9 => absurd h9 (by decide), fun _ => ⟨fun h9 => absurd h9 (by decide), fun _ _ => ?_⟩⟩⟩, fun h9 => absurd rfl h9⟩
    refine M_wrong0 hL7 (by omega) ⟨hL7, fun _ => M_fine0 hL7 (by omega) ⟨hL7, fun _ => ⟨fun _ _ => ?_, fun h9 => absurd rfl h9⟩⟩⟩
    exact h3 hnd τ7 hL7 (hFχ9.trans (hF7.mono (fun a j h9 => by omega) (fun _ h => h))) ⟨h67, (hF7.i (by omega) (by omega)).trans q7⟩
/-- a number told -/
theorem M_told {p : Nat} (hp : p ≤ n) (hL : Lay LM g c t σ) (hR : RdM σ B n p) (h6 : gI σ 172 6 = 0)
    (h1 : ∀ v q, pTold (atB B n) p = .inr (v, q) → q ≤ n → -4 ≤ v → v ≤ 4 → ∀ τ, Lay LM g c t τ → Fr frMp (fun _ => False) σ τ → RdM τ B n q → Q (.inl (some (vi v))) τ)
    (h0 : ∀ k s, pTold (atB B n) p = .inl (k, s) → ∀ τ, Lay LM g c t τ → Fr frMf (fun _ => False) σ τ → FlM τ k s → Q (.inl (some (vi 0))) τ) : CC E mX12_number [vr 172, vi 1] σ Q := by
  have h400 := hR.2.1
  have K0 := fun (s s1 q : Nat) (a1 : s = upto (isBl (atB B n)) p) (a2 : s1 = if atB B n s = 45 then upto (isBl (atB B n)) (s + 1) else s) (a3 : q = upto (isDg (atB B n)) s1) => pTold_e (f := atB B n) a1 a2 a3
  have hsn : upto (isBl (atB B n)) p ≤ n := upto_le noBl hp
  have hsb : ¬ isBl (atB B n) (upto (isBl (atB B n)) p) := (upto_s noBl).2.1
  refine C_X12_number (B_X12_number_0 hL (fun _ => M_fine1 hL h6 ⟨hL, fun _ => ⟨fun _ => ⟨fun h9 => absurd h9 (by decide), fun _ _ => ?_⟩, fun h9 => absurd h9 (by decide)⟩⟩))
  refine M_here hL hR hp (fun τ2 hL2 hF2 hR2 => ?_)
  have K1 := fun (s1 q : Nat) (a2 : s1 = if atB B n (upto (isBl (atB B n)) p) = 45 then upto (isBl (atB B n)) (upto (isBl (atB B n)) p + 1) else upto (isBl (atB B n)) p) (a3 : q = upto (isDg (atB B n)) s1) => K0 (upto (isBl (atB B n)) p) s1 q rfl a2 a3
  generalize upto (isBl (atB B n)) p = s at *
  have e01 : upto (isBl (atB B n)) s = s := upto_no noBl hsb
  -- from the digits on
  have fin : ∀ (x2 : Int) (s1 : Nat) (τ : Sg), (x2 = 0 ↔ ¬ atB B n s = 45) → s1 = (if atB B n s = 45 then upto (isBl (atB B n)) (s + 1) else s) → s1 ≤ n → ¬ isBl (atB B n) s1 → Lay LM g c t τ → Fr frMp (fun _ => False) σ τ → RdM τ B n s1 →
      CC E mX12_isDigit [vi (atB B n s1)] τ (KI (fun r5 τ6 => Lay LM g c t τ6 ∧ (inR r5 → ((r5 ≠ 0 → (Lay LM g c t τ6 → GG E mX12_number 74 [some (vr 172), some (vi 1), some (vi x2), some (vi s), some (vi 0)] [] τ6 0 0 Q)) ∧ (r5 = 0 → (Lay LM g c t τ6 → CC E mX12_wrong [vr 172, vi 1, vi (gI τ6 172 4)] τ6 (KV (fun τ8 => Lay LM g c t τ8 ∧ (Lay LM g c t τ8 → GG E mX12_number 74 [some (vr 172), some (vi 1), some (vi x2), some (vi s), some (vi 0)] [] τ8 0 0 Q)) (fun _ _ => False))))))) (fun _ _ => False)) := by
    intro x2 s1 τ hx2 hs1 hs1n hs1b hLτ hF hRτ
    have K2 := K1 s1 _ hs1 rfl
    have us := upto_s (P := isDg (atB B n)) (p := s1) noDg
    have ul := upto_le (P := isDg (atB B n)) (p := s1) noDg hs1n
    have hqe : upto (isDg (atB B n)) s1 = upto (isDg (atB B n)) s1 := rfl
    generalize hq : upto (isDg (atB B n)) s1 = q at *
    obtain ⟨u1, u2, u3⟩ := us
    have hm := mgv_rel (f := atB B n) (p := s1) (q - s1) (fun j hj => u3 (s1 + j) (by omega) (by omega))
    have hd := dgv_rng (f := atB B n) (p := s1) (q - s1) (fun j hj => u3 (s1 + j) (by omega) (by omega))
    have h6τ : gI τ 172 6 = 0 := (hF.i (by omega) (by omega)).trans h6
    refine M_isDigit (fun r r1 r0 => ⟨hLτ, fun _ => ⟨fun hr _ => ?_, fun hr _ => ?_⟩⟩)
    · have hdg : isDg (atB B n) s1 := of_ne9 r0 hr
      rw [if_pos hdg] at K2
      refine M_digits hs1n hq.symm hLτ hRτ (fun τ7 hL7 hF7 hR7 => ?_)
      have hF9 : Fr frMp (fun _ => False) σ τ7 := hF.trans hF7
      have h67 : gI τ7 172 6 = 0 := (hF9.i (by omega) (by omega)).trans h6
      generalize hx4 : (if x2 = 0 then mgv (atB B n) s1 (q - s1) else -mgv (atB B n) s1 (q - s1)) = x4
      refine B_X12_number_134 hL7 ⟨fun h9 => absurd h9 (by decide), fun _ _ => S_in (fun r' r1' r0' => ⟨hL7, fun _ => ⟨fun hr' _ => ?_, fun hr' _ => ?_⟩⟩)⟩
      · have hin := of_ne9 r0' hr'
        have hd4 : ¬ 4 < dgv (atB B n) s1 (q - s1) := by
          intro h9
          by_cases hx : x2 = 0
          · rw [if_pos hx] at hx4; omega
          · rw [if_neg hx] at hx4; omega
        rw [if_neg hd4] at K2
        have hxv : x4 = if atB B n s = 45 then -dgv (atB B n) s1 (q - s1) else dgv (atB B n) s1 (q - s1) := by
          rw [← hx4]
          by_cases hx : x2 = 0
          · rw [if_pos hx, if_neg (hx2.mp hx)]; omega
          · rw [if_neg hx, if_pos (Classical.byContradiction (fun h9 => hx (hx2.mpr h9)))]; omega
        rw [← hxv] at K2
        exact M_fine1 hL7 h67 ⟨hL7, fun _ => ⟨fun h9 => absurd h9 (by decide), fun _ _ => h1 x4 q K2 ul hin.1 hin.2 τ7 hL7 hF9 hR7⟩⟩
      · have hout := of_eq9 r1' hr'
        have hd4 : 4 < dgv (atB B n) s1 (q - s1) := by
          by_cases hx : x2 = 0
          · rw [if_pos hx] at hx4; omega
          · rw [if_neg hx] at hx4; omega
        rw [if_pos hd4] at K2
        refine M_wrong1 hL7 h67 (fun χ hLχ hFχ q6 q7 => ⟨hLχ, fun _ => M_fine0 hLχ (by omega) ⟨hLχ, fun _ => ⟨fun _ _ => ?_, fun h9 => absurd rfl h9⟩⟩⟩)
        exact h0 2 s K2 χ hLχ ((hF9.mono (fun a j h9 => by omega) (fun _ h => h)).trans (hFχ.mono (fun a j h9 => by omega) (fun _ h => h))) ⟨q6, q7⟩
    · have hnd : ¬ isDg (atB B n) s1 := of_eq9 r1 hr
      rw [if_neg hnd] at K2
      have hqs : q = s1 := by rw [← hq]; exact upto_no noDg hnd
      rw [hRτ.2.2.2.2]
      refine M_wrong1 hLτ h6τ (fun χ hLχ hFχ q6 q7 => ⟨hLχ, fun _ => ?_⟩)
      have hFχ9 : Fr frMf (fun _ => False) σ χ := (hF.mono (fun a j h9 => by omega) (fun _ h => h)).trans (hFχ.mono (fun a j h9 => by omega) (fun _ h => h))
      refine M_digits hs1n hq.symm hLχ (hRτ.fr hFχ ⟨by omega, by omega, fun j => by omega⟩) (fun τ7 hL7 hF7 hR7 => ?_)
      have e0 : mgv (atB B n) s1 (q - s1) = 0 := by rw [hqs, Nat.sub_self]; rfl
      have e0' : (if x2 = 0 then mgv (atB B n) s1 (q - s1) else -mgv (atB B n) s1 (q - s1)) = 0 := by rw [e0]; split <;> rfl
      rw [e0']
      have h67 : gI τ7 172 6 = 1 := (hF7.i (by omega) (by omega)).trans q6
      have last : Q (.inl (some (vi 0))) τ7 := h0 1 s1 K2 τ7 hL7 (hFχ9.trans (hF7.mono (fun a j h9 => by omega) (fun _ h => h))) ⟨h67, (hF7.i (by omega) (by omega)).trans q7⟩
      refine B_X12_number_134 hL7 ⟨fun h9 => absurd h9 (by decide), fun _ _ => S_in (fun r' r1' r0' => ⟨hL7, fun _ => ⟨fun hr' _ => ?_, fun hr' _ => ?_⟩⟩)⟩
      · exact M_fine0 hL7 (by omega) ⟨hL7, fun _ => ⟨fun _ _ => last, fun h9 => absurd rfl h9⟩⟩
      · have := r1' ⟨by omega, by omega⟩
        omega
  refine ⟨hL2, fun _ => ⟨fun hne _ => ?_, fun he _ => ?_⟩⟩
  · refine B_X12_number_28 hL2 (fun _ => M_here hL2 hR2 hsn (fun τ4 hL4 hF4 hR4 => ⟨hL4, fun _ => ⟨fun _ _ => ?_, fun h9 => absurd rfl h9⟩⟩))
    rw [e01] at hR4
    refine M_here hL4 hR4 hsn (fun τ6 hL6 hF6 hR6 => ⟨hL6, fun _ _ => ?_⟩)
    rw [e01] at hR6 ⊢
    rw [hR4.2.2.2.2]
    exact fin 0 s τ6 ⟨fun _ => hne, fun _ => rfl⟩ (by rw [if_neg hne]) hsn hsb hL6 ((hF2.trans hF4).trans hF6) hR6
  · refine B_X12_number_28 hL2 (fun _ => M_here hL2 hR2 hsn (fun τ4 hL4 hF4 hR4 => ⟨hL4, fun _ => ⟨fun h9 => absurd h9 (by decide), fun _ => ?_⟩⟩))
    rw [e01] at hR4
    rw [hR4.2.2.2.2]
    have hlt : s < n := by
      apply Nat.not_le.mp
      intro h9
      rw [atB_end h9] at he
      omega
    refine ⟨⟨by omega, by omega⟩, fun τ10 e10 hL10 => ?_⟩
    have hF10 : Fr frMp (fun _ => False) τ4 τ10 := by rw [e10]; exact Fr_of1 ⟨rfl, rfl⟩
    have hR10 : RdM τ10 B n (s + 1) := hR4.go hF10 (by rw [e10, gI_sI, if_pos ⟨rfl, rfl⟩]; rfl)
    refine M_here hL10 hR10 hlt (fun τ6 hL6 hF6 hR6 => ⟨hL6, fun _ _ => ?_⟩)
    exact fin 1 _ τ6 ⟨fun h9 => absurd h9 (by decide), fun h9 => absurd he h9⟩ (by rw [if_pos he]) (upto_le noBl hlt) (upto_s noBl).2.1 hL6 (((hF2.trans hF4).trans hF10).trans hF6) hR6
end S96
