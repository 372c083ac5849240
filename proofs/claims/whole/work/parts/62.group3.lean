/-! ===== Group: classes ===== -/
noncomputable def clIn (N : Nat) (m : Nat → Nat → Nat) (k r n : Nat) (f : Nat → Int) : (Nat → Int) × Nat :=
  nfold (fun h s => if s.1 (tn N m k h) = -1 then (ups s.1 (tn N m k h) (r : Int), s.2 + 1) else s) n (f, 0)
abbrev CS : Type := (Nat → Int) × Nat × (Nat → Int) × (Nat → Int) × Nat
/-- class of each, how many classes, their least elements, sizes, how many of one -/
noncomputable def clOne (N : Nat) (m : Nat → Nat → Nat) (k : Nat) (s : CS) : CS :=
  if s.1 k = -1 then ((clIn N m k s.2.1 N s.1).1, s.2.1 + 1, ups s.2.2.1 s.2.1 (k : Int), ups s.2.2.2.1 s.2.1 ((clIn N m k s.2.1 N s.1).2 : Int), s.2.2.2.2 + if (clIn N m k s.2.1 N s.1).2 = 1 then 1 else 0) else s
noncomputable def clAll (N : Nat) (m : Nat → Nat → Nat) (n : Nat) : CS := nfold (clOne N m) n (fun _ => -1, 0, fun _ => 0, fun _ => 0, 0)
theorem clIn_le (N : Nat) (m : Nat → Nat → Nat) (k r : Nat) (f : Nat → Int) : ∀ n, (clIn N m k r n f).2 ≤ n := by
  intro n
  induction n with
  | zero => exact Nat.le_refl _
  | succ n ih =>
    have e : clIn N m k r (n + 1) f = if (clIn N m k r n f).1 (tn N m k n) = -1 then (ups (clIn N m k r n f).1 (tn N m k n) (r : Int), (clIn N m k r n f).2 + 1) else clIn N m k r n f := rfl
    rw [e]
    split
    · show _ + 1 ≤ _; omega
    · omega
theorem clAll_le (N : Nat) (m : Nat → Nat → Nat) : ∀ n, (clAll N m n).2.1 ≤ n ∧ (clAll N m n).2.2.2.2 ≤ n := by
  intro n
  induction n with
  | zero => exact ⟨Nat.le_refl _, Nat.le_refl _⟩
  | succ n ih =>
    have e : clAll N m (n + 1) = clOne N m n (clAll N m n) := rfl
    rw [e]
    unfold clOne
    split
    · refine ⟨?_, ?_⟩
      · show _ + 1 ≤ _; omega
      · show _ + (if _ then 1 else 0) ≤ _
        split <;> omega
    · omega
/-- the arrays of classes -/
def GCs (σ : Sg) (N : Nat) (s : CS) : Prop := (∀ j, j < N → gI σ 28 j = s.1 j) ∧ gI σ 24 7 = (s.2.1 : Int) ∧ (∀ j, j < s.2.1 → gI σ 29 j = s.2.2.1 j ∧ gI σ 30 j = s.2.2.2.1 j) ∧ gI σ 24 8 = (s.2.2.2.2 : Int)
section S22
variable {E : Ev} {σ : Sg} {Q : NO → Sg → Prop} {g : Sg} {c t : Nat}
theorem GT.fr {W : Nat → Nat → Prop} {V : Nat → Prop} {τ : Sg} {N : Nat} {m : Nat → Nat → Nat} (h : GT σ N m) (k : Fr W V σ τ) (w : ¬ W 24 6 ∧ ∀ j, ¬ W 25 j) : GT τ N m :=
  ⟨(k.i (by omega) w.1).trans h.1, h.2.1, fun a b ha hb => (k.i (by omega) (w.2 _)).trans (h.2.2 a b ha hb)⟩
theorem GV.fr {W : Nat → Nat → Prop} {V : Nat → Prop} {τ : Sg} {N : Nat} {m : Nat → Nat → Nat} (h : GV σ N m) (k : Fr W V σ τ) (w : ∀ j, ¬ W 26 j) : GV τ N m :=
  fun a ha => (k.i (by omega) (w _)).trans (h a ha)
theorem GO.fr {W : Nat → Nat → Prop} {V : Nat → Prop} {τ : Sg} {N : Nat} {m : Nat → Nat → Nat} (h : GO σ N m) (k : Fr W V σ τ) (w : (∀ j, ¬ W 27 j) ∧ ¬ W 24 9 ∧ ¬ W 24 10) : GO τ N m :=
  ⟨fun a ha => (k.i (by omega) (w.1 _)).trans (h.1 a ha), (k.i (by omega) w.2.1).trans h.2.1, (k.i (by omega) w.2.2).trans h.2.2⟩
theorem GCs.fr {W : Nat → Nat → Prop} {V : Nat → Prop} {τ : Sg} {N : Nat} {s : CS} (h : GCs σ N s) (k : Fr W V σ τ) (w : (∀ j, ¬ W 28 j ∧ ¬ W 29 j ∧ ¬ W 30 j) ∧ ¬ W 24 7 ∧ ¬ W 24 8) : GCs τ N s :=
  ⟨fun a ha => (k.i (by omega) (w.1 _).1).trans (h.1 a ha), (k.i (by omega) w.2.1).trans h.2.1, fun a ha => ⟨(k.i (by omega) (w.1 _).2.1).trans (h.2.2.1 a ha).1, (k.i (by omega) (w.1 _).2.2).trans (h.2.2.1 a ha).2⟩, (k.i (by omega) w.2.2).trans h.2.2.2⟩
theorem S_fillClass {N k : Nat} {m : Nat → Nat → Nat} {s : CS} (hL : Lay LC g c t σ) (hI : IsG N m) (hG : GT σ N m) (hV : GV σ N m) (hS : GCs σ N s) (hk : k < N) (hs : s.2.1 < 120 ∧ s.2.2.2.2 < 120) (hm : s.1 k = -1)
    (h : ∀ τ, Lay LC g c t τ → Fr frC (fun _ => False) σ τ → GCs τ N (clOne N m k s) → Q (.inl none) τ) : CC E mX4_fillClass [vr 24, vi k] σ Q := by
  have n120 := hG.2.1
  refine C_X4_fillClass (B_X4_fillClass_0 hL (fun _ => ?_))
  refine loopU (N := N) (G := fun i τ => GG E mX4_fillClass 4 [some (vr 24), some (vi k), some (vi ((clIn N m k s.2.1 i s.1).2 : Int)), some (vi i), none] [] τ 0 0 Q)
    (P := fun i τ => Lay LC g c t τ ∧ Fr frC (fun _ => False) σ τ ∧ GCs τ N ((clIn N m k s.2.1 i s.1).1, s.2)) ?_ ?_ 0 σ (by omega) ⟨hL, Fr.refl _, hS⟩
  · rintro i τ hi ⟨hLτ, hF, hz⟩ next
    have hGτ : GT τ N m := hG.fr hF ⟨(by first | omega | (dsimp only [frC, frL, frL2, frP, frK]; omega)), fun _ => (by first | omega | (dsimp only [frC, frL, frL2, frP, frK]; omega))⟩
    have hVτ : GV τ N m := hV.fr hF (fun _ => (by first | omega | (dsimp only [frC, frL, frL2, frP, frK]; omega)))
    have ht := tn_lt hI hk hi
    have e9 : clIn N m k s.2.1 (i + 1) s.1 = if (clIn N m k s.2.1 i s.1).1 (tn N m k i) = -1 then (ups (clIn N m k s.2.1 i s.1).1 (tn N m k i) (s.2.1 : Int), (clIn N m k s.2.1 i s.1).2 + 1) else clIn N m k s.2.1 i s.1 := rfl
    have hle := clIn_le N m k s.2.1 s.1 i
    rw [e9] at next
    refine B_X4_fillClass_4 hLτ ?_
    rw [hGτ.1]
    refine ⟨fun h => absurd h (by omega), fun _ _ => S_turned hLτ hI hGτ hVτ hk hi ⟨hLτ, fun _ _ => S_atN (by decide) (sh28 hLτ) (by decide) (by omega) ⟨hLτ, fun _ => ?_⟩⟩⟩
    rw [hz.1 _ ht]
    refine ⟨fun hne => ⟨⟨by omega, by omega⟩, fun _ => ?_⟩, fun he => ⟨⟨by omega, by omega⟩, fun τ15 e15 => ⟨⟨by omega, by omega⟩, ⟨by omega, by omega⟩, fun hL15 => ?_⟩⟩⟩
    · rw [if_neg hne] at next
      exact next τ ⟨hLτ, hF, hz⟩
    · rw [if_pos he] at next
      rw [hz.2.1, show ((tn N m k i : Nat) : Int).toNat = tn N m k i by omega] at e15
      subst e15
      refine next _ ⟨hL15, hF.sI (.inl rfl), fun j hj => ?_, hz.2.1, hz.2.2.1, hz.2.2.2⟩
      rw [gI_sI]
      by_cases hj2 : j = tn N m k i
      · subst hj2; rw [if_pos ⟨rfl, rfl⟩]; exact (ups_s _ _ _).symm
      · rw [if_neg (fun h9 => hj2 h9.2)]
        show _ = ups _ _ _ _
        rw [ups_n _ _ hj2]
        exact hz.1 j hj
  · rintro τ ⟨hLτ, hF, hz⟩
    have hGτ : GT τ N m := hG.fr hF ⟨(by first | omega | (dsimp only [frC, frL, frL2, frP, frK]; omega)), fun _ => (by first | omega | (dsimp only [frC, frL, frL2, frP, frK]; omega))⟩
    have hle := clIn_le N m k s.2.1 s.1 N
    have e9 : clOne N m k s = ((clIn N m k s.2.1 N s.1).1, s.2.1 + 1, ups s.2.2.1 s.2.1 (k : Int), ups s.2.2.2.1 s.2.1 ((clIn N m k s.2.1 N s.1).2 : Int), s.2.2.2.2 + if (clIn N m k s.2.1 N s.1).2 = 1 then 1 else 0) := if_pos hm
    rw [e9] at h
    generalize (clIn N m k s.2.1 N s.1).2 = sz at *
    have h7 : gI τ 24 7 = (s.2.1 : Int) := hz.2.1
    have h8 : gI τ 24 8 = (s.2.2.2.2 : Int) := hz.2.2.2
    refine B_X4_fillClass_4 hLτ ?_
    rw [hGτ.1]
    refine ⟨fun _ => ⟨⟨by omega, by omega⟩, fun τ2 e2 => ?_⟩, fun h9 => absurd (by omega) h9⟩
    rw [h7, show ((s.2.1 : Nat) : Int).toNat = s.2.1 by omega] at e2
    subst e2
    simp only [gI_sI, Nat.reduceEqDiff, false_and, if_false, h7]
    refine ⟨⟨by omega, by omega⟩, fun τ4 e4 => ?_⟩
    rw [show ((s.2.1 : Nat) : Int).toNat = s.2.1 by omega] at e4
    subst e4
    simp only [gI_sI, Nat.reduceEqDiff, false_and, if_false, h7]
    refine ⟨⟨by omega, by omega⟩, fun τ6 e6 => ⟨fun hs1 hL6 => ?_, fun hs1 => ?_⟩⟩
    · subst e6
      refine h _ hL6 (((hF.sI (.inr (.inl rfl))).sI (.inr (.inr (.inl rfl)))).sI (.inr (.inr (.inr ⟨rfl, .inl rfl⟩)))) ⟨fun j hj => ?_, ?_, fun j hj => ⟨?_, ?_⟩, ?_⟩
      · simp only [gI_sI, Nat.reduceEqDiff, false_and, if_false]; exact hz.1 j hj
      · rw [gI_sI, if_pos ⟨rfl, rfl⟩]; rfl
      · simp only [gI_sI, Nat.reduceEqDiff, false_and, if_false, true_and]
        show _ = ups _ _ _ _
        unfold ups
        split
        · rfl
        · rename_i hne
          exact (hz.2.2.1 j (by have : j < s.2.1 + 1 := hj; show j < s.2.1; omega)).1
      · simp only [gI_sI, Nat.reduceEqDiff, false_and, if_false, true_and]
        show _ = ups _ _ _ _
        unfold ups
        split
        · rfl
        · rename_i hne
          exact (hz.2.2.1 j (by have : j < s.2.1 + 1 := hj; show j < s.2.1; omega)).2
      · simp only [gI_sI, Nat.reduceEqDiff, false_and, if_false, true_and, h8]
        rw [if_neg (by omega)]; rfl
    · have q8 : gI τ6 24 8 = (s.2.2.2.2 : Int) := by rw [e6]; simp only [gI_sI, Nat.reduceEqDiff, false_and, if_false, true_and, h8]
      rw [q8]
      refine ⟨⟨by omega, by omega⟩, fun τ8 e8 hL8 => ?_⟩
      subst e8 e6
      refine h _ hL8 ((((hF.sI (.inr (.inl rfl))).sI (.inr (.inr (.inl rfl)))).sI (.inr (.inr (.inr ⟨rfl, .inl rfl⟩)))).sI (.inr (.inr (.inr ⟨rfl, .inr rfl⟩)))) ⟨fun j hj => ?_, ?_, fun j hj => ⟨?_, ?_⟩, ?_⟩
      · simp only [gI_sI, Nat.reduceEqDiff, false_and, if_false]; exact hz.1 j hj
      · simp only [gI_sI, Nat.reduceEqDiff, false_and, and_false, if_false, and_self, if_true]; rfl
      · simp only [gI_sI, Nat.reduceEqDiff, false_and, if_false, true_and]
        show _ = ups _ _ _ _
        unfold ups
        split
        · rfl
        · rename_i hne
          exact (hz.2.2.1 j (by have : j < s.2.1 + 1 := hj; show j < s.2.1; omega)).1
      · simp only [gI_sI, Nat.reduceEqDiff, false_and, if_false, true_and]
        show _ = ups _ _ _ _
        unfold ups
        split
        · rfl
        · rename_i hne
          exact (hz.2.2.1 j (by have : j < s.2.1 + 1 := hj; show j < s.2.1; omega)).2
      · rw [gI_sI, if_pos ⟨rfl, rfl⟩, if_pos (by omega)]; rfl
theorem S_fillClasses {N : Nat} {m : Nat → Nat → Nat} (hL : Lay LC g c t σ) (hI : IsG N m) (hG : GT σ N m) (hV : GV σ N m)
    (h : ∀ τ, Lay LC g c t τ → Fr frC (fun _ => False) σ τ → GCs τ N (clAll N m N) → Q (.inl none) τ) : CC E mX4_fillClasses [vr 24] σ Q := by
  have n120 := hG.2.1
  refine C_X4_fillClasses (B_X4_fillClasses_0 hL (fun _ => ?_))
  refine loopU (N := N) (G := fun i τ => GG E mX4_fillClasses 2 [some (vr 24), some (vi i)] [] τ 0 0 Q)
    (P := fun i τ => Lay LC g c t τ ∧ Fr frC (fun _ => False) σ τ ∧ ∀ j, j < i → gI τ 28 j = -1) ?_ ?_ 0 σ (by omega) ⟨hL, Fr.refl _, fun j hj => absurd hj (by omega)⟩
  · rintro i τ hi ⟨hLτ, hF, hz⟩ next
    have hGτ : GT τ N m := hG.fr hF ⟨(by first | omega | (dsimp only [frC, frL, frL2, frP, frK]; omega)), fun _ => (by first | omega | (dsimp only [frC, frL, frL2, frP, frK]; omega))⟩
    refine B_X4_fillClasses_2 hLτ ?_
    rw [hGτ.1]
    refine ⟨fun h => absurd h (by omega), fun _ => ⟨⟨by omega, by omega⟩, fun τ4 e4 => ⟨⟨by omega, by omega⟩, fun hL4 => ?_⟩⟩⟩
    rw [show ((i : Nat) : Int).toNat = i by omega] at e4
    subst e4
    refine next _ ⟨hL4, hF.sI (.inl rfl), fun j hj => ?_⟩
    rw [gI_sI]
    by_cases hj2 : j = i
    · rw [if_pos ⟨rfl, hj2⟩]
    · rw [if_neg (fun h9 => hj2 h9.2)]; exact hz j (by omega)
  · rintro τ ⟨hLτ, hF, hz⟩
    have hGτ : GT τ N m := hG.fr hF ⟨(by first | omega | (dsimp only [frC, frL, frL2, frP, frK]; omega)), fun _ => (by first | omega | (dsimp only [frC, frL, frL2, frP, frK]; omega))⟩
    refine B_X4_fillClasses_2 hLτ ?_
    rw [hGτ.1]
    refine ⟨fun _ τ1 e1 τ2 e2 hL2 => ?_, fun h9 => absurd (by omega) h9⟩
    subst e1 e2
    refine loopU (N := N) (G := fun i τ => GG E mX4_fillClasses 35 [some (vr 24), some (vi i)] [] τ 0 0 Q)
      (P := fun i τ => Lay LC g c t τ ∧ Fr frC (fun _ => False) σ τ ∧ GCs τ N (clAll N m i)) ?_ ?_ 0 _ (by omega) ⟨hL2, (hF.sI (.inr (.inr (.inr ⟨rfl, .inl rfl⟩)))).sI (.inr (.inr (.inr ⟨rfl, .inr rfl⟩))), fun j hj => ?_, by simp [gI_sI, clAll, nfold], fun j hj => absurd hj (by show ¬ j < 0; omega), by simp [gI_sI, clAll, nfold]⟩
    · rintro i ρ hi ⟨hLρ, hFρ, hzρ⟩ next
      have hGρ : GT ρ N m := hG.fr hFρ ⟨(by first | omega | (dsimp only [frC, frL, frL2, frP, frK]; omega)), fun _ => (by first | omega | (dsimp only [frC, frL, frL2, frP, frK]; omega))⟩
      have hVρ : GV ρ N m := hV.fr hFρ (fun _ => (by first | omega | (dsimp only [frC, frL, frL2, frP, frK]; omega)))
      have hle := clAll_le N m i
      have e9 : clAll N m (i + 1) = clOne N m i (clAll N m i) := rfl
      rw [e9] at next
      refine B_X4_fillClasses_35 hLρ ?_
      rw [hGρ.1, show ((i : Nat) : Int).toNat = i by omega, hzρ.1 i hi]
      refine ⟨fun h => absurd h (by omega), fun _ => ⟨⟨by omega, by omega⟩, fun hne => ⟨⟨by omega, by omega⟩, fun _ => ?_⟩, fun he _ => ?_⟩⟩
      · refine next ρ ⟨hLρ, hFρ, ?_⟩
        unfold clOne
        rw [if_neg hne]
        exact hzρ
      · exact S_fillClass hLρ hI hGρ hVρ hzρ hi (by omega) he (fun τ' hL' hF' hz' => ⟨hL', ⟨by omega, by omega⟩, fun _ => next τ' ⟨hL', hFρ.trans hF', hz'⟩⟩)
    · rintro ρ ⟨hLρ, hFρ, hzρ⟩
      have hGρ : GT ρ N m := hG.fr hFρ ⟨(by first | omega | (dsimp only [frC, frL, frL2, frP, frK]; omega)), fun _ => (by first | omega | (dsimp only [frC, frL, frL2, frP, frK]; omega))⟩
      refine B_X4_fillClasses_35 hLρ ?_
      rw [hGρ.1]
      exact ⟨fun _ _ => h ρ hLρ hFρ hzρ, fun h9 => absurd (by omega) h9⟩
    · simp only [gI_sI, Nat.reduceEqDiff, false_and, if_false]
      exact hz j hj
end S22
