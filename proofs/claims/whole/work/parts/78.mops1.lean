/-! ===== the reference's state; bad, copies, remembers, makesAnew ===== -/
def MPast (σ : Sg) (D : Int) (past : List (List (List Int))) : Prop := gI σ 172 10 = (past.length : Int) ∧ past.length ≤ 8 ∧ ∀ i, i < past.length → ST σ (2 + i) D (past.getD i [])
def MTape (σ : Sg) (B : List Int) : Prop := gI σ 172 2 = (B.length : Int) ∧ B.length ≤ 400 ∧ ∀ i, i < B.length → gI σ 174 i = gd B i
def RfM (σ : Sg) (R : Nat → Int) : Prop := ∀ i, i < 3 → gI σ 173 i = R i
/-- the prime's size, for this group -/
def MAp (σ : Sg) (D : Int) (els : List (List Int)) : Prop := ∃ d p s : Nat, D = (d : Int) ∧ PR els.length (expo els.length (gmt D els) els.length) d p s ∧ p ≤ 241 ∧ MAll σ D els p s
/-- rows that change places stay apart -/
def JM (σ : Sg) : Prop := ∀ a, a = 2861 ∨ a = 2913 → ∀ i j, i < 48 → j < 48 → gR σ a i = gR σ a j → i = j
theorem JM.fr {W : Nat → Nat → Prop} {V : Nat → Prop} {σ τ : Sg} (h : JM σ) (k : Fr W V σ τ) (w : ¬ V 2861 ∧ ¬ V 2913) : JM τ := fun a ha i j hi hj e => by
  have q : ∀ n, gR τ a n = gR σ a n := fun n => by
    rcases ha with rfl | rfl
    · exact k.r (by omega) w.1
    · exact k.r (by omega) w.2
  rw [q, q] at e
  exact h a ha i j hi hj e
/-- the reference's cells hold this state -/
def MI (K : Int → List (List Int) → Sg → Prop) (g : Sg) (c t : Nat) (τ : Sg) (D : Int) (told els : List (List Int)) (past : List (List (List Int))) (B : List Int) (F : Int) (W R : Nat → Int) : Prop :=
  Lay LM g c t τ ∧ ST τ 0 D told ∧ MAp τ D els ∧ MPast τ D past ∧ MTape τ B ∧ gI τ 172 5 = F ∧ (∀ i, i < 4 → gI τ 186 i = W i) ∧ RfM τ R ∧ (JM τ ∧ (gI τ 172 27 = 0 ∨ (gI τ 172 27 = 1 ∧ K D els τ)))
theorem MI.j {K : Int → List (List Int) → Sg → Prop} {g : Sg} {c t : Nat} {τ : Sg} {D : Int} {told els : List (List Int)} {past : List (List (List Int))} {B : List Int} {F : Int} {W R : Nat → Int} (h : MI K g c t τ D told els past B F W R) : JM τ := h.2.2.2.2.2.2.2.2.1
def KFM (K : Int → List (List Int) → Sg → Prop) : Prop := ∀ D els σ τ, Fr (fun a _ => a < 556 ∨ 2963 ≤ a) (fun a => a < 556 ∨ 2963 ≤ a) σ τ → K D els σ → K D els τ
abbrev scrM : Nat → Nat → Prop := fun a j => (a = 172 ∧ (j = 0 ∨ j = 3 ∨ j = 4 ∨ j = 6 ∨ j = 7 ∨ j = 12 ∨ j = 41)) ∨ a = 177 ∨ (188 ≤ a ∧ a ≤ 308) ∨ 2963 ≤ a
section S78
variable {E : Ev} {σ : Sg} {Q : NO → Sg → Prop} {g : Sg} {c t : Nat}
theorem MPast.fr {W : Nat → Nat → Prop} {V : Nat → Prop} {τ : Sg} {D : Int} {past : List (List (List Int))} (h : MPast σ D past) (k : Fr W V σ τ) (w : ¬ W 172 10 ∧ ∀ a j, 178 ≤ a → a < 186 → ¬ W a j) : MPast τ D past :=
  ⟨(k.i (by omega) w.1).trans h.1, h.2.1, fun i hi => (h.2.2 i hi).fr k (by have := h.2.1; omega) (fun j => w.2 _ _ (by omega) (by have := h.2.1; omega))⟩
theorem MTape.fr {W : Nat → Nat → Prop} {V : Nat → Prop} {τ : Sg} {B : List Int} (h : MTape σ B) (k : Fr W V σ τ) (w : ¬ W 172 2 ∧ ∀ j, ¬ W 174 j) : MTape τ B :=
  ⟨(k.i (by omega) w.1).trans h.1, h.2.1, fun i hi => (k.i (by omega) (w.2 _)).trans (h.2.2 i hi)⟩
theorem RfM.fr {W : Nat → Nat → Prop} {V : Nat → Prop} {τ : Sg} {R : Nat → Int} (h : RfM σ R) (k : Fr W V σ τ) (w : ∀ j, ¬ W 173 j) : RfM τ R := fun i hi => (k.i (by omega) (w i)).trans (h i hi)
theorem MAll.fr {W : Nat → Nat → Prop} {V : Nat → Prop} {τ : Sg} {D : Int} {els : List (List Int)} {p s : Nat} (h : MAll σ D els p s) (k : Fr W V σ τ) (w : (∀ a j, 310 ≤ a → a < 556 → ¬ W a j) ∧ ∀ j, 15 ≤ j → j ≤ 19 → ¬ W 172 j) : MAll τ D els p s :=
  ⟨h.1.fr k (by omega) (fun a j h1 h2 => w.1 a j h1 (by omega)), h.2.1.fr k ⟨w.2 _ (by omega) (by omega), fun a j h1 h2 => w.1 a j (by omega) (by omega)⟩, h.2.2.1.fr k (fun j => w.1 _ _ (by omega) (by omega)), h.2.2.2.1.fr k ⟨fun j => w.1 _ _ (by omega) (by omega), w.2 _ (by omega) (by omega)⟩, h.2.2.2.2.1.fr k ⟨fun j => ⟨w.1 _ _ (by omega) (by omega), w.1 _ _ (by omega) (by omega), w.1 _ _ (by omega) (by omega)⟩, w.2 _ (by omega) (by omega)⟩, (k.i (by omega) (w.2 _ (by omega) (by omega))).trans h.2.2.2.2.2.1, (k.i (by omega) (w.2 _ (by omega) (by omega))).trans h.2.2.2.2.2.2⟩
theorem MAp.fr {W : Nat → Nat → Prop} {V : Nat → Prop} {τ : Sg} {D : Int} {els : List (List Int)} (h : MAp σ D els) (k : Fr W V σ τ) (w : (∀ a j, 310 ≤ a → a < 556 → ¬ W a j) ∧ ∀ j, 15 ≤ j → j ≤ 19 → ¬ W 172 j) : MAp τ D els := by
  obtain ⟨d, p, s, h1, h2, h3, h4⟩ := h
  exact ⟨d, p, s, h1, h2, h3, h4.fr k w⟩
variable {K : Int → List (List Int) → Sg → Prop} {D : Int} {told els : List (List Int)} {past : List (List (List Int))} {B : List Int} {F : Int} {W R : Nat → Int}
theorem MI.fr {Wf : Nat → Nat → Prop} {Vf : Nat → Prop} {τ : Sg} {W' R' : Nat → Int} {F' : Int} (h : MI K g c t σ D told els past B F W R) (hK : KFM K) (hL : Lay LM g c t τ) (k : Fr Wf Vf σ τ)
    (w : ∀ a j, Wf a j → scrM a j ∨ a = 186 ∨ a = 173 ∨ (a = 172 ∧ j = 5)) (v : ∀ a, Vf a → 2963 ≤ a) (hW : ∀ i, i < 4 → gI τ 186 i = W' i) (hR : RfM τ R') (hF : gI τ 172 5 = F') : MI K g c t τ D told els past B F' W' R' := by
  obtain ⟨l1, l2, l3, l4, l5, l6, l7, l8, l9⟩ := h
  have n : ∀ a j, ¬ (scrM a j ∨ a = 186 ∨ a = 173 ∨ (a = 172 ∧ j = 5)) → ¬ Wf a j := fun a j h1 h2 => h1 (w a j h2)
  refine ⟨hL, l2.fr k (by omega) (fun j => n _ _ (by omega)), l3.fr k ⟨fun a j h1 h2 => n _ _ (by omega), fun j h1 h2 => n _ _ (by omega)⟩, l4.fr k ⟨n _ _ (by omega), fun a j h1 h2 => n _ _ (by omega)⟩, l5.fr k ⟨n _ _ (by omega), fun j => n _ _ (by omega)⟩, hF, hW, hR, ?_⟩
  refine ⟨l9.1.fr k ⟨fun h9 => by have := v _ h9; omega, fun h9 => by have := v _ h9; omega⟩, ?_⟩
  replace l9 := l9.2
  rw [k.i (by omega) (n 172 27 (by omega))]
  rcases l9 with h | h
  · exact .inl h
  · refine .inr ⟨h.1, hK D els σ τ (k.mono (fun a j h1 => ?_) (fun a h1 => .inr (v a h1))) h.2⟩
    have := w a j h1; omega
theorem MI.scr {Wf : Nat → Nat → Prop} {Vf : Nat → Prop} {τ : Sg} (h : MI K g c t σ D told els past B F W R) (hK : KFM K) (hL : Lay LM g c t τ) (k : Fr Wf Vf σ τ) (w : ∀ a j, Wf a j → scrM a j) (v : ∀ a, Vf a → 2963 ≤ a) : MI K g c t τ D told els past B F W R := by
  have n : ∀ a j, ¬ scrM a j → ¬ Wf a j := fun a j h1 h2 => h1 (w a j h2)
  exact h.fr hK hL k (fun a j h1 => .inl (w a j h1)) v (fun i hi => (k.i (by omega) (n _ _ (by omega))).trans (h.2.2.2.2.2.2.1 i hi)) (h.2.2.2.2.2.2.2.1.fr k (fun j => n _ _ (by omega))) ((k.i (by omega) (n _ _ (by omega))).trans h.2.2.2.2.2.1)
/-- thrown is set -/
theorem MI.th (h : MI K g c t σ D told els past B F W R) (hK : KFM K) (x : Int) (hL : Lay LM g c t (sI σ 172 0 x)) : MI K g c t (sI σ 172 0 x) D told els past B F W R :=
  h.scr hK hL (Fr_of1 (W := fun a j => a = 172 ∧ j = 0) (V := fun _ => False) ⟨rfl, rfl⟩) (fun a j h9 => by omega) (fun _ h => h.elim)
theorem S_in {x a b : Int} (hq : ∀ r : Int, (a ≤ x ∧ x ≤ b → r = 1) → (¬ (a ≤ x ∧ x ≤ b) → r = 0) → Q (.inl (some (vi r))) σ) : CC E mX12_in [vi x, vi a, vi b] σ Q :=
  C_X12_in (B_X12_in_0 ⟨fun h => hq 0 (fun h9 => by omega) (fun _ => rfl), fun h => ⟨fun h2 => hq 0 (fun h9 => by omega) (fun _ => rfl), fun h2 => hq 1 (fun _ => rfl) (fun h9 => by omega)⟩⟩)
theorem S_bad0 {w r : Int} (hL : Lay LM g c t σ) (h0 : gI σ 172 0 = 0) (hq : Q (.inl (some (vi 0))) σ) : CC E mX12_bad [vr 172, vi 0, vi w, vi r] σ Q :=
  C_X12_bad (B_X12_bad_0 hL ⟨fun _ => ⟨fun _ _ => hq, fun h => absurd h0 h⟩, fun h => absurd rfl h⟩)
/-- refused: code w, by reason r -/
theorem S_bad1 {x w : Int} {r : Nat} (hL : Lay LM g c t σ) (hI : MI K g c t σ D told els past B F W R) (hK : KFM K) (h0 : gI σ 172 0 = 0) (hx : x ≠ 0) (hw : w ≠ 0) (hr : r < 3) (hRB : inR (R r + 1))
    (hq : ∀ τ, MI K g c t τ D told els past B F W (bmp R r) → gI τ 172 0 = w → Q (.inl (some (vi 1))) τ) : CC E mX12_bad [vr 172, vi x, vi w, vi r] σ Q := by
  have hR : RfM σ R := hI.2.2.2.2.2.2.2.1
  refine C_X12_bad (B_X12_bad_0 hL ⟨fun h => absurd h hx, fun _ => ⟨fun h => absurd h0 h, fun _ τ1 e1 => ⟨by omega, ?_⟩⟩⟩)
  rw [show ((r : Nat) : Int).toNat = r by omega]
  subst e1
  have q1 : gI (sI σ 172 0 w) 173 r = R r := by rw [gI_sI, if_neg (by omega)]; exact hR r hr
  rw [q1]
  refine ⟨hRB, fun τ4 e4 => ?_⟩
  have q4 : gI τ4 172 0 = w := by rw [e4, gI_sI, if_neg (by omega), gI_sI, if_pos ⟨rfl, rfl⟩]
  rw [q4]
  refine ⟨fun h => absurd h hw, fun _ hL4 => hq τ4 ?_ q4⟩
  have hF4 : Fr (fun a j => (a = 172 ∧ j = 0) ∨ a = 173) (fun _ => False) σ τ4 := by rw [e4]; exact ((Fr.refl σ).sI (.inl ⟨rfl, rfl⟩)).sI (.inr rfl)
  refine hI.fr hK hL4 hF4 (fun a j h9 => by omega) (fun _ h => h.elim) (fun i hi => (hF4.i (by omega) (by omega)).trans (hI.2.2.2.2.2.2.1 i hi)) (fun i hi => ?_) ((hF4.i (by omega) (by omega)).trans hI.2.2.2.2.2.1)
  rw [e4, gI_sI]
  show _ = ups _ _ _ _
  unfold ups
  by_cases hir : i = r
  · rw [if_pos ⟨rfl, hir⟩, if_pos hir]
  · rw [if_neg (fun h9 => hir h9.2), if_neg hir, gI_sI, if_neg (by omega)]; exact hR i hi
theorem S_copies {r s : Nat} (hL : Lay LM g c t σ) (hr : r < 10) (hs : s < 10) (h : ∀ τ, Lay LM g c t τ → Fr (fun a _ => a = 176 + s) (fun _ => False) σ τ → (∀ k, k < 34 → gI τ (176 + s) k = gI σ (176 + r) k) → Q (.inl none) τ) : CC E mX12_copies [vr 172, vi r, vi s] σ Q := by
  refine C_X12_copies (B_X12_copies_0 hL (fun _ => ?_))
  refine loopU (N := 34) (G := fun i τ => GG E mX12_copies 2 [some (vr 172), some (vi r), some (vi s), some (vi i)] [] τ 0 0 Q) (P := fun i τ => Lay LM g c t τ ∧ Fr (fun a _ => a = 176 + s) (fun _ => False) σ τ ∧ (∀ k, k < i → gI τ (176 + s) k = gI σ (176 + r) k) ∧ ∀ k, i ≤ k → gI τ (176 + s) k = gI σ (176 + s) k) ?_ ?_ 0 σ (by omega) ⟨hL, Fr.refl _, fun k hk => absurd hk (by omega), fun _ _ => rfl⟩
  · rintro i τ hi ⟨hLτ, hF, hz, hy⟩ next
    refine B_X12_copies_2 hLτ ⟨fun h => absurd h (by omega), fun _ => ⟨by omega, by omega, by omega, fun τ6 e6 => ⟨⟨by omega, by omega⟩, fun hL6 => ?_⟩⟩⟩
    rw [show ((r : Nat) : Int).toNat = r by omega, show ((s : Nat) : Int).toNat = s by omega, show ((i : Nat) : Int).toNat = i by omega] at e6
    have q : gI τ (176 + r) i = gI σ (176 + r) i := by
      by_cases hrs : r = s
      · subst hrs; exact hy i (Nat.le_refl _)
      · exact hF.i (by omega) (by omega)
    rw [q] at e6
    subst e6
    refine next _ ⟨hL6, hF.sI (by omega), fun k hk => ?_, fun k hk => ?_⟩
    · rw [gI_sI]
      by_cases hki : k = i
      · rw [if_pos ⟨rfl, hki⟩, hki]
      · rw [if_neg (fun h9 => hki h9.2)]; exact hz k (by omega)
    · rw [gI_sI, if_neg (by omega)]; exact hy k (by omega)
  · rintro τ ⟨hLτ, hF, hz, hy⟩
    exact B_X12_copies_2 hLτ ⟨fun _ _ => h τ hLτ hF hz, fun h9 => absurd (by omega) h9⟩
theorem ST.cp {τ : Sg} {r s : Nat} (h : ST σ r D told) (hz : ∀ k, k < 34 → gI τ (176 + s) k = gI σ (176 + r) k) : ST τ s D told :=
  ⟨(hz 0 (by omega)).trans h.1, h.2.1, h.2.2.1, (hz 1 (by omega)).trans h.2.2.2.1, h.2.2.2.2.1, fun u hu => ⟨(h.2.2.2.2.2 u hu).1, fun j hj => (hz _ (by have := h.2.2.2.2.1; omega)).trans ((h.2.2.2.2.2 u hu).2 j hj)⟩⟩
abbrev frMb : Nat → Nat → Prop := fun a k => (178 ≤ a ∧ a < 186) ∨ (a = 172 ∧ k = 10)
theorem S_remembers (hL : Lay LM g c t σ) (hP : MPast σ D past) (hT : ST σ 0 D told)
    (h : ∀ τ, Lay LM g c t τ → Fr frMb (fun _ => False) σ τ → MPast τ D (keepP past told) → Q (.inl none) τ) : CC E mX12_remembers [vr 172] σ Q := by
  have fin : ∀ (p : List (List (List Int))) (ρ τ : Sg), p.length < 8 → Fr frMb (fun _ => False) σ ρ → MPast ρ D p → Fr (fun a _ => a = 176 + (2 + p.length)) (fun _ => False) ρ τ → (∀ k, k < 34 → gI τ (176 + (2 + p.length)) k = gI ρ (176 + 0) k) →
      MPast (sI τ 172 10 ((p.length : Int) + 1)) D (p ++ [told]) ∧ Fr frMb (fun _ => False) σ (sI τ 172 10 ((p.length : Int) + 1)) := by
    intro p ρ τ hp hF hPρ hFτ hz
    have hlen : (p ++ [told]).length = p.length + 1 := by simp
    have hTρ := hT.fr hF (by omega) (fun j => by omega)
    refine ⟨⟨by rw [gI_sI, if_pos ⟨rfl, rfl⟩, hlen]; rfl, by omega, fun i hi => ?_⟩, (hF.trans (hFτ.mono (fun a j h9 => by omega) (fun _ h => h))).sI (by omega)⟩
    have hF9 : Fr (fun a k => a = 172) (fun _ => False) τ (sI τ 172 10 ((p.length : Int) + 1)) := Fr_of1 rfl
    by_cases hil : i < p.length
    · rw [getD_app9' hil]
      exact ((hPρ.2.2 i hil).fr hFτ (by omega) (fun j => by omega)).fr hF9 (by omega) (fun j => by omega)
    · have : i = p.length := by omega
      subst this
      rw [getD_last9']
      exact (hTρ.cp hz).fr hF9 (by omega) (fun j => by omega)
  have h8 := hP.2.1
  refine C_X12_remembers (B_X12_remembers_0 hL ?_)
  rw [hP.1]
  refine ⟨fun hne => ⟨⟨by omega, by omega⟩, fun _ => ?_⟩, fun he _ => ?_⟩
  · have hlt : past.length < 8 := by omega
    rw [show (2 : Int) + (past.length : Int) = ((2 + past.length : Nat) : Int) by omega]
    refine S_copies (r := 0) hL (by omega) (by omega) (fun τ3 hL3 hF3 hz3 => ⟨hL3, ?_⟩)
    have q3 : gI τ3 172 10 = (past.length : Int) := (hF3.i (by omega) (by omega)).trans hP.1
    rw [q3]
    refine ⟨⟨by omega, by omega⟩, fun τ5 e5 hL5 => ?_⟩
    subst e5
    have f := fin past σ τ3 hlt (Fr.refl _) hP hF3 hz3
    exact h _ hL5 f.2 (by unfold keepP; rw [if_neg (by omega)]; exact f.1)
  · have he8 : past.length = 8 := by omega
    have htl : past.tail.length = 7 := by rw [List.length_tail]; omega
    refine loopU (N := 8) (G := fun i τ => GG E mX12_remembers 11 [some (vr 172), some (vi i)] [] τ 0 0 Q)
      (P := fun i τ => 1 ≤ i ∧ Lay LM g c t τ ∧ Fr (fun a _ => 178 ≤ a ∧ a < 186) (fun _ => False) σ τ ∧ (∀ j, j + 1 < i → ST τ (2 + j) D (past.tail.getD j [])) ∧ ∀ j, i ≤ j → j < 8 → ST τ (2 + j) D (past.getD j [])) ?_ ?_ 1 σ (by omega) ⟨Nat.le_refl _, hL, Fr.refl _, fun j hj => absurd hj (by omega), fun j _ hj => hP.2.2 j (by omega)⟩
    · rintro i τ hi ⟨hi1, hLτ, hF, ha, hb⟩ next
      refine B_X12_remembers_11 hLτ ⟨fun h => absurd h (by omega), fun _ => ⟨⟨by omega, by omega⟩, ⟨by omega, by omega⟩, fun _ => ?_⟩⟩
      rw [show (2 : Int) + (i : Int) = ((2 + i : Nat) : Int) by omega, show (1 : Int) + (i : Int) = ((1 + i : Nat) : Int) by omega]
      refine S_copies hLτ (by omega) (by omega) (fun τ3 hL3 hF3 hz3 => ⟨hL3, ⟨by omega, by omega⟩, fun _ => next τ3 ⟨by omega, hL3, hF.trans (hF3.mono (fun a j h9 => by omega) (fun _ h => h)), fun j hj => ?_, fun j h1 h2 => (hb j (by omega) h2).fr hF3 (by omega) (fun k => by omega)⟩⟩)
      by_cases hji : j + 1 = i
      · have := (hb i (Nat.le_refl _) hi).cp hz3
        rw [getD_tail, hji, show 2 + j = 1 + i by omega]
        exact this
      · exact (ha j (by omega)).fr hF3 (by omega) (fun k => by omega)
    · rintro τ ⟨hi1, hLτ, hF, ha, hb⟩
      have q10 : gI τ 172 10 = 8 := (hF.i (by omega) (by omega)).trans (by rw [hP.1]; omega)
      refine B_X12_remembers_11 hLτ ⟨fun _ => ?_, fun h9 => absurd (by omega) h9⟩
      rw [q10]
      refine ⟨⟨by omega, by omega⟩, fun τ2 e2 => ?_⟩
      have q2 : gI τ2 172 10 = 7 := by rw [e2, gI_sI, if_pos ⟨rfl, rfl⟩]; rfl
      rw [q2]
      refine ⟨⟨by omega, by omega⟩, fun hL2 => ?_⟩
      have hF2 : Fr frMb (fun _ => False) σ τ2 := by rw [e2]; exact (hF.mono (fun a j h9 => by omega) (fun _ h => h)).sI (.inr ⟨rfl, rfl⟩)
      have hP2 : MPast τ2 D past.tail := ⟨by rw [q2, htl]; rfl, by omega, fun i hi => (ha i (by omega)).fr (W := fun a _ => a = 172) (V := fun _ => False) (by rw [e2]; exact Fr_of1 rfl) (by omega) (fun k => by omega)⟩
      rw [show (2 : Int) + 7 = ((2 + past.tail.length : Nat) : Int) by omega]
      refine S_copies (r := 0) hL2 (by omega) (by omega) (fun τ3 hL3 hF3 hz3 => ⟨hL3, ?_⟩)
      have q3 : gI τ3 172 10 = (past.tail.length : Int) := (hF3.i (by omega) (by omega)).trans (by rw [q2, htl]; rfl)
      rw [q3]
      refine ⟨⟨by omega, by omega⟩, fun τ5 e5 hL5 => ?_⟩
      subst e5
      have f := fin past.tail τ2 τ3 (by omega) hF2 hP2 hF3 hz3
      exact h _ hL5 f.2 (by unfold keepP; rw [if_pos (by omega)]; exact f.1)
end S78
