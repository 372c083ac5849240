/-! ===== giveBack, takeTrial; frames of the class's state ===== -/
abbrev scrP (c t : Nat) : Nat → Nat → Prop := fun a j => a = 155 ∨ (t ≤ a ∧ a ≤ t + 6) ∨ a = c + 6 ∨ a = 19 ∨ a = 20 ∨ (a = 31 ∧ j = 2) ∨ a = 32 ∨ a = 33 ∨ (53 ≤ a ∧ a < 70) ∨ (82 ≤ a ∧ a < 109) ∨ (121 ≤ a ∧ a < 125) ∨ (152 ≤ a ∧ a < 155)
abbrev scrV : Nat → Prop := fun _ => False
section S75
variable {E : Ev} {σ : Sg} {Q : NO → Sg → Prop} {g : Sg} {c t : Nat}
theorem GAll.fr {W : Nat → Nat → Prop} {V : Nat → Prop} {τ : Sg} {D : Int} {els : List (List Int)} (h : GAll σ D els) (k : Fr W V σ τ) (w : ∀ a j, 24 ≤ a → a ≤ 30 → ¬ W a j) : GAll τ D els :=
  ⟨h.1.fr k ⟨w _ _ (by omega) (by omega), fun _ => w _ _ (by omega) (by omega)⟩, h.2.1.fr k (fun _ => w _ _ (by omega) (by omega)), h.2.2.1.fr k ⟨fun _ => w _ _ (by omega) (by omega), w _ _ (by omega) (by omega), w _ _ (by omega) (by omega)⟩, h.2.2.2.1.fr k ⟨fun _ => ⟨w _ _ (by omega) (by omega), w _ _ (by omega) (by omega), w _ _ (by omega) (by omega)⟩, w _ _ (by omega) (by omega), w _ _ (by omega) (by omega)⟩, (k.i (by omega) (w _ _ (by omega) (by omega))).trans h.2.2.2.2⟩
theorem MkC.fr {W : Nat → Nat → Prop} {V : Nat → Prop} {τ : Sg} {N : Nat} {m : Nat → Nat → Nat} (h : MkC σ N m) (k : Fr W V σ τ) (w : ¬ W 31 3 ∧ ¬ W 31 4) : MkC τ N m := by
  unfold MkC
  rw [k.i (by omega) w.1, k.i (by omega) w.2]
  exact h
variable {K : Int → List (List Int) → Sg → Prop} {D : Int} {told els : List (List Int)} {past : List (List (List Int))} {B : List Int} {F : Int} {W R : Nat → Int}
theorem Lay.dis (hL : Lay LC g c t σ) : (c = 158 ∧ t = 165) ∨ (c = 165 ∧ t = 158) := hL.ct
/-- scratch cells, reasons, refusals change -/
theorem CI.fr {Wf : Nat → Nat → Prop} {Vf : Nat → Prop} {τ : Sg} {W' R' : Nat → Int} {F' : Int} (h : CI K g c t σ D told els past B F W R) (hK : KF K) (hL : Lay LC g c t τ) (k : Fr Wf Vf σ τ)
    (w : ∀ a j, Wf a j → scrP c t a j ∨ a = 156 ∨ a = 157 ∨ (a = 16 ∧ j = 16)) (v : ∀ a, Vf a → scrV a) (hW : ∀ i, i < 4 → gI τ 156 i = W' i) (hR : RfC τ R') (hF : gI τ 16 16 = F') : CI K g c t τ D told els past B F' W' R' := by
  obtain ⟨l1, l2, l3, l4, l5, l6, l7, l8, l9, l10, l11⟩ := h
  have hd := l1.dis
  have ci := l1.isc
  have n : ∀ a j, ¬ (scrP c t a j ∨ a = 156 ∨ a = 157 ∨ (a = 16 ∧ j = 16)) → ¬ Wf a j := fun a j h1 h2 => h1 (w a j h2)
  refine ⟨hL, l2.fr k ci ⟨fun j => n _ _ (by omega), n _ _ (by omega), n _ _ (by omega)⟩, l3.fr k ci ⟨fun j => n _ _ (by omega), n _ _ (by omega)⟩, l4.fr k (fun a j h1 h2 => n _ _ (by omega)), l5.fr k ⟨fun j => ⟨n _ _ (by omega), n _ _ (by omega)⟩, n _ _ (by omega)⟩, l6.fr k ⟨fun j => n _ _ (by omega), n _ _ (by omega)⟩, hF, hW, hR, ?_, ?_⟩
  · refine ⟨l10.1.fr k ⟨fun h9 => v _ h9, fun h9 => v _ h9, fun h9 => v _ h9⟩ (fun a j h9 => n _ _ (by omega)), ?_⟩
    replace l10 := l10.2
    rw [k.i (by omega) (n 16 14 (by omega))]
    rcases l10 with h | h
    · exact .inl h
    · refine .inr ⟨h.1, hK D els σ τ (k.mono (fun a j h1 => ?_) (fun a h1 => ?_)) h.2⟩
      · have := w a j h1; omega
      · exact (v a h1).elim
  · rw [k.i (by omega) (n 16 15 (by omega))]
    rcases l11 with h | h
    · exact .inl h
    · exact .inr ⟨h.1, h.2.fr k ⟨n _ _ (by omega), n _ _ (by omega)⟩⟩
/-- scratch cells alone -/
theorem CI.scr {Wf : Nat → Nat → Prop} {Vf : Nat → Prop} {τ : Sg} (h : CI K g c t σ D told els past B F W R) (hK : KF K) (hL : Lay LC g c t τ) (k : Fr Wf Vf σ τ) (w : ∀ a j, Wf a j → scrP c t a j) (v : ∀ a, Vf a → scrV a) : CI K g c t τ D told els past B F W R := by
  have hd := h.1.dis
  have n : ∀ a j, ¬ scrP c t a j → ¬ Wf a j := fun a j h1 h2 => h1 (w a j h2)
  exact h.fr hK hL k (fun a j h1 => .inl (w a j h1)) v (fun i hi => (k.i (by omega) (n _ _ (by omega))).trans (h.2.2.2.2.2.2.2.1 i hi)) (h.2.2.2.2.2.2.2.2.1.fr k (fun j => n _ _ (by omega))) ((k.i (by omega) (n _ _ (by omega))).trans h.2.2.2.2.2.2.1)
/-- a refusal -/
theorem CI.ref {τ : Sg} {i : Nat} (h : CI K g c t σ D told els past B F W R) (hK : KF K) (hL : Lay LC g c t τ) (k : Fr frR (fun _ => False) σ τ) (hR : RfC τ (bmp R i)) : CI K g c t τ D told els past B F W (bmp R i) :=
  h.fr hK hL k (fun a j h1 => .inr (.inr (.inl h1))) (fun _ h => h.elim) (fun i hi => (k.i (by omega) (by omega)).trans (h.2.2.2.2.2.2.2.1 i hi)) hR ((k.i (by omega) (by omega)).trans h.2.2.2.2.2.2.1)
theorem S_takeTrial (hL : Lay LC g c t σ) (hC : Clo D told els) (ht4 : told.length ≤ 4) (hB : OdB els.length (gmt D els)) (hE : CloE σ t D els) (hT : Tab σ t D told els els.length 0) (hO : Org σ t D told els)
    (h : ∀ τ, Lay LC g t c τ → Fr (fun b k => (24 ≤ b ∧ b ≤ 30) ∨ b = t + 6 ∨ (b = 16 ∧ (k = 14 ∨ k = 15))) (fun b => b = 16) σ τ → GAll τ D els → gI τ 16 14 = 0 → gI τ 16 15 = 0 → Q (.inl none) τ) : CC E mX11_takeTrial [vr 16] σ Q := by
  have hcl := hL.cl
  have tr := hL.ist.rg
  have o16 : ∀ {a b : Nat} {τ : Sg}, Lay LC g a b τ → okO τ 16 11 := fun hL => okO_of (N := 17) (hL.1 (16, 17, 12, 17) (by decide) 16 (by decide) (by decide)) (by decide)
  refine C_X11_takeTrial (B_X11_takeTrial_0 ⟨o16 hL, fun τ2 e2 => ?_⟩)
  rw [hcl.2] at e2
  have s2 : gS τ2 16 = (12, 17) := by rw [e2]; exact hL.1 (16, 17, 12, 17) (by decide) 16 (by decide) (by decide)
  refine ⟨okO_of (N := 17) s2 (by decide), fun τ4 e4 => ?_⟩
  rw [hcl.1] at e4
  have hL4 : Lay LC g t c τ4 := by rw [e4, e2]; exact hL.swp
  have r3 : gR τ4 16 3 = 24 := hL4.2.1 (16, 3, 24) (by decide)
  rw [r3, hL4.cl.1]
  have hI : ∀ b k, gI τ4 b k = gI σ b k := fun b k => by rw [e4, e2]; rfl
  have hF4 : Fr (fun b k => (24 ≤ b ∧ b ≤ 30) ∨ b = t + 6 ∨ (b = 16 ∧ (k = 14 ∨ k = 15))) (fun b => b = 16) σ τ4 := fun b _ k => ⟨fun _ => hI b k, fun hv => by
    rw [e4, e2]
    show (if b = 16 ∧ k = 13 then c else if b = 16 ∧ k = 12 then t else σ.2.1 b k) = σ.2.1 b k
    rw [if_neg (fun h9 => hv h9.1), if_neg (fun h9 => hv h9.1)]⟩
  refine ⟨o16 hL4, okO_of (N := 12) (hL4.1 (24, 25, 5, 12) (by decide) 24 (by decide) (by decide)) (by decide), ?_⟩
  refine S_build hL4 hL4.isc hC ht4 hB (hE.same (hI _ _) (fun j => hI _ _)) (fun k w hk hw hkw => ?_) (fun l h1 h2 => ?_) (fun τ7 hL7 hF7 hG7 => ⟨o16 hL7, fun τ9 e9 => ?_⟩)
  · obtain ⟨n, r1, r2, r3⟩ := hT k w hk hw hkw
    exact ⟨n, r1, r2, by rw [hI]; exact r3⟩
  · obtain ⟨k, w, r1, r2, r3, r4, r5⟩ := hO l h1 h2
    exact ⟨k, w, r1, r2, by rw [hI]; exact r3, by rw [hI]; exact r4, r5⟩
  · have hL9 : Lay LC g t c τ9 := hL7.wI e9 (by decide) (.inl (by decide))
    refine ⟨o16 hL9, fun τ11 e11 => ?_⟩
    have hL11 : Lay LC g t c τ11 := hL9.wI e11 (by decide) (.inl (by decide))
    subst e9 e11
    refine h _ hL11 (((hF4.trans (hF7.mono (fun b k h9 => by omega) (fun _ h => h.elim))).sI (by omega)).sI (by omega)) (hG7.fr (((Fr.refl τ7).sI (W := fun b k => b = 16) (V := fun _ => False) (by omega)).sI (by omega)) (fun a j h1 h2 => by omega)) ?_ ?_
    · simp [gI_sI]
    · simp [gI_sI]
theorem S_giveBack {a : Nat} (hL : Lay LC g c t σ) (ha : isCl a) (hP : PastC σ D past) (hp : 0 < past.length) (hT : CloT σ a D [])
    (h : ∀ τ, Lay LC g c t τ → Fr (fun d k => d = a + 1 ∨ (d = a ∧ k = 7) ∨ (d = 21 ∧ k = 2)) (fun _ => False) σ τ → CloT τ a D (past.getD (past.length - 1) []) → PastC τ D past.dropLast → Q (.inl none) τ) : CC E mX5_giveBack [vr 21, vr a] σ Q := by
  have ar := ha.rg
  have h8 := hP.2.1
  have hlast := hP.2.2 (past.length - 1) (by omega)
  generalize hle : past.getD (past.length - 1) [] = last at *
  have h4 := hlast.2.1
  refine C_X5_giveBack (B_X5_giveBack_0 hL ha ?_)
  rw [hP.1]
  refine ⟨fun h => absurd h (by omega), fun _ => ⟨fun _ => ⟨⟨by omega, by omega⟩, fun τ2 e2 hL2 => ?_⟩, fun h => absurd h (by omega)⟩⟩
  have hF2 : Fr (fun d k => d = a + 1 ∨ (d = a ∧ k = 7) ∨ (d = 21 ∧ k = 2)) (fun _ => False) σ τ2 := by rw [e2]; exact Fr_of1 (.inr (.inr ⟨rfl, rfl⟩))
  have hF0 : Fr (fun d k => d = 21 ∧ k = 2) (fun _ => False) σ τ2 := by rw [e2]; exact Fr_of1 ⟨rfl, rfl⟩
  have hP2 : PastC τ2 D past.dropLast := by
    refine ⟨by rw [e2, gI_sI, if_pos ⟨rfl, rfl⟩, List.length_dropLast]; omega, by rw [List.length_dropLast]; omega, fun i hi => ?_⟩
    rw [List.length_dropLast] at hi
    have : past.dropLast.getD i [] = past.getD i [] := by
      rw [List.getD_eq_getElem?_getD, List.getD_eq_getElem?_getD, List.getElem?_dropLast, if_pos hi]
    rw [this]
    have hi9 := hP.2.2 i (by omega)
    exact ⟨by rw [e2, gI_sI, if_neg (by omega)]; exact hi9.1, hi9.2.1, fun u hu => ⟨(hi9.2.2 u hu).1, fun j hj => by rw [e2, gI_sI, if_neg (by omega)]; exact (hi9.2.2 u hu).2 j hj⟩⟩
  refine loopU (N := last.length) (G := fun i τ => GG E mX5_giveBack 30 [some (vr 21), some (vr a), some (vi i)] [] τ 0 0 Q)
    (P := fun i τ => Lay LC g c t τ ∧ Fr (frT a) (fun _ => False) τ2 τ ∧ CloT τ a D (last.take i)) ?_ ?_ 0 τ2 (by omega) ⟨hL2, Fr.refl _, by rw [List.take_zero]; exact hT.fr hF0 ha ⟨fun j => by omega, by omega, by omega⟩⟩
  · rintro i τ hi ⟨hLτ, hF, hz⟩ next
    have hF9 := hF2.trans (hF.mono (W' := fun d k => d = a + 1 ∨ (d = a ∧ k = 7) ∨ (d = 21 ∧ k = 2)) (fun d k h9 => by omega) (fun _ h => h))
    have q2 : gI τ 21 2 = ((past.length - 1 : Nat) : Int) := by rw [hF.i (by omega) (by omega), e2, gI_sI, if_pos ⟨rfl, rfl⟩]; omega
    have q23 : gI τ 23 (past.length - 1) = (last.length : Int) := by rw [hF9.i (by omega) (by omega)]; exact hlast.1
    have hlen : (last.take i).length = i := by rw [List.length_take]; omega
    refine B_X5_giveBack_30 hLτ ha ?_
    rw [q2, show ((past.length - 1 : Nat) : Int).toNat = past.length - 1 by omega, q23]
    refine ⟨⟨by omega, by omega⟩, fun h => absurd h (by omega), fun _ => ⟨fun h => absurd h (by omega), fun _ => ⟨⟨by omega, by omega⟩, ⟨by omega, by omega⟩, ⟨by omega, by omega⟩, fun _ => ?_⟩⟩⟩
    rw [show ((past.length - 1 : Nat) : Int) * 32 + (i : Int) * 8 = ((32 * (past.length - 1) + 8 * i : Nat) : Int) by omega]
    have hz9 := hlast.2.2 i hi
    refine S_tell (n := 256) hLτ ha (PA.of (i := 6) (lo := 22) (hi := 23) rfl (by omega) (by omega) (by decide) (by decide)) (by omega) hz (by omega) hz9.1 (fun j hj => by rw [hF9.i (by omega) (by omega)]; exact hz9.2 j hj) (fun τ3 hL3 hF3 hT3 => ⟨hL3, ⟨by omega, by omega⟩, fun _ => next τ3 ⟨hL3, hF.trans hF3, ?_⟩⟩)
    rw [← take_succ9 hi]; exact hT3
  · rintro τ ⟨hLτ, hF, hz⟩
    have hF9 := hF2.trans (hF.mono (W' := fun d k => d = a + 1 ∨ (d = a ∧ k = 7) ∨ (d = 21 ∧ k = 2)) (fun d k h9 => by omega) (fun _ h => h))
    have q2 : gI τ 21 2 = ((past.length - 1 : Nat) : Int) := by rw [hF.i (by omega) (by omega), e2, gI_sI, if_pos ⟨rfl, rfl⟩]; omega
    have q23 : gI τ 23 (past.length - 1) = (last.length : Int) := by rw [hF9.i (by omega) (by omega)]; exact hlast.1
    refine B_X5_giveBack_30 hLτ ha ?_
    rw [q2, show ((past.length - 1 : Nat) : Int).toNat = past.length - 1 by omega, q23]
    rw [List.take_length] at hz
    exact ⟨⟨by omega, by omega⟩, fun _ _ => h τ hLτ hF9 hz (hP2.fr hF ⟨fun _ => ⟨by omega, by omega⟩, by omega⟩), fun h9 => absurd (by omega) h9⟩
end S75
