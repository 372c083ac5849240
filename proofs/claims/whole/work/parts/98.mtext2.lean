/-! ===== the reference: text ===== -/
section S98
variable {E : Ev} {σ : Sg} {Q : NO → Sg → Prop} {g : Sg} {c t : Nat}
variable {K : Int → List (List Int) → Sg → Prop} {D : Int} {told els : List (List Int)} {past : List (List (List Int))} {B : List Int} {F : Int} {W R : Nat → Int}
theorem MI.tape {τ : Sg} {B' : List Int} (h : MI K g c t σ D told els past B F W R) (hK : KFM K) (hL : Lay LM g c t τ) (k : Fr (fun a j => a = 174 ∨ (a = 172 ∧ j = 2)) (fun _ => False) σ τ) (hB : MTape τ B') : MI K g c t τ D told els past B' F W R := by
  obtain ⟨l1, l2, l3, l4, l5, l6, l7, l8, l9⟩ := h
  refine ⟨hL, l2.fr k (by omega) (fun j => by omega), l3.fr k ⟨fun a j h1 h2 => by omega, fun j h1 h2 => by omega⟩, l4.fr k ⟨by omega, fun a j h1 h2 => by omega⟩, hB, (k.i (by omega) (by omega)).trans l6, fun i hi => (k.i (by omega) (by omega)).trans (l7 i hi), l8.fr k (fun j => by omega), ?_⟩
  refine ⟨l9.1.fr k ⟨id, id⟩, ?_⟩
  replace l9 := l9.2
  rw [k.i (by omega) (by omega)]
  rcases l9 with h | h
  · exact .inl h
  · exact .inr ⟨h.1, hK D els σ τ (k.mono (fun a j h1 => by omega) (fun a h1 => h1.elim)) h.2⟩
theorem WhyM.to {τ τ' : Sg} {w : Option (Nat × Nat × Nat × Nat)} (h : WhyM σ τ w) (hW : ∀ i, i < 4 → gI σ 186 i = W0 i) (k : ∀ i, gI τ' 186 i = gI τ 186 i) : ∀ i, i < 4 → gI τ' 186 i = wW w i := fun i hi => by
  rw [k, h i hi]
  match w with
  | none => exact hW i hi
  | some x => rfl
theorem M_text {x : Int} (h : MI K g c t σ D told els past B F W R) (hK : KFM K) (hRB : ∀ i, i < 3 → inR (R i + 1)) (hby : ∀ i, i < B.length → 0 ≤ gd B i)
    (h0 : (x < 0 ∨ (B.length : Int) < x) → ∀ τ, MI K g c t τ D told els past B F W0 (bmp R 1) → gI τ 172 0 = 1 → Q (.inl (some (vi 0))) τ)
    (h1 : ∀ n : Nat, x = n → n ≤ B.length → ∀ k s w, pText (atB B n) n = .inl (k, s, w) → ∀ τ, MI K g c t τ D told els past [] s (wW w) R → gI τ 172 0 = 0 → Q (.inl (some (vi (k - 10)))) τ)
    (h2 : ∀ n : Nat, x = n → n ≤ B.length → ∀ D' told' els', pText (atB B n) n = .inr (D', told') → OKs D' told' els' [] → ∀ τ, MI K g c t τ D' told' els' [] [] (-1) W0 R → gI τ 172 0 = 0 → Q (.inl (some (vi els'.length))) τ) :
    CC E mX12_text [vr 172, vi x] σ Q := by
  refine C_X12_text (B_X12_text_0 h.1 (fun τ1 e1 => ?_))
  have hL1 : Lay LM g c t τ1 := h.1.wI e1 (by decide) (.inl (by decide))
  subst e1
  have hI := h.th hK 0 hL1
  have q0 : gI (sI σ 172 0 0) 172 0 = 0 := by rw [gI_sI, if_pos ⟨rfl, rfl⟩]
  generalize sI σ 172 0 0 = τ1 at *
  refine fun _ => S_nothingWhy hL1 (fun τ3 hL3 hF3 hW3 => ⟨hL3, fun _ => ?_⟩)
  have I3 : MI K g c t τ3 D told els past B F W0 R := hI.fr hK hL3 hF3 (fun a j h9 => .inr (.inl h9)) (fun _ h => h.elim) hW3 (hI.2.2.2.2.2.2.2.1.fr hF3 (fun j => by omega)) ((hF3.i (by omega) (by omega)).trans hI.2.2.2.2.2.1)
  have q3 : gI τ3 172 0 = 0 := (hF3.i (by omega) (by omega)).trans q0
  have hB3 : MTape τ3 B := I3.2.2.2.2.1
  have h400 := hB3.2.1
  rw [hB3.1]
  refine S_in (fun r r1 r0 => ⟨hL3, fun _ => ⟨fun hr _ => ?_, fun hr _ => ?_⟩⟩)
  rotate_left
  · have hn : x < 0 ∨ (B.length : Int) < x := by
      have := of_eq9 r1 hr
      omega
    exact S_bad1 (r := 1) hL3 I3 hK q3 (by decide) (by decide) (by decide) (hRB 1 (by omega)) (fun τ5 hI5 q5 => ⟨hI5.1, fun _ => ⟨fun h9 => absurd h9 (by decide), fun _ _ => B_X12_text_35 hI5.1 (fun _ => h0 hn τ5 hI5 q5)⟩⟩)
  have hin := of_ne9 r0 hr
  obtain ⟨n, rfl⟩ : ∃ n : Nat, x = n := ⟨x.toNat, by omega⟩
  have hn : n ≤ B.length := by omega
  refine S_bad0 hL3 q3 ⟨hL3, fun _ => ⟨fun _ _ => ?_, fun h9 => absurd rfl h9⟩⟩
  refine B_X12_text_37 hL3 (fun τ4 e4 τ5 e5 τ6 e6 τ7 e7 τ8 e8 τ9 e9 hL9 => ?_)
  have hL4 : Lay LM g c t τ4 := hL3.wI e4 (by decide) (.inl (by decide))
  have hF4 : Fr (fun a j => a = 174 ∨ (a = 172 ∧ j = 2)) (fun _ => False) τ3 τ4 := by rw [e4]; exact Fr_of1 (.inr ⟨rfl, rfl⟩)
  have I4 := I3.tape (B' := []) hK hL4 hF4 ⟨by rw [e4, gI_sI, if_pos ⟨rfl, rfl⟩]; rfl, by decide, fun i hi => absurd hi (by simp)⟩
  have hF9 : Fr (fun a j => (a = 172 ∧ (j = 3 ∨ j = 4 ∨ j = 6 ∨ j = 7)) ∨ a = 177) (fun _ => False) τ4 τ9 := by
    rw [e9, e8, e7, e6, e5]
    exact (((((Fr.refl τ4).sI (.inl ⟨rfl, .inl rfl⟩)).sI (.inl ⟨rfl, .inr (.inl rfl)⟩)).sI (.inl ⟨rfl, .inr (.inr (.inl rfl))⟩)).sI (.inl ⟨rfl, .inr (.inr (.inr rfl))⟩)).sI (.inr rfl)
  have I9 : MI K g c t τ9 D told els past [] F W0 R := I4.scr hK hL9 hF9 (fun a j h9 => by omega) (fun _ h => h.elim)
  have q9 : gI τ9 172 0 = 0 := (hF9.i (by omega) (by omega)).trans ((hF4.i (by omega) (by omega)).trans q3)
  have R9 : RdM τ9 B n 0 := by
    refine ⟨by rw [e9, e8, e7, e6, e5]; simp [gI_sI], by omega, hn, fun i hi => ?_, by rw [e9, e8, e7, e6, e5]; simp [gI_sI]⟩
    rw [hF9.i (by omega) (by omega), e4, gI_sI, if_neg (by omega)]
    exact hB3.2.2 i (by omega)
  have f9 : FnM τ9 := ⟨by rw [e9, e8, e7, e6, e5]; simp [gI_sI], by rw [e9, e8, e7, e6, e5]; simp [gI_sI]⟩
  have c9 : gI τ9 177 1 = 0 := by rw [e9]; simp [gI_sI]
  have W9 : ∀ i, i < 4 → gI τ9 186 i = W0 i := I9.2.2.2.2.2.2.1
  clear e4 e5 e6 e7 e8 e9 hF9
  have w0 : ∀ {τ : Sg} {W : Nat → Nat → Prop}, Fr W (fun _ => False) τ9 τ → (∀ j, ¬ W 186 j) → WhyM τ9 τ none := fun hF hW i hi => hF.i (by omega) (hW i)
  -- a fault was found
  have bad : ∀ (τ : Sg) (k s : Nat) (w : Option (Nat × Nat × Nat × Nat)), pText (atB B n) n = .inl (k, s, w) → Lay LM g c t τ → Fr frQm (fun _ => False) τ9 τ → FlM τ k s → WhyM τ9 τ w → GG E mX12_text 115 [some (vr 172), none, none, none, none] [] τ 0 0 Q := by
    intro τ k s w hp hLτ hF hfl hwy
    have hk := pText_k hp
    dsimp only at hk
    have h6 : gI τ 172 6 ≠ 0 := by rw [hfl.1]; omega
    refine B_X12_text_115 hLτ (fun _ => M_fine0 hLτ h6 ⟨hLτ, fun _ => ⟨fun _ _ => ?_, fun h9 => absurd rfl h9⟩⟩)
    refine B_X12_text_137 hLτ (fun τ1' e1 hL1' => ?_)
    have hF1 : Fr (fun a j => a = 172 ∧ j = 5) (fun _ => False) τ τ1' := by rw [e1]; exact Fr_of1 ⟨rfl, rfl⟩
    have h61 : gI τ1' 172 6 = (k : Int) := (hF1.i (by omega) (by omega)).trans hfl.1
    refine M_fine0 hL1' (by omega) ⟨hL1', fun _ => ⟨fun h9 => absurd rfl h9, fun _ => ?_⟩⟩
    rw [h61]
    refine ⟨⟨by omega, by omega⟩, fun _ => h1 n rfl hn k s w hp τ1' ?_ ((hF1.i (by omega) (by omega)).trans ((hF.i (by omega) (by omega)).trans q9))⟩
    have hF19 : Fr (fun a j => frQm a j ∨ (a = 172 ∧ j = 5)) (fun _ => False) τ9 τ1' := (hF.mono (fun a j h9 => .inl h9) (fun _ h => h)).trans (hF1.mono (fun a j h9 => .inr h9) (fun _ h => h))
    exact I9.fr hK hL1' hF19 (fun a j h9 => by omega) (fun _ h => h.elim) (hwy.to W9 (fun i => hF1.i (by omega) (by omega))) (I9.2.2.2.2.2.2.2.1.fr hF19 (fun j => by omega)) (by rw [e1, gI_sI, if_pos ⟨rfl, rfl⟩]; exact hfl.2)
  -- all was read
  have good : ∀ (τ : Sg) (D' : Int) (told' els' : List (List Int)), pText (atB B n) n = .inr (D', told') → (D' = 2 ∨ D' = 3 ∨ D' = 5) → clos D' told' = some (.inr els') → Lay LM g c t τ → Fr frQm (fun _ => False) τ9 τ → FnM τ → ST τ 1 D' told' → WhyM τ9 τ none → GG E mX12_text 137 [some (vr 172), none, none, none, none] [] τ 0 0 Q := by
    intro τ D' told' els' hp hD' hcl hLτ hF hf hT hwy
    have htd : tolds D' told' := ⟨hT.2.2.2.2.1, fun u hu => (hT.2.2.2.2.2 u hu).1⟩
    have hCl := clos_Clo htd.2 hcl
    refine B_X12_text_137 hLτ (fun τ1' e1 hL1' => ?_)
    have hF1 : Fr (fun a j => a = 172 ∧ j = 5) (fun _ => False) τ τ1' := by rw [e1]; exact Fr_of1 ⟨rfl, rfl⟩
    have q5 : gI τ1' 172 5 = -1 := by rw [e1, gI_sI, if_pos ⟨rfl, rfl⟩]; exact hf.2
    refine M_fine1 hL1' ((hF1.i (by omega) (by omega)).trans hf.1) ⟨hL1', fun _ => ⟨fun _ _ => ?_, fun h9 => absurd h9 (by decide)⟩⟩
    have T1 := hT.fr hF1 (by omega) (fun j => by omega)
    refine S_copies (r := 1) (s := 0) hL1' (by omega) (by omega) (fun τ5 hL5 hF5 hz5 => ⟨hL5, fun τ6 e6 hL6 => ?_⟩)
    have S5 : ST τ5 0 D' told' := T1.cp (s := 0) hz5
    have hF6 : Fr (fun a j => a = 172 ∧ j = 10) (fun _ => False) τ5 τ6 := by rw [e6]; exact Fr_of1 ⟨rfl, rfl⟩
    have S6 := S5.fr hF6 (by omega) (fun j => by omega)
    have q10 : gI τ6 172 10 = 0 := by rw [e6, gI_sI, if_pos ⟨rfl, rfl⟩]
    refine S_closes (r := 0) hL6 (by omega) S6 hcl (fun τ8 hL8 hF8 hR8 hN8 => ⟨hL8, fun _ _ => ?_⟩)
    refine S_keeps hL8 hD' hCl (S6.fr hF8 (by omega) (fun j => by omega)) hR8 hN8 (fun τ10 hL10 hF10 hM10 h27 => ⟨hL10, fun _ => ?_⟩)
    have hFa : Fr (fun a j => (a = 172 ∧ (j = 5 ∨ j = 10)) ∨ a = 176 ∨ frL a j ∨ frK a j) (fun _ => False) τ τ10 :=
      ((((hF1.mono (fun a j h9 => .inl (by omega)) (fun _ h => h)).trans (hF5.mono (fun a j h9 => .inr (.inl h9)) (fun _ h => h))).trans (hF6.mono (fun a j h9 => .inl (by omega)) (fun _ h => h))).trans (hF8.mono (fun a j h9 => .inr (.inr (.inl h9))) (fun _ h => h))).trans (hF10.mono (fun a j h9 => .inr (.inr (.inr h9))) (fun _ h => h))
    have hFb : Fr (fun a j => frL a j ∨ frK a j) (fun _ => False) τ6 τ10 := (hF8.mono (fun a j h9 => .inl h9) (fun _ h => h)).trans (hF10.mono (fun a j h9 => .inr h9) (fun _ h => h))
    have hFc : Fr (fun a j => frQm a j ∨ ((a = 172 ∧ (j = 5 ∨ j = 10)) ∨ a = 176 ∨ frL a j ∨ frK a j)) (fun _ => False) τ9 τ10 := (hF.mono (fun a j h9 => .inl h9) (fun _ h => h)).trans (hFa.mono (fun a j h9 => .inr h9) (fun _ h => h))
    have I10 : MI K g c t τ10 D' told' els' [] [] (-1) W0 R := MI.anew hL10 (S6.fr hFb (by omega) (fun j => by omega)) hM10 ⟨(hFb.i (by omega) (by omega)).trans q10, by decide, fun i hi => absurd hi (by simp)⟩ (I9.2.2.2.2.1.fr hFc ⟨by omega, fun j => by omega⟩) ((hFb.i (by omega) (by omega)).trans ((hF6.i (by omega) (by omega)).trans ((hF5.i (by omega) (by omega)).trans q5))) (fun i hi => (hwy.to (w := none) W9 (fun i => hFa.i (by omega) (by omega)) i hi)) (I9.2.2.2.2.2.2.2.1.fr hFc (fun j => by omega)) h27 (I9.j.fr hFc ⟨id, id⟩)
    obtain ⟨d, p, s, m1, m2, m3, m4⟩ := hM10
    rw [m4.2.1.1]
    exact h2 n rfl hn D' told' els' hp ⟨hD', htd, hcl, by decide, fun i hi => absurd hi (by simp)⟩ τ10 I10 ((hFc.i (by omega) (by omega)).trans q9)
  -- the root
  have K9 := fun (s1 q : Nat) (v : Int) (q1 : s1 = upto (isBl (atB B n)) (upto (isBl (atB B n)) 0 + 4)) (q2 : q = upto (isDg (atB B n)) s1) (q3 : v = dgv (atB B n) s1 (q - s1)) => pText_e (f := atB B n) (n := n) rfl q1 q2 q3
  refine M_here hL9 R9 (by omega) (fun τ8 hL8 hF8 hR8 => ⟨hL8, fun _ _ => ?_⟩)
  have hsn : upto (isBl (atB B n)) 0 ≤ n := upto_le noBl (by omega)
  have hsb : ¬ isBl (atB B n) (upto (isBl (atB B n)) 0) := (upto_s noBl).2.1
  generalize upto (isBl (atB B n)) 0 = s at *
  have e0 : upto (isBl (atB B n)) s = s := upto_no noBl hsb
  have f8 := f9.fr hF8 ⟨by omega, by omega⟩
  refine M_takes (w := wRoot) e0.symm hsn hL8 hR8 f8.1 (fun τ hLτ => hLτ.str.2.2.1) (fun j hj => (wR_ok j hj).1) (fun hw hle τ10 hL10 hF10 hR10 => ?_) (fun hw τ10 hL10 hF10 hR10 => ?_)
  rotate_left
  · have KK := K9 _ _ _ rfl rfl rfl
    rw [if_neg hw] at KK
    have f10 := f8.fr hF10 ⟨by omega, by omega⟩
    refine ⟨hL10, fun _ => ⟨fun h9 => absurd rfl h9, fun _ _ => ?_⟩⟩
    rw [hR8.2.2.2.2]
    refine M_wrong1 hL10 f10.1 (fun χ hLχ hFχ q6 q7 => ⟨hLχ, fun _ => M_number0 hLχ (by omega) ⟨hLχ, fun _ _ => M_ends0 hLχ (by omega) ⟨hLχ, fun τ22 e22 hL22 => ?_⟩⟩⟩)
    have hF22 : Fr (fun a j => a = 177) (fun _ => False) χ τ22 := by rw [e22]; exact Fr_of1 rfl
    have hFa : Fr (fun a j => frMf a j ∨ a = 177) (fun _ => False) τ9 τ22 := (((hF8.mono (fun a j h9 => by omega) (fun _ h => h)).trans (hF10.mono (fun a j h9 => by omega) (fun _ h => h))).trans (hFχ.mono (fun a j h9 => by omega) (fun _ h => h))).trans (hF22.mono (fun a j h9 => .inr h9) (fun _ h => h))
    exact bad τ22 1 s none KK hL22 (hFa.mono (fun a j h9 => by omega) (fun _ h => h)) ⟨(hF22.i (by omega) (by omega)).trans q6, (hF22.i (by omega) (by omega)).trans q7⟩ (w0 hFa (fun j => by omega))
  have f10 := f8.fr hF10 ⟨by omega, by omega⟩
  have hF19 : Fr frMp (fun _ => False) τ9 τ10 := hF8.trans hF10
  have K8 := fun (s1 q : Nat) (v : Int) (q1 : s1 = upto (isBl (atB B n)) (s + 4)) (q2 : q = upto (isDg (atB B n)) s1) (q3 : v = dgv (atB B n) s1 (q - s1)) => (K9 s1 q v q1 q2 q3).trans (if_pos hw)
  refine ⟨hL10, fun _ => ⟨fun _ _ => ?_, fun h9 => absurd h9 (by decide)⟩⟩
  -- a fault in the number
  have badN : ∀ (k s' : Nat) (χ : Sg), k ≠ 0 → pText (atB B n) n = .inl (k, s', none) → Lay LM g c t χ → Fr frMf (fun _ => False) τ10 χ → FlM χ k s' → CC E mX12_ends [vr 172] χ (KV (fun τ14 => Lay LM g c t τ14 ∧ ∀ τ15 : Sg, τ15 = sI τ14 177 0 0 → (Lay LM g c t τ15 → GG E mX12_text 115 [some (vr 172), none, none, none, none] [] τ15 0 0 Q)) (fun _ _ => False)) := by
    intro k s' χ hk hp hLχ hFχ hfl
    refine M_ends0 hLχ (by rw [hfl.1]; omega) ⟨hLχ, fun τ15 e15 hL15 => ?_⟩
    have hF15 : Fr (fun a j => a = 177) (fun _ => False) χ τ15 := by rw [e15]; exact Fr_of1 rfl
    have hFa : Fr (fun a j => frMf a j ∨ a = 177) (fun _ => False) τ9 τ15 := ((hF19.mono (fun a j h9 => by omega) (fun _ h => h)).trans (hFχ.mono (fun a j h9 => .inl h9) (fun _ h => h))).trans (hF15.mono (fun a j h9 => .inr h9) (fun _ h => h))
    exact bad τ15 k s' none hp hL15 (hFa.mono (fun a j h9 => by omega) (fun _ h => h)) ⟨(hF15.i (by omega) (by omega)).trans hfl.1, (hF15.i (by omega) (by omega)).trans hfl.2⟩ (w0 hFa (fun j => by omega))
  have KK := K8 _ _ _ rfl rfl rfl
  refine M_root rfl rfl rfl hle hL10 hR10 f10.1 (fun hdg hv hq τ12 hL12 hF12 hR12 => ⟨hL12, fun _ _ => ?_⟩) (fun hdg hv χ hLχ hFχ hfl => ⟨hLχ, fun _ _ => ?_⟩) (fun hnd χ hLχ hFχ hfl => ⟨hLχ, fun _ _ => ?_⟩)
  rotate_left
  · rw [if_pos hdg, if_neg hv] at KK
    exact badN 2 _ χ (by decide) KK hLχ hFχ hfl
  · rw [if_neg hnd] at KK
    exact badN 1 _ χ (by decide) KK hLχ hFχ hfl
  rw [if_pos hdg, if_pos hv] at KK
  clear K8 K9
  generalize upto (isBl (atB B n)) (s + 4) = s1 at *
  generalize upto (isDg (atB B n)) s1 = q at *
  generalize dgv (atB B n) s1 (q - s1) = v at *
  have f12 := f10.fr hF12 ⟨by omega, by omega⟩
  have hF129 : Fr frMp (fun _ => False) τ9 τ12 := hF19.trans hF12
  refine M_ends hq hL12 hR12 f12.1 (fun q2 hps hq2 χ hLχ hFχ hRχ => ⟨hLχ, fun τ15 e15 hL15 => ?_⟩) (fun k s' hps χ hLχ hFχ hfl => ⟨hLχ, fun τ15 e15 hL15 => ?_⟩)
  rotate_left
  · rw [hps] at KK
    dsimp only at KK
    have hF15 : Fr (fun a j => a = 177) (fun _ => False) χ τ15 := by rw [e15]; exact Fr_of1 rfl
    have hFa : Fr (fun a j => frMf a j ∨ a = 177) (fun _ => False) τ9 τ15 := ((hF129.mono (fun a j h9 => by omega) (fun _ h => h)).trans (hFχ.mono (fun a j h9 => .inl h9) (fun _ h => h))).trans (hF15.mono (fun a j h9 => .inr h9) (fun _ h => h))
    exact bad τ15 k s' none KK hL15 (hFa.mono (fun a j h9 => by omega) (fun _ h => h)) ⟨(hF15.i (by omega) (by omega)).trans hfl.1, (hF15.i (by omega) (by omega)).trans hfl.2⟩ (w0 hFa (fun j => by omega))
  rw [hps] at KK
  dsimp only at KK
  have hF15 : Fr (fun a j => a = 177 ∧ j = 0) (fun _ => False) χ τ15 := by rw [e15]; exact Fr_of1 ⟨rfl, rfl⟩
  have hc0 : clos v [] = some (.inr [oneL]) := rfl
  have hFχ9 : Fr frMp (fun _ => False) τ9 χ := hF129.trans hFχ
  have T15 : ST τ15 1 v [] := ⟨by show gI τ15 177 0 = _; rw [e15, gI_sI, if_pos ⟨rfl, rfl⟩], by omega, by omega, (hF15.i (by omega) (by omega)).trans ((hFχ9.i (by omega) (by omega)).trans c9), by decide, fun u hu => absurd hu (by simp)⟩
  have hFx : Fr (fun a j => frMp a j ∨ a = 177) (fun _ => False) τ9 τ15 := (hFχ9.mono (fun a j h9 => .inl h9) (fun _ h => h)).trans (hF15.mono (fun a j h9 => .inr h9.1) (fun _ h => h))
  refine loopU (N := 5) (G := fun i τ => ∀ (told' els' : List (List Int)) (p : Nat), told'.length = i → clos v told' = some (.inr els') → pTurns (atB B n) n v 5 [] q2 = pTurns (atB B n) n v (5 - i) told' p → p ≤ n → RdM τ B n p → ST τ 1 v told' → GG E mX12_text 115 [some (vr 172), none, none, none, none] [] τ 0 0 Q)
    (P := fun i τ => Lay LM g c t τ ∧ Fr frQm (fun _ => False) τ9 τ ∧ FnM τ ∧ WhyM τ9 τ none) ?_ ?_ 0 τ15 (by omega) ⟨hL15, hFx.mono (fun a j h9 => by omega) (fun _ h => h), (f12.fr hFχ ⟨by omega, by omega⟩).fr hF15 ⟨by omega, by omega⟩, w0 hFx (fun j => by omega)⟩
    [] [oneL] q2 rfl hc0 rfl hq2 (hRχ.fr hF15 ⟨by omega, by omega, fun j => by omega⟩) T15
  · rintro i τ hi ⟨hLτ, hF, hf, hwy⟩ next told' els' p hl hc hP hp hRτ hT
    have hd : 5 - i = (5 - (i + 1)) + 1 := by omega
    have eP : pTurns (atB B n) n v (5 - i) told' p = if n ≤ upto (isBl (atB B n)) p then .inr told' else match pTurn (atB B n) v told' (upto (isBl (atB B n)) p) with
        | .inl e => .inl e
        | .inr (told', q) => pTurns (atB B n) n v (5 - (i + 1)) told' q := by rw [hd]; rfl
    refine B_X12_text_115 hLτ (fun _ => M_fine1 hLτ hf.1 ⟨hLτ, fun _ => ⟨fun h9 => absurd h9 (by decide), fun _ _ => M_here hLτ hRτ hp (fun χ2 hLχ2 hFχ2 hRχ2 => ⟨hLχ2, fun _ => ?_⟩)⟩⟩)
    have hpn : upto (isBl (atB B n)) p ≤ n := upto_le noBl hp
    have hpb : ¬ isBl (atB B n) (upto (isBl (atB B n)) p) := (upto_s noBl).2.1
    generalize upto (isBl (atB B n)) p = p2 at *
    have hTχ2 := hT.fr hFχ2 (by omega) (fun j => by omega)
    have hF2 : Fr frQm (fun _ => False) τ9 χ2 := hF.trans (hFχ2.mono (fun a j h9 => by omega) (fun _ h => h))
    have hf2 := hf.fr hFχ2 ⟨by omega, by omega⟩
    have hwy2 : WhyM τ9 χ2 none := fun j hj => (hFχ2.i (by omega) (by omega)).trans (hwy j hj)
    refine ⟨fun he _ => ?_, fun hne _ => ?_⟩
    · have hge : n ≤ p2 := by
        apply Nat.not_lt.mp
        intro h9
        unfold atB at he
        rw [if_pos h9] at he
        have := hby p2 (by omega)
        omega
      rw [if_pos hge] at eP
      rw [hP, eP] at KK
      exact good χ2 v told' els' KK hv hc hLχ2 hF2 hf2 hTχ2 hwy2
    · have hlt : p2 < n := by
        apply Nat.not_le.mp
        intro h9
        exact hne (atB_end h9)
      rw [if_neg (by omega)] at eP
      refine M_readsTurn hLχ2 hRχ2 hpn hpb hf2 hTχ2 (fun told2 els2 q3 hpt hc' hq3 hl' ψ hLψ hFψ hRψ hfψ hTψ hwψ => ?_) (fun k s' w hpt ψ hLψ hFψ hfl hwψ => ?_)
      · rw [hpt] at eP
        exact ⟨hLψ, fun _ => next ψ ⟨hLψ, hF2.trans hFψ, hfψ, fun j hj => (hwψ j hj).trans (hwy2 j hj)⟩ told2 els2 q3 (by omega) hc' (hP.trans eP) hq3 hRψ hTψ⟩
      · rw [hpt] at eP
        rw [hP, eP] at KK
        refine ⟨hLψ, fun _ => bad ψ k s' w KK hLψ (hF2.trans hFψ) hfl (fun j hj => ?_)⟩
        rw [hwψ j hj]
        match w with
        | none => exact hwy2 j hj
        | some x => rfl
  · rintro τ ⟨hLτ, hF, hf, hwy⟩ told' els' p hl hc hP hp hRτ hT
    have := hT.2.2.2.2.1
    omega
end S98
