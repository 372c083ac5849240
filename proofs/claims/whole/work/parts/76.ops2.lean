/-! ===== the class: feed, fault, why, status, add, drop, undo ===== -/
section S76
variable {E : Ev} {σ : Sg} {Q : NO → Sg → Prop} {g : Sg} {c t : Nat}
variable {K : Int → List (List Int) → Sg → Prop} {D : Int} {told els : List (List Int)} {past : List (List (List Int))} {B : List Int} {F : Int} {W R : Nat → Int}
theorem X_fault (h : CI K g c t σ D told els past B F W R) (hq : Q (.inl (some (vi F))) σ) : CC E mX11_fault [vr 16] σ Q :=
  C_X11_fault (B_X11_fault_0 h.1 (fun _ => by rw [h.2.2.2.2.2.2.1]; exact hq))
theorem X_why {x : Int} (h : CI K g c t σ D told els past B F W R) (hq : Q (.inl (some (vi (if 0 ≤ x ∧ x < 4 then W x.toNat else -1)))) σ) : CC E mX11_why [vr 16, vi x] σ Q := by
  refine C_X11_why (B_X11_why_0 h.1 ⟨fun h1 _ => ?_, fun h1 => ⟨fun h2 _ => ?_, fun h2 => ⟨⟨by omega, by omega⟩, fun _ => ?_⟩⟩⟩)
  · rw [if_neg (by omega)] at hq; exact hq
  · rw [if_neg (by omega)] at hq; exact hq
  · rw [if_pos (by omega), ← h.2.2.2.2.2.2.2.1 x.toNat (by omega)] at hq; exact hq
theorem X_status {x : Int} (h : CI K g c t σ D told els past B F W R) (hq : Q (.inl (some (vi (if 0 ≤ x ∧ x < 3 then R x.toNat else -1)))) σ) : CC E mX11_status [vr 16, vi x] σ Q := by
  refine C_X11_status (B_X11_status_0 h.1 ⟨fun h1 _ => ?_, fun h1 => ⟨fun h2 _ => ?_, fun h2 => ⟨⟨by omega, by omega⟩, fun _ => ?_⟩⟩⟩)
  · rw [if_neg (by omega)] at hq; exact hq
  · rw [if_neg (by omega)] at hq; exact hq
  · rw [if_pos (by omega), ← h.2.2.2.2.2.2.2.2.1 x.toNat (by omega)] at hq; exact hq
/-- the tape changes -/
theorem CI.tape {τ : Sg} {B' : List Int} (h : CI K g c t σ D told els past B F W R) (hK : KF K) (hL : Lay LC g c t τ) (k : Fr frB (fun _ => False) σ τ) (hB : TapeC τ B') : CI K g c t τ D told els past B' F W R := by
  obtain ⟨l1, l2, l3, l4, l5, l6, l7, l8, l9, l10, l11⟩ := h
  have hd := l1.dis
  have ci := l1.isc
  refine ⟨hL, l2.fr k ci ⟨fun j => by omega, by omega, by omega⟩, l3.fr k ci ⟨fun j => by omega, by omega⟩, l4.fr k (fun a j h1 h2 => by omega), l5.fr k ⟨fun j => ⟨by omega, by omega⟩, by omega⟩, hB, (k.i (by omega) (by omega)).trans l7, fun i hi => (k.i (by omega) (by omega)).trans (l8 i hi), l9.fr k (fun j => by omega), ?_, ?_⟩
  · refine ⟨l10.1.fr k ⟨id, id, id⟩ (fun a j h9 => by omega), ?_⟩
    replace l10 := l10.2
    rw [k.i (by omega) (by omega)]
    rcases l10 with h | h
    · exact .inl h
    · exact .inr ⟨h.1, hK D els σ τ (k.mono (fun a j h1 => by omega) (fun a h1 => h1.elim)) h.2⟩
  · rw [k.i (by omega) (by omega)]
    rcases l11 with h | h
    · exact .inl h
    · exact .inr ⟨h.1, h.2.fr k ⟨by omega, by omega⟩⟩
theorem X_feed {x1 x2 x3 x4 x5 : Int} (h : CI K g c t σ D told els past B F W R) (hK : KF K)
    (h0 : 380 < B.length → Q (.inl (some (vi (-1)))) σ) (h1 : B.length ≤ 380 → ∀ τ, CI K g c t τ D told els past (B ++ (byts x1 ++ byts x2 ++ byts x3 ++ byts x4 ++ byts x5)) F W R → Q (.inl (some (vi ((B.length + 20 : Nat) : Int)))) τ) : CC E mX11_feed [vr 16, vi x1, vi x2, vi x3, vi x4, vi x5] σ Q := by
  have hL := h.1
  have hB : TapeC σ B := h.2.2.2.2.2.1
  have hb4 := hB.2.1
  have l4 : ∀ x, (byts x).length = 4 := fun _ => rfl
  refine C_X11_feed (B_X11_feed_0 hL (fun _ => C_X10_hasRoom (B_X10_hasRoom_0 hL ?_)))
  rw [hB.1]
  refine ⟨⟨by omega, by omega⟩, fun h2 _ => ⟨hL, fun _ => ⟨fun h9 => absurd rfl h9, fun _ _ => h0 (by omega)⟩⟩, fun h2 _ => ⟨hL, fun _ => ⟨fun _ _ => ?_, fun h9 => absurd h9 (by decide)⟩⟩⟩
  refine S_take hL hB (by omega) (fun τ1 hL1 hF1 hB1 => ⟨hL1, fun _ => ?_⟩)
  refine S_take hL1 hB1 (by simp [l4]; omega) (fun τ2 hL2 hF2 hB2 => ⟨hL2, fun _ => ?_⟩)
  refine S_take hL2 hB2 (by simp [l4]; omega) (fun τ3 hL3 hF3 hB3 => ⟨hL3, fun _ => ?_⟩)
  refine S_take hL3 hB3 (by simp [l4]; omega) (fun τ4 hL4 hF4 hB4 => ⟨hL4, fun _ => ?_⟩)
  refine S_take hL4 hB4 (by simp [l4]; omega) (fun τ5 hL5 hF5 hB5 => ⟨hL5, fun _ => ?_⟩)
  rw [hB5.1]
  have e : (B ++ byts x1 ++ byts x2 ++ byts x3 ++ byts x4 ++ byts x5) = B ++ (byts x1 ++ byts x2 ++ byts x3 ++ byts x4 ++ byts x5) := by simp [List.append_assoc]
  rw [e] at hB5 ⊢
  have el : (B ++ (byts x1 ++ byts x2 ++ byts x3 ++ byts x4 ++ byts x5)).length = B.length + 20 := by simp [l4]
  rw [el]
  exact h1 (by omega) τ5 (h.tape hK hL5 ((((hF1.trans hF2).trans hF3).trans hF4).trans hF5) hB5)
def W0 : Nat → Int := fun _ => 0
def W4 (k n i u : Nat) : Nat → Int := fun j => if j = 0 then k else if j = 1 then n else if j = 2 then i else u
/-- behind takeTrial -/
theorem CI.anew {τ : Sg} {told' els' : List (List Int)} {past' : List (List (List Int))} (hL : Lay LC g t c τ) (k : Fr (fun b k => (24 ≤ b ∧ b ≤ 30) ∨ b = t + 6 ∨ (b = 16 ∧ (k = 14 ∨ k = 15))) (fun b => b = 16) σ τ) (hL0 : Lay LC g c t σ) (hT : CloT σ t D told') (hE : CloE σ t D els') (hG : GAll τ D els') (hP : PastC σ D past') (hB : TapeC σ B) (hF : gI σ 16 16 = F) (hW : ∀ i, i < 4 → gI σ 156 i = W i) (hR : RfC σ R) (q14 : gI τ 16 14 = 0) (q15 : gI τ 16 15 = 0) (hJ : JC σ) :
    CI K g t c τ D told' els' past' B F W R := by
  have tr := hL0.ist.rg
  exact ⟨hL, hT.fr k hL0.ist ⟨fun j => by omega, by omega, by omega⟩, hE.fr k hL0.ist ⟨fun j => by omega, by omega⟩, hG, hP.fr k ⟨fun j => ⟨by omega, by omega⟩, by omega⟩, hB.fr k ⟨fun j => by omega, by omega⟩, (k.i (by omega) (by omega)).trans hF, fun i hi => (k.i (by omega) (by omega)).trans (hW i hi), hR.fr k (fun j => by omega), ⟨hJ.fr k ⟨by omega, by omega, by omega⟩ (fun a j h9 => by omega), .inl q14⟩, .inl q15⟩
theorem OnCl.toFr {a : Nat} {τ : Sg} (h : OnCl a σ τ) : Fr (fun b k => (b = a ∧ k ≠ 6 ∧ k ≠ 7) ∨ (a + 2 ≤ b ∧ b ≤ a + 6)) (fun _ => False) σ τ := fun b _ j => ⟨fun q => by
    by_cases hb : b = a
    · subst hb
      by_cases h6 : j = 6
      · rw [h6]; exact h.2.1
      · by_cases h7 : j = 7
        · rw [h7]; exact h.2.2.1
        · exact absurd (.inl ⟨rfl, h6, h7⟩) q
    · exact h.1 b j hb (by omega) (by omega) (by omega) (by omega) (by omega), fun _ => h.2.2.2.1 b j⟩
theorem X_add {x0 x1 x2 x3 x4 x5 x6 x7 : Int} (h : CI K g c t σ D told els past B F W R) (hK : KF K) (hO : OKs D told els past) (hRB : ∀ i, i < 3 → inR (R i + 1))
    (h1 : ¬ isTL D [x0, x1, x2, x3, x4, x5, x6, x7] → ∀ τ, CI K g c t τ D told els past B F W0 (bmp R 1) → Q (.inr 1) τ)
    (h2 : isTL D [x0, x1, x2, x3, x4, x5, x6, x7] → 4 ≤ told.length → ∀ τ, CI K g c t τ D told els past B F W0 (bmp R 2) → Q (.inr 2) τ)
    (h3 : isTL D [x0, x1, x2, x3, x4, x5, x6, x7] → told.length < 4 → ∀ k n i u, clos D (told ++ [[x0, x1, x2, x3, x4, x5, x6, x7]]) = some (.inl (k, n, i, u)) → ∀ τ, CI K g c t τ D told els past B F (W4 k n i u) (bmp R 2) → Q (.inr 2) τ)
    (h4 : isTL D [x0, x1, x2, x3, x4, x5, x6, x7] → told.length < 4 → ∀ els', clos D (told ++ [[x0, x1, x2, x3, x4, x5, x6, x7]]) = some (.inr els') → ∀ τ, CI K g t c τ D (told ++ [[x0, x1, x2, x3, x4, x5, x6, x7]]) els' (keepP past told) B F W0 R → Q (.inl (some (vi els'.length))) τ) :
    CC E mX11_add [vr 16, vi x0, vi x1, vi x2, vi x3, vi x4, vi x5, vi x6, vi x7] σ Q := by
  generalize hv : [x0, x1, x2, x3, x4, x5, x6, x7] = v at *
  have hv8 : v.length = 8 := by rw [← hv]; rfl
  have hL := h.1
  have hd := hL.dis
  have tr := hL.ist.rg
  have cr := hL.isc.rg
  have hD : 2 ≤ D ∧ D ≤ 5 := ⟨h.2.1.2.1, h.2.1.2.2.1⟩
  refine C_X11_add (W_X11_add_0 hL (fun _ => ?_))
  refine S_forgetReasons hL (fun τ1 hL1 hF1 hW1 => ⟨hL1, fun _ => ?_⟩)
  have c1 : CI K g c t τ1 D told els past B F W0 R := h.fr hK hL1 hF1 (fun a j h9 => .inr (.inl h9)) (fun _ h => h.elim) hW1 (h.2.2.2.2.2.2.2.2.1.fr hF1 (fun j => by omega)) ((hF1.i (by omega) (by omega)).trans h.2.2.2.2.2.2.1)
  refine S_ask0 hL1 (fun τ2 hL2 hF2 q2 => ⟨hL2, fun _ => ?_⟩)
  refine S_ask4 hL2 (fun τ3 hL3 hF3 q3 q3' => ⟨hL3, fun _ => ?_⟩)
  have c3 : CI K g c t τ3 D told els past B F W0 R := (c1.scr hK hL2 hF2 (fun a j h9 => .inl h9) (fun _ h => h.elim)).scr hK hL3 hF3 (fun a j h9 => .inl h9) (fun _ h => h.elim)
  have hz : ∀ j, j < 8 → gI τ3 155 j = gd v j := by
    intro j hj
    rw [← hv]
    have : j = 0 ∨ j = 1 ∨ j = 2 ∨ j = 3 ∨ j = 4 ∨ j = 5 ∨ j = 6 ∨ j = 7 := by omega
    rcases this with rfl | rfl | rfl | rfl | rfl | rfl | rfl | rfl
    · exact (q3 0 (by omega)).trans (q2 0 (by omega))
    · exact (q3 1 (by omega)).trans (q2 1 (by omega))
    · exact (q3 2 (by omega)).trans (q2 2 (by omega))
    · exact (q3 3 (by omega)).trans (q2 3 (by omega))
    · exact q3' 0 (by omega)
    · exact q3' 1 (by omega)
    · exact q3' 2 (by omega)
    · exact q3' 3 (by omega)
  have s155 : gS τ3 155 = (20, 8) := hL3.1 (155, 156, 20, 8) (by decide) 155 (by decide) (by decide)
  have R3 : RfC τ3 R := c3.2.2.2.2.2.2.2.2.1
  have throw : ∀ (i : Nat) (ρ : Sg) (W' : Nat → Int) (d9 : Nat), i < 3 → CI K g c t ρ D told els past B F W' R → (hLρ : Lay LC g c t (sI ρ 157 i (gI ρ 157 i + 1))) → CI K g c t (jk (sI ρ 157 i (gI ρ 157 i + 1)) d9) D told els past B F W' (bmp R i) := fun i ρ W' d9 hi hc hLρ =>
    hc.ref hK (hLρ.jk9 d9) (fr_jk (Fr_of1 (W := frR) (V := fun _ => False) rfl) d9) (RfC_jk (hc.2.2.2.2.2.2.2.2.1.bmp hi) d9)
  refine S_canBeTold (by decide) s155 (fun r r1 r0 => ⟨hL3, fun _ => ⟨fun h9 => ?_, fun h9 _ => ?_⟩⟩)
  · have hno : ¬ isTL D v := fun h8 => by
      have := r1 (fun j hj => by rw [hz j hj]; exact h8.2.bd (by omega) j hj)
      omega
    rw [R3 1 (by omega)]
    refine ⟨hRB 1 (by omega), fun τ10 e10 hL10 => ⟨by decide, by decide, fun d9 => h1 hno _ ?_⟩⟩
    rw [← R3 1 (by omega)] at e10
    subst e10
    exact throw 1 τ3 W0 d9 (by decide) c3 hL10
  · have hin : ∀ j, j < 8 → -4 ≤ gI τ3 155 j ∧ gI τ3 155 j ≤ 4 := by
      by_cases h8 : ∀ j, j < 8 → -4 ≤ gI τ3 155 j ∧ gI τ3 155 j ≤ 4
      · exact h8
      · exact absurd (r0 h8) h9
    rw [c3.2.1.1]
    refine S_isTurn11 (by decide) s155 (by omega) (fun j hj => by have := hin j hj; omega) (fun r' r1' r0' => ⟨hL3, fun _ => ⟨fun h8 => ?_, fun h8 => ?_⟩⟩)
    · have hy : isTL D v := by
        have h7 : isT D (gI τ3 155) := by
          by_cases h6 : isT D (gI τ3 155)
          · exact h6
          · exact absurd (r0' h6) h8
        refine ⟨hv8, ?_⟩
        have z := hz
        unfold isT nW nP ew ep at h7 ⊢
        simp only [Nat.mul_zero, Nat.mul_one, Nat.zero_add, Nat.reduceMul, Nat.reduceAdd] at h7 ⊢
        rw [z 0 (by omega), z 1 (by omega), z 2 (by omega), z 3 (by omega), z 4 (by omega), z 5 (by omega), z 6 (by omega), z 7 (by omega)] at h7
        exact h7
      rw [c3.2.1.2.2.2.1]
      refine ⟨fun hlt _ => ?_, fun hge => ?_⟩
      · have hlt4 : told.length < 4 := by omega
        refine S_copyTold hL3 hL3.ist hL3.isc (by omega) c3.2.1 (fun τ4 hL4 hF4 hT4 => ⟨hL4, fun _ => ?_⟩)
        refine S_tell (x := 0) (n := 8) (v := v) hL4 hL4.ist (PA.of (i := 51) (lo := 155) (hi := 156) rfl (by omega) (by omega) (by decide) (by decide)) (by omega) hT4 hlt4 hy (fun j hj => by rw [Nat.zero_add, hF4.i (by omega) (by omega)]; exact hz j hj) (fun τ5 hL5 hF5 hT5 => ⟨hL5, fun _ => ?_⟩)
        have c5 : CI K g c t τ5 D told els past B F W0 R := (c3.scr hK hL4 hF4 (fun a j h9 => by omega) (fun _ h => h.elim)).scr hK hL5 hF5 (fun a j h9 => by omega) (fun _ h => h.elim)
        have hl5 : (told ++ [v]).length = told.length + 1 := by simp
        have htd : tolds D (told ++ [v]) := ⟨by omega, hT5.2.2.2.2.2 |> fun f u hu => (f u hu).1⟩
        obtain ⟨res, hres⟩ := clos_ends (D := D) (told := told ++ [v]) htd.1
        refine S_close hL5 hL5.ist hT5 hres ?_
        match res, hres with
        | .inr els', hres =>
          intro τ6 hL6 hO6 hE6 hTb hOr hone h9'
          have c6 : CI K g c t τ6 D told els past B F W0 R := c5.scr hK hL6 hO6.toFr (fun a j h9 => by omega) (fun _ h => h.elim)
          refine ⟨hL6, fun _ => ⟨fun _ _ => ?_, fun h9 => absurd h9 (by decide)⟩⟩
          refine S_keep hL6 hL6.isc c6.2.2.2.2.1 c6.2.1 (fun τ7 hL7 hF7 hP7 => ⟨hL7, fun _ => ?_⟩)
          have hCl := clos_Clo htd.2 hres
          have hT7 := (hT5.on hO6).fr hF7 hL7.ist ⟨fun j => by omega, by omega, by omega⟩
          have hE7 := hE6.fr hF7 hL7.ist ⟨fun j => by omega, by omega⟩
          refine S_takeTrial hL7 hCl htd.1 (hCl.odB hO.1) hE7 (fun k w hk hw hkw => ?_) (fun l q1 q2 => ?_) (fun τ8 hL8 hF8 hG8 q14 q15 => ⟨hL8, fun _ => ?_⟩)
          · obtain ⟨n, r1, r2, r3⟩ := hTb k w hk hw hkw
            exact ⟨n, r1, r2, by rw [hF7.i (by omega) (by omega)]; exact r3⟩
          · obtain ⟨k, w, r1, r2, r3, r4, r5⟩ := hOr l q1 q2
            exact ⟨k, w, r1, r2, by rw [hF7.i (by omega) (by omega)]; exact r3, by rw [hF7.i (by omega) (by omega)]; exact r4, r5⟩
          · have c8 : CI K g t c τ8 D (told ++ [v]) els' (keepP past told) B F W0 R := CI.anew hL8 hF8 hL7 hT7 hE7 hG8 hP7 (c6.2.2.2.2.2.1.fr hF7 ⟨fun j => by omega, by omega⟩) ((hF7.i (by omega) (by omega)).trans c6.2.2.2.2.2.2.1) (fun i hi => (hF7.i (by omega) (by omega)).trans (c6.2.2.2.2.2.2.2.1 i hi)) (c6.2.2.2.2.2.2.2.2.1.fr hF7 (fun j => by omega)) q14 q15 (c6.j.fr hF7 ⟨id, id, id⟩ (fun a j h9 => by omega))
            rw [c8.2.2.1.1]
            exact h4 hy hlt4 els' hres τ8 c8
        | .inl (k, n, i, u), hres =>
          intro τ6 hL6 hO6 q8 q9 q10 q11
          have c6 : CI K g c t τ6 D told els past B F W0 R := c5.scr hK hL6 hO6.toFr (fun a j h9 => by omega) (fun _ h => h.elim)
          refine ⟨hL6, fun _ => ⟨fun h9 => absurd rfl h9, fun _ _ => ?_⟩⟩
          refine S_keepReasons hL6 (fun τ7 hL7 hF7 p0 p1 p2 p3 => ⟨hL7, ?_⟩)
          have c7 : CI K g c t τ7 D told els past B F (W4 k n i u) R := c6.fr hK hL7 hF7 (fun a j h9 => .inr (.inl h9)) (fun _ h => h.elim) (fun j hj => by
            have : j = 0 ∨ j = 1 ∨ j = 2 ∨ j = 3 := by omega
            rcases this with rfl | rfl | rfl | rfl
            · rw [p0, q9]; rfl
            · rw [p1, q8]; rfl
            · rw [p2, q10]; rfl
            · rw [p3, q11]; rfl) (c6.2.2.2.2.2.2.2.2.1.fr hF7 (fun j => by omega)) ((hF7.i (by omega) (by omega)).trans c6.2.2.2.2.2.2.1)
          have R7 : RfC τ7 R := c7.2.2.2.2.2.2.2.2.1
          rw [R7 2 (by omega)]
          refine ⟨hRB 2 (by omega), fun τ10 e10 hL10 => ⟨by decide, by decide, fun d9 => h3 hy hlt4 k n i u hres _ ?_⟩⟩
          rw [← R7 2 (by omega)] at e10
          subst e10
          exact throw 2 τ7 _ d9 (by decide) c7 hL10
      · rw [R3 2 (by omega)]
        refine ⟨hRB 2 (by omega), fun τ10 e10 hL10 => ⟨by decide, by decide, fun d9 => h2 hy (by omega) _ ?_⟩⟩
        rw [← R3 2 (by omega)] at e10
        subst e10
        exact throw 2 τ3 W0 d9 (by decide) c3 hL10
    · have hno : ¬ isTL D v := fun h7 => by
        have h6 : isT D (gI τ3 155) := by
          have z := hz
          have h5 := h7.2
          unfold isT nW nP ew ep at h5 ⊢
          simp only [Nat.mul_zero, Nat.mul_one, Nat.zero_add, Nat.reduceMul, Nat.reduceAdd] at h5 ⊢
          rw [z 0 (by omega), z 1 (by omega), z 2 (by omega), z 3 (by omega), z 4 (by omega), z 5 (by omega), z 6 (by omega), z 7 (by omega)]
          exact h5
        have := r1' h6
        omega
      rw [R3 1 (by omega)]
      refine ⟨hRB 1 (by omega), fun τ10 e10 hL10 => ⟨by decide, by decide, fun d9 => h1 hno _ ?_⟩⟩
      rw [← R3 1 (by omega)] at e10
      subst e10
      exact throw 1 τ3 W0 d9 (by decide) c3 hL10
end S76
