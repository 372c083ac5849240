/-! ===== the class: text ===== -/
theorem pNums_k {f : Nat → Int} : ∀ (m : Nat) (l : List Int) (p : Nat) (e : Nat × Nat), pNums f m l p = .inl e → e.1 = 1 ∨ e.1 = 2 := by
  intro m
  induction m with
  | zero => intro l p e h; cases h
  | succ m ih =>
    intro l p e h
    have e1 : pNums f (m + 1) l p = match pTold f p with
      | .inl e => .inl e
      | .inr (v, q) => pNums f m (l ++ [v]) q := rfl
    rw [e1] at h
    match hp : pTold f p with
    | .inl (k, s) =>
      rw [hp] at h
      have := pTold_k hp
      cases h
      exact this
    | .inr (v, q) =>
      rw [hp] at h
      exact ih _ _ _ h
theorem pTurn_k {f : Nat → Int} {D : Int} {told : List (List Int)} {s : Nat} {e : RF} (h : pTurn f D told s = .inl e) : 1 ≤ e.1 ∧ e.1 ≤ 5 := by
  unfold pTurn at h
  split at h
  · split at h
    · cases h; exact ⟨Nat.le_of_ble_eq_true rfl, Nat.le_of_ble_eq_true rfl⟩
    · match hp : pNums f 8 [] (s + 4) with
      | .inl e2 =>
        rw [hp] at h
        have := pNums_k _ _ _ _ hp
        cases h
        show 1 ≤ e2.1 ∧ e2.1 ≤ 5
        omega
      | .inr (v, q) =>
        rw [hp] at h
        dsimp only at h
        match hs : pSign f 59 q with
        | .inl (k, s2) =>
          rw [hs] at h
          have := pSign_k hs
          cases h
          show 1 ≤ k ∧ k ≤ 5
          omega
        | .inr q2 =>
          rw [hs] at h
          dsimp only at h
          split at h
          · split at h
            · cases h
            · cases h; exact ⟨Nat.le_of_ble_eq_true rfl, Nat.le_of_ble_eq_true rfl⟩
            · cases h; exact ⟨Nat.le_of_ble_eq_true rfl, Nat.le_of_ble_eq_true rfl⟩
          · cases h; exact ⟨Nat.le_of_ble_eq_true rfl, Nat.le_of_ble_eq_true rfl⟩
  · cases h; exact ⟨Nat.le_of_ble_eq_true rfl, Nat.le_of_ble_eq_true rfl⟩
theorem pTurns_k {f : Nat → Int} {n : Nat} {D : Int} : ∀ (m : Nat) (told : List (List Int)) (p : Nat) (e : RF), pTurns f n D m told p = .inl e → 1 ≤ e.1 ∧ e.1 ≤ 5 := by
  intro m
  induction m with
  | zero => intro l p e h; cases h
  | succ m ih =>
    intro l p e h
    have e1 : pTurns f n D (m + 1) l p = if n ≤ upto (isBl f) p then .inr l else match pTurn f D l (upto (isBl f) p) with
      | .inl e => .inl e
      | .inr (told', q) => pTurns f n D m told' q := rfl
    rw [e1] at h
    split at h
    · cases h
    · match hp : pTurn f D l (upto (isBl f) p) with
      | .inl e2 =>
        rw [hp] at h
        have := pTurn_k hp
        cases h
        exact this
      | .inr (told', q) =>
        rw [hp] at h
        exact ih _ _ _ h
theorem pText_k {f : Nat → Int} {n : Nat} {e : RF} (h : pText f n = .inl e) : 1 ≤ e.1 ∧ e.1 ≤ 5 := by
  unfold pText at h
  split at h
  · split at h
    · split at h
      · split at h
        · rename_i e2 hp
          have := pSign_k (k := e2.1) (s := e2.2) hp
          cases h
          show 1 ≤ e2.1 ∧ e2.1 ≤ 5
          omega
        · split at h
          · rename_i hp
            have := pTurns_k _ _ _ _ hp
            cases h
            exact this
          · cases h
      · cases h; exact ⟨Nat.le_of_ble_eq_true rfl, Nat.le_of_ble_eq_true rfl⟩
    · cases h; exact ⟨Nat.le_of_ble_eq_true rfl, Nat.le_of_ble_eq_true rfl⟩
  · cases h; exact ⟨Nat.le_of_ble_eq_true rfl, Nat.le_of_ble_eq_true rfl⟩
def wW : Option (Nat × Nat × Nat × Nat) → Nat → Int
  | none => W0
  | some x => W4 x.1 x.2.1 x.2.2.1 x.2.2.2
section S95
variable {E : Ev} {σ : Sg} {Q : NO → Sg → Prop} {g : Sg} {c t : Nat}
variable {K : Int → List (List Int) → Sg → Prop} {D : Int} {told els : List (List Int)} {past : List (List (List Int))} {B : List Int} {F : Int} {W R : Nat → Int}
theorem X_text {x : Int} (h : CI K g c t σ D told els past B F W R) (hK : KF K) (hRB : ∀ i, i < 3 → inR (R i + 1))
    (h0 : (x < 0 ∨ (B.length : Int) < x) → ∀ τ, CI K g c t τ D told els past B F W0 (bmp R 1) → Q (.inr 1) τ)
    (h1 : ∀ n : Nat, x = n → n ≤ B.length → ∀ k s w, pText (atB B n) n = .inl (k, s, w) → ∀ τ, CI K g c t τ D told els past [] s (wW w) R → Q (.inl (some (vi (k - 10)))) τ)
    (h2 : ∀ n : Nat, x = n → n ≤ B.length → ∀ D' told' els', pText (atB B n) n = .inr (D', told') → OKs D' told' els' [] → ∀ τ, CI K g t c τ D' told' els' [] [] (-1) W0 R → Q (.inl (some (vi els'.length))) τ) :
    CC E mX11_text [vr 16, vi x] σ Q := by
  have hL := h.1
  have hd := hL.dis
  have tr := hL.ist.rg
  have cr := hL.isc.rg
  refine C_X11_text (W_X11_text_0 hL (fun _ => ?_))
  refine S_forgetReasons hL (fun τ1 hL1 hF1 hW1 => ⟨hL1, by decide, by decide, fun _ => ?_⟩)
  have c1 : CI K g c t τ1 D told els past B F W0 R := h.fr hK hL1 hF1 (fun a j h9 => .inr (.inl h9)) (fun _ h => h.elim) hW1 (h.2.2.2.2.2.2.2.2.1.fr hF1 (fun j => by omega)) ((hF1.i (by omega) (by omega)).trans h.2.2.2.2.2.2.1)
  have B1 : TapeC τ1 B := c1.2.2.2.2.2.1
  rw [B1.1]
  refine S_needBetween hL1 c1.2.2.2.2.2.2.2.2.1 (hRB 1 (by omega)) (fun k0 k1 => ⟨hL1, fun _ => ?_⟩) (fun τ hk hLτ hFτ hRτ => h0 hk τ (c1.ref hK hLτ hFτ hRτ))
  obtain ⟨n, rfl⟩ : ∃ n : Nat, x = n := ⟨x.toNat, by omega⟩
  have hn : n ≤ B.length := by omega
  refine S_read hL1.ist hL1 B1 hn (fun D' told' els' hp hD' hcl τ8 hL8 hF8 hT8 hE8 hTb hOr h5 => ⟨hL8, fun _ _ => ?_⟩) (fun k s w hp τ8 hL8 hF8 hfl hwy => ⟨hL8, fun _ _ => ?_⟩)
  · have c8 : CI K g c t τ8 D told els past B F W0 R := c1.scr hK hL8 hF8 (fun a j h9 => by omega) (fun _ h => h.elim)
    refine C_X10_clear (B_X10_clear_0 hL8 (fun τ9 e9 hL9 => ⟨hL9, fun τ11 e11 => ⟨fun _ hL11 => ?_, fun h9 => absurd h9 (by decide)⟩⟩))
    have hF11 : Fr (fun b k => (b = 17 ∧ k = 1) ∨ (b = 16 ∧ k = 16)) (fun _ => False) τ8 τ11 := by rw [e11, e9]; exact ((Fr.refl τ8).sI (.inl ⟨rfl, rfl⟩)).sI (.inr ⟨rfl, rfl⟩)
    have q11 : gI τ11 16 16 = -1 := by rw [e11, gI_sI, if_pos ⟨rfl, rfl⟩, e9, gI_sI, if_neg (by omega)]; exact h5
    have qB : TapeC τ11 [] := ⟨by rw [e11, gI_sI, if_neg (by omega), e9, gI_sI, if_pos ⟨rfl, rfl⟩]; rfl, by decide, fun i hi => absurd hi (by simp)⟩
    clear e11 e9
    refine C_X5_clear (B_X5_clear_0 hL11 (fun τ13 e13 hL13 => ⟨hL13, fun _ => ?_⟩))
    have hF13 : Fr (fun b k => (b = 17 ∧ k = 1) ∨ (b = 16 ∧ k = 16) ∨ (b = 21 ∧ k = 2)) (fun _ => False) τ8 τ13 := by rw [e13]; exact (hF11.mono (fun b k h9 => by omega) (fun _ h => h)).sI (.inr (.inr ⟨rfl, rfl⟩))
    have hFx : Fr (fun b k => b = 21 ∧ k = 2) (fun _ => False) τ11 τ13 := by rw [e13]; exact Fr_of1 ⟨rfl, rfl⟩
    have qP : PastC τ13 D' [] := ⟨by rw [e13, gI_sI, if_pos ⟨rfl, rfl⟩]; rfl, by decide, fun i hi => absurd hi (by simp)⟩
    clear e13
    have htd : tolds D' told' := ⟨hT8.2.2.2.2.1, fun u hu => (hT8.2.2.2.2.2 u hu).1⟩
    have hCl := clos_Clo htd.2 hcl
    have hT13 := hT8.fr hF13 hL8.ist ⟨fun j => by omega, by omega, by omega⟩
    have hE13 := hE8.fr hF13 hL8.ist ⟨fun j => by omega, by omega⟩
    refine S_takeTrial hL13 hCl htd.1 (hCl.odB hD') hE13 (fun k w hk hw hkw => ?_) (fun l q1 q2 => ?_) (fun τ15 hL15 hF15 hG15 q14 q15 => ⟨hL15, fun _ => ?_⟩)
    · obtain ⟨m, r1, r2, r3⟩ := hTb k w hk hw hkw
      exact ⟨m, r1, r2, by rw [hF13.i (by omega) (by omega)]; exact r3⟩
    · obtain ⟨k, w, r1, r2, r3, r4, r5⟩ := hOr l q1 q2
      exact ⟨k, w, r1, r2, by rw [hF13.i (by omega) (by omega)]; exact r3, by rw [hF13.i (by omega) (by omega)]; exact r4, r5⟩
    · have c15 : CI K g t c τ15 D' told' els' [] [] (-1) W0 R := CI.anew hL15 hF15 hL13 hT13 hE13 hG15 qP (qB.fr hFx ⟨fun j => by omega, by omega⟩) ((hFx.i (by omega) (by omega)).trans q11) (fun i hi => (hF13.i (by omega) (by omega)).trans (c8.2.2.2.2.2.2.2.1 i hi)) (c8.2.2.2.2.2.2.2.2.1.fr hF13 (fun j => by omega)) q14 q15 (c8.j.fr hF13 ⟨id, id, id⟩ (fun a j h9 => by omega))
      rw [c15.2.2.1.1]
      exact h2 n rfl hn D' told' els' hp ⟨hD', htd, hcl, by decide, fun i hi => absurd hi (by simp)⟩ τ15 c15
  · have hkk := pText_k hp
    dsimp only at hkk
    have c8 : CI K g c t τ8 D told els past B F W0 R := c1.scr hK hL8 hF8 (fun a j h9 => by omega) (fun _ h => h.elim)
    refine C_X10_clear (B_X10_clear_0 hL8 (fun τ9 e9 hL9 => ⟨hL9, fun τ11 e11 => ⟨fun h9 => absurd rfl h9, fun _ => ?_⟩⟩))
    have hF9 : Fr frB (fun _ => False) τ8 τ9 := by rw [e9]; exact Fr_of1 (.inl rfl)
    have c9 : CI K g c t τ9 D told els past [] F W0 R := c8.tape hK hL9 hF9 ⟨by rw [e9, gI_sI, if_pos ⟨rfl, rfl⟩]; rfl, by decide, fun i hi => absurd hi (by simp)⟩
    have hF11 : Fr (fun b k => b = 16 ∧ k = 16) (fun _ => False) τ9 τ11 := by rw [e11]; exact Fr_of1 ⟨rfl, rfl⟩
    have q95 : gI τ9 19 5 = s := (hF9.i (by omega) (by omega)).trans hfl.2
    have q11 : gI τ11 16 16 = s := by rw [e11, gI_sI, if_pos ⟨rfl, rfl⟩]; exact q95
    have mk11 : Lay LC g c t τ11 → CI K g c t τ11 D told els past [] s W0 R := fun hL11 => c9.fr hK hL11 hF11 (fun a j h9 => .inr (.inr (.inr h9))) (fun _ h => h.elim) (fun i hi => (hF11.i (by omega) (by omega)).trans (c9.2.2.2.2.2.2.2.1 i hi)) (c9.2.2.2.2.2.2.2.2.1.fr hF11 (fun j => by omega)) q11
    have q4 : gI τ11 19 4 = k := (hF11.i (by omega) (by omega)).trans ((hF9.i (by omega) (by omega)).trans hfl.1)
    rw [q4]
    clear e11 e9
    match w, hwy with
    | none, hwy =>
      have hk5 : k ≠ 5 := hwy
      exact ⟨fun _ => ⟨⟨by omega, by omega⟩, fun hL11 => h1 n rfl hn k s none hp τ11 (mk11 hL11)⟩, fun h9 => absurd (by omega) hk5⟩
    | some (w1, w2, w3, w4), hwy =>
      obtain ⟨hk5, r0, r1, r2, r3⟩ := hwy
      refine ⟨fun h9 => absurd (by omega) h9, fun _ hL11 => ?_⟩
      have c11 := mk11 hL11
      have kp : ∀ k', gI τ11 t k' = gI τ8 t k' := fun k' => (hF11.i (by omega) (by omega)).trans (hF9.i (by omega) (by omega))
      refine S_keepReasons hL11 (fun τ18 hL18 hF18 p0 p1 p2 p3 => ⟨hL18, ?_⟩)
      have c18 : CI K g c t τ18 D told els past [] s (W4 w1 w2 w3 w4) R := c11.fr hK hL18 hF18 (fun a j h9 => .inr (.inl h9)) (fun _ h => h.elim) (fun j hj => by
        have : j = 0 ∨ j = 1 ∨ j = 2 ∨ j = 3 := by omega
        rcases this with rfl | rfl | rfl | rfl
        · rw [p0, kp, r0]; rfl
        · rw [p1, kp, r1]; rfl
        · rw [p2, kp, r2]; rfl
        · rw [p3, kp, r3]; rfl) (c11.2.2.2.2.2.2.2.2.1.fr hF18 (fun j => by omega)) ((hF18.i (by omega) (by omega)).trans q11)
      rw [(hF18.i (by omega) (by omega)).trans q4]
      exact ⟨⟨by omega, by omega⟩, fun _ => h1 n rfl hn k s (some (w1, w2, w3, w4)) hp τ18 c18⟩
end S95
