/-! ===== Reader: words, turns ===== -/
section S93
variable {E : Ev} {σ : Sg} {Q : NO → Sg → Prop} {g : Sg} {c t : Nat} {B : List Int} {n : Nat}
/-- the letters so far are the word's -/
def pre4 (f : Nat → Int) (w : Nat → Int) (s k : Nat) : Prop := k ≤ 4 ∧ ∀ i, i < k → f (s + i) = w i
theorem S_readWord {a p : Nat} {w : Nat → Int} (hp : p ≤ n) (hL : Lay LC g c t σ) (hB : TapeC σ B) (hn : n ≤ B.length) (hR : RdC σ n p) (ha : ∀ τ, Lay LC g c t τ → Str4 τ a w) (hw : ∀ j, j < 4 → b_i2cq (b_iandq (w j) 255) = w j ∧ 97 ≤ w j ∧ w j ≤ 122)
    (h1 : wordAt (atB B n) w (upto (isBl (atB B n)) p) → upto (isBl (atB B n)) p + 4 ≤ n → ∀ τ, Lay LC g c t τ → Fr frQ (fun _ => False) σ τ → RdC τ n (upto (isBl (atB B n)) p + 4) → Q (.inl (some (vi 1))) τ)
    (h0 : ¬ wordAt (atB B n) w (upto (isBl (atB B n)) p) → ∀ τ, Lay LC g c t τ → Fr frQ2 (fun _ => False) σ τ → Flt τ 1 (upto (isBl (atB B n)) p) → Q (.inl (some (vi 0))) τ) : CC E mX7_readWord [vr 19, vr a] σ Q := by
  have h400 := hB.2.1
  refine C_X7_readWord (B_X7_readWord_0 hL (fun _ => S_skip (n - p) p σ rfl hp hL hB hn hR (fun τ2 hL2 hF2 hR2 => ⟨hL2, fun _ => ?_⟩)))
  have hsn : upto (isBl (atB B n)) p ≤ n := upto_le noBl hp
  generalize upto (isBl (atB B n)) p = s at *
  rw [hR2.2]
  have us := upto_s (P := isLe (atB B n)) (p := s) noLe
  have ul := upto_le (P := isLe (atB B n)) (p := s) noLe hsn
  unfold wordAt at h1 h0
  generalize upto (isLe (atB B n)) s = q at *
  obtain ⟨u1, u2, u3⟩ := us
  -- the end, at place q
  have fin : ∀ (x : Int) (τ : Sg), (x = 0 ∨ x = 1) → (x = 1 ↔ pre4 (atB B n) w s (q - s)) → Lay LC g c t τ → Fr frQ (fun _ => False) σ τ → RdC τ n q → GG E mX7_readWord 85 [some (vr 19), some (vr a), some (vi s), some (vi x), none] [] τ 0 0 Q := by
    intro x τ hx hxi hLτ hF hRτ
    have hS := ha τ hLτ
    have fl : ¬ (q = s + 4 ∧ ∀ i, i < 4 → atB B n (s + i) = w i) → CC E mX7_fail [vr 19, vi 1, vi s] τ (KI (fun r τ2 => Lay LC g c t τ2 ∧ (inR r → ((r = 0 → (Lay LC g c t τ2 → Q (.inl (some (vi 0))) τ2)) ∧ (¬ (r = 0) → (Lay LC g c t τ2 → Q (.inl (some (vi 1))) τ2))))) (fun _ _ => False)) := fun hno =>
      S_fail7 hLτ (fun χ hLχ hFχ q4 q5 => ⟨hLχ, fun _ => ⟨fun _ _ => h0 hno χ hLχ ((hF.mono (fun a j h9 => by omega) (fun _ h => h)).trans (hFχ.mono (fun a j h9 => by omega) (fun _ h => h))) ⟨q4, q5⟩, fun h9 => absurd rfl h9⟩⟩)
    refine B_X7_readWord_85 hLτ ⟨fun hx0 _ => fl (fun h9 => ?_), fun hx1 => ?_⟩
    · have := hxi.mpr ⟨by omega, fun i hi => h9.2 i (by omega)⟩
      omega
    · have hx1' : x = 1 := by omega
      have hpre := hxi.mp hx1'
      rw [hRτ.2]
      refine ⟨⟨by omega, by omega⟩, ⟨hS.1, hS.2.1⟩, fun _ => S_length hS ⟨hLτ, fun _ => ⟨fun he _ => ?_, fun hne _ => fl (fun h9 => hne (by omega))⟩⟩⟩
      have he' : q = s + 4 := by omega
      refine h1 ⟨he', fun i hi => hpre.2 i (by omega)⟩ (by omega) τ hLτ hF (by rw [← he']; exact hRτ)
  refine loopU (N := q - s) (G := fun k τ => ∀ x : Int, (x = 0 ∨ x = 1) → (x = 1 ↔ pre4 (atB B n) w s k) → GG E mX7_readWord 11 [some (vr 19), some (vr a), some (vi s), some (vi x), none] [] τ 0 0 Q) (P := fun k τ => Lay LC g c t τ ∧ Fr frQ (fun _ => False) σ τ ∧ RdC τ n (s + k)) ?_ ?_ 0 τ2 (by omega) ⟨hL2, hF2, hR2⟩ 1 (.inr rfl) ⟨fun _ => ⟨by omega, fun i hi => absurd hi (by omega)⟩, fun _ => rfl⟩
  · rintro k τ hk ⟨hLτ, hF, hRτ⟩ next x hx hxi
    have hlk := u3 (s + k) (by omega) (by omega)
    have hBτ := hB.fr hF ⟨fun _ => by omega, by omega⟩
    have hS := ha τ hLτ
    have hkn : s + k < n := by
      apply Nat.not_le.mp
      intro h9
      exact noLe _ h9 hlk
    have go : ∀ (y : Int) (τ6 : Sg), (y = 0 ∨ y = 1) → (y = 1 ↔ pre4 (atB B n) w s (k + 1)) → τ6 = sI τ 19 3 (((s + k : Nat) : Int) + 1) → Lay LC g c t τ6 → GG E mX7_readWord 11 [some (vr 19), some (vr a), some (vi s), some (vi y), none] [] τ6 0 0 Q := fun y τ6 hy hyi e6 hL6 => by
      subst e6
      exact next _ ⟨hL6, hF.sI ⟨rfl, rfl⟩, by rw [gI_sI, if_neg (by omega)]; exact hRτ.1, by rw [gI_sI, if_pos ⟨rfl, rfl⟩]; rfl⟩ y hy hyi
    refine B_X7_readWord_11 hLτ ?_
    rw [hRτ.1, hRτ.2]
    refine ⟨fun h => absurd h (by omega), fun _ _ => S_here hLτ hBτ hn hRτ ⟨hLτ, fun _ _ => S_isLetter7 (fun r r1 r0 => ⟨hLτ, fun _ => ⟨fun hr => absurd (r1 hlk) (by omega), fun _ => ?_⟩⟩)⟩⟩
    rw [hRτ.2]
    refine ⟨⟨by omega, by omega⟩, fun hx0 => ⟨⟨by omega, by omega⟩, fun τ7 e7 hL7 => go 0 τ7 (.inl rfl) ⟨fun h9 => absurd h9 (by decide), fun h9 => ?_⟩ e7 hL7⟩, fun hx1 => ⟨⟨hS.1, hS.2.1⟩, fun _ => S_length hS ⟨hLτ, fun _ => ?_⟩⟩⟩
    · have := hxi.mpr ⟨by have := h9.1; omega, fun i hi => h9.2 i (by omega)⟩
      omega
    · rw [show ((s + k : Nat) : Int) - (s : Int) = (k : Int) by omega, hRτ.2]
      refine ⟨fun hbig => ⟨⟨by omega, by omega⟩, fun τ7 e7 hL7 => go 0 τ7 (.inl rfl) ⟨fun h9 => absurd h9 (by decide), fun h9 => ?_⟩ e7 hL7⟩, fun hsm => ⟨⟨hS.1, hS.2.1⟩, fun _ => ?_⟩⟩
      · have := h9.1; omega
      · have hk4 : k < 4 := by omega
        have hwk := hw k hk4
        refine S_charAt hS hk4 hwk.1 (by omega) ⟨hLτ, fun _ _ => S_here hLτ hBτ hn hRτ ⟨hLτ, fun _ => ?_⟩⟩
        rw [hRτ.2]
        have hpre := hxi.mp (by omega)
        refine ⟨fun hne => ⟨⟨by omega, by omega⟩, fun τ7 e7 hL7 => go 0 τ7 (.inl rfl) ⟨fun h9 => absurd h9 (by decide), fun h9 => ?_⟩ e7 hL7⟩, fun he => ⟨⟨by omega, by omega⟩, fun τ7 e7 hL7 => go 1 τ7 (.inr rfl) ⟨fun _ => ⟨by omega, fun i hi => ?_⟩, fun _ => rfl⟩ e7 hL7⟩⟩
        · exact absurd (h9.2 k (by omega)).symm hne
        · by_cases hik : i = k
          · rw [hik]; exact he.symm
          · exact hpre.2 i (by omega)
  · rintro τ ⟨hLτ, hF, hRτ⟩ x hx hxi
    rw [show s + (q - s) = q by omega] at hRτ
    have hBτ := hB.fr hF ⟨fun _ => by omega, by omega⟩
    refine B_X7_readWord_11 hLτ ?_
    rw [hRτ.1, hRτ.2]
    refine ⟨fun _ _ => fin x τ hx hxi hLτ hF hRτ, fun _ _ => S_here hLτ hBτ hn hRτ ⟨hLτ, fun _ _ => S_isLetter7 (fun r r1 r0 => ⟨hLτ, fun _ => ⟨fun _ _ => fin x τ hx hxi hLτ hF hRτ, fun hr => absurd (of_ne9 r0 hr) u2⟩⟩)⟩⟩
abbrev frQ3 : Nat → Nat → Prop := fun a k => (a = 19 ∧ (k = 3 ∨ k = 4 ∨ k = 5)) ∨ a = 20
theorem S_readTold {i p : Nat} (hi : i < 8) (hp : p ≤ n) (hL : Lay LC g c t σ) (hB : TapeC σ B) (hn : n ≤ B.length) (hR : RdC σ n p)
    (h1 : ∀ v q, pTold (atB B n) p = .inr (v, q) → q ≤ n → -4 ≤ v → v ≤ 4 → ∀ τ, Lay LC g c t τ → Fr frQ3 (fun _ => False) σ τ → RdC τ n q → gI τ 20 i = v → (∀ j, j ≠ i → gI τ 20 j = gI σ 20 j) → gI τ 19 5 = gI σ 19 5 → Q (.inl (some (vi 1))) τ)
    (h0 : ∀ k s, pTold (atB B n) p = .inl (k, s) → ∀ τ, Lay LC g c t τ → Fr frQ3 (fun _ => False) σ τ → Flt τ k s → Q (.inl (some (vi 0))) τ) : CC E mX7_readTold [vr 19, vi i] σ Q := by
  have h400 := hB.2.1
  refine C_X7_readTold (B_X7_readTold_0 hL (fun _ => S_skip (n - p) p σ rfl hp hL hB hn hR (fun τ2 hL2 hF2 hR2 => ⟨hL2, fun _ => ?_⟩)))
  have hsn : upto (isBl (atB B n)) p ≤ n := upto_le noBl hp
  have hB2 := hB.fr hF2 ⟨fun _ => by omega, by omega⟩
  have Ks := fun (s1 q : Nat) (h1 : s1 = if atB B n (upto (isBl (atB B n)) p) = 45 then upto (isBl (atB B n)) (upto (isBl (atB B n)) p + 1) else upto (isBl (atB B n)) p) (h2 : q = upto (isDg (atB B n)) s1) => pTold_e (f := atB B n) (p := p) (s := upto (isBl (atB B n)) p) rfl h1 h2
  have hnb : ¬ isBl (atB B n) (upto (isBl (atB B n)) p) := (upto_s (p := p) noBl).2.1
  generalize upto (isBl (atB B n)) p = s at *
  -- from the number on
  have num : ∀ (x3 : Int) (p1 : Nat) (τ : Sg), (x3 = 0 ∧ atB B n s ≠ 45 ∧ p1 = s ∨ x3 = 1 ∧ atB B n s = 45 ∧ p1 = s + 1) → p1 ≤ n → Lay LC g c t τ → Fr frQ (fun _ => False) σ τ → RdC τ n p1 → GG E mX7_readTold 38 [some (vr 19), some (vi i), some (vi s), some (vi x3), none] [] τ 0 0 Q := by
    intro x3 p1 τ hx hp1 hLτ hF hRτ
    have hBτ := hB.fr hF ⟨fun _ => by omega, by omega⟩
    refine B_X7_readTold_38 hLτ (fun _ => S_readNumber hp1 hLτ hBτ hn hRτ (fun s1 hs1 hdg q hq χ hLχ hFχ hRχ => ?_) (fun s1 hs1 hnd χ hLχ hFχ hfl => ?_))
    · have hs1' : s1 = if atB B n s = 45 then upto (isBl (atB B n)) (s + 1) else s := by
        rcases hx with ⟨_, h45, rfl⟩ | ⟨_, h45, rfl⟩
        · rw [if_neg h45, hs1, upto_no noBl hnb]
        · rw [if_pos h45, hs1]
      have hs1n : s1 ≤ n := by rw [hs1]; exact upto_le noBl hp1
      have hqn : q ≤ n := by rw [hq]; exact upto_le noDg hs1n
      have us := upto_s (P := isDg (atB B n)) (p := s1) noDg
      rw [← hq] at us
      have hrng := dgv_rng (f := atB B n) (p := s1) (q - s1) (fun j hj => us.2.2 (s1 + j) (by omega) (by omega))
      have KK9 := Ks s1 q hs1' hq
      rw [if_pos hdg] at KK9
      have hFχ2 : Fr frQ (fun _ => False) σ χ := hF.trans hFχ
      refine ⟨hLχ, fun _ => ⟨fun _ => ⟨fun hle => ⟨fun h => absurd h (by omega), fun _ => ⟨fun h => absurd h (by omega), fun _ => ⟨fun hx0 => ⟨⟨by omega, by omega⟩, fun τ4 e4 hL4 => ?_⟩, fun hx1 => ⟨⟨by omega, by omega⟩, ⟨by omega, by omega⟩, fun τ4 e4 hL4 => ?_⟩⟩⟩⟩, fun hgt _ => ?_⟩, fun h => absurd h (by omega)⟩⟩
      · rw [if_neg (by omega), if_neg (by omega)] at KK9
        rw [show ((i : Nat) : Int).toNat = i by omega] at e4
        subst e4
        exact h1 _ _ KK9 hqn (by omega) (by omega) _ hL4 ((hFχ2.mono (fun a j h9 => by omega) (fun _ h => h)).sI (.inr rfl)) ⟨by rw [gI_sI, if_neg (by omega)]; exact hRχ.1, by rw [gI_sI, if_neg (by omega)]; exact hRχ.2⟩ (by rw [gI_sI, if_pos ⟨rfl, rfl⟩]) (fun j hj => by rw [gI_sI, if_neg (fun h9 => hj h9.2)]; exact hFχ2.i (by omega) (by omega)) (by rw [gI_sI, if_neg (by omega)]; exact hFχ2.i (by omega) (by omega))
      · rw [if_neg (by omega), if_pos (by omega)] at KK9
        rw [show ((i : Nat) : Int).toNat = i by omega] at e4
        subst e4
        exact h1 _ _ KK9 hqn (by omega) (by omega) _ hL4 ((hFχ2.mono (fun a j h9 => by omega) (fun _ h => h)).sI (.inr rfl)) ⟨by rw [gI_sI, if_neg (by omega)]; exact hRχ.1, by rw [gI_sI, if_neg (by omega)]; exact hRχ.2⟩ (by rw [gI_sI, if_pos ⟨rfl, rfl⟩]) (fun j hj => by rw [gI_sI, if_neg (fun h9 => hj h9.2)]; exact hFχ2.i (by omega) (by omega)) (by rw [gI_sI, if_neg (by omega)]; exact hFχ2.i (by omega) (by omega))
      · rw [if_pos (by omega)] at KK9
        exact S_fail7 hLχ (fun ψ hLψ hFψ q4 q5 => ⟨hLψ, fun _ => ⟨.inl rfl, fun _ => h0 2 s KK9 ψ hLψ ((hFχ2.mono (fun a j h9 => by omega) (fun _ h => h)).trans (hFψ.mono (fun a j h9 => by omega) (fun _ h => h))) ⟨q4, q5⟩⟩⟩)
    · have hs1' : s1 = if atB B n s = 45 then upto (isBl (atB B n)) (s + 1) else s := by
        rcases hx with ⟨_, h45, rfl⟩ | ⟨_, h45, rfl⟩
        · rw [if_neg h45, hs1, upto_no noBl hnb]
        · rw [if_pos h45, hs1]
      have KK9 := Ks s1 _ hs1' rfl
      rw [if_neg hnd] at KK9
      refine ⟨hLχ, fun _ => ⟨fun h9 => absurd rfl h9, fun _ _ => h0 1 s1 KK9 χ hLχ ((hF.mono (fun a j h9 => by omega) (fun _ h => h)).trans (hFχ.mono (fun a j h9 => by omega) (fun _ h => h))) hfl⟩⟩
  refine S_here hL2 hB2 hn hR2 ⟨hL2, fun _ => ⟨fun hne => ⟨fun _ _ => ?_, fun h9 => absurd rfl h9⟩, fun he => ⟨fun h9 => absurd h9 (by decide), fun _ => ?_⟩⟩⟩
  · rw [hR2.2]
    exact num 0 s τ2 (.inl ⟨rfl, hne, rfl⟩) hsn hL2 hF2 hR2
  · have hlt : s < n := by
      apply Nat.not_le.mp
      intro h9
      rw [atB_end h9] at he
      exact absurd he (by decide)
    rw [hR2.2]
    refine ⟨⟨by omega, by omega⟩, fun τ8 e8 hL8 => ?_⟩
    subst e8
    exact num 1 (s + 1) _ (.inr ⟨rfl, he, rfl⟩) (by omega) hL8 (hF2.sI ⟨rfl, rfl⟩) ⟨by rw [gI_sI, if_neg (by omega)]; exact hR2.1, by rw [gI_sI, if_pos ⟨rfl, rfl⟩]; rfl⟩
end S93
