/-! ===== couples: how often two classes make one ===== -/
def cplP (N : Nat) (m : Nat → Nat → Nat) (a b c x : Nat) : Prop := csN N m x = a ∧ csN N m (m (iv N m x) (lsN N m c)) = b
noncomputable def cplN (N : Nat) (m : Nat → Nat → Nat) (a b c : Nat) : Nat := cn (cplP N m a b c) N
abbrev frCp : Nat → Nat → Prop := fun a _ => 557 ≤ a ∧ a < 2861
/-- the table of couples -/
def CplM (σ : Sg) (N : Nat) (m : Nat → Nat → Nat) : Prop := ∀ a b c, a < rsN N m → b < rsN N m → c < rsN N m → gI σ (557 + (48 * a + b)) c = (cplN N m a b c : Int)
section S9p
variable {E : Ev} {σ : Sg} {Q : NO → Sg → Prop} {g : Sg} {c t : Nat}
variable {K : Int → List (List Int) → Sg → Prop} {D : Int} {told els : List (List Int)} {past : List (List (List Int))} {B : List Int} {F : Int} {W R : Nat → Int}
theorem S_countCouples {i j l : Nat} (hL : Lay LC g c t σ) (hG : GAll σ D els) (hI : IsG els.length (gmt D els)) (hi : i < rsN els.length (gmt D els)) (hj : j < rsN els.length (gmt D els)) (hl : l < rsN els.length (gmt D els))
    (hq : Q (.inl (some (vi (cplN els.length (gmt D els) i j l)))) σ) : CC E mX4_countCouples [vr 24, vi i, vi j, vi l] σ Q := by
  have n120 := hG.1.2.1
  have hr := rsN_le els.length (gmt D els)
  obtain ⟨l1, l2, l3, l4⟩ := lsN_s hI hl
  have hA := hG.2.2.2.1.2.2.1 l hl
  have s29 : gS σ 29 = (20, 120) := hL.1 (29, 30, 20, 120) (by decide) 29 (by decide) (by decide)
  have s28 : gS σ 28 = (20, 120) := hL.1 (28, 29, 20, 120) (by decide) 28 (by decide) (by decide)
  refine C_X4_countCouples (B_X4_countCouples_0 hL (fun _ => S_atN (by decide) s29 (by decide) (by omega) ⟨hL, fun _ _ => ?_⟩))
  rw [hA.1, l1]
  refine loopU (N := els.length) (G := fun n τ => GG E mX4_countCouples 16 [some (vr 24), some (vi i), some (vi j), none, some (vi (lsN els.length (gmt D els) l)), some (vi (cn (cplP els.length (gmt D els) i j l) n)), some (vi n)] [] τ 0 0 Q) (P := fun n τ => τ = σ) ?_ ?_ 0 σ (by omega) rfl
  · rintro n τ hn rfl next
    have e9 : cn (cplP els.length (gmt D els) i j l) (n + 1) = cn (cplP els.length (gmt D els) i j l) n + @ite _ (cplP els.length (gmt D els) i j l n) (Classical.propDecidable _) 1 0 := rfl
    have nx := next τ rfl
    rw [e9] at nx
    have cl := cn_le (P := cplP els.length (gmt D els) i j l) n
    generalize cn (cplP els.length (gmt D els) i j l) n = w at *
    have h28 : ∀ x, x < els.length → gI τ 28 x = (csN els.length (gmt D els) x : Int) := fun x hx => (hG.2.2.2.1.1 x hx).trans (csN_s hI hx).1
    have hiv := iv_lt hI hn
    have hm := hI.2.1 _ _ hiv l2
    refine B_X4_countCouples_16 hL ?_
    rw [hG.1.1, show ((n : Nat) : Int).toNat = n by omega, h28 n hn, hG.2.1 n hn]
    refine ⟨fun h => absurd h (by omega), fun _ => ⟨⟨by omega, by omega⟩, fun hne => ⟨⟨by omega, by omega⟩, fun _ => ?_⟩, fun he _ => S_times hL hG.1 hiv l2 ⟨hL, fun _ _ => S_atN (by decide) s28 (by decide) (by omega) ⟨hL, fun _ => ?_⟩⟩⟩⟩
    · rw [if_neg (fun h9 => hne (by rw [h9.1])), Nat.add_zero] at nx
      exact nx
    · rw [h28 _ hm]
      refine ⟨fun hne => ⟨⟨by omega, by omega⟩, fun _ => ?_⟩, fun he2 => ⟨⟨by omega, by omega⟩, ⟨by omega, by omega⟩, fun _ => ?_⟩⟩
      · rw [if_neg (fun h9 => hne (by rw [h9.2])), Nat.add_zero] at nx
        exact nx
      · rw [if_pos ⟨by omega, by omega⟩] at nx
        exact nx
  · rintro τ rfl
    refine B_X4_countCouples_16 hL ?_
    rw [hG.1.1]
    exact ⟨fun _ _ => hq, fun h9 => absurd (by omega) h9⟩
theorem X_couples {x1 x2 x3 : Int} (h : CI K g c t σ D told els past B F W R) (hK : KF K) (hRB : ∀ i, i < 3 → inR (R i + 1)) (hC : Clo D told els)
    (h0 : (x1 < 0 ∨ (rsN els.length (gmt D els) : Int) ≤ x1 ∨ x2 < 0 ∨ (rsN els.length (gmt D els) : Int) ≤ x2 ∨ x3 < 0 ∨ (rsN els.length (gmt D els) : Int) ≤ x3) → ∀ τ, CI K g c t τ D told els past B F W (bmp R 0) → Q (.inr 0) τ)
    (h2 : ∀ i j l : Nat, x1 = i → x2 = j → x3 = l → i < rsN els.length (gmt D els) → j < rsN els.length (gmt D els) → l < rsN els.length (gmt D els) → Q (.inl (some (vi (cplN els.length (gmt D els) i j l)))) σ) : CC E mX11_couples [vr 16, vi x1, vi x2, vi x3] σ Q := by
  have hL := h.1
  have hG : GAll σ D els := h.2.2.2.1
  have hR := h.2.2.2.2.2.2.2.2.1
  have h7 : gI σ 24 7 = (rsN els.length (gmt D els) : Int) := hG.2.2.2.1.2.1
  refine C_X11_couples (B_X11_couples_0 hL ⟨by decide, by decide, fun _ => ?_⟩)
  rw [h7]
  refine S_needIndex hL hR (hRB 0 (by omega)) (fun a0 a1 => ⟨hL, by decide, by decide, fun _ => ?_⟩) (fun τ hk hLτ hFτ hRτ => h0 (by omega) τ (h.ref hK hLτ hFτ hRτ))
  rw [h7]
  refine S_needIndex hL hR (hRB 0 (by omega)) (fun b0 b1 => ⟨hL, by decide, by decide, fun _ => ?_⟩) (fun τ hk hLτ hFτ hRτ => h0 (by omega) τ (h.ref hK hLτ hFτ hRτ))
  rw [h7]
  refine S_needIndex hL hR (hRB 0 (by omega)) (fun c0 c1 => ⟨hL, fun _ => ?_⟩) (fun τ hk hLτ hFτ hRτ => h0 (by omega) τ (h.ref hK hLτ hFτ hRτ))
  obtain ⟨i, rfl⟩ : ∃ i : Nat, x1 = i := ⟨x1.toNat, by omega⟩
  obtain ⟨j, rfl⟩ : ∃ j : Nat, x2 = j := ⟨x2.toNat, by omega⟩
  obtain ⟨l, rfl⟩ : ∃ l : Nat, x3 = l := ⟨x3.toNat, by omega⟩
  exact S_countCouples hL hG hC.isG (by omega) (by omega) (by omega) ⟨hL, fun _ _ => h2 i j l rfl rfl rfl (by omega) (by omega) (by omega)⟩
theorem S_laysCouples {p s : Nat} (hL : Lay LM g c t σ) (hM : MAll σ D els p s) (hI : IsG els.length (gmt D els)) (h48 : rsN els.length (gmt D els) ≤ 48)
    (h : ∀ τ, Lay LM g c t τ → Fr frCp (fun _ => False) σ τ → CplM τ els.length (gmt D els) → Q (.inl none) τ) : CC E mX12_laysCouples [vr 172] σ Q := by
  have n120 := hM.1.1
  have ok : ∀ τ, Fr frCp (fun _ => False) σ τ → MAll τ D els p s := fun τ hF => hM.fr hF ⟨fun a j h1 h2 => by omega, fun j h1 h2 => by omega⟩
  refine C_X12_laysCouples (B_X12_laysCouples_0 hL (fun _ => ?_))
  -- the second walk
  have second : ∀ τ, Lay LM g c t τ → Fr frCp (fun _ => False) σ τ → (∀ a b e, a < rsN els.length (gmt D els) → b < rsN els.length (gmt D els) → e < rsN els.length (gmt D els) → gI τ (557 + (48 * a + b)) e = 0) → GG E mX12_laysCouples 64 [some (vr 172), some (vi (0 : Nat)), none, none] [] τ 0 0 Q := by
    intro τ hLτ hFτ hz
    refine loopU (N := rsN els.length (gmt D els)) (G := fun l τ => GG E mX12_laysCouples 64 [some (vr 172), some (vi l), none, none] [] τ 0 0 Q)
      (P := fun l τ => Lay LM g c t τ ∧ Fr frCp (fun _ => False) σ τ ∧ ∀ a b e, a < rsN els.length (gmt D els) → b < rsN els.length (gmt D els) → e < rsN els.length (gmt D els) → gI τ (557 + (48 * a + b)) e = if e < l then (cplN els.length (gmt D els) a b e : Int) else 0) ?_ ?_ 0 τ (by omega) ⟨hLτ, hFτ, fun a b e h1 h2 h3 => by rw [if_neg (by omega)]; exact hz a b e h1 h2 h3⟩
    · rintro l τ hl ⟨hL1, hF1, hv⟩ next
      have hM1 := ok τ hF1
      have h16 : gI τ 172 16 = (rsN els.length (gmt D els) : Int) := hM1.2.2.2.2.1.2.1
      refine B_X12_laysCouples_64 hL1 ?_
      rw [h16]
      refine ⟨fun h9 => absurd h9 (by omega), fun _ _ => ?_⟩
      obtain ⟨l1, l2, l3, l4⟩ := lsN_s hI hl
      refine loopU (N := els.length) (G := fun n τ => GG E mX12_laysCouples 74 [some (vr 172), some (vi l), some (vi n), none] [] τ 0 0 Q)
        (P := fun n τ => Lay LM g c t τ ∧ Fr frCp (fun _ => False) σ τ ∧ ∀ a b e, a < rsN els.length (gmt D els) → b < rsN els.length (gmt D els) → e < rsN els.length (gmt D els) → gI τ (557 + (48 * a + b)) e = if e < l then (cplN els.length (gmt D els) a b e : Int) else if e = l then (cn (cplP els.length (gmt D els) a b l) n : Int) else 0) ?_ ?_ 0 τ (by omega) ⟨hL1, hF1, fun a b e h1 h2 h3 => by
          rw [hv a b e h1 h2 h3]
          by_cases hel : e < l
          · rw [if_pos hel, if_pos hel]
          · rw [if_neg hel, if_neg hel]
            split <;> rfl⟩
      · rintro n τ2 hn ⟨hL2, hF2, hv2⟩ next2
        have hM2 := ok τ2 hF2
        have hiv := iv_lt hI hn
        have hm := hI.2.1 _ _ hiv l2
        have c1 := csN_s hI hn
        have c2 := csN_s hI hm
        have e553 : ∀ x, x < els.length → gI τ2 553 x = (csN els.length (gmt D els) x : Int) := fun x hx => (hM2.2.2.2.2.1.1 x hx).trans (csN_s hI hx).1
        have e554 : gI τ2 554 l = (lsN els.length (gmt D els) l : Int) := (hM2.2.2.2.2.1.2.2 l hl).1.trans l1
        have e552 : gI τ2 552 n = (iv els.length (gmt D els) n : Int) := hM2.2.2.1 n hn
        have cur := hv2 _ _ l c1.2 c2.2 hl
        rw [if_neg (by omega), if_pos rfl] at cur
        have cl := cn_le (P := cplP els.length (gmt D els) (csN els.length (gmt D els) n) (csN els.length (gmt D els) (gmt D els (iv els.length (gmt D els) n) (lsN els.length (gmt D els) l))) l) n
        refine B_X12_laysCouples_74 hL2 ?_
        rw [hM2.2.1.1, show ((n : Nat) : Int).toNat = n by omega, show ((l : Nat) : Int).toNat = l by omega, e553 n hn, e552, e554,
          show ((iv els.length (gmt D els) n : Nat) : Int).toNat = iv els.length (gmt D els) n by omega, show ((lsN els.length (gmt D els) l : Nat) : Int).toNat = lsN els.length (gmt D els) l by omega, hM2.2.1.2.2 _ _ hiv l2]
        refine ⟨fun h9 => absurd h9 (by omega), fun _ => ⟨⟨by omega, by omega⟩, ⟨by omega, by omega⟩, ⟨by omega, by omega⟩, ⟨by omega, by omega⟩, ⟨by omega, by omega⟩, fun v8 e8 => ?_⟩⟩
        subst e8
        rw [show ((gmt D els (iv els.length (gmt D els) n) (lsN els.length (gmt D els) l) : Nat) : Int).toNat = gmt D els (iv els.length (gmt D els) n) (lsN els.length (gmt D els) l) by omega, e553 _ hm]
        refine ⟨⟨by omega, by omega⟩, ⟨by omega, by omega⟩, fun v11 e11 => ?_⟩
        have e11' : v11.toNat = 48 * csN els.length (gmt D els) n + csN els.length (gmt D els) (gmt D els (iv els.length (gmt D els) n) (lsN els.length (gmt D els) l)) := by omega
        rw [e11', cur]
        refine ⟨⟨by omega, by omega⟩, ⟨by omega, by omega⟩, ⟨by omega, by omega⟩, fun τ16 e16 => ⟨⟨by omega, by omega⟩, fun hL16 => ?_⟩⟩
        have hF16 : Fr frCp (fun _ => False) τ2 τ16 := by rw [e16]; exact Fr_of1 ⟨by omega, by omega⟩
        refine next2 τ16 ⟨hL16, hF2.trans hF16, fun a b e h1 h2 h3 => ?_⟩
        have old := hv2 a b e h1 h2 h3
        have es : cn (cplP els.length (gmt D els) a b l) (n + 1) = cn (cplP els.length (gmt D els) a b l) n + @ite _ (cplP els.length (gmt D els) a b l n) (Classical.propDecidable _) 1 0 := rfl
        rw [e16, gI_sI, es]
        by_cases hhit : a = csN els.length (gmt D els) n ∧ b = csN els.length (gmt D els) (gmt D els (iv els.length (gmt D els) n) (lsN els.length (gmt D els) l)) ∧ e = l
        · obtain ⟨rfl, rfl, rfl⟩ := hhit
          rw [if_pos ⟨rfl, rfl⟩, if_neg (by omega), if_pos rfl, if_pos ⟨rfl, rfl⟩]
          rfl
        · rw [if_neg (fun h9 => hhit (by omega)), old]
          by_cases hel : e < l
          · rw [if_pos hel, if_pos hel]
          · rw [if_neg hel, if_neg hel]
            by_cases hee : e = l
            · rw [if_pos hee, if_pos hee, if_neg (fun h9 => hhit ⟨h9.1.symm, h9.2.symm, hee⟩), Nat.add_zero]
            · rw [if_neg hee, if_neg hee]
      · rintro τ2 ⟨hL2, hF2, hv2⟩
        have hM2 := ok τ2 hF2
        refine B_X12_laysCouples_74 hL2 ?_
        rw [hM2.2.1.1]
        refine ⟨fun _ => ⟨⟨by omega, by omega⟩, fun _ => next τ2 ⟨hL2, hF2, fun a b e h1 h2 h3 => ?_⟩⟩, fun h9 => absurd (by omega) h9⟩
        rw [hv2 a b e h1 h2 h3]
        by_cases hel : e < l
        · rw [if_pos hel, if_pos (by omega)]
        · rw [if_neg hel]
          by_cases hee : e = l
          · subst hee
            rw [if_pos rfl, if_pos (by omega)]; rfl
          · rw [if_neg hee, if_neg (by omega)]
    · rintro τ ⟨hL1, hF1, hv⟩
      have hM1 := ok τ hF1
      have h16 : gI τ 172 16 = (rsN els.length (gmt D els) : Int) := hM1.2.2.2.2.1.2.1
      refine B_X12_laysCouples_64 hL1 ?_
      rw [h16]
      exact ⟨fun _ _ => h τ hL1 hF1 (fun a b e h1 h2 h3 => by rw [hv a b e h1 h2 h3, if_pos h3]), fun h9 => absurd (by omega) h9⟩
  -- the first: all is 0
  refine loopU (N := rsN els.length (gmt D els)) (G := fun i τ => GG E mX12_laysCouples 2 [some (vr 172), some (vi i), none, none] [] τ 0 0 Q)
    (P := fun i τ => Lay LM g c t τ ∧ Fr frCp (fun _ => False) σ τ ∧ ∀ a b e, a < i → b < rsN els.length (gmt D els) → e < rsN els.length (gmt D els) → gI τ (557 + (48 * a + b)) e = 0) ?_ ?_ 0 σ (by omega) ⟨hL, Fr.refl _, fun a b e h1 => absurd h1 (by omega)⟩
  · rintro i τ hi ⟨hL1, hF1, hv⟩ next
    have h16 : ∀ τ, Fr frCp (fun _ => False) σ τ → gI τ 172 16 = (rsN els.length (gmt D els) : Int) := fun τ hF => (ok τ hF).2.2.2.2.1.2.1
    refine B_X12_laysCouples_2 hL1 ?_
    rw [h16 τ hF1]
    refine ⟨fun h9 => absurd h9 (by omega), fun _ _ => ?_⟩
    refine loopU (N := rsN els.length (gmt D els)) (G := fun j τ => GG E mX12_laysCouples 12 [some (vr 172), some (vi i), some (vi j), none] [] τ 0 0 Q)
      (P := fun j τ => Lay LM g c t τ ∧ Fr frCp (fun _ => False) σ τ ∧ (∀ a b e, a < i → b < rsN els.length (gmt D els) → e < rsN els.length (gmt D els) → gI τ (557 + (48 * a + b)) e = 0) ∧ ∀ b e, b < j → e < rsN els.length (gmt D els) → gI τ (557 + (48 * i + b)) e = 0) ?_ ?_ 0 τ (by omega) ⟨hL1, hF1, hv, fun b e h1 => absurd h1 (by omega)⟩
    · rintro j τ2 hj ⟨hL2, hF2, hv2, hw2⟩ next2
      refine B_X12_laysCouples_12 hL2 ?_
      rw [h16 τ2 hF2]
      refine ⟨fun h9 => absurd h9 (by omega), fun _ _ => ?_⟩
      refine loopU (N := rsN els.length (gmt D els)) (G := fun k τ => GG E mX12_laysCouples 22 [some (vr 172), some (vi i), some (vi j), some (vi k)] [] τ 0 0 Q)
        (P := fun k τ => Lay LM g c t τ ∧ Fr frCp (fun _ => False) σ τ ∧ (∀ a b e, a < i → b < rsN els.length (gmt D els) → e < rsN els.length (gmt D els) → gI τ (557 + (48 * a + b)) e = 0) ∧ (∀ b e, b < j → e < rsN els.length (gmt D els) → gI τ (557 + (48 * i + b)) e = 0) ∧ ∀ e, e < k → gI τ (557 + (48 * i + j)) e = 0) ?_ ?_ 0 τ2 (by omega) ⟨hL2, hF2, hv2, hw2, fun e h1 => absurd h1 (by omega)⟩
      · rintro k τ3 hk ⟨hL3, hF3, hv3, hw3, hu3⟩ next3
        refine B_X12_laysCouples_22 hL3 ?_
        rw [h16 τ3 hF3, show ((k : Nat) : Int).toNat = k by omega, show ((48 : Int) * (i : Int) + (j : Int)).toNat = 48 * i + j by omega]
        refine ⟨fun h9 => absurd h9 (by omega), fun _ => ⟨⟨by omega, by omega⟩, ⟨by omega, by omega⟩, ⟨by omega, by omega⟩, ⟨by omega, by omega⟩, fun τ7 e7 => ⟨⟨by omega, by omega⟩, fun hL7 => ?_⟩⟩⟩
        have hF7 : Fr frCp (fun _ => False) τ3 τ7 := by rw [e7]; exact Fr_of1 ⟨by omega, by omega⟩
        have q7 : ∀ a e, gI τ7 a e = if a = 557 + (48 * i + j) ∧ e = k then 0 else gI τ3 a e := fun a e => by rw [e7, gI_sI]
        refine next3 τ7 ⟨hL7, hF3.trans hF7, fun a b e h1 h2 h3 => ?_, fun b e h1 h2 => ?_, fun e h1 => ?_⟩
        · rw [q7]; split
          · rfl
          · exact hv3 a b e h1 h2 h3
        · rw [q7]; split
          · rfl
          · exact hw3 b e h1 h2
        · rw [q7]
          by_cases hek : e = k
          · rw [if_pos ⟨rfl, hek⟩]
          · rw [if_neg (fun h9 => hek h9.2)]; exact hu3 e (by omega)
      · rintro τ3 ⟨hL3, hF3, hv3, hw3, hu3⟩
        refine B_X12_laysCouples_22 hL3 ?_
        rw [h16 τ3 hF3]
        refine ⟨fun _ => ⟨⟨by omega, by omega⟩, fun _ => next2 τ3 ⟨hL3, hF3, hv3, fun b e h1 h2 => ?_⟩⟩, fun h9 => absurd (by omega) h9⟩
        by_cases hbj : b = j
        · rw [hbj]; exact hu3 e h2
        · exact hw3 b e (by omega) h2
    · rintro τ2 ⟨hL2, hF2, hv2, hw2⟩
      refine B_X12_laysCouples_12 hL2 ?_
      rw [h16 τ2 hF2]
      refine ⟨fun _ => ⟨⟨by omega, by omega⟩, fun _ => next τ2 ⟨hL2, hF2, fun a b e h1 h2 h3 => ?_⟩⟩, fun h9 => absurd (by omega) h9⟩
      by_cases hai : a = i
      · rw [hai]; exact hw2 b e h2 h3
      · exact hv2 a b e (by omega) h2 h3
  · rintro τ ⟨hL1, hF1, hv⟩
    have hM1 := ok τ hF1
    have h16 : gI τ 172 16 = (rsN els.length (gmt D els) : Int) := hM1.2.2.2.2.1.2.1
    refine B_X12_laysCouples_2 hL1 ?_
    rw [h16]
    exact ⟨fun _ _ => second τ hL1 hF1 hv, fun h9 => absurd (by omega) h9⟩
end S9p
