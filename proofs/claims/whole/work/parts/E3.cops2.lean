/-! ===== the class: opposite, withWays, inRow, row ===== -/
section SE3
variable {E : Ev} {σ : Sg} {Q : NO → Sg → Prop} {g : Sg} {c t : Nat}
variable {D : Int} {told els : List (List Int)} {past : List (List (List Int))} {B : List Int} {F : Int} {W R : Nat → Int}
theorem S_oppositeOf {i : Nat} (hL : Lay LC g c t σ) (hX : FX D told els) (hK : KCd D els σ) (hi : i < rG D els) (hq : ∀ x, IsOp D els i x → Q (.inl (some (vi x))) σ) : CC E mX0_oppositeOf [vr 34, vi i] σ Q := by
  obtain ⟨r12, hB, hCh, hG⟩ := hK
  have r12' : rG D els ≤ 12 := r12
  have hI := hX.1.isG
  have k7 := hB.1
  refine C_X0_oppositeOf (B_X0_oppositeOf_0 hL (fun _ => ?_))
  refine loopU (N := rG D els) (G := fun k τ => GG E mX0_oppositeOf 2 [some (vr 34), some (vi i), some (vi k), none, none] [] τ 0 0 Q) (P := fun k τ => τ = σ ∧ ∀ j, j < k → ¬ ∀ a, a < rG D els → vlC D els j a = vlC D els i (iG D els a)) ?_ ?_ 0 σ (by omega) ⟨rfl, fun j hj => absurd hj (by omega)⟩
  · rintro k τ hk ⟨rfl, hz⟩ next
    refine B_X0_oppositeOf_2 hL ?_
    rw [k7]
    refine ⟨fun h9 => absurd h9 (by omega), fun _ _ => ?_⟩
    let fl : Nat → Int → Prop := fun n y => (y = 1 ∧ ∀ a, a < n → vlC D els k a = vlC D els i (iG D els a)) ∨ (y = 0 ∧ ¬ ∀ a, a < n → vlC D els k a = vlC D els i (iG D els a))
    have walk : ∀ (d n : Nat) (y : Int), n + d = rG D els → fl n y → GG E mX0_oppositeOf 15 [some (vr 34), some (vi i), some (vi k), some (vi y), some (vi n)] [] τ 0 0 Q := by
      intro d
      induction d with
      | zero =>
        intro n y hn hy
        have hnr : n = rG D els := by omega
        refine B_X0_oppositeOf_15 hL ?_
        rw [k7]
        refine ⟨fun _ => ⟨fun h0 => ⟨⟨by omega, by omega⟩, fun _ => next τ ⟨rfl, fun j hj => ?_⟩⟩, fun h1 _ => ?_⟩, fun h9 => absurd (by omega) h9⟩
        · rcases hy with ⟨hy, _⟩ | ⟨_, hy⟩
          · omega
          · by_cases hjk : j = k
            · rw [hjk, ← hnr]; exact hy
            · exact hz j (by omega)
        · rcases hy with ⟨_, hy⟩ | ⟨hy, _⟩
          · exact hq k (.inl ⟨k, rfl, hk, by rw [← hnr]; exact hy, hz⟩)
          · exact absurd hy h1
      | succ d ih =>
        intro n y hn hy
        have hnr : n < rG D els := by omega
        have q7 : iG D els n < rG D els := ivc_lt hI hnr
        obtain ⟨rk, _, vk⟩ := hCh k hk
        obtain ⟨ri, _, vi9⟩ := hCh i hi
        refine B_X0_oppositeOf_15 hL ?_
        rw [k7, show ((i : Nat) : Int).toNat = i by omega, show ((k : Nat) : Int).toNat = k by omega, show ((n : Nat) : Int).toNat = n by omega, (hB.2.2.2.2.2 n hnr).2.2]
        refine ⟨fun h9 => absurd h9 (by omega), fun _ => ⟨fun hy0 => ⟨⟨by omega, by omega⟩, fun _ => ih (n + 1) 0 (by omega) ?_⟩, fun hy1 => ⟨⟨by omega, by omega⟩, fun b4 e4 _ => ⟨⟨by omega, by omega⟩, ⟨by omega, by omega⟩, fun b8 e8 w8 _ => ?_⟩⟩⟩⟩
        · rcases hy with ⟨hy, _⟩ | ⟨_, hy⟩
          · omega
          · exact .inr ⟨rfl, fun h9 => hy (fun a ha => h9 a (by omega))⟩
        · have hyy : ∀ a, a < n → vlC D els k a = vlC D els i (iG D els a) := by
            rcases hy with ⟨_, hy⟩ | ⟨hy, _⟩
            · exact hy
            · exact absurd hy hy1
          refine S_atP hL (pa37 w8) (by decide) (by omega) ⟨hL, fun _ => ?_⟩
          rw [e8, vi9 _ q7, e4, vk n hnr]
          refine ⟨fun hne => ⟨⟨by omega, by omega⟩, fun _ => ih (n + 1) _ (by omega) (.inr ⟨rfl, fun h9 => hne (h9 n (by omega))⟩)⟩, fun he => ⟨⟨by omega, by omega⟩, fun _ => ih (n + 1) _ (by omega) (.inl ⟨rfl, fun a ha => ?_⟩)⟩⟩
          by_cases han : a = n
          · rw [han]; exact he
          · exact hyy a (by omega)
    exact walk (rG D els) 0 1 (by omega) (.inl ⟨rfl, fun a ha => absurd ha (by omega)⟩)
  · rintro τ ⟨rfl, hz⟩
    refine B_X0_oppositeOf_2 hL ?_
    rw [k7]
    exact ⟨fun _ _ => hq (-1) (.inr ⟨rfl, hz⟩), fun h9 => absurd (by omega) h9⟩
theorem X_opposite {x : Int} (h : CI KCd g c t σ D told els past B F W R) (hX : FX D told els) (hRB : ∀ i, i < 3 → inR (R i + 1))
    (h0 : bd1 D els x → ∀ τ, CI KCd g c t τ D told els past B F W (bmp R 0) → Q (.inr 0) τ)
    (h2 : ∀ i : Nat, x = i → i < rG D els → ∀ y, IsOp D els i y → ∀ τ, CI KCd g c t τ D told els past B F W R → Q (.inl (some (vi y))) τ) : CC E mX11_opposite [vr 16, vi x] σ Q := by
  refine C_X11_opposite (B_X11_opposite_0 h.1 (fun _ => X_needCh h hX (fun τ hC h14 hK => ⟨hC.1, by decide, by decide, fun _ => ?_⟩)))
  have hB := hK.2.1
  rw [hB.1]
  refine S_needIndex hC.1 hC.2.2.2.2.2.2.2.2.1 (hRB 0 (by omega)) (fun a0 a1 => ⟨hC.1, fun _ => ?_⟩) (fun τ2 hk hLτ hFτ hRτ => h0 (by omega) τ2 (hC.ref KCd_kf hLτ hFτ hRτ))
  obtain ⟨i, rfl⟩ : ∃ i : Nat, x = i := ⟨x.toNat, by omega⟩
  exact S_oppositeOf hC.1 hX hK (by omega) (fun y hy => ⟨hC.1, fun _ _ => h2 i rfl (by omega) y hy τ hC⟩)
theorem S_countWith {x : Int} (hL : Lay LC g c t σ) (hX : FX D told els) (hG : GrC σ D els) (hq : Q (.inl (some (vi (wwN D els x (rG D els))))) σ) : CC E mX3_countWith [vr 125, vi x] σ Q := by
  have p1 := hX.2.2.1.1
  have h242 := hX.2.2.2.1
  have r12 : rG D els ≤ 12 := hX.2.1.1
  have k2 := hG.1
  refine C_X3_countWith (B_X3_countWith_0 hL (fun _ => ?_))
  refine loopU (N := rG D els) (G := fun a τ => GG E mX3_countWith 4 [some (vr 125), some (vi x), some (vi (wwN D els x a)), some (vi a), none, none] [] τ 0 0 Q) (P := fun _ τ => τ = σ) ?_ ?_ 0 σ (by omega) rfl
  · rintro a τ ha rfl next
    refine B_X3_countWith_4 hL ?_
    rw [k2]
    refine ⟨fun h9 => absurd h9 (by omega), fun _ _ => ?_⟩
    refine loopU (N := rG D els) (G := fun b τ => GG E mX3_countWith 18 [some (vr 125), some (vi x), some (vi (wwN D els x a)), some (vi a), some (vi (walN D els a b)), some (vi b)] [] τ 0 0 Q) (P := fun _ τ2 => τ2 = τ) ?_ ?_ 0 τ (by omega) rfl
    · rintro b τ2 hb rfl next2
      have w1 := walN_bd (D := D) (els := els) (by omega) h242 a b
      have w2 := walN_bd (D := D) (els := els) (by omega) h242 a (b + 1)
      have e : walN D els a (b + 1) = walN D els a b + waN D els a b := rfl
      refine B_X3_countWith_18 hL ?_
      rw [k2, show ((a : Nat) : Int).toNat = a by omega, show ((b : Nat) : Int).toNat = b by omega, (hG.2 a b ha hb).1, ← e]
      exact ⟨fun h9 => absurd h9 (by omega), fun _ => ⟨⟨by omega, by omega⟩, ⟨by omega, by omega⟩, ⟨by omega, by omega⟩, ⟨by omega, by omega⟩, fun _ => next2 τ2 rfl⟩⟩
    · rintro τ2 rfl
      have e : wwN D els x (a + 1) = wwN D els x a + if walN D els a (rG D els) = x then 1 else 0 := rfl
      have w1 := wwN_bd (D := D) (els := els) x a
      rw [e] at next
      refine B_X3_countWith_18 hL ?_
      rw [k2]
      refine ⟨fun _ => ⟨fun hne => ⟨⟨by omega, by omega⟩, fun _ => ?_⟩, fun he => ⟨⟨by omega, by omega⟩, ⟨by omega, by omega⟩, fun _ => ?_⟩⟩, fun h9 => absurd (by omega) h9⟩
      · rw [if_neg hne, Int.add_zero] at next
        exact next τ2 rfl
      · rw [if_pos he] at next
        exact next τ2 rfl
  · rintro τ rfl
    refine B_X3_countWith_4 hL ?_
    rw [k2]
    exact ⟨fun _ _ => hq, fun h9 => absurd (by omega) h9⟩
theorem S_diagram (hL : Lay LC g c t σ) (hX : FX D told els) (hG : GrC σ D els) (hq : Q (.inl (some (vi (diaN D els)))) σ) : CC E mX3_diagram [vr 125] σ Q := by
  refine C_X3_diagram (B_X3_diagram_0 hL (fun _ => S_countWith hL hX hG ⟨hL, fun _ => ⟨fun h4 => ⟨fun h3 _ => ?_, fun h3 _ => ?_⟩, fun h4 _ => ?_⟩⟩))
  · unfold diaN at hq
    rw [if_neg h4, if_neg h3] at hq
    exact hq
  · unfold diaN at hq
    rw [if_neg h4, if_pos h3] at hq
    exact hq
  · unfold diaN at hq
    rw [if_pos h4] at hq
    exact hq
theorem X_withWays {x : Int} (h : CI KCd g c t σ D told els past B F W R) (hX : FX D told els) (hRB : ∀ i, i < 3 → inR (R i + 1))
    (h0 : (x < 0 ∨ 4 < x) → ∀ τ, CI KCd g c t τ D told els past B F W (bmp R 1) → Q (.inr 1) τ)
    (h2 : 0 ≤ x → x ≤ 4 → ∀ τ, CI KCd g c t τ D told els past B F W R → Q (.inl (some (vi (wwN D els x (rG D els))))) τ) : CC E mX11_withWays [vr 16, vi x] σ Q := by
  refine C_X11_withWays (B_X11_withWays_0 h.1 ⟨by decide, by decide, fun _ => ?_⟩)
  refine S_needBetween h.1 h.2.2.2.2.2.2.2.2.1 (hRB 1 (by omega)) (fun k0 k1 => ⟨h.1, fun _ => ?_⟩) (fun τ hk hLτ hFτ hRτ => h0 (by omega) τ (h.ref KCd_kf hLτ hFτ hRτ))
  refine X_needCh h hX (fun τ hC h14 hK => ⟨hC.1, fun _ => S_countWith hC.1 hX hK.2.2.2 ⟨hC.1, fun _ _ => h2 k0 k1 τ hC⟩⟩)
abbrev frPw : Nat → Nat → Prop := fun a _ => a = 153 ∨ a = 154
def PwC (σ : Sg) (D : Int) (els : List (List Int)) (n : Nat) : Prop := ∀ a, a < rG D els → gI σ 153 a = (pwN D els a n).1 ∧ gI σ 154 a = (pwN D els a n).2
theorem S_pbegin (hL : Lay LC g c t σ) (r12 : rG D els ≤ 12) (h : ∀ τ, Lay LC g c t τ → Fr frPw (fun _ => False) σ τ → PwC τ D els 0 → Q (.inl none) τ) : CC E mX6_begin [vr 152, vi (rG D els)] σ Q := by
  refine C_X6_begin (B_X6_begin_0 hL (fun _ => ?_))
  refine loopU (N := rG D els) (G := fun a τ => GG E mX6_begin 2 [some (vr 152), some (vi (rG D els)), some (vi a)] [] τ 0 0 Q) (P := fun n τ => Lay LC g c t τ ∧ Fr frPw (fun _ => False) σ τ ∧ ∀ a, a < n → gI τ 153 a = 1 ∧ gI τ 154 a = 0) ?_ ?_ 0 σ (by omega) ⟨hL, Fr.refl _, fun a ha => absurd ha (by omega)⟩
  · rintro a τ ha ⟨hL1, hF1, hv⟩ next
    refine B_X6_begin_2 hL1 ⟨fun h9 => absurd h9 (by omega), fun _ => ⟨fun h9 => absurd h9 (by omega), fun _ => ⟨⟨by omega, by omega⟩, fun τ2 e2 τ3 e3 => ⟨⟨by omega, by omega⟩, fun hL3 => ?_⟩⟩⟩⟩
    rw [show ((a : Nat) : Int).toNat = a by omega] at e2 e3
    refine next τ3 ⟨hL3, hF1.trans (by rw [e3, e2]; exact (Fr_of1 (W := frPw) (.inl rfl)).trans (Fr_of1 (.inr rfl))), fun b hb => ?_⟩
    rw [e3, gI_sI, gI_sI, e2, gI_sI, gI_sI]
    by_cases hba : b = a
    · rw [if_neg (by omega), if_pos ⟨rfl, hba⟩, if_pos ⟨rfl, hba⟩]; exact ⟨rfl, rfl⟩
    · rw [if_neg (by omega), if_neg (by omega), if_neg (by omega), if_neg (by omega)]; exact hv b (by omega)
  · rintro τ ⟨hL1, hF1, hv⟩
    exact B_X6_begin_2 hL1 ⟨fun _ _ => h τ hL1 hF1 hv, fun h9 => absurd (Int.le_refl _) h9⟩
theorem S_goOn {n : Nat} (hL : Lay LC g c t σ) (hX : FX D told els) (hB : BCh σ D els) (hP : PwC σ D els n) (h : ∀ τ, Lay LC g c t τ → Fr frPw (fun _ => False) σ τ → PwC τ D els (n + 1) → Q (.inl none) τ) : CC E mX6_goOn [vr 152, vr 34] σ Q := by
  have p1 := hX.2.2.1.1
  have h242 := hX.2.2.2.1
  have r12 : rG D els ≤ 12 := hX.2.1.1
  refine C_X6_goOn (B_X6_goOn_0 hL (fun _ => ?_))
  refine loopU (N := rG D els) (G := fun a τ => GG E mX6_goOn 2 [some (vr 152), some (vr 34), some (vi a), none] [] τ 0 0 Q) (P := fun m τ => Lay LC g c t τ ∧ Fr frPw (fun _ => False) σ τ ∧ ∀ a, a < rG D els → gI τ 153 a = (pwN D els a (if a < m then n + 1 else n)).1 ∧ gI τ 154 a = (pwN D els a (if a < m then n + 1 else n)).2) ?_ ?_ 0 σ (by omega) ⟨hL, Fr.refl _, fun a ha => by rw [if_neg (by omega)]; exact hP a ha⟩
  · rintro a τ ha ⟨hL1, hF1, hv⟩ next
    have hB1 : BCh τ D els := hB.fr hF1 ⟨fun j h1 h2 => by omega, fun j => by omega, fun j => ⟨by omega, by omega, by omega⟩⟩
    have hva := hv a ha
    rw [if_neg (by omega)] at hva
    have b0 := natN_rng (D := D) (els := els) (show 0 < pN D els by omega) a
    have b1 := pwN_rng (D := D) (els := els) p1 a n
    have bm : ((natN D els a) * (pwN D els a n).1).natAbs ≤ 242 * 242 := by
      rw [Int.natAbs_mul]; exact Nat.mul_le_mul (by omega) (by omega)
    refine B_X6_goOn_2 hL1 ?_
    rw [hB1.1, show ((a : Nat) : Int).toNat = a by omega, (hB1.2.2.2.2.2 a ha).1, hva.1, hva.2]
    refine ⟨fun h9 => absurd h9 (by omega), fun _ => ⟨⟨by omega, by omega⟩, ⟨by omega, by omega⟩, ⟨by omega, by omega⟩, fun v4 e4 _ => ?_⟩⟩
    refine S_mod2 hL1 hB1.2.2.2.1 (by omega) ⟨hL1, fun _ τ7 e7 τ8 e8 => ⟨⟨by omega, by omega⟩, fun hL8 => ?_⟩⟩
    have q8 : ∀ b j, gI τ8 b j = if b = 153 ∧ j = a then v4 % (pN D els : Int) else if b = 154 ∧ j = a then (pwN D els a n).1 else gI τ b j := fun b j => by rw [e8, gI_sI, e7, gI_sI, hva.1]
    refine next τ8 ⟨hL8, hF1.trans (by rw [e8, e7]; exact (Fr_of1 (W := frPw) (.inr rfl)).trans (Fr_of1 (.inl rfl))), fun b hb => ?_⟩
    have f1 : b = a → gI τ8 153 b = v4 % (pN D els : Int) := fun h9 => by rw [q8, if_pos ⟨rfl, h9⟩]
    have f2 : b = a → gI τ8 154 b = (pwN D els a n).1 := fun h9 => by rw [q8, if_neg (by omega), if_pos ⟨rfl, h9⟩]
    have f3 : b ≠ a → gI τ8 153 b = gI τ 153 b := fun h9 => by rw [q8, if_neg (by omega), if_neg (by omega)]
    have f4 : b ≠ a → gI τ8 154 b = gI τ 154 b := fun h9 => by rw [q8, if_neg (by omega), if_neg (by omega)]
    by_cases hba : b = a
    · have ei : (if b < a + 1 then n + 1 else n) = n + 1 := if_pos (by omega)
      rw [f1 hba, f2 hba, ei, hba]
      exact ⟨by rw [e4]; rfl, rfl⟩
    · have ei : (if b < a + 1 then n + 1 else n) = (if b < a then n + 1 else n) := by
        by_cases h9 : b < a
        · rw [if_pos h9, if_pos (by omega)]
        · rw [if_neg h9, if_neg (by omega)]
      rw [f3 hba, f4 hba, ei]
      exact hv b hb
  · rintro τ ⟨hL1, hF1, hv⟩
    have hB1 : BCh τ D els := hB.fr hF1 ⟨fun j h1 h2 => by omega, fun j => by omega, fun j => ⟨by omega, by omega, by omega⟩⟩
    refine B_X6_goOn_2 hL1 ?_
    rw [hB1.1]
    refine ⟨fun _ _ => h τ hL1 hF1 (fun a ha => by have := hv a ha; rw [if_pos ha] at this; exact this), fun h9 => absurd (Int.le_refl _) h9⟩
theorem S_inRowN {i n : Nat} (hL : Lay LC g c t σ) (hX : FX D told els) (hB : BCh σ D els) (hCh : ChC σ D els) (hP : PwC σ D els n) (hi : i < rG D els) (hq : Q (.inl (some (vi (inN D els i n)))) σ) : CC E mX0_inRowOf [vr 34, vr 153, vi i] σ Q :=
  S_inRowOf (f := fun a => (pwN D els a n).1) hL hX hB hCh pa153 hX.2.1.1 hi (fun a ha => ⟨(hP a ha).1, (pwN_rng hX.2.2.1.1 a n).1⟩) hq
theorem S_oftenInRow {i n : Nat} (hL : Lay LC g c t σ) (hX : FX D told els) (hB : BCh σ D els) (hCh : ChC σ D els) (hi : i < rG D els) (hn : n ≤ 200) (h : ∀ τ, Lay LC g c t τ → Fr frPw (fun _ => False) σ τ → Q (.inl (some (vi (inN D els i n)))) τ) : CC E mX6_oftenInRow [vr 152, vr 34, vi i, vi n] σ Q := by
  have r12 : rG D els ≤ 12 := hX.2.1.1
  have kk : ∀ τ, Fr frPw (fun _ => False) σ τ → BCh τ D els ∧ ChC τ D els := fun τ hF => ⟨hB.fr hF ⟨fun j h1 h2 => by omega, fun j => by omega, fun j => ⟨by omega, by omega, by omega⟩⟩, hCh.fr hF ⟨fun a j h1 h2 => by omega, id⟩⟩
  refine C_X6_oftenInRow (B_X6_oftenInRow_0 hL (fun _ => ?_))
  rw [hB.1]
  refine S_pbegin hL r12 (fun τ1 hL1 hF1 hP1 => ⟨hL1, fun _ => ?_⟩)
  refine loopU (N := n) (G := fun m τ => GG E mX6_oftenInRow 11 [some (vr 152), some (vr 34), some (vi i), some (vi n), some (vi m)] [] τ 0 0 Q) (P := fun m τ => Lay LC g c t τ ∧ Fr frPw (fun _ => False) σ τ ∧ PwC τ D els m) ?_ ?_ 0 τ1 (by omega) ⟨hL1, hF1, hP1⟩
  · rintro m τ hm ⟨hL2, hF2, hP2⟩ next
    refine B_X6_oftenInRow_11 hL2 ⟨fun h9 => absurd h9 (by omega), fun _ => ⟨fun h9 => absurd h9 (by omega), fun _ _ => ?_⟩⟩
    exact S_goOn hL2 hX (kk τ hF2).1 hP2 (fun τ3 hL3 hF3 hP3 => ⟨hL3, ⟨by omega, by omega⟩, fun _ => next τ3 ⟨hL3, hF2.trans hF3, hP3⟩⟩)
  · rintro τ ⟨hL2, hF2, hP2⟩
    refine B_X6_oftenInRow_11 hL2 ⟨fun _ _ => ?_, fun h9 => absurd (Int.le_refl _) h9⟩
    exact S_inRowN hL2 hX (kk τ hF2).1 (kk τ hF2).2 hP2 hi ⟨hL2, fun _ _ => h τ hL2 hF2⟩
theorem X_inRow {x1 x2 : Int} (h : CI KCd g c t σ D told els past B F W R) (hX : FX D told els) (hRB : ∀ i, i < 3 → inR (R i + 1))
    (h0 : bd1 D els x1 → ∀ τ, CI KCd g c t τ D told els past B F W (bmp R 0) → Q (.inr 0) τ)
    (h1 : ¬ bd1 D els x1 → (x2 < 0 ∨ 200 < x2) → ∀ τ, CI KCd g c t τ D told els past B F W (bmp R 1) → Q (.inr 1) τ)
    (h2 : ∀ i n : Nat, x1 = i → x2 = n → i < rG D els → n ≤ 200 → ∀ τ, CI KCd g c t τ D told els past B F W R → Q (.inl (some (vi (inN D els i n)))) τ) : CC E mX11_inRow [vr 16, vi x1, vi x2] σ Q := by
  refine C_X11_inRow (B_X11_inRow_0 h.1 (fun _ => X_needCh h hX (fun τ hC h14 hK => ⟨hC.1, by decide, by decide, fun _ => ?_⟩)))
  obtain ⟨r12, hB, hCh, hG⟩ := hK
  rw [hB.1]
  refine S_needIndex hC.1 hC.2.2.2.2.2.2.2.2.1 (hRB 0 (by omega)) (fun a0 a1 => ⟨hC.1, by decide, by decide, fun _ => ?_⟩) (fun τ2 hk hLτ hFτ hRτ => h0 (by omega) τ2 (hC.ref KCd_kf hLτ hFτ hRτ))
  refine S_needBetween hC.1 hC.2.2.2.2.2.2.2.2.1 (hRB 1 (by omega)) (fun b0 b1 => ⟨hC.1, fun _ => ?_⟩) (fun τ2 hk hLτ hFτ hRτ => h1 (by omega) (by omega) τ2 (hC.ref KCd_kf hLτ hFτ hRτ))
  obtain ⟨i, rfl⟩ : ∃ i : Nat, x1 = i := ⟨x1.toNat, by omega⟩
  obtain ⟨n, rfl⟩ : ∃ i : Nat, x2 = i := ⟨x2.toNat, by omega⟩
  exact S_oftenInRow hC.1 hX hB hCh (by omega) (by omega) (fun τ2 hL2 hF2 => ⟨hL2, fun _ _ => h2 i n rfl rfl (by omega) (by omega) τ2 (hC.scr KCd_kf hL2 hF2 (fun a j h9 => by omega) (fun _ h9 => h9))⟩)
theorem S_rowWith {i : Nat} {x : Int} (hL : Lay LC g c t σ) (hX : FX D told els) (hB : BCh σ D els) (hCh : ChC σ D els) (hi : i < rG D els) (hq : ∀ y τ, IsRw D els i x y → Lay LC g c t τ → Fr frPw (fun _ => False) σ τ → Q (.inl (some (vi y))) τ) : CC E mX6_rowWith [vr 152, vr 34, vi i, vi x] σ Q := by
  have r12 : rG D els ≤ 12 := hX.2.1.1
  have kk : ∀ τ, Fr frPw (fun _ => False) σ τ → BCh τ D els ∧ ChC τ D els := fun τ hF => ⟨hB.fr hF ⟨fun j h1 h2 => by omega, fun j => by omega, fun j => ⟨by omega, by omega, by omega⟩⟩, hCh.fr hF ⟨fun a j h1 h2 => by omega, id⟩⟩
  refine C_X6_rowWith (B_X6_rowWith_0 hL (fun _ => ?_))
  rw [hB.1]
  refine S_pbegin hL r12 (fun τ1 hL1 hF1 hP1 => ⟨hL1, fun _ => ?_⟩)
  refine loopU (N := 201) (G := fun n τ => GG E mX6_rowWith 14 [some (vr 152), some (vr 34), some (vi i), some (vi x), some (vi (hwN D els i n)), some (vi n)] [] τ 0 0 Q)
    (P := fun n τ => Lay LC g c t τ ∧ Fr frPw (fun _ => False) σ τ ∧ PwC τ D els n ∧ ∀ j, j < n → inN D els i j ≠ 0 → (hwN D els i j : Int) ≠ x) ?_ ?_ 0 τ1 (by omega) ⟨hL1, hF1, hP1, fun j hj => absurd hj (by omega)⟩
  · rintro n τ hn ⟨hL2, hF2, hP2, hz⟩ next
    have hle := hwN_le D els i n
    have e9 := hwN_s D els i n
    rw [e9] at next
    have hBt := kk τ hF2
    refine B_X6_rowWith_14 hL2 ⟨fun h9 => absurd h9 (by omega), fun _ => ⟨fun hx _ => hq (-1) τ (.inr ⟨rfl, fun j _ _ => by omega⟩) hL2 hF2, fun hx _ => ?_⟩⟩
    refine S_inRowN hL2 hX hBt.1 hBt.2 hP2 hi ⟨hL2, fun _ => ⟨fun he _ => S_goOn hL2 hX hBt.1 hP2 (fun τ3 hL3 hF3 hP3 => ⟨hL3, ⟨by omega, by omega⟩, fun _ => ?_⟩), fun hne => ⟨fun hnx => ⟨⟨by omega, by omega⟩, fun _ => S_goOn hL2 hX hBt.1 hP2 (fun τ3 hL3 hF3 hP3 => ⟨hL3, ⟨by omega, by omega⟩, fun _ => ?_⟩)⟩, fun hxe _ => ?_⟩⟩⟩
    · rw [if_pos he] at next
      exact next τ3 ⟨hL3, hF2.trans hF3, hP3, fun j hj hj0 => by
        by_cases hjn : j = n
        · rw [hjn] at hj0; exact absurd he hj0
        · exact hz j (by omega) hj0⟩
    · rw [if_neg hne] at next
      exact next τ3 ⟨hL3, hF2.trans hF3, hP3, fun j hj hj0 => by
        by_cases hjn : j = n
        · rw [hjn]; exact hnx
        · exact hz j (by omega) hj0⟩
    · exact hq n τ (.inl ⟨n, rfl, by omega, hne, hxe⟩) hL2 hF2
  · rintro τ ⟨hL2, hF2, hP2, hz⟩
    exact B_X6_rowWith_14 hL2 ⟨fun _ _ => hq (-1) τ (.inr ⟨rfl, fun j hj hj0 => hz j (by omega) hj0⟩) hL2 hF2, fun h9 => absurd (by omega) h9⟩
theorem X_row {x1 x2 : Int} (h : CI KCd g c t σ D told els past B F W R) (hX : FX D told els) (hRB : ∀ i, i < 3 → inR (R i + 1))
    (h0 : bd1 D els x1 → ∀ τ, CI KCd g c t τ D told els past B F W (bmp R 0) → Q (.inr 0) τ)
    (h2 : ∀ i : Nat, x1 = i → i < rG D els → ∀ y, IsRw D els i x2 y → ∀ τ, CI KCd g c t τ D told els past B F W R → Q (.inl (some (vi y))) τ) : CC E mX11_row [vr 16, vi x1, vi x2] σ Q := by
  refine C_X11_row (B_X11_row_0 h.1 (fun _ => X_needCh h hX (fun τ hC h14 hK => ⟨hC.1, by decide, by decide, fun _ => ?_⟩)))
  obtain ⟨r12, hB, hCh, hG⟩ := hK
  rw [hB.1]
  refine S_needIndex hC.1 hC.2.2.2.2.2.2.2.2.1 (hRB 0 (by omega)) (fun a0 a1 => ⟨hC.1, fun _ => ?_⟩) (fun τ2 hk hLτ hFτ hRτ => h0 (by omega) τ2 (hC.ref KCd_kf hLτ hFτ hRτ))
  obtain ⟨i, rfl⟩ : ∃ i : Nat, x1 = i := ⟨x1.toNat, by omega⟩
  exact S_rowWith hC.1 hX hB hCh (by omega) (fun y τ2 hy hL2 hF2 => ⟨hL2, fun _ _ => h2 i rfl (by omega) y hy τ2 (hC.scr KCd_kf hL2 hF2 (fun a j h9 => by omega) (fun _ h9 => h9))⟩)
end SE3
