/-! ===== asked turns, reasons, the past, takeTrial ===== -/
section S74
variable {E : Ev} {σ : Sg} {Q : NO → Sg → Prop} {g : Sg} {c t : Nat}
theorem S_forgetReasons (hL : Lay LC g c t σ) (h : ∀ τ, Lay LC g c t τ → Fr (fun a _ => a = 156) (fun _ => False) σ τ → (∀ i, i < 4 → gI τ 156 i = 0) → Q (.inl none) τ) : CC E mX11_forgetReasons [vr 16] σ Q := by
  refine C_X11_forgetReasons (B_X11_forgetReasons_0 hL (fun _ => ?_))
  refine loopU (N := 4) (G := fun i τ => GG E mX11_forgetReasons 2 [some (vr 16), some (vi i)] [] τ 0 0 Q) (P := fun i τ => Lay LC g c t τ ∧ Fr (fun a _ => a = 156) (fun _ => False) σ τ ∧ ∀ j, j < i → gI τ 156 j = 0) ?_ ?_ 0 σ (by omega) ⟨hL, Fr.refl _, fun j hj => absurd hj (by omega)⟩
  · rintro i τ hi ⟨hLτ, hF, hz⟩ next
    refine B_X11_forgetReasons_2 hLτ ⟨fun h => absurd h (by omega), fun _ => ⟨⟨by omega, by omega⟩, fun τ2 e2 => ⟨⟨by omega, by omega⟩, fun hL2 => ?_⟩⟩⟩
    rw [show ((i : Nat) : Int).toNat = i by omega] at e2
    subst e2
    refine next _ ⟨hL2, hF.sI (by omega), fun j hj => ?_⟩
    rw [gI_sI]
    by_cases hji : j = i
    · rw [if_pos ⟨rfl, hji⟩]
    · rw [if_neg (fun h9 => hji h9.2)]; exact hz j (by omega)
  · rintro τ ⟨hLτ, hF, hz⟩
    exact B_X11_forgetReasons_2 hLτ ⟨fun _ _ => h τ hLτ hF hz, fun h9 => absurd (by omega) h9⟩
theorem S_ask0 {a b x y : Int} (hL : Lay LC g c t σ) (h : ∀ τ, Lay LC g c t τ → Fr (fun a _ => a = 155) (fun _ => False) σ τ → (∀ j, j < 4 → gI τ 155 j = gd [a, b, x, y] j) → Q (.inl none) τ) : CC E mX11_askHalf [vr 16, vi 0, vi a, vi b, vi x, vi y] σ Q := by
  refine C_X11_askHalf (B_X11_askHalf_0 hL ⟨fun h => absurd h (by omega), fun _ => ⟨⟨by omega, by omega⟩, fun h => absurd h (by omega), fun _ => ⟨⟨by omega, by omega⟩, fun τ3 e3 => ⟨⟨by omega, by omega⟩, ⟨by omega, by omega⟩, fun τ6 e6 => ⟨⟨by omega, by omega⟩, ⟨by omega, by omega⟩, fun τ9 e9 => ⟨⟨by omega, by omega⟩, fun τ11 e11 hL11 => ?_⟩⟩⟩⟩⟩⟩)
  subst e3 e6 e9 e11
  refine h _ hL11 (((((Fr.refl σ).sI (by omega)).sI (by omega)).sI (by omega)).sI (by omega)) (fun j hj => ?_)
  have : j = 0 ∨ j = 1 ∨ j = 2 ∨ j = 3 := by omega
  rcases this with rfl | rfl | rfl | rfl <;> rfl
theorem S_ask4 {a b x y : Int} (hL : Lay LC g c t σ) (h : ∀ τ, Lay LC g c t τ → Fr (fun a _ => a = 155) (fun _ => False) σ τ → (∀ j, j < 4 → gI τ 155 j = gI σ 155 j) → (∀ j, j < 4 → gI τ 155 (4 + j) = gd [a, b, x, y] j) → Q (.inl none) τ) : CC E mX11_askHalf [vr 16, vi 4, vi a, vi b, vi x, vi y] σ Q := by
  refine C_X11_askHalf (B_X11_askHalf_0 hL ⟨fun h => absurd h (by omega), fun _ => ⟨⟨by omega, by omega⟩, fun h => absurd h (by omega), fun _ => ⟨⟨by omega, by omega⟩, fun τ3 e3 => ⟨⟨by omega, by omega⟩, ⟨by omega, by omega⟩, fun τ6 e6 => ⟨⟨by omega, by omega⟩, ⟨by omega, by omega⟩, fun τ9 e9 => ⟨⟨by omega, by omega⟩, fun τ11 e11 hL11 => ?_⟩⟩⟩⟩⟩⟩)
  subst e3 e6 e9 e11
  refine h _ hL11 (((((Fr.refl σ).sI (by omega)).sI (by omega)).sI (by omega)).sI (by omega)) (fun j hj => ?_) (fun j hj => ?_)
  · have : j = 0 ∨ j = 1 ∨ j = 2 ∨ j = 3 := by omega
    rcases this with rfl | rfl | rfl | rfl <;> rfl
  · have : j = 0 ∨ j = 1 ∨ j = 2 ∨ j = 3 := by omega
    rcases this with rfl | rfl | rfl | rfl <;> rfl
theorem S_canBeTold {a : Nat} (h16 : 16 ≤ a) (hs : gS σ a = (20, 8)) (hq : ∀ r : Int, ((∀ j, j < 8 → -4 ≤ gI σ a j ∧ gI σ a j ≤ 4) → r = 1) → (¬ (∀ j, j < 8 → -4 ≤ gI σ a j ∧ gI σ a j ≤ 4) → r = 0) → Q (.inl (some (vi r))) σ) : CC E mX11_canBeTold [vr a] σ Q := by
  refine C_X11_canBeTold (B_X11_canBeTold_0 ?_)
  refine loopU (N := 8) (G := fun i τ => GG E mX11_canBeTold 2 [some (vr a), some (vi i)] [] τ 0 0 Q) (P := fun i τ => τ = σ ∧ ∀ j, j < i → -4 ≤ gI σ a j ∧ gI σ a j ≤ 4) ?_ ?_ 0 σ (by omega) ⟨rfl, fun j hj => absurd hj (by omega)⟩
  · rintro i τ hi ⟨rfl, hz⟩ next
    refine B_X11_canBeTold_2 ⟨okN_of hs h16 (by decide) (by decide), ?_⟩
    rw [hs, show ((i : Nat) : Int).toNat = i by omega]
    refine ⟨fun h => absurd h (by omega), fun _ => ⟨okA_of hs h16 ⟨by omega, by omega⟩, fun h1 => ?_, fun h1 => ⟨fun h2 => ⟨⟨by omega, by omega⟩, next _ ⟨rfl, fun j hj => ?_⟩⟩, fun h2 => ?_⟩⟩⟩
    · exact hq 0 (fun h9 => by have := h9 i hi; omega) (fun _ => rfl)
    · by_cases hji : j = i
      · subst hji; omega
      · exact hz j (by omega)
    · exact hq 0 (fun h9 => by have := h9 i hi; omega) (fun _ => rfl)
  · rintro τ ⟨rfl, hz⟩
    refine B_X11_canBeTold_2 ⟨okN_of hs h16 (by decide) (by decide), ?_⟩
    rw [hs]
    exact ⟨fun _ => hq 1 (fun _ => rfl) (fun h9 => absurd hz h9), fun h9 => absurd (by show ((8 : Nat) : Int) ≤ _; omega) h9⟩
def sqF (D : Int) (f : Nat → Int) : Nat → Int
  | 0 => 0
  | i + 1 => sqF D f i + (f (2 * i) * f (2 * i) + (D * f (2 * i + 1)) * f (2 * i + 1))
def mxF (f : Nat → Int) : Nat → Int
  | 0 => 0
  | i + 1 => mxF f i + f (2 * i) * f (2 * i + 1)
theorem sqF_4 (D : Int) (f : Nat → Int) : sqF D f 4 = 16 ∧ mxF f 4 = 0 ↔ isT D f := by
  have e1 : sqF D f 4 = nW D (ew f) (ep f) := by
    simp only [sqF, nW, ew, ep, Nat.mul_zero, Nat.mul_one, Nat.zero_add, Nat.reduceMul, Nat.reduceAdd]
    grind
  have e2 : mxF f 4 = nP (ew f) (ep f) := by
    simp only [mxF, nP, ew, ep, Nat.mul_zero, Nat.mul_one, Nat.zero_add, Nat.reduceMul, Nat.reduceAdd]
    grind
  rw [e1, e2]; rfl
theorem sqF_ab {D : Int} {f : Nat → Int} (hD : D.natAbs ≤ 5) (hf : ∀ j, j < 8 → (f j).natAbs ≤ 4) : ∀ i, i ≤ 4 → (sqF D f i).natAbs ≤ 96 * i ∧ (mxF f i).natAbs ≤ 16 * i := by
  intro i
  induction i with
  | zero => intro _; exact ⟨Nat.le_refl _, Nat.le_refl _⟩
  | succ i ih =>
    intro hi
    obtain ⟨h1, h2⟩ := ih (by omega)
    have a1 := m4 (hf (2 * i) (by omega)) (hf (2 * i) (by omega))
    have a2 := m4 (m4 hD (hf (2 * i + 1) (by omega))) (hf (2 * i + 1) (by omega))
    have a3 := m4 (hf (2 * i) (by omega)) (hf (2 * i + 1) (by omega))
    constructor
    · show (sqF D f i + _).natAbs ≤ _
      omega
    · show (mxF f i + _).natAbs ≤ _
      omega
theorem S_isTurn11 {a : Nat} {D : Int} (h16 : 16 ≤ a) (hs : gS σ a = (20, 8)) (hD5 : D.natAbs ≤ 5) (hf : ∀ j, j < 8 → (gI σ a j).natAbs ≤ 4) (hq : ∀ r : Int, (isT D (gI σ a) → r = 1) → (¬ isT D (gI σ a) → r = 0) → Q (.inl (some (vi r))) σ) : CC E mX11_isTurn [vr a, vi D] σ Q := by
  refine C_X11_isTurn (B_X11_isTurn_0 ?_)
  refine loopU (N := 4) (G := fun i τ => GG E mX11_isTurn 7 [some (vr a), some (vi D), some (vi (sqF D (gI σ a) i)), some (vi (mxF (gI σ a) i)), some (vi ((2 * i : Nat) : Int))] [] τ 0 0 Q) (P := fun i τ => τ = σ) ?_ ?_ 0 σ (by omega) rfl
  · rintro i τ hi rfl next
    obtain ⟨b1, b2⟩ := sqF_ab hD5 hf i (by omega)
    obtain ⟨b3, b4⟩ := sqF_ab hD5 hf (i + 1) (by omega)
    have g1 := hf (2 * i) (by omega)
    have g2 := hf (2 * i + 1) (by omega)
    have a1 := m4 g1 g1
    have a2 := m4 hD5 g2
    have a3 := m4 a2 g2
    have a4 := m4 g1 g2
    refine B_X11_isTurn_7 ⟨⟨by omega, by omega⟩, okN_of hs h16 (by decide) (by decide), ?_⟩
    rw [hs, show ((2 * i : Nat) : Int).toNat = 2 * i by omega, show (((2 * i : Nat) : Int) + 1).toNat = 2 * i + 1 by omega]
    refine ⟨fun h => absurd h (by omega), fun _ => ⟨okA_of hs h16 ⟨by omega, by omega⟩, ⟨by omega, by omega⟩, okA_of hs h16 ⟨by omega, by omega⟩, ⟨by omega, by omega⟩, ⟨by omega, by omega⟩, fun v8 e8 => ?_⟩⟩
    subst e8
    refine ⟨⟨by omega, by omega⟩, fun v10 e10 => ?_⟩
    subst e10
    refine ⟨⟨by omega, by omega⟩, ⟨by omega, by omega⟩, fun v13 e13 => ?_⟩
    subst e13
    refine ⟨⟨by omega, by omega⟩, ⟨by omega, by omega⟩, ?_⟩
    have K := next τ rfl
    rw [show ((2 * (i + 1) : Nat) : Int) = ((2 * i : Nat) : Int) + 2 by omega] at K
    exact K
  · rintro τ rfl
    refine B_X11_isTurn_7 ⟨⟨by omega, by omega⟩, okN_of hs h16 (by decide) (by decide), ?_⟩
    rw [hs]
    have e4 := sqF_4 D (gI τ a)
    refine ⟨fun _ => ⟨fun h1 => hq 0 (fun h9 => absurd (e4.mpr h9).1 h1) (fun _ => rfl), fun h1 => ⟨fun h2 => hq 0 (fun h9 => absurd (e4.mpr h9).2 h2) (fun _ => rfl), fun h2 => hq 1 (fun _ => rfl) (fun h9 => absurd (e4.mp ⟨h1, h2⟩) h9)⟩⟩, fun h9 => absurd (by show ((8 : Nat) : Int) ≤ _; omega) h9⟩
theorem S_keepReasons (hL : Lay LC g c t σ) (h : ∀ τ, Lay LC g c t τ → Fr (fun a _ => a = 156) (fun _ => False) σ τ → gI τ 156 0 = gI σ t 9 → gI τ 156 1 = gI σ t 8 → gI τ 156 2 = gI σ t 10 → gI τ 156 3 = gI σ t 11 → Q (.inl none) τ) : CC E mX11_keepReasons [vr 16] σ Q := by
  have tr := hL.ist.rg
  refine C_X11_keepReasons (B_X11_keepReasons_0 hL (fun τ1 e1 τ2 e2 τ3 e3 τ4 e4 hL4 => ?_))
  subst e1 e2 e3 e4
  have n : ¬ (t = 156) := by omega
  refine h _ hL4 (((((Fr.refl σ).sI (by omega)).sI (by omega)).sI (by omega)).sI (by omega)) ?_ ?_ ?_ ?_ <;> simp [gI_sI, n]
abbrev frPa : Nat → Nat → Prop := fun a _ => 21 ≤ a ∧ a ≤ 23
theorem S_keep {a : Nat} {D : Int} {told : List (List Int)} {past : List (List (List Int))} (hL : Lay LC g c t σ) (ha : isCl a) (hP : PastC σ D past) (hT : CloT σ a D told)
    (h : ∀ τ, Lay LC g c t τ → Fr frPa (fun _ => False) σ τ → PastC τ D (keepP past told) → Q (.inl none) τ) : CC E mX5_keep [vr 21, vr a] σ Q := by
  have ar := ha.rg
  have h4 := hT.2.2.2.2.1
  have main : ∀ (p : List (List (List Int))) (ρ : Sg), p.length < 8 → Lay LC g c t ρ → Fr frPa (fun _ => False) σ ρ → PastC ρ D p → (∀ τ, Lay LC g c t τ → Fr frPa (fun _ => False) σ τ → PastC τ D (p ++ [told]) → Q (.inl none) τ) → GG E mX5_keep 13 [some (vr 21), some (vr a)] [] ρ 0 0 Q := by
    intro p ρ hp hLρ hF hPρ K
    have hTρ := hT.fr hF ha ⟨fun _ => by omega, by omega, by omega⟩
    refine B_X5_keep_13 hLρ ha ?_
    rw [hPρ.1]
    refine ⟨⟨by omega, by omega⟩, ⟨by omega, by omega⟩, fun τ3 e3 => ?_⟩
    rw [show ((p.length : Int) * 32).toNat = 32 * p.length by omega] at e3
    have q3 : ∀ d k, gI τ3 d k = if d = 22 ∧ 32 * p.length ≤ k ∧ k < 32 * p.length + 32 then gI ρ (a + 1) (0 + (k - 32 * p.length)) else gI ρ d k := fun d k => by rw [e3, gI_cp]
    rw [(q3 21 2).trans (if_neg (by omega)), hPρ.1]
    refine ⟨⟨by omega, by omega⟩, fun τ5 e5 => ?_⟩
    rw [show ((p.length : Nat) : Int).toNat = p.length by omega, (q3 a 7).trans (if_neg (by omega)), hTρ.2.2.2.1] at e5
    have q5 : gI τ5 21 2 = (p.length : Int) := by rw [e5, gI_sI, if_neg (by omega), q3, if_neg (by omega)]; exact hPρ.1
    rw [q5]
    refine ⟨⟨by omega, by omega⟩, fun τ7 e7 hL7 => ?_⟩
    have hlen : (p ++ [told]).length = p.length + 1 := by simp
    refine K τ7 hL7 (hF.trans (fun d hd k => ⟨fun hw => ?_, fun _ => by rw [e7, e5, e3]; rfl⟩)) ⟨by rw [e7, gI_sI, if_pos ⟨rfl, rfl⟩, hlen]; rfl, by omega, fun i hi => ?_⟩
    · rw [e7, gI_sI, if_neg (by omega), e5, gI_sI, if_neg (by omega), q3, if_neg (by omega)]
    · by_cases hil : i < p.length
      · rw [getD_app9' hil]
        have hi9 := hPρ.2.2 i hil
        refine ⟨?_, hi9.2.1, fun u hu => ⟨(hi9.2.2 u hu).1, fun j hj => ?_⟩⟩
        · rw [e7, gI_sI, if_neg (by omega), e5, gI_sI, if_neg (by omega), q3, if_neg (by omega)]; exact hi9.1
        · rw [e7, gI_sI, if_neg (by omega), e5, gI_sI, if_neg (by omega), q3, if_neg (by omega)]; exact (hi9.2.2 u hu).2 j hj
      · have : i = p.length := by omega
        subst this
        rw [getD_last9']
        refine ⟨?_, h4, fun u hu => ⟨(hTρ.2.2.2.2.2 u hu).1, fun j hj => ?_⟩⟩
        · rw [e7, gI_sI, if_neg (by omega), e5, gI_sI, if_pos ⟨rfl, rfl⟩]
        · rw [e7, gI_sI, if_neg (by omega), e5, gI_sI, if_neg (by omega), q3, if_pos (by omega), show 0 + (32 * p.length + 8 * u + j - 32 * p.length) = 8 * u + j by omega]
          exact (hTρ.2.2.2.2.2 u hu).2 j hj
  refine C_X5_keep (B_X5_keep_0 hL ha ?_)
  rw [hP.1]
  refine ⟨fun h8 _ => main past σ (by omega) hL (Fr.refl _) hP (fun τ h1 h2 h3 => h τ h1 h2 (by unfold keepP; rw [if_neg (by omega)]; exact h3)), fun h8 _ => ?_⟩
  have hp8 : past.length = 8 := by have := hP.2.1; omega
  refine C_X5_forgetFirst (B_X5_forgetFirst_0 hL (fun τ1 e1 τ2 e2 τ3 e3 hL3 => ⟨hL3, fun _ => ?_⟩))
  have htl : past.tail.length = 7 := by rw [List.length_tail]; omega
  have q2 : ∀ d k, gI τ3 d k = if d = 21 ∧ k = 2 then 7 else if d = 23 ∧ 0 ≤ k ∧ k < 0 + 7 then gI σ 23 (1 + (k - 0)) else if d = 22 ∧ 0 ≤ k ∧ k < 0 + 224 then gI σ 22 (32 + (k - 0)) else gI σ d k := fun d k => by
    rw [e3, gI_sI, e2, gI_cp, e1, gI_cp, gI_cp]
    split
    · rfl
    · split
      · rw [if_neg (by omega)]
      · rfl
  refine main past.tail τ3 (by omega) hL3 (fun d hd k => ⟨fun hw => ?_, fun _ => by rw [e3, e2, e1]; rfl⟩) ⟨by rw [q2, if_pos ⟨rfl, rfl⟩, htl]; rfl, by omega, fun i hi => ?_⟩ (fun τ h1 h2 h3 => h τ h1 h2 (by unfold keepP; rw [if_pos (by omega)]; exact h3))
  · rw [q2, if_neg (by omega), if_neg (by omega), if_neg (by omega)]
  · rw [getD_tail]
    have hi9 := hP.2.2 (i + 1) (by omega)
    refine ⟨?_, hi9.2.1, fun u hu => ⟨(hi9.2.2 u hu).1, fun j hj => ?_⟩⟩
    · rw [q2, if_neg (by omega), if_pos (by omega), show 1 + (i - 0) = i + 1 by omega]; exact hi9.1
    · have h49 := hi9.2.1
      rw [q2, if_neg (by omega), if_neg (by omega), if_pos (by omega), show 32 + (32 * i + 8 * u + j - 0) = 32 * (i + 1) + 8 * u + j by omega]
      exact (hi9.2.2 u hu).2 j hj
end S74
