/-! ===== the reference's closes ===== -/
/-- a row of states: the root, what is told -/
def ST (σ : Sg) (r : Nat) (D : Int) (told : List (List Int)) : Prop :=
  gI σ (176 + r) 0 = D ∧ 2 ≤ D ∧ D ≤ 5 ∧ gI σ (176 + r) 1 = (told.length : Int) ∧ told.length ≤ 4 ∧ ∀ u, u < told.length → isTL D (told.getD u []) ∧ ∀ j, j < 8 → gI σ (176 + r) (2 + 8 * u + j) = gd (told.getD u []) j
/-- elements lie in rows from b on -/
def RWs (σ : Sg) (b : Nat) (D : Int) (els : List (List Int)) : Prop := els.length ≤ 120 ∧ ∀ k, k < els.length → isTL D (els.getD k []) ∧ ∀ j, j < 8 → gI σ (b + k) j = gd (els.getD k []) j
theorem PAM {i lo hi n a : Nat} (h : (yR LM)[i]? = some (lo, hi, 20, n)) (h1 : lo ≤ a) (h2 : a < hi) (h3 : 172 ≤ lo ∧ hi ≤ 2968) (h4 : ∀ q ∈ yX LM, q.1 < lo ∨ hi ≤ q.1) : PA LM a n :=
  PA.of h h1 h2 ⟨by show 172 ≤ a; omega, by show a < 2968; omega, by omega⟩ (fun q hq => by have := h4 q hq; omega)
theorem pa_raw {k : Nat} (hk : k < 120) : PA LM (188 + k) 8 := PAM (i := 7) (lo := 188) (hi := 308) rfl (by omega) (by omega) (by decide) (by decide)
theorem pa_st {k : Nat} (hk : k < 10) : PA LM (176 + k) 34 := PAM (i := 4) (lo := 176) (hi := 186) rfl (by omega) (by omega) (by decide) (by decide)
theorem pa_made : PA LM 308 8 := PAM (i := 8) (lo := 308) (hi := 309) rfl (by omega) (by omega) (by decide) (by decide)
theorem pa_el {k : Nat} (hk : k < 120) : PA LM (310 + k) 8 := PAM (i := 10) (lo := 310) (hi := 430) rfl (by omega) (by omega) (by decide) (by decide)
section S23
variable {E : Ev} {σ : Sg} {Q : NO → Sg → Prop} {g : Sg} {c t : Nat}
theorem RWs.fr {W : Nat → Nat → Prop} {V : Nat → Prop} {τ : Sg} {b : Nat} {D : Int} {els : List (List Int)} (h : RWs σ b D els) (k : Fr W V σ τ) (hb : b + 120 < 2968) (w : ∀ a j, b ≤ a → a < b + 120 → ¬ W a j) : RWs τ b D els :=
  ⟨h.1, fun i hi => ⟨(h.2 i hi).1, fun j hj => (k.i (by have := h.1; omega) (w _ _ (by omega) (by have := h.1; omega))).trans ((h.2 i hi).2 j hj)⟩⟩
theorem ST.fr {W : Nat → Nat → Prop} {V : Nat → Prop} {τ : Sg} {r : Nat} {D : Int} {told : List (List Int)} (h : ST σ r D told) (k : Fr W V σ τ) (hr : r < 10) (w : ∀ j, ¬ W (176 + r) j) : ST τ r D told :=
  ⟨(k.i (by omega) (w _)).trans h.1, h.2.1, h.2.2.1, (k.i (by omega) (w _)).trans h.2.2.2.1, h.2.2.2.2.1, fun u hu => ⟨(h.2.2.2.2.2 u hu).1, fun j hj => (k.i (by omega) (w _)).trans ((h.2.2.2.2.2 u hu).2 j hj)⟩⟩
theorem sh_raw (hL : Lay LM g c t σ) : gS σ 187 = (24, 120) := hL.1 (187, 188, 24, 120) (by decide) 187 (by decide) (by decide)
theorem sh_elm (hL : Lay LM g c t σ) : gS σ 309 = (24, 120) := hL.1 (309, 310, 24, 120) (by decide) 309 (by decide) (by decide)
/-- v among the elements: its number or -1 -/
def fnd (els : List (List Int)) (v : List Int) : Int := if v ∈ els then (els.idxOf v : Int) else -1
theorem fnd_of {els : List (List Int)} {k : Nat} (hn : els.Nodup) (hk : k < els.length) : fnd els (els.getD k []) = k := by
  unfold fnd
  rw [if_pos (mem_getD.mpr ⟨k, hk, rfl⟩), idx_getD hn hk]
theorem fnd_no {els : List (List Int)} {v : List Int} (h : ∀ k, k < els.length → els.getD k [] ≠ v) : fnd els v = -1 := by
  unfold fnd
  rw [if_neg]
  intro hm
  obtain ⟨k, hk, e⟩ := mem_getD.mp hm
  exact h k hk e
/-- placeIn on rows that hold elements -/
theorem S_placeEl {a b v n w : Nat} {D : Int} {els : List (List Int)} {z : List Int} (hR : RWs σ b D els) (hnd : els.Nodup) (h16 : 16 ≤ a) (hs : gS σ a = (24, n)) (hn : 120 ≤ n ∧ n ≤ 65536) (hr : ∀ k, k < 120 → gR σ a k = b + k) (hb : ∀ k, k < 120 → 16 ≤ b + k ∧ gS σ (b + k) = (20, 8))
    (hv : 16 ≤ v ∧ gS σ v = (20, w) ∧ 8 ≤ w) (hz8 : z.length = 8) (hz : ∀ j, j < 8 → gI σ v j = gd z j) (hq : Q (.inl (some (vi (fnd els z)))) σ) : CC E mX12_placeIn [vr a, vi els.length, vr v] σ Q := by
  have h120 := hR.1
  have key : ∀ k, k < els.length → (alk (gI σ (b + k)) (gI σ v) ↔ els.getD k [] = z) := fun k hk => by
    have hrk := hR.2 k hk
    constructor
    · intro h1
      refine gd_ext hrk.1.1 hz8 (fun j hj => ?_)
      rw [← hrk.2 j hj, ← hz j hj]
      exact h1 j hj
    · intro h1 j hj
      rw [hrk.2 j hj, hz j hj, h1]
  refine S_placeIn (N := els.length) (m := 8) (n := n) h16 hs (by omega) hn.2 (fun k hk => hr k (by omega)) (fun k hk => hb k (by omega)) (Nat.le_refl _) hv (fun k hk h1 _ => ?_) (fun h1 => ?_)
  · have e := (key k hk).mp h1
    rw [← e, fnd_of hnd hk] at hq
    exact hq
  · rw [fnd_no (fun k hk e => h1 k hk ((key k hk).mpr e))] at hq
    exact hq
/-- how closes ends -/
def EndM (Q : NO → Sg → Prop) (g : Sg) (c t : Nat) (σ : Sg) (D : Int) : (Nat × Nat × Nat × Nat) ⊕ List (List Int) → Prop
  | .inr els => ∀ τ, Lay LM g c t τ → Fr frL (fun _ => False) σ τ → RWs τ 188 D els → gI τ 172 12 = (els.length : Int) → Q (.inl (some (vi 1))) τ
  | .inl (k, n, i, u) => ∀ τ, Lay LM g c t τ → Fr frL2 (fun _ => False) σ τ → gI τ 186 0 = (k : Int) → gI τ 186 1 = (n : Int) → gI τ 186 2 = (i : Int) → gI τ 186 3 = (u : Int) → Q (.inl (some (vi 0))) τ
theorem mclose_loop {r : Nat} {D : Int} {told : List (List Int)} (hr : r < 10) (hT : ST σ r D told) {res : (Nat × Nat × Nat × Nat) ⊕ List (List Int)} (hq : EndM Q g c t σ D res) :
    ∀ (f : Nat) (els : List (List Int)) (i u : Nat) (τ : Sg), clRun D told f els i u = some res → Lay LM g c t τ → Fr frL (fun _ => False) σ τ → RWs τ 188 D els → els.Nodup → gI τ 172 12 = (els.length : Int) → 0 < els.length →
      (u = 0 → GG E mX12_closes 38 [some (vr 172), some (vi r), some (vi i), none, none] [] τ 0 0 Q) ∧ (i < els.length → GG E mX12_closes 48 [some (vr 172), some (vi r), some (vi i), some (vi u), none] [] τ 0 0 Q) := by
  intro f
  induction f with
  | zero => intro els i u τ h; cases h
  | succ f ih =>
    intro els i u τ hres hL hF hE hnd hN hpos
    have hTτ := hT.fr hF hr (fun _ => (by first | omega | (dsimp only [frC, frL, frL2, frP, frK]; omega)))
    have hlen := hE.1
    have ht4 := hT.2.2.2.2.1
    have hD2 := hT.2.1
    have hD5 := hT.2.2.1
    have h48 : i < els.length → GG E mX12_closes 48 [some (vr 172), some (vi r), some (vi i), some (vi u), none] [] τ 0 0 Q := by
      intro hi
      unfold clRun at hres
      rw [if_neg (by omega)] at hres
      refine B_X12_closes_48 hL ⟨⟨by omega, by omega⟩, ?_⟩
      rw [show ((r : Nat) : Int).toNat = r by omega, hTτ.2.2.2.1]
      by_cases hu : told.length ≤ u
      · rw [if_pos hu] at hres
        refine ⟨fun _ => ⟨⟨by omega, by omega⟩, fun _ => ?_⟩, fun h => absurd (by omega) h⟩
        exact (ih els (i + 1) 0 τ hres hL hF hE hnd hN hpos).1 rfl
      · rw [if_neg hu] at hres
        refine ⟨fun h => absurd h (by omega), fun _ => ⟨⟨by omega, by omega⟩, ⟨by omega, by omega⟩, ⟨by omega, by omega⟩, fun _ => ?_⟩⟩
        refine S_root hL hr ⟨hL, fun _ _ => ?_⟩
        rw [hTτ.1, show ((i : Nat) : Int).toNat = i by omega, show (2 : Int) + 8 * (u : Int) = ((2 + 8 * u : Nat) : Int) by omega]
        have hx := hE.2 i hi
        have hy := hTτ.2.2.2.2.2 u (by omega)
        refine S_multiplies (xa := 0) (ya := 2 + 8 * u) (D := D) (X := gd (els.getD i [])) (Y := gd (told.getD u [])) hL (pa_raw (by omega)) (pa_st hr) (by omega) (by omega) (by omega) (by omega) (by omega) (fun j hj => by rw [Nat.zero_add]; exact hx.2 j hj) hy.2 (ab4 hx.1 hD2) (ab4 hy.1 hD2) (fun ρ hLρ hO hz => ?_) (fun ρ hLρ hO hz => ?_)
        · obtain ⟨v, hv, hvz⟩ := mulL_some_of hz
          have hvT := mulL_isT hx.1 hy.1 hv
          have hF9 : Fr frL (fun _ => False) τ ρ := Fr.ofOn hO (fun _ => .inl rfl)
          have hEρ : RWs ρ 188 D els := ⟨hE.1, fun k hk => ⟨(hE.2 k hk).1, fun j hj => (hO.1 _ _ (by omega)).trans ((hE.2 k hk).2 j hj)⟩⟩
          have hNρ : gI ρ 172 12 = (els.length : Int) := (hO.1 _ _ (by omega)).trans hN
          have hLρ2 := hLρ
          refine ⟨hLρ, fun _ => ⟨fun _ _ => ?_, fun h => absurd h (by decide)⟩⟩
          rw [hNρ]
          refine S_placeEl (z := v) hEρ hnd (by omega) (sh_raw hLρ) (by omega) (fun k hk => hLρ.rx (i := 1) (n := 120) rfl hk) (fun k hk => ⟨by omega, (pa_raw hk).sh hLρ⟩) ⟨by omega, pa_made.sh hLρ, by omega⟩ hvT.1 (fun j hj => (hvz j hj).symm) ⟨hLρ, fun _ => ?_⟩
          unfold clStep at hres
          rw [hv] at hres
          dsimp only at hres
          by_cases hm : v ∈ els
          · rw [if_pos hm] at hres
            have hne : fnd els v ≠ -1 := by unfold fnd; rw [if_pos hm]; omega
            refine ⟨fun h => absurd h hne, fun _ => ⟨⟨by omega, by omega⟩, fun _ => ?_⟩⟩
            exact (ih els i (u + 1) ρ hres hLρ (hF.trans hF9) hEρ hnd hNρ hpos).2 hi
          · rw [if_neg hm] at hres
            have he : fnd els v = -1 := by unfold fnd; rw [if_neg hm]
            refine ⟨fun _ => ?_, fun h => absurd he h⟩
            rw [hNρ]
            by_cases hl : els.length = 120
            · rw [if_pos hl] at hres
              cases hres
              refine ⟨fun h => absurd (by omega) h, fun _ _ => ?_⟩
              refine S_stops hLρ (fun τ9 hL9 e9 => ⟨hL9, fun _ => ⟨.inl rfl, fun _ => ?_⟩⟩)
              refine hq τ9 hL9 ?_ ?_ ?_ ?_ ?_
              · rw [e9]
                exact ((((((hF.trans hF9).mono (W' := frL2) (fun a k h => by first | omega | (dsimp only [frC, frL, frL2, frP, frK] at *; omega)) (fun _ h => h)).sI (by first | omega | (dsimp only [frC, frL, frL2, frP, frK]; omega))).sI (by first | omega | (dsimp only [frC, frL, frL2, frP, frK]; omega))).sI (by first | omega | (dsimp only [frC, frL, frL2, frP, frK]; omega))).sI (by first | omega | (dsimp only [frC, frL, frL2, frP, frK]; omega)))
              all_goals rw [e9]; simp [gI_sI]
            · rw [if_neg hl] at hres
              dsimp only at hres
              refine ⟨fun _ _ => ?_, fun h => absurd h (by omega)⟩
              refine loopU (N := 8) (G := fun j τ => GG E mX12_closes 149 [some (vr 172), some (vi r), some (vi i), some (vi u), some (vi j)] [] τ 0 0 Q)
                (P := fun j τ9 => Lay LM g c t τ9 ∧ Fr frL (fun _ => False) ρ τ9 ∧ (∀ b k, b ≠ 188 + els.length → gI τ9 b k = gI ρ b k) ∧ ∀ k, k < j → gI τ9 (188 + els.length) k = gd v k) ?_ ?_ 0 ρ (by omega) ⟨hLρ, Fr.refl _, fun _ _ _ => rfl, fun k hk => absurd hk (by omega)⟩
              · rintro j τ9 hj ⟨hL9, hF2, hI2, hz2⟩ next
                refine B_X12_closes_149 hL9 ?_
                rw [(hI2 172 12 (by omega)).trans hNρ, show ((els.length : Nat) : Int).toNat = els.length by omega, show ((j : Nat) : Int).toNat = j by omega, (hI2 308 j (by omega)).trans (hvz j hj).symm]
                refine ⟨fun h => absurd h (by omega), fun _ => ⟨⟨by omega, by omega⟩, ⟨by omega, by omega⟩, fun τ7 e7 => ⟨⟨by omega, by omega⟩, fun hL7 => ?_⟩⟩⟩
                subst e7
                refine next _ ⟨hL7, hF2.sI (by first | omega | (dsimp only [frC, frL, frL2, frP, frK]; omega)), fun b k hb => ?_, fun k hk => ?_⟩
                · rw [gI_sI, if_neg (fun h9 => hb h9.1)]; exact hI2 b k hb
                · rw [gI_sI]
                  by_cases hkj : k = j
                  · subst hkj; rw [if_pos ⟨rfl, rfl⟩]
                  · rw [if_neg (fun h9 => hkj h9.2)]; exact hz2 k (by omega)
              · rintro τ9 ⟨hL9, hF2, hI2, hz2⟩
                refine B_X12_closes_149 hL9 ?_
                rw [(hI2 172 12 (by omega)).trans hNρ]
                refine ⟨fun _ => ⟨⟨by omega, by omega⟩, fun τ2 e2 => ⟨⟨by omega, by omega⟩, fun hL2 => ?_⟩⟩, fun h => absurd (by omega) h⟩
                subst e2
                have hlen1 : (els ++ [v]).length = els.length + 1 := by simp
                refine (ih (els ++ [v]) i (u + 1) _ hres hL2 (((hF.trans hF9).trans hF2).sI (by first | omega | (dsimp only [frC, frL, frL2, frP, frK]; omega))) ⟨by omega, fun k hk => ?_⟩ ?_ ?_ (by omega)).2 (by omega)
                · by_cases hk2 : k < els.length
                  · rw [getD_app9 hk2]
                    refine ⟨(hEρ.2 k hk2).1, fun j hj => ?_⟩
                    rw [gI_sI, if_neg (by omega), hI2 _ _ (by omega)]
                    exact (hEρ.2 k hk2).2 j hj
                  · have : k = els.length := by omega
                    subst this
                    rw [getD_last9]
                    refine ⟨hvT, fun j hj => ?_⟩
                    rw [gI_sI, if_neg (by omega)]
                    exact hz2 j hj
                · rw [List.nodup_append]
                  refine ⟨hnd, by simp, fun a ha b hb => ?_⟩
                  rw [List.mem_singleton] at hb
                  subst hb
                  exact fun e => hm (e ▸ ha)
                · rw [gI_sI, if_pos ⟨rfl, rfl⟩, hlen1]; rfl
        · have hv := mulL_none hz
          unfold clStep at hres
          rw [hv] at hres
          cases hres
          have hF9 : Fr frL (fun _ => False) τ ρ := Fr.ofOn hO (fun _ => .inl rfl)
          refine ⟨hLρ, fun _ => ⟨fun h => absurd rfl h, fun _ _ => ?_⟩⟩
          rw [(hO.1 172 12 (by omega)).trans hN]
          refine S_stops hLρ (fun τ9 hL9 e9 => ⟨hL9, fun _ => ⟨.inl rfl, fun _ => ?_⟩⟩)
          refine hq τ9 hL9 ?_ ?_ ?_ ?_ ?_
          · rw [e9]
            exact ((((((hF.trans hF9).mono (W' := frL2) (fun a k h => by first | omega | (dsimp only [frC, frL, frL2, frP, frK] at *; omega)) (fun _ h => h)).sI (by first | omega | (dsimp only [frC, frL, frL2, frP, frK]; omega))).sI (by first | omega | (dsimp only [frC, frL, frL2, frP, frK]; omega))).sI (by first | omega | (dsimp only [frC, frL, frL2, frP, frK]; omega))).sI (by first | omega | (dsimp only [frC, frL, frL2, frP, frK]; omega)))
          all_goals rw [e9]; simp [gI_sI]
    refine ⟨fun hu0 => ?_, h48⟩
    subst hu0
    refine B_X12_closes_38 hL ?_
    rw [hN]
    by_cases hi : els.length ≤ i
    · refine ⟨fun _ _ => ?_, fun h => absurd (by omega) h⟩
      unfold clRun at hres
      rw [if_pos hi] at hres
      cases hres
      exact hq τ hL hF hE hN
    · exact ⟨fun h => absurd h (by omega), fun _ _ => h48 (by omega)⟩
theorem S_closes {r : Nat} {D : Int} {told : List (List Int)} {res : (Nat × Nat × Nat × Nat) ⊕ List (List Int)} (hL : Lay LM g c t σ) (hr : r < 10) (hT : ST σ r D told) (hres : clos D told = some res) (hq : EndM Q g c t σ D res) : CC E mX12_closes [vr 172, vi r] σ Q := by
  refine C_X12_closes (B_X12_closes_0 hL (fun _ => ?_))
  refine loopU (N := 8) (G := fun j τ => GG E mX12_closes 2 [some (vr 172), some (vi r), some (vi j), none, none] [] τ 0 0 Q)
    (P := fun j τ => Lay LM g c t τ ∧ Fr frL (fun _ => False) σ τ ∧ ∀ k, k < j → gI τ 188 k = gd oneL k) ?_ ?_ 0 σ (by omega) ⟨hL, Fr.refl _, fun k hk => absurd hk (by omega)⟩
  · rintro j τ hj ⟨hLτ, hF, hz⟩ next
    refine B_X12_closes_2 hLτ ⟨fun h => absurd h (by omega), fun _ => ⟨fun h0 => ⟨⟨by omega, by omega⟩, fun τ3 e3 => ⟨⟨by omega, by omega⟩, fun hL3 => ?_⟩⟩, fun h0 => ⟨⟨by omega, by omega⟩, fun τ3 e3 => ⟨⟨by omega, by omega⟩, fun hL3 => ?_⟩⟩⟩⟩
    all_goals
      rw [show ((j : Nat) : Int).toNat = j by omega] at e3
      subst e3
      refine next _ ⟨hL3, hF.sI (by first | omega | (dsimp only [frC, frL, frL2, frP, frK]; omega)), fun k hk => ?_⟩
      rw [gI_sI]
      by_cases hkj : k = j
      · rw [if_pos ⟨rfl, hkj⟩, gd_one]
        first
          | rw [if_pos (by omega)]
          | rw [if_neg (by omega)]
      · rw [if_neg (fun h9 => hkj h9.2)]; exact hz k (by omega)
  · rintro τ ⟨hLτ, hF, hz⟩
    refine B_X12_closes_2 hLτ ⟨fun _ τ1 e1 hL1 => ?_, fun h => absurd (by omega) h⟩
    subst e1
    refine (mclose_loop hr hT hq 700 [oneL] 0 0 _ hres hL1 (hF.sI (by first | omega | (dsimp only [frC, frL, frL2, frP, frK]; omega))) ⟨by decide, fun k hk => ?_⟩ (by decide) (by rw [gI_sI, if_pos ⟨rfl, rfl⟩]; rfl) (by decide)).1 rfl
    have : k = 0 := by simp at hk; omega
    subst this
    refine ⟨oneL_isT D, fun j hj => ?_⟩
    rw [gI_sI, if_neg (by omega)]
    exact hz j hj
end S23
