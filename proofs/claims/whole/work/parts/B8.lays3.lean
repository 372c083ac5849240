/-! ===== the reference lays its rows: all of it ===== -/
section SB8
variable {E : Ev} {σ : Sg} {Q : NO → Sg → Prop} {g : Sg} {c t : Nat}
variable {D : Int} {told els : List (List Int)} {past : List (List (List Int))} {B : List Int} {F : Int} {W R : Nat → Int}
/-- by which the order of characters is told -/
theorem piN_s {f : Nat → Nat} (hG : GD D els) (hI : IsG els.length (gmt D els)) (hp : isPr (pN D els)) (h242 : pN D els < 242) (hN : 2 * els.length + 1 ≤ pN D els) (h1 : Prm (rG D els) f) (h2 : Srt (ltN D els) (rG D els) f) : ∀ j, j < rG D els → piN D els j = f j := by
  have h := Classical.epsilon_spec (p := fun q => Prm (rG D els) q ∧ Srt (ltN D els) (rG D els) q) ⟨f, h1, h2⟩
  exact Srt.un (ltN_ord hG hI hp h242 hN) h.1 h1 h.2 h2
/-- numbers by which central rows are all apart -/
def APt (D : Int) (els : List (List Int)) (X : Nat) : Prop := ∀ v w, Cen (pN D els) (rG D els) (cG D els) v → Cen (pN D els) (rG D els) (cG D els) w → (∃ a, a < rG D els ∧ v a ≠ w a) → sm (fun a => mxZ (pN D els) X a * v a) (rG D els) % (pN D els : Int) ≠ sm (fun a => mxZ (pN D els) X a * w a) (rG D els) % (pN D els : Int)
theorem lr_sort {X s9 : Nat} {s : Nat → Nat} {y : Int} {τ : Sg} (hM : MAll σ D els (pN D els) s9) (hI : IsG els.length (gmt D els)) (hG : GD D els) (hpr : isPr (pN D els)) (h242 : pN D els < 242) (hN : 2 * els.length + 1 ≤ pN D els) (hS : SL g c t σ D els τ) (hFD : FD τ D els (mxZ (pN D els) X) (pN D els) (rG D els) s)
    (hq : ∀ τ, SL g c t σ D els τ → KMd D els τ → Q (.inl none) τ) : GG E mX12_laysRows 24 [some (vr 172), some (vl y), none, none, none, none] [] τ 0 0 Q := by
  obtain ⟨hL1, hJ1, hC1, hF1⟩ := hS
  have r12 : rG D els ≤ 12 := hG.1
  have r48 : rG D els ≤ 48 := Nat.le_trans r12 (by decide)
  have k16 : gI τ 172 16 = (rG D els : Int) := (hF1.i (by omega) (by omega)).trans hM.2.2.2.2.1.2.1
  have rw9 : ∀ e, e < 48 → 2914 ≤ gR τ 2913 e ∧ gR τ 2913 e < 2962 := fun e he => hL1.2.2.2.1 (2913, 48, 2914, 2962) (by decide) e he
  obtain ⟨h35, f1, f2, f3, f4⟩ := hFD
  refine B_X12_laysRows_24 hL1 ?_
  rw [k16, h35]
  refine ⟨fun _ _ => ?_, fun h9 => absurd (Int.le_refl _) h9⟩
  have hne : ∀ i j, i < rG D els → j < rG D els → i ≠ j → ∃ a, a < rG D els ∧ gI τ (gR τ 2913 i) a ≠ gI τ (gR τ 2913 j) a := fun i j hi hj hij => Classical.byContradiction (fun h9 => hij (f2 i j hi hj (chN_inj hG hI hpr h242 hN (f1 i hi).1 (f1 j hj).1 (fun a ha => by
    rw [← (f4 i hi).2 a ha, ← (f4 j hj).2 a ha]
    exact Classical.byContradiction (fun h8 => h9 ⟨a, ha, h8⟩)))))
  refine M_sortsRows hL1 hJ1 k16 r48 h35 r48 hne (fun τ2 q hL2 hJ2 hF2 hp2 hs2 hq2 => ⟨hL2, fun _ => ?_⟩)
  have hPr : Prm (rG D els) (fun j => s (q j)) := by
    refine ⟨fun a ha => (f1 _ (hp2.1 a ha)).1, fun a b ha hb e => hp2.2.1 a b ha hb (f2 _ _ (hp2.1 a ha) (hp2.1 b hb) e), fun y hy => ?_⟩
    obtain ⟨j, hj, e⟩ := f3 y hy (by
      have := hpr.1
      have := em_rng (p := pN D els) (by omega) (mxS (rG D els) (omN D els) (mxZ (pN D els) X) y)
      exact this.2)
    obtain ⟨x, hx, e2⟩ := hp2.2.2 j hj
    exact ⟨x, hx, by rw [← e, ← e2]⟩
  have hSr : Srt (ltN D els) (rG D els) (fun j => s (q j)) := fun a b hab hb => by
    have h9 := hs2 a b hab hb
    have ha1 := hp2.1 a (Nat.lt_trans hab hb)
    have hb1 := hp2.1 b hb
    have h9' : ahd (rG D els) (gI τ 2962 (q a)) (gI τ (gR τ 2913 (q a))) (gI τ 2962 (q b)) (gI τ (gR τ 2913 (q b))) := h9
    rw [(f4 _ ha1).1, (f4 _ hb1).1] at h9'
    exact ahd_ex (f4 _ ha1).2 (f4 _ hb1).2 h9'
  have e9 := piN_s hG hI hpr h242 hN hPr hSr
  refine hq τ2 ⟨hL2, hJ2, hC1.fr r48 hF2 (fun a j h1 h2 h3 => by omega), hF1.trans (hF2.mono (fun a j h9 => .inl (by omega)) (fun a h9 => .inr h9))⟩ ⟨r12, hC1.fr r48 hF2 (fun a j h1 h2 h3 => by omega), fun j hj => ?_⟩
  have hqj := hp2.1 j hj
  have hr9 := rw9 (q j) (by omega)
  rw [(hq2 j hj).1, (hq2 j hj).2]
  unfold dgC vlC
  rw [e9 j hj]
  exact ⟨hr9, (f4 _ hqj).1, fun a ha => (hF2.i (by omega) (by omega)).trans ((f4 _ hqj).2 a ha)⟩
theorem lr_24 {s9 : Nat} (hM : MAll σ D els (pN D els) s9) (hI : IsG els.length (gmt D els)) (hG : GD D els) (hpr : isPr (pN D els)) (h242 : pN D els < 242) (hN : 2 * els.length + 1 ≤ pN D els)
    (hq : ∀ τ, SL g c t σ D els τ → KMd D els τ → Q (.inl none) τ) : ∀ T X τ, APt D els (lcI (rG D els * T) X) → SL g c t σ D els τ → gI τ 172 35 = 0 → GG E mX12_laysRows 24 [some (vr 172), some (vl (wL (X : Int))), none, none, none, none] [] τ 0 0 Q := by
  have r12 : rG D els ≤ 12 := hG.1
  have r48 : rG D els ≤ 48 := Nat.le_trans r12 (by decide)
  have rp : 0 < rG D els := rsN_pos hI
  have p1 := hpr.1
  obtain ⟨ev, hS⟩ := hG.sp
  have go : ∀ X τ, SL g c t σ D els τ → gI τ 172 35 = 0 → (¬ APt D els X → ∀ τ, SL g c t σ D els τ → gI τ 172 35 = 0 → GG E mX12_laysRows 24 [some (vr 172), some (vl (wL ((lcI (rG D els) X : Nat) : Int))), none, none, none, none] [] τ 0 0 Q) → GG E mX12_laysRows 24 [some (vr 172), some (vl (wL (X : Int))), none, none, none, none] [] τ 0 0 Q := by
    rintro X τ ⟨hL1, hJ1, hC1, hF1⟩ h35 hn
    have k16 : gI τ 172 16 = (rG D els : Int) := (hF1.i (by omega) (by omega)).trans hM.2.2.2.2.1.2.1
    refine B_X12_laysRows_24 hL1 ?_
    rw [k16, h35]
    refine ⟨fun h9 => absurd h9 (by omega), fun _ τ3 e3 hL3 => ?_⟩
    have hF3 : Fr (fun a k => a = 172 ∧ k = 35) (fun _ => False) τ τ3 := by rw [e3]; exact Fr_of1 ⟨rfl, rfl⟩
    have k16b : gI τ3 172 16 = (rG D els : Int) := (hF3.i (by omega) (by omega)).trans k16
    have k18b : gI τ3 172 18 = (pN D els : Int) := ((hF3.i (by omega) (by omega)).trans (hF1.i (by omega) (by omega))).trans hM.2.2.2.2.2.1
    have h35b : gI τ3 172 35 = 0 := by rw [e3, gI_sI, if_pos ⟨rfl, rfl⟩]
    refine lr_42 (p := pN D els) hL3 k16b k18b r48 (by omega) (fun τ4 hL4 hF4 hv4 => ?_)
    refine lr_88 (X := X) hM hI hG hpr h242 (fun τ s hSL hFD => lr_sort hM hI hG hpr h242 hN hSL hFD hq) (fun hex => hn ?_) (pN D els) 0 0 (fun j => j) τ4 (by omega) ⟨hL4, (hJ1.fr hF3 ⟨id, id⟩).fr hF4 ⟨id, id⟩, (hC1.fr r48 hF3 (fun a j h1 h2 h3 => by omega)).fr r48 hF4 (fun a j h1 h2 h3 => by omega), (hF1.trans (hF3.mono (fun a j h9 => .inr h9) (fun _ h => h.elim))).trans (hF4.mono (fun a j h9 => .inl (by omega)) (fun _ h => h.elim))⟩ hv4 ⟨(hF4.i (by omega) (by omega)).trans h35b, fun j hj => absurd hj (by omega), fun i j hi => absurd hi (by omega), fun i hi hlt => ?_, fun j hj => absurd hj (by omega)⟩
    · obtain ⟨i, j, hi, hj, hij, e⟩ := hex
      intro hA
      refine hA (omN D els i) (omN D els j) (hS.1 i hi) (hS.1 j hj) (Classical.byContradiction (fun h9 => hij (hS.inj p1 hi hj (fun a ha => Classical.byContradiction (fun h8 => h9 ⟨a, ha, h8⟩))))) e
    · have := em_rng (p := pN D els) (by omega) (mxS (rG D els) (omN D els) (mxZ (pN D els) X) i)
      omega
  intro T
  induction T with
  | zero => exact fun X τ hA hSL h35 => go X τ hSL h35 (fun h9 => absurd hA h9)
  | succ T ih =>
    intro X τ hA hSL h35
    refine go X τ hSL h35 (fun _ τ2 hSL2 h352 => ih (lcI (rG D els) X) τ2 ?_ hSL2 h352)
    rw [← lcI_add, show rG D els + rG D els * T = rG D els * (T + 1) by rw [Nat.mul_add, Nat.mul_one, Nat.add_comm]]
    exact hA
abbrev frLr2 : Nat → Nat → Prop := fun a k => (557 ≤ a ∧ a < 2963) ∨ (a = 172 ∧ (k = 27 ∨ k = 35))
theorem MAp.p (h : MAp σ D els) : ∃ s : Nat, (0 ≤ D) ∧ isPr (pN D els) ∧ pN D els < 242 ∧ 2 * els.length + 1 ≤ pN D els ∧ s = sN D els ∧ MAll σ D els (pN D els) s ∧ PR els.length (expo els.length (gmt D els) els.length) D.toNat (pN D els) s := by
  obtain ⟨d, p, s, h1, h2, h3, h4⟩ := h
  obtain ⟨e1, e2⟩ := pN_of h1 h2
  rw [e1, e2]
  refine ⟨s, by omega, h2.1.2.2.1, by omega, h2.1.1, rfl, h4, ?_⟩
  rw [h1, show ((d : Nat) : Int).toNat = d by omega]
  subst h1
  exact h2
theorem M_laysRows (h : MI KMd g c t σ D told els past B F W R) (hC : Clo D told els) (hG : GD D els)
    (hq : ∀ τ, MI KMd g c t τ D told els past B F W R → gI τ 172 27 = 1 → KMd D els τ → gI τ 172 0 = gI σ 172 0 → Q (.inl none) τ) : CC E mX12_laysRows [vr 172] σ Q := by
  obtain ⟨l1, l2, l3, l4, l5, l6, l7, l8, l9, l10⟩ := id h
  have hI := hC.isG
  obtain ⟨s9, hD0, hpr, h242, hN, _, hM, _⟩ := l3.p
  have r48 : rG D els ≤ 48 := Nat.le_trans hG.1 (by decide)
  refine C_X12_laysRows (B_X12_laysRows_0 l1 (fun _ => ⟨fun h0 τ2 e2 hL2 => ?_, fun hn _ => ?_⟩))
  · have hF2 : Fr (fun a k => a = 172 ∧ k = 27) (fun _ => False) σ τ2 := by rw [e2]; exact Fr_of1 ⟨rfl, rfl⟩
    refine S_laysCouples hL2 (hM.fr hF2 ⟨fun a j h1 h2 => by omega, fun j h1 h2 => by omega⟩) hI r48 (fun τ4 hL4 hF4 hC4 => ⟨hL4, fun τ5 e5 hL5 => ?_⟩)
    have hF5 : Fr (fun a k => a = 172 ∧ k = 35) (fun _ => False) τ4 τ5 := by rw [e5]; exact Fr_of1 ⟨rfl, rfl⟩
    obtain ⟨T, hT⟩ := hG.2.2.2
    have hF15 : Fr frLr2 frLv σ τ5 := ((hF2.mono (fun a j h9 => .inr ⟨h9.1, .inl h9.2⟩) (fun _ h => h.elim)).trans (hF4.mono (fun a j h9 => .inl (by omega)) (fun _ h => h.elim))).trans (hF5.mono (fun a j h9 => .inr ⟨h9.1, .inr h9.2⟩) (fun _ h => h.elim))
    have k27 : gI τ5 172 27 = 1 := ((hF5.i (by omega) (by omega)).trans (hF4.i (by omega) (by omega))).trans (by rw [e2, gI_sI, if_pos ⟨rfl, rfl⟩])
    have w1 : (1 : Int) = wL ((1 : Nat) : Int) := by decide +kernel
    rw [w1]
    -- from here on hasRows stands
    have fin : ∀ τ, (Lay LM g c t τ ∧ JM τ ∧ CplM τ els.length (gmt D els) ∧ Fr frLr2 frLv σ τ) → gI τ 172 27 = 1 → KMd D els τ → Q (.inl none) τ := by
      rintro τ ⟨hLτ, hJτ, hCτ, hFτ⟩ h27 hK
      refine hq τ ⟨hLτ, l2.fr hFτ (by omega) (fun j => by omega), l3.fr hFτ ⟨fun a j h1 h2 => by omega, fun j h1 h2 => by omega⟩, l4.fr hFτ ⟨by omega, fun a j h1 h2 => by omega⟩, l5.fr hFτ ⟨by omega, fun j => by omega⟩, (hFτ.i (by omega) (by omega)).trans l6, fun i hi => (hFτ.i (by omega) (by omega)).trans (l7 i hi), l8.fr hFτ (fun j => by omega), hJτ, .inr ⟨h27, hK⟩⟩ h27 hK (hFτ.i (by omega) (by omega))
    have hM5 := hM.fr hF15 ⟨fun a j h1 h2 => by omega, fun j h1 h2 => by omega⟩
    have hJ5 := ((l9.fr hF2 ⟨id, id⟩).fr hF4 ⟨id, id⟩).fr hF5 ⟨id, id⟩
    have hC5 := hC4.fr r48 hF5 (fun a j h1 h2 h3 => by omega)
    refine lr_24 (σ := τ5) hM5 hI hG hpr h242 hN (fun τ hSL hK => ?_) T 1 τ5 hT ⟨hL5, hJ5, hC5, Fr.refl _⟩ (by rw [e5, gI_sI, if_pos ⟨rfl, rfl⟩])
    obtain ⟨a1, a2, a3, a4⟩ := hSL
    exact fin τ ⟨a1, a2, a3, hF15.trans (a4.mono (fun a j h9 => h9.elim .inl (fun h9 => .inr ⟨h9.1, .inr h9.2⟩)) (fun _ h => h))⟩ ((a4.i (by omega) (by omega)).trans k27) hK
  · rcases l10 with h9 | h9
    · exact absurd h9 hn
    · exact hq σ h h9.1 h9.2 rfl
end SB8
