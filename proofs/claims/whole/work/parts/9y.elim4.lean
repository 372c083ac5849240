/-! ===== the reference's elimination: the line that is left ===== -/
abbrev frKe : Nat → Nat → Prop := fun a _ => a = 2911
/-- the solution that belongs to the free column lf -/
def kerV (p : Nat) (A : Nat → Nat → Int) (pv : Nat → Int) (lf b : Nat) : Int := if b = lf then 1 else if pv b = -1 then 0 else (-A (pv b).toNat lf) % (p : Int)
section S9y
variable {E : Ev} {σ : Sg} {Q : NO → Sg → Prop} {g : Sg} {c t : Nat}
theorem fo_277n {x2 x4 : Int} (hL : Lay LM g c t σ) (hq : Q (.inl (some (vi x2))) σ) : GG E mX12_freeOf 277 [some (vr 172), none, some (vi x2), some (vi (-1)), some (vi x4), none, none, none, none, none, none] [] σ 0 0 Q :=
  B_X12_freeOf_277 hL ⟨fun _ _ => hq, fun _ => ⟨fun _ _ => hq, fun h9 => absurd rfl h9⟩⟩
theorem fo_277 {p r lf : Nat} {x2 : Int} (hL : Lay LM g c t σ) (h16 : gI σ 172 16 = (r : Int)) (h18 : gI σ 172 18 = (p : Int)) (h48 : r ≤ 48) (hp : 2 ≤ p ∧ p ≤ 1000) (hf : lf < r) (hA : ∀ i b, i < r → b < r → 0 ≤ gI σ (gR σ 2861 i) b ∧ gI σ (gR σ 2861 i) b < (p : Int)) (hv : ∀ b, b < r → gI σ 2912 b = -1 ∨ (0 ≤ gI σ 2912 b ∧ gI σ 2912 b < (r : Int)))
    (h : ∀ τ, Lay LM g c t τ → Fr frKe (fun _ => False) σ τ → (∀ b, b < r → gI τ 2911 b = kerV p (fun e b => gI σ (gR σ 2861 e) b) (gI σ 2912) lf b) → Q (.inl (some (vi x2))) τ) :
    GG E mX12_freeOf 277 [some (vr 172), none, some (vi x2), some (vi lf), some (vi (0 : Nat)), none, none, none, none, none, none] [] σ 0 0 Q := by
  have rw9 : ∀ e, e < 48 → 2862 ≤ gR σ 2861 e ∧ gR σ 2861 e < 2910 := fun e he => hL.2.2.2.1 (2861, 48, 2862, 2910) (by decide) e he
  refine loopU (N := r) (G := fun b τ => GG E mX12_freeOf 277 [some (vr 172), none, some (vi x2), some (vi lf), some (vi b), none, none, none, none, none, none] [] τ 0 0 Q)
    (P := fun n τ => Lay LM g c t τ ∧ Fr frKe (fun _ => False) σ τ ∧ ∀ b, b < n → gI τ 2911 b = kerV p (fun e b => gI σ (gR σ 2861 e) b) (gI σ 2912) lf b) ?_ ?_ 0 σ (by omega) ⟨hL, Fr.refl _, fun b hb => absurd hb (by omega)⟩
  · rintro b τ hb ⟨hL1, hF, hz⟩ next
    have kR : ∀ i, gR τ 2861 i = gR σ 2861 i := fun i => hF.r (by omega) id
    have k16 : gI τ 172 16 = (r : Int) := (hF.i (by omega) (by omega)).trans h16
    have k18 : gI τ 172 18 = (p : Int) := (hF.i (by omega) (by omega)).trans h18
    have kv : gI τ 2912 b = gI σ 2912 b := hF.i (by omega) (by omega)
    have go : ∀ (x : Int) (τ9 : Sg), x = kerV p (fun e b => gI σ (gR σ 2861 e) b) (gI σ 2912) lf b → τ9 = sI τ 2911 b x → Lay LM g c t τ9 → GG E mX12_freeOf 277 [some (vr 172), none, some (vi x2), some (vi lf), some (vi ((b : Int) + 1)), none, none, none, none, none, none] [] τ9 0 0 Q := fun x τ9 hx e9 hL9 => by
      refine next τ9 ⟨hL9, hF.trans (by rw [e9]; exact Fr_of1 rfl), fun i hi => ?_⟩
      rw [e9, gI_sI]
      by_cases hib : i = b
      · rw [if_pos ⟨rfl, hib⟩, hx, hib]
      · rw [if_neg (fun h9 => hib h9.2)]; exact hz i (by omega)
    refine B_X12_freeOf_277 hL1 ?_
    rw [k16, show ((b : Nat) : Int).toNat = b by omega, show ((lf : Nat) : Int).toNat = lf by omega, kv]
    refine ⟨fun h9 => absurd h9 (by omega), fun _ => ⟨fun h9 => absurd h9 (by omega), fun _ => ⟨fun hne => ⟨⟨by omega, by omega⟩, fun hpv => ?_, fun hpv τ11 e11 => ⟨⟨by omega, by omega⟩, fun hL11 => go 0 τ11 ?_ e11 hL11⟩⟩, fun he => ⟨⟨by omega, by omega⟩, fun τ14 e14 => ⟨⟨by omega, by omega⟩, fun hL14 => go 1 τ14 ?_ e14 hL14⟩⟩⟩⟩⟩
    · have hr9 := (hv b hb).resolve_left hpv
      have a1 := hA (gI σ 2912 b).toNat lf (by omega) hf
      have kk := rw9 (gI σ 2912 b).toNat (by omega)
      have cur : gI τ (gR σ 2861 (gI σ 2912 b).toNat) lf = gI σ (gR σ 2861 (gI σ 2912 b).toNat) lf := hF.i (by omega) (by omega)
      refine ⟨⟨by omega, by omega⟩, fun b3 e3 _ => ?_⟩
      rw [kR] at e3
      subst e3
      rw [cur]
      refine ⟨⟨by omega, by omega⟩, ⟨by omega, by omega⟩, fun _ => M_mod hL1 k18 (by omega) ⟨hL1, fun _ τ9 e9 => ⟨⟨by omega, by omega⟩, fun hL9 => go _ τ9 ?_ e9 hL9⟩⟩⟩
      unfold kerV
      rw [if_neg (by omega), if_neg hpv]
    · unfold kerV
      rw [if_neg (by omega), if_pos hpv]
    · unfold kerV
      rw [if_pos (by omega)]
  · rintro τ ⟨hL1, hF, hz⟩
    have k16 : gI τ 172 16 = (r : Int) := (hF.i (by omega) (by omega)).trans h16
    refine B_X12_freeOf_277 hL1 ?_
    rw [k16]
    exact ⟨fun _ _ => h τ hL1 hF hz, fun h9 => absurd (by omega) h9⟩
end S9y
