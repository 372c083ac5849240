/-! ===== the reference's elimination: all rows lessened, the pivot set ===== -/
section S9w
variable {E : Ev} {σ : Sg} {Q : NO → Sg → Prop} {g : Sg} {c t : Nat}
theorem fo_161 {p r k col : Nat} {x2 x3 : Int} (hL : Lay LM g c t σ) (hJ : JM σ) (h16 : gI σ 172 16 = (r : Int)) (h18 : gI σ 172 18 = (p : Int)) (h48 : r ≤ 48) (hp : 2 ≤ p ∧ p ≤ 1000) (hk : k < r) (hc : col < r) (hA : ∀ i b, i < r → b < r → 0 ≤ gI σ (gR σ 2861 i) b ∧ gI σ (gR σ 2861 i) b < (p : Int))
    (h : ∀ τ, Lay LM g c t τ → Fr (fun a _ => frSh a 0 ∨ a = 2912) (fun _ => False) σ τ → (∀ e b, e < r → b < r → gI τ (gR σ 2861 e) b = if e = k then gI σ (gR σ 2861 e) b else (gI σ (gR σ 2861 e) b - gI σ (gR σ 2861 e) col * gI σ (gR σ 2861 k) b) % (p : Int)) → (∀ j, gI τ 2912 j = if j = col then (k : Int) else gI σ 2912 j) → GG E mX12_freeOf 9 [some (vr 172), some (vi ((k : Int) + 1)), some (vi x2), some (vi x3), some (vi ((col : Int) + 1)), none, none, none, none, none, none] [] τ 0 0 Q) :
    GG E mX12_freeOf 161 [some (vr 172), some (vi k), some (vi x2), some (vi x3), some (vi col), none, none, none, some (vi (0 : Nat)), none, none] [] σ 0 0 Q := by
  refine loopU (N := r) (G := fun e τ => GG E mX12_freeOf 161 [some (vr 172), some (vi k), some (vi x2), some (vi x3), some (vi col), none, none, none, some (vi e), none, none] [] τ 0 0 Q)
    (P := fun n τ => Lay LM g c t τ ∧ Fr frSh (fun _ => False) σ τ ∧ ∀ e b, e < r → b < r → gI τ (gR σ 2861 e) b = if e < n ∧ e ≠ k then (gI σ (gR σ 2861 e) b - gI σ (gR σ 2861 e) col * gI σ (gR σ 2861 k) b) % (p : Int) else gI σ (gR σ 2861 e) b) ?_ ?_ 0 σ (by omega) ⟨hL, Fr.refl _, fun e b _ _ => by rw [if_neg (by omega)]⟩
  · rintro e τ he ⟨hL1, hF, hv⟩ next
    have kR : ∀ i, gR τ 2861 i = gR σ 2861 i := fun i => hF.r (by omega) id
    have k16 : gI τ 172 16 = (r : Int) := (hF.i (by omega) (by omega)).trans h16
    have k18 : gI τ 172 18 = (p : Int) := (hF.i (by omega) (by omega)).trans h18
    have hJ1 := hJ.fr hF ⟨id, id⟩
    have cur : ∀ b, b < r → gI τ (gR σ 2861 e) b = gI σ (gR σ 2861 e) b := fun b hb => by rw [hv e b he hb, if_neg (by omega)]
    have curk : ∀ b, b < r → gI τ (gR σ 2861 k) b = gI σ (gR σ 2861 k) b := fun b hb => by rw [hv k b hk hb, if_neg (fun h9 => h9.2 rfl)]
    have hA1 : ∀ i b, i < r → b < r → 0 ≤ gI τ (gR τ 2861 i) b ∧ gI τ (gR τ 2861 i) b < (p : Int) := fun i b hi hb => by
      rw [kR, hv i b hi hb]
      split
      · exact em_rng (by omega) _
      · exact hA i b hi hb
    refine B_X12_freeOf_161 hL1 ?_
    rw [k16, show ((e : Nat) : Int).toNat = e by omega, show ((col : Nat) : Int).toNat = col by omega, kR]
    refine ⟨fun h9 => absurd h9 (by omega), fun _ => ⟨⟨by omega, by omega⟩, fun b6 e6 _ => ⟨⟨by omega, by omega⟩, fun _ => ?_⟩⟩⟩
    subst e6
    rw [cur col hc]
    -- nothing to take away
    have skip : (e = k ∨ gI σ (gR σ 2861 e) col = 0) → GG E mX12_freeOf 161 [some (vr 172), some (vi k), some (vi x2), some (vi x3), some (vi col), none, none, none, some (vi ((e : Int) + 1)), none, none] [] τ 0 0 Q := fun hs => next τ ⟨hL1, hF, fun e' b h1 h2 => by
      rw [hv e' b h1 h2]
      by_cases hee : e' = e
      · subst hee
        rw [if_neg (by omega)]
        rcases hs with hs | hs
        · rw [if_neg (fun h9 => h9.2 hs)]
        · split
          · rw [hs, Int.zero_mul, Int.sub_zero]
            exact (Int.emod_eq_of_lt (hA e' b h1 h2).1 (hA e' b h1 h2).2).symm
          · rfl
      · by_cases hlt : e' < e ∧ e' ≠ k
        · rw [if_pos hlt, if_pos ⟨by omega, hlt.2⟩]
        · rw [if_neg hlt, if_neg (fun h9 => hlt ⟨by omega, h9.2⟩)]⟩
    by_cases hek : e = k
    · refine B_X12_freeOf_185 hL1 ?_
      rw [k16]
      exact ⟨fun h9 => absurd h9 (by omega), fun _ => ⟨fun _ => ⟨⟨by omega, by omega⟩, fun _ => skip (.inl hek)⟩, fun h9 => absurd (by omega) h9⟩⟩
    · by_cases hz : gI σ (gR σ 2861 e) col = 0
      · refine B_X12_freeOf_185 hL1 ?_
        rw [k16]
        exact ⟨fun h9 => absurd h9 (by omega), fun _ => ⟨fun h9 => absurd h9 (by omega), fun _ => ⟨fun _ => ⟨⟨by omega, by omega⟩, fun _ => skip (.inr hz)⟩, fun h9 => absurd hz h9⟩⟩⟩
      · have a1 := hA e col he hc
        refine fo_185 hL1 hJ1 k16 k18 h48 hp hk he hek hA1 ⟨by omega, a1.2⟩ (fun τ9 hL9 hF9 hv9 hw9 => next τ9 ⟨hL9, hF.trans hF9, fun e' b h1 h2 => ?_⟩)
        by_cases hee : e' = e
        · subst hee
          have := hv9 b h2
          rw [kR, kR, cur b h2, curk b h2] at this
          rw [this, if_pos ⟨by omega, hek⟩]
        · have := hw9 e' b (by omega) hee
          rw [kR] at this
          rw [this, hv e' b h1 h2]
          by_cases hlt : e' < e ∧ e' ≠ k
          · rw [if_pos hlt, if_pos ⟨by omega, hlt.2⟩]
          · rw [if_neg hlt, if_neg (fun h9 => hlt ⟨by omega, h9.2⟩)]
  · rintro τ ⟨hL1, hF, hv⟩
    have k16 : gI τ 172 16 = (r : Int) := (hF.i (by omega) (by omega)).trans h16
    refine B_X12_freeOf_161 hL1 ?_
    rw [k16, show ((col : Nat) : Int).toNat = col by omega]
    refine ⟨fun _ => ⟨⟨by omega, by omega⟩, fun τ2 e2 => ⟨⟨by omega, by omega⟩, ⟨by omega, by omega⟩, fun hL2 => ?_⟩⟩, fun h9 => absurd (by omega) h9⟩
    have rw9 : ∀ e, e < 48 → 2862 ≤ gR σ 2861 e ∧ gR σ 2861 e < 2910 := fun e he => hL.2.2.2.1 (2861, 48, 2862, 2910) (by decide) e he
    have q2 : ∀ x i, gI τ2 x i = if x = 2912 ∧ i = col then (k : Int) else gI τ x i := fun x i => by rw [e2, gI_sI]
    refine h τ2 hL2 ((hF.mono (fun a j h9 => .inl h9) (fun _ h => h)).trans (by rw [e2]; exact Fr_of1 (.inr rfl))) (fun e b h1 h2 => ?_) (fun j => ?_)
    · have := rw9 e (by omega)
      rw [q2, if_neg (by omega), hv e b h1 h2]
      by_cases hek : e = k
      · rw [if_pos hek, if_neg (fun h9 => h9.2 hek)]
      · rw [if_neg hek, if_pos ⟨h1, hek⟩]
    · rw [q2]
      by_cases hj : j = col
      · rw [if_pos ⟨rfl, hj⟩, if_pos hj]
      · rw [if_neg (fun h9 => hj h9.2), if_neg hj]
        exact hF.i (by omega) (by omega)
end S9w
