/-! ===== the class: a space's table, its equation ===== -/
/-- couples lie there -/
def CpC (σ : Sg) (r : Nat) (cp : Nat → Nat → Nat → Int) : Prop := ∀ a b k, a < r → b < r → k < r → gI σ 55 ((a * 12 + b) * 12 + k) = cp a b k ∧ 0 ≤ cp a b k ∧ cp a b k ≤ 120
abbrev RA (σ : Sg) (f : Nat) : Nat → Nat → Int := fun s j => gI σ (57 + (f + s)) j
theorem ech_bd {p r n : Nat} {A : Nat → Nat → Int} {col : Nat → Nat} (h : ECH p r n A col) {s j : Nat} (hs : s < n) (hj : j < r) (hp : p ≤ 241) : (A s j).natAbs ≤ 241 := by have := h.1 s j hs hj; omega
theorem sm_bd {f : Nat → Int} {b : Nat} : ∀ n, (∀ j, j < n → (f j).natAbs ≤ b) → (sm f n).natAbs ≤ b * n := by
  intro n
  induction n with
  | zero => intro _; show (0 : Int).natAbs ≤ _; simp
  | succ n ih =>
    intro h
    have h1 := ih (fun j hj => h j (by omega))
    have h2 := h n (by omega)
    show (sm f n + f n).natAbs ≤ b * (n + 1)
    rw [Nat.mul_add, Nat.mul_one]
    omega
section SD2
variable {E : Ev} {σ : Sg} {Q : NO → Sg → Prop} {g : Sg} {c t : Nat}
theorem S_firstFilled {a m r c0 : Nat} (hL : Lay LC g c t σ) (hP : PA LC a m) (h11 : gI σ 54 11 = (r : Int)) (hr : r ≤ m ∧ m ≤ 100) (hc : c0 < r) (hz : ∀ j, j < c0 → gI σ a j = 0) (hn : gI σ a c0 ≠ 0) (hq : Q (.inl (some (vi c0))) σ) : CC E mX8_firstFilled [vr 54, vr a] σ Q := by
  refine C_X8_firstFilled (B_X8_firstFilled_0 hL hP (fun _ => ?_))
  refine loopU (N := c0) (G := fun j τ => GG E mX8_firstFilled 2 [some (vr 54), some (vr a), some (vi j)] [] τ 0 0 Q) (P := fun _ τ => τ = σ) ?_ ?_ 0 σ (by omega) rfl
  · rintro j τ hj rfl next
    refine B_X8_firstFilled_2 hL hP ?_
    rw [h11, show ((j : Nat) : Int).toNat = j by omega]
    exact ⟨fun h9 => absurd h9 (by omega), fun _ => ⟨⟨by omega, by omega⟩, fun _ => ⟨⟨by omega, by omega⟩, fun _ => next τ rfl⟩, fun h9 => absurd (hz j hj) h9⟩⟩
  · rintro τ rfl
    refine B_X8_firstFilled_2 hL hP ?_
    rw [h11, show ((c0 : Nat) : Int).toNat = c0 by omega]
    exact ⟨fun h9 => absurd h9 (by omega), fun _ => ⟨⟨by omega, by omega⟩, fun h9 => absurd h9 hn, fun _ _ => hq⟩⟩
theorem S_placeOf {a b k : Nat} (h : a < 12 ∧ b < 12 ∧ k < 12) (hq : Q (.inl (some (vi (((a * 12 + b) * 12 + k : Nat) : Int)))) σ) : CC E mX8_placeOf [vi a, vi b, vi k] σ Q := by
  refine C_X8_placeOf (B_X8_placeOf_0 ⟨⟨by omega, by omega⟩, ⟨by omega, by omega⟩, ⟨by omega, by omega⟩, ⟨by omega, by omega⟩, ?_⟩)
  rw [show ((a : Int) * 12 + (b : Int)) * 12 + (k : Int) = (((a * 12 + b) * 12 + k : Nat) : Int) by omega]
  exact hq
theorem pa57 {a : Nat} (h : 57 ≤ a ∧ a < 69) : PA LC a 12 := by
  have h1 : ∀ q ∈ yX LC, q.1 < 57 ∨ 69 ≤ q.1 := by decide
  exact ⟨by show 16 ≤ a; omega, by show a < 172; omega, by omega, fun q hq => by have := h1 q hq; omega, (57, 69, 20, 12), by decide, h.1, h.2, rfl⟩
abbrev frTb : Nat → Nat → Prop := fun a _ => a = 122 ∨ (83 ≤ a ∧ a < 95)
theorem S_fillTable {p r f n cls : Nat} {cp : Nat → Nat → Nat → Int} {col : Nat → Nat} (hL : Lay LC g c t σ) (h35 : gI σ 35 0 = (p : Int)) (hp : 2 ≤ p ∧ p ≤ 241) (h11 : gI σ 54 11 = (r : Int)) (h12 : gI σ 54 12 = (f : Int)) (h13 : gI σ 54 13 = (n : Int)) (hr : r ≤ 12) (hf : f + n ≤ 12) (hE : ECH p r n (RA σ f) col) (hCp : CpC σ r cp) (hc : cls < r)
    (h : ∀ τ, Lay LC g c t τ → Fr frTb (fun _ => False) σ τ → (∀ t s, t < n → s < n → gI τ (83 + t) s = tbR r cp cls (RA σ f) col t s % (p : Int)) → Q (.inl none) τ) : CC E mX8_fillTable [vr 54, vi cls] σ Q := by
  have kp : ∀ τ, Fr frTb (fun _ => False) σ τ → gI τ 35 0 = (p : Int) ∧ gI τ 54 11 = (r : Int) ∧ gI τ 54 12 = (f : Int) ∧ gI τ 54 13 = (n : Int) := fun τ hF => ⟨(hF.i (by omega) (by omega)).trans h35, (hF.i (by omega) (by omega)).trans h11, (hF.i (by omega) (by omega)).trans h12, (hF.i (by omega) (by omega)).trans h13⟩
  have fin : ∀ τ, Lay LC g c t τ → Fr frTb (fun _ => False) σ τ → (∀ s, s < n → gI τ 122 s = (col s : Int)) → GG E mX8_fillTable 39 [some (vr 54), some (vi cls), some (vi (0 : Nat)), none, none, none] [] τ 0 0 Q := by
    intro τ0 hL0 hF0 hv0
    refine loopU (N := n) (G := fun u τ => GG E mX8_fillTable 39 [some (vr 54), some (vi cls), some (vi u), none, none, none] [] τ 0 0 Q)
      (P := fun m τ => Lay LC g c t τ ∧ Fr frTb (fun _ => False) σ τ ∧ (∀ s, s < n → gI τ 122 s = (col s : Int)) ∧ ∀ u s, u < m → s < n → gI τ (83 + u) s = tbR r cp cls (RA σ f) col u s % (p : Int)) ?_ ?_ 0 τ0 (by omega) ⟨hL0, hF0, hv0, fun u s hu => absurd hu (by omega)⟩
    · rintro u τ hu ⟨hL1, hF1, hv1, hw1⟩ next
      obtain ⟨k35, k11, k12, k13⟩ := kp τ hF1
      refine B_X8_fillTable_39 hL1 ?_
      rw [k13]
      refine ⟨fun h9 => absurd h9 (by omega), fun _ _ => ?_⟩
      refine loopU (N := n) (G := fun s τ => GG E mX8_fillTable 49 [some (vr 54), some (vi cls), some (vi u), some (vi s), none, none] [] τ 0 0 Q)
        (P := fun m τ => Lay LC g c t τ ∧ Fr frTb (fun _ => False) σ τ ∧ (∀ s, s < n → gI τ 122 s = (col s : Int)) ∧ (∀ u' s, u' < u → s < n → gI τ (83 + u') s = tbR r cp cls (RA σ f) col u' s % (p : Int)) ∧ ∀ s, s < m → gI τ (83 + u) s = tbR r cp cls (RA σ f) col u s % (p : Int)) ?_ ?_ 0 τ (by omega) ⟨hL1, hF1, hv1, hw1, fun s hs => absurd hs (by omega)⟩
      · rintro s τ2 hs ⟨hL2, hF2, hv2, hw2, hx2⟩ next2
        obtain ⟨k35, k11, k12, k13⟩ := kp τ2 hF2
        have cs := (hE.2 s hs).1
        refine B_X8_fillTable_49 hL2 ?_
        rw [k13]
        refine ⟨fun h9 => absurd h9 (by omega), fun _ _ => ?_⟩
        let F9 : Nat → Int := fun k => cp cls (col s) k * RA σ f u k
        have bF : ∀ k, k < r → (F9 k).natAbs ≤ 120 * 241 := fun k hk => m4 (by have := hCp cls (col s) k hc cs hk; omega) (ech_bd hE hu hk hp.2)
        refine loopU (N := r) (G := fun k τ => GG E mX8_fillTable 63 [some (vr 54), some (vi cls), some (vi u), some (vi s), some (vi (sm F9 k)), some (vi k)] [] τ 0 0 Q) (P := fun _ τ => τ = τ2) ?_ ?_ 0 τ2 (by omega) rfl
        · rintro k τ3 hk rfl next3
          have b1 := sm_bd (f := F9) (b := 120 * 241) k (fun j hj => bF j (by omega))
          have b2 := sm_bd (f := F9) (b := 120 * 241) (k + 1) (fun j hj => bF j (by omega))
          have b3 := bF k hk
          have e9 : sm F9 (k + 1) = sm F9 k + F9 k := rfl
          have h55 := hCp cls (col s) k hc cs hk
          have q55 : gI τ3 55 ((cls * 12 + col s) * 12 + k) = cp cls (col s) k := (hF2.i (by omega) (by omega)).trans h55.1
          have qr : gI τ3 (57 + (f + u)) k = RA σ f u k := hF2.i (by omega) (by omega)
          refine B_X8_fillTable_63 hL2 ?_
          rw [k11, show ((s : Nat) : Int).toNat = s by omega, hv2 s hs]
          refine ⟨fun h9 => absurd h9 (by omega), fun _ => ⟨⟨by omega, by omega⟩, fun _ => S_placeOf ⟨by omega, by omega, by omega⟩ ⟨hL2, fun _ _ => S_atN (by decide) (hL2.1 (55, 56, 20, 1728) (by decide) 55 (by decide) (by decide)) (by decide) (by omega) ⟨hL2, fun _ => ?_⟩⟩⟩⟩
          rw [q55, k12, show ((f : Int) + (u : Int)).toNat = f + u by omega, show ((k : Nat) : Int).toNat = k by omega, qr]
          have e8 : cp cls (col s) k * RA σ f u k = F9 k := rfl
          rw [e8]
          refine ⟨⟨by omega, by omega⟩, ⟨by omega, by omega⟩, ⟨by omega, by omega⟩, ⟨by omega, by omega⟩, fun v18 e18 => ?_⟩
          rw [e18]
          exact ⟨⟨by omega, by omega⟩, ⟨by omega, by omega⟩, fun _ => next3 τ3 rfl⟩
        · rintro τ3 rfl
          refine B_X8_fillTable_63 hL2 ?_
          rw [k11, show ((u : Nat) : Int).toNat = u by omega, show ((s : Nat) : Int).toNat = s by omega]
          refine ⟨fun _ => ⟨⟨by omega, by omega⟩, fun _ => S_mod2 hL2 k35 (by omega) ⟨hL2, fun _ => ⟨⟨by omega, by omega⟩, fun τ6 e6 => ⟨⟨by omega, by omega⟩, fun hL6 => ?_⟩⟩⟩⟩, fun h9 => absurd (by omega) h9⟩
          have q6 : ∀ a j, gI τ6 a j = if a = 83 + u ∧ j = s then tbR r cp cls (RA σ f) col u s % (p : Int) else gI τ3 a j := fun a j => by rw [e6, gI_sI]; rfl
          refine next2 τ6 ⟨hL6, by rw [e6]; exact hF2.sI (by omega), fun s' hs' => by rw [q6, if_neg (by omega)]; exact hv2 s' hs', fun u' s' h1 h2 => by rw [q6, if_neg (by omega)]; exact hw2 u' s' h1 h2, fun s' hs' => ?_⟩
          rw [q6]
          by_cases hss : s' = s
          · rw [if_pos ⟨rfl, hss⟩, hss]
          · rw [if_neg (fun h9 => hss h9.2)]; exact hx2 s' (by omega)
      · rintro τ2 ⟨hL2, hF2, hv2, hw2, hx2⟩
        obtain ⟨k35, k11, k12, k13⟩ := kp τ2 hF2
        refine B_X8_fillTable_49 hL2 ?_
        rw [k13]
        refine ⟨fun _ => ⟨⟨by omega, by omega⟩, fun _ => next τ2 ⟨hL2, hF2, hv2, fun u' s h1 h2 => ?_⟩⟩, fun h9 => absurd (by omega) h9⟩
        by_cases huu : u' = u
        · rw [huu]; exact hx2 s h2
        · exact hw2 u' s (by omega) h2
    · rintro τ ⟨hL1, hF1, hv1, hw1⟩
      obtain ⟨k35, k11, k12, k13⟩ := kp τ hF1
      refine B_X8_fillTable_39 hL1 ?_
      rw [k13]
      exact ⟨fun _ _ => h τ hL1 hF1 hw1, fun h9 => absurd (by omega) h9⟩
  refine C_X8_fillTable (B_X8_fillTable_0 hL (fun _ => ?_))
  refine loopU (N := n) (G := fun u τ => GG E mX8_fillTable 2 [some (vr 54), some (vi cls), some (vi u), none, none, none] [] τ 0 0 Q)
    (P := fun m τ => Lay LC g c t τ ∧ Fr frTb (fun _ => False) σ τ ∧ ∀ s, s < m → gI τ 122 s = (col s : Int)) ?_ ?_ 0 σ (by omega) ⟨hL, Fr.refl _, fun s hs => absurd hs (by omega)⟩
  · rintro u τ hu ⟨hL1, hF1, hv1⟩ next
    obtain ⟨k35, k11, k12, k13⟩ := kp τ hF1
    obtain ⟨c1, c2, c3, c4⟩ := hE.2 u hu
    have rowq : ∀ j, gI τ (57 + (f + u)) j = RA σ f u j := fun j => hF1.i (by omega) (by omega)
    refine B_X8_fillTable_2 hL1 ?_
    rw [k13, k12, show ((f : Int) + (u : Int)).toNat = f + u by omega, show ((u : Nat) : Int).toNat = u by omega]
    refine ⟨fun h9 => absurd h9 (by omega), fun _ => ⟨⟨by omega, by omega⟩, ⟨by omega, by omega⟩, fun _ => S_firstFilled (m := 12) hL1 (pa57 (by omega)) k11 (by omega) c1 (fun j hj => by rw [rowq]; exact c3 j hj) (by rw [rowq, c2]; decide) ⟨hL1, fun _ => ⟨⟨by omega, by omega⟩, fun τ7 e7 => ⟨⟨by omega, by omega⟩, fun hL7 => next τ7 ⟨hL7, by rw [e7]; exact hF1.sI (.inl rfl), fun s hs => ?_⟩⟩⟩⟩⟩⟩
    rw [e7, gI_sI]
    by_cases hsu : s = u
    · rw [if_pos ⟨rfl, hsu⟩, hsu]
    · rw [if_neg (fun h9 => hsu h9.2)]; exact hv1 s (by omega)
  · rintro τ ⟨hL1, hF1, hv1⟩
    obtain ⟨k35, k11, k12, k13⟩ := kp τ hF1
    refine B_X8_fillTable_2 hL1 ?_
    rw [k13]
    exact ⟨fun _ _ => fin τ hL1 hF1 hv1, fun h9 => absurd (by omega) h9⟩
end SD2
