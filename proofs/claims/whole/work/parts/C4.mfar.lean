/-! ===== the reference: how far ===== -/
/-- what is reached in just n ways -/
def rch (D : Int) (els : List (List Int)) (a : Nat) : Nat → Nat → Prop
  | 0, b => b = a
  | n + 1, b => ∃ k, k < rG D els ∧ rch D els a n k ∧ 0 < waN D els k b
def lch (D : Int) (els : List (List Int)) (a n b : Nat) : Prop := rch D els a n b ∧ ∀ m, m < n → ¬ rch D els a m b
def CONN (D : Int) (els : List (List Int)) : Prop := ∀ a b, a < rG D els → b < rG D els → ∃ n, n ≤ 100 ∧ rch D els a n b
theorem lch_un {D : Int} {els : List (List Int)} {a n m b : Nat} (h : lch D els a n b) (k : lch D els a m b) : n = m := by
  by_cases h1 : n < m
  · exact absurd h.1 (k.2 n h1)
  · by_cases h2 : m < n
    · exact absurd k.1 (h.2 m h2)
    · omega
theorem rch_l {D : Int} {els : List (List Int)} {a b : Nat} : ∀ n, rch D els a n b → ∃ m, m ≤ n ∧ lch D els a m b := by
  intro n h
  obtain ⟨d, h1, h2, h3⟩ := least_of (p := fun n => rch D els a n b) n h
  exact ⟨d, h1, h2, h3⟩
section SC4
variable {E : Ev} {σ : Sg} {Q : NO → Sg → Prop} {g : Sg} {c t : Nat}
variable {D : Int} {told els : List (List Int)} {past : List (List (List Int))} {B : List Int} {F : Int} {W R : Nat → Int}
abbrev frO9 : Nat → Nat → Prop := fun a _ => a = 2963 ∨ a = 2966
/-- the levels up to n stand -/
def OFF (τ : Sg) (D : Int) (els : List (List Int)) (a n : Nat) : Prop := ∀ k, k < rG D els → (gI τ 2966 k = -1 ∧ ∀ m, m ≤ n → ¬ rch D els a m k) ∨ ∃ m : Nat, m ≤ n ∧ gI τ 2966 k = m ∧ lch D els a m k
/-- on the way to the next one: done are pairs ahead of i, k -/
def OFM (τ : Sg) (D : Int) (els : List (List Int)) (a n i k : Nat) : Prop := ∀ b, b < rG D els → (gI τ 2966 b = -1 ∧ (∀ m, m ≤ n → ¬ rch D els a m b) ∧ ∀ j, j < rG D els → (j < i ∨ (j = i ∧ b < k)) → ¬ (rch D els a n j ∧ 0 < waN D els j b)) ∨ ∃ m : Nat, m ≤ n + 1 ∧ gI τ 2966 b = m ∧ lch D els a m b
theorem OFM.nx {τ : Sg} {a n i : Nat} (h : OFM τ D els a n i (rG D els)) : OFM τ D els a n (i + 1) 0 := fun b hb => by
  rcases h b hb with ⟨h1, h2, h3⟩ | h1
  · exact .inl ⟨h1, h2, fun j hj hjk => h3 j hj (by omega)⟩
  · exact .inr h1
theorem OFM.end {τ : Sg} {a n : Nat} (h : OFM τ D els a n (rG D els) 0) : OFF τ D els a (n + 1) := fun b hb => by
  rcases h b hb with ⟨h1, h2, h3⟩ | h1
  · refine .inl ⟨h1, fun m hm => ?_⟩
    by_cases hmn : m ≤ n
    · exact h2 m hmn
    · have : m = n + 1 := by omega
      subst this
      rintro ⟨k, hk, k1, k2⟩
      exact h3 k hk (.inl hk) ⟨k1, k2⟩
  · exact .inr h1
theorem OFF.start {τ : Sg} {a n : Nat} (h : OFF τ D els a n) : OFM τ D els a n 0 0 := fun b hb => by
  rcases h b hb with ⟨h1, h2⟩ | ⟨m, h1, h2⟩
  · exact .inl ⟨h1, h2, fun j hj hjk => absurd hjk (by omega)⟩
  · exact .inr ⟨m, by omega, h2⟩
theorem far_100 {a b n : Nat} {τ0 : Sg} (h : MX g c t σ D els) (hX : FX D told els) (hn : n ≤ 1000)
    (hend : ∀ τ, Lay LM g c t τ → Fr frO9 (fun _ => False) σ τ → OFF τ D els a (n + 1) → GG E mX12_far 75 [some (vr 172), none, some (vi b), some (vi ((n : Int) + 1)), none, none] [] τ 0 0 Q)
    (hL0 : Lay LM g c t τ0) (hF0 : Fr frO9 (fun _ => False) σ τ0) (h0 : OFF τ0 D els a n) : GG E mX12_far 88 [some (vr 172), none, some (vi b), some (vi n), some (vi (0 : Nat)), none] [] τ0 0 0 Q := by
  have r12 : rG D els ≤ 12 := hX.2.1.1
  have p1 := hX.2.2.1.1
  have k16 : ∀ τ, Fr frO9 (fun _ => False) σ τ → gI τ 172 16 = (rG D els : Int) := fun τ hF => (hF.i (by omega) (by omega)).trans h.k.1
  refine loopU (N := rG D els) (G := fun i τ => GG E mX12_far 88 [some (vr 172), none, some (vi b), some (vi n), some (vi i), none] [] τ 0 0 Q)
    (P := fun i τ => Lay LM g c t τ ∧ Fr frO9 (fun _ => False) σ τ ∧ OFM τ D els a n i 0) ?_ ?_ 0 τ0 (by omega) ⟨hL0, hF0, h0.start⟩
  · rintro i τ hi ⟨hL1, hF1, hv⟩ next
    refine B_X12_far_88 hL1 ?_
    rw [k16 τ hF1]
    refine ⟨fun h9 => absurd h9 (by omega), fun _ _ => ?_⟩
    refine loopU (N := rG D els) (G := fun k τ => GG E mX12_far 100 [some (vr 172), none, some (vi b), some (vi n), some (vi i), some (vi k)] [] τ 0 0 Q)
      (P := fun k τ => Lay LM g c t τ ∧ Fr frO9 (fun _ => False) σ τ ∧ OFM τ D els a n i k) ?_ ?_ 0 τ (by omega) ⟨hL1, hF1, hv⟩
    · rintro k ρ hk ⟨hL2, hF2, hw⟩ next2
      -- what is seen of i, k stays so
      have skip : (¬ (gI ρ 2966 i = n) ∨ gI ρ 2966 k ≠ -1 ∨ ¬ 0 < waN D els i k) → ∀ ρ2, Lay LM g c t ρ2 → Fr frF (fun _ => False) ρ ρ2 → GG E mX12_far 100 [some (vr 172), none, some (vi b), some (vi n), some (vi i), some (vi ((k + 1 : Nat) : Int))] [] ρ2 0 0 Q := by
        intro hs ρ2 hL3 hF3
        refine next2 ρ2 ⟨hL3, hF2.trans (hF3.mono (fun a j h9 => .inl h9) (fun _ h => h)), fun b' hb' => ?_⟩
        have e9 : gI ρ2 2966 b' = gI ρ 2966 b' := hF3.i (by omega) (by omega)
        rw [e9]
        rcases hw b' hb' with ⟨h1, h2, h3⟩ | h1
        · refine .inl ⟨h1, h2, fun j hj hjk => ?_⟩
          by_cases hjk2 : j = i ∧ b' = k
          · obtain ⟨rfl, rfl⟩ := hjk2
            rintro ⟨u1, u2⟩
            rcases hs with hs | hs | hs
            · rcases hw j hj with ⟨g1, g2, _⟩ | ⟨m, g1, g2, g3⟩
              · exact g2 n (Nat.le_refl _) u1
              · obtain ⟨m2, w1, w2⟩ := rch_l n u1
                have := lch_un w2 g3
                subst this
                have hmn : m2 < n := by
                  rcases Nat.lt_or_ge m2 n with h9 | h9
                  · exact h9
                  · exact absurd (show gI ρ 2966 j = n by rw [g2]; omega) hs
                exact h2 (m2 + 1) (by omega) ⟨j, hj, w2.1, u2⟩
            · exact hs h1
            · exact hs u2
          · exact h3 j hj (by omega)
        · exact .inr h1
      refine B_X12_far_100 hL2 ?_
      rw [k16 ρ hF2, show ((i : Nat) : Int).toNat = i by omega, show ((k : Nat) : Int).toNat = k by omega]
      refine ⟨fun h9 => absurd h9 (by omega), fun _ => ⟨⟨by omega, by omega⟩, fun hne => ⟨⟨by omega, by omega⟩, fun _ => skip (.inl hne) ρ hL2 (Fr.refl _)⟩, fun hin => ⟨⟨by omega, by omega⟩, fun hkn => ⟨⟨by omega, by omega⟩, fun _ => skip (.inr (.inl hkn)) ρ hL2 (Fr.refl _)⟩, fun hkm _ => ?_⟩⟩⟩
      have hm2 := h.fr hL2 hF2 (fun a j h9 => by omega) (fun _ h9 => h9)
      refine M_waysOf hm2 hX hi hk (fun ρ2 hL3 hF3 => ⟨hL3, fun _ => ⟨fun hle => ⟨⟨by omega, by omega⟩, fun _ => skip (.inr (.inr (by omega))) ρ2 hL3 hF3⟩, fun hgt => ⟨⟨by omega, by omega⟩, fun τ10 e10 => ⟨⟨by omega, by omega⟩, fun hL10 => ?_⟩⟩⟩⟩)
      have q10 : ∀ y, gI τ10 2966 y = if y = k then (n : Int) + 1 else gI ρ 2966 y := fun y => by
        rw [e10, gI_sI]
        by_cases hy : y = k
        · rw [if_pos ⟨rfl, hy⟩, if_pos hy]
        · rw [if_neg (fun h9 => hy h9.2), if_neg hy]
          exact hF3.i (by omega) (by omega)
      refine next2 τ10 ⟨hL10, (hF2.trans (hF3.mono (fun a j h9 => .inl h9) (fun _ h => h))).trans (by rw [e10]; exact Fr_of1 (.inr rfl)), fun b' hb' => ?_⟩
      rw [q10]
      by_cases hbk : b' = k
      · subst hbk
        rw [if_pos rfl]
        refine .inr ⟨n + 1, Nat.le_refl _, rfl, ?_⟩
        rcases hw b' hb' with ⟨h1, h2, h3⟩ | ⟨m, h1, h2, h3⟩
        · refine ⟨⟨i, hi, ?_, by omega⟩, fun m hm => h2 m (by omega)⟩
          rcases hw i hi with ⟨g1, _⟩ | ⟨m, g1, g2, g3⟩
          · omega
          · have : m = n := by omega
            subst this
            exact g3.1
        · omega
      · rw [if_neg hbk]
        rcases hw b' hb' with ⟨h1, h2, h3⟩ | h1
        · exact .inl ⟨h1, h2, fun j hj hjk => h3 j hj (by omega)⟩
        · exact .inr h1
    · rintro ρ ⟨hL2, hF2, hw⟩
      refine B_X12_far_100 hL2 ?_
      rw [k16 ρ hF2]
      exact ⟨fun _ => ⟨⟨by omega, by omega⟩, fun _ => next ρ ⟨hL2, hF2, hw.nx⟩⟩, fun h9 => absurd (by omega) h9⟩
  · rintro τ ⟨hL1, hF1, hv⟩
    refine B_X12_far_88 hL1 ?_
    rw [k16 τ hF1]
    exact ⟨fun _ => ⟨⟨by omega, by omega⟩, fun _ => hend τ hL1 hF1 hv.end⟩, fun h9 => absurd (by omega) h9⟩
theorem far_75 {a b : Nat} (h : MX g c t σ D els) (hX : FX D told els) (hb : b < rG D els) (hc : ∃ n, n ≤ 100 ∧ rch D els a n b)
    (hq : ∀ (n : Nat) τ, lch D els a n b → Lay LM g c t τ → Fr frO9 (fun _ => False) σ τ → Q (.inl (some (vi n))) τ) : ∀ (d n : Nat) τ, n + d = 101 → Lay LM g c t τ → Fr frO9 (fun _ => False) σ τ → OFF τ D els a n → GG E mX12_far 75 [some (vr 172), none, some (vi b), some (vi n), none, none] [] τ 0 0 Q := by
  have r12 : rG D els ≤ 12 := hX.2.1.1
  obtain ⟨n0, hn0, hr0⟩ := hc
  have stop : ∀ (n : Nat) τ, n ≤ 101 → Lay LM g c t τ → Fr frO9 (fun _ => False) σ τ → OFF τ D els a n → (gI τ 2966 b = -1 → GG E mX12_far 88 [some (vr 172), none, some (vi b), some (vi n), some (vi 0), none] [] τ 0 0 Q) → GG E mX12_far 75 [some (vr 172), none, some (vi b), some (vi n), none, none] [] τ 0 0 Q := by
    intro n τ hn hL1 hF1 hv hg
    refine B_X12_far_75 hL1 ?_
    rw [show ((b : Nat) : Int).toNat = b by omega]
    refine ⟨⟨by omega, by omega⟩, fun hne _ => ?_, fun he _ => hg he⟩
    rcases hv b hb with ⟨h1, _⟩ | ⟨m, h1, h2, h3⟩
    · exact absurd h1 hne
    · rw [h2]; exact hq m τ h3 hL1 hF1
  intro d
  induction d with
  | zero =>
    intro n τ hn hL1 hF1 hv
    refine stop n τ (by omega) hL1 hF1 hv (fun he => ?_)
    rcases hv b hb with ⟨_, h2⟩ | ⟨m, h1, h2, h3⟩
    · exact absurd hr0 (h2 n0 (by omega))
    · omega
  | succ d ih =>
    intro n τ hn hL1 hF1 hv
    exact stop n τ (by omega) hL1 hF1 hv (fun _ => far_100 h hX (by omega) (fun τ2 hL2 hF2 hv2 => ih (n + 1) τ2 (by omega) hL2 hF2 hv2) hL1 hF1 hv)
theorem far_43 {a b : Nat} (h : MX g c t σ D els) (hX : FX D told els) (ha : a < rG D els) (hb : b < rG D els) (hc : ∃ n, n ≤ 100 ∧ rch D els a n b)
    (hq : ∀ (n : Nat) τ, lch D els a n b → Lay LM g c t τ → Fr frO9 (fun _ => False) σ τ → Q (.inl (some (vi n))) τ) : GG E mX12_far 43 [some (vr 172), some (vi a), some (vi b), some (vi 0), none, none] [] σ 0 0 Q := by
  have r12 : rG D els ≤ 12 := hX.2.1.1
  refine loopU (N := rG D els) (G := fun k τ => GG E mX12_far 43 [some (vr 172), some (vi a), some (vi b), some (vi k), none, none] [] τ 0 0 Q)
    (P := fun k τ => Lay LM g c t τ ∧ Fr frO9 (fun _ => False) σ τ ∧ ∀ j, j < k → gI τ 2966 j = if j = a then 0 else -1) ?_ ?_ 0 σ (by omega) ⟨h.1, Fr.refl _, fun j hj => absurd hj (by omega)⟩
  · rintro k τ hk ⟨hL1, hF1, hv⟩ next
    have k16 : gI τ 172 16 = (rG D els : Int) := (hF1.i (by omega) (by omega)).trans h.k.1
    refine B_X12_far_43 hL1 ?_
    rw [k16, show ((k : Nat) : Int).toNat = k by omega]
    refine ⟨fun h9 => absurd h9 (by omega), fun _ => ⟨fun hne => ⟨⟨by omega, by omega⟩, fun τ2 e2 => ⟨⟨by omega, by omega⟩, fun hL2 => next τ2 ⟨hL2, by rw [e2]; exact hF1.sI (.inr rfl), fun j hj => ?_⟩⟩⟩, fun he => ⟨⟨by omega, by omega⟩, fun τ2 e2 => ⟨⟨by omega, by omega⟩, fun hL2 => next τ2 ⟨hL2, by rw [e2]; exact hF1.sI (.inr rfl), fun j hj => ?_⟩⟩⟩⟩⟩
    · rw [e2, gI_sI]
      by_cases hjk : j = k
      · rw [if_pos ⟨rfl, hjk⟩, if_neg (by omega)]
      · rw [if_neg (fun h9 => hjk h9.2)]; exact hv j (by omega)
    · rw [e2, gI_sI]
      by_cases hjk : j = k
      · rw [if_pos ⟨rfl, hjk⟩, if_pos (by omega)]
      · rw [if_neg (fun h9 => hjk h9.2)]; exact hv j (by omega)
  · rintro τ ⟨hL1, hF1, hv⟩
    have k16 : gI τ 172 16 = (rG D els : Int) := (hF1.i (by omega) (by omega)).trans h.k.1
    refine B_X12_far_43 hL1 ?_
    rw [k16]
    refine ⟨fun _ _ => far_75 h hX hb hc hq 101 0 τ (by omega) hL1 hF1 (fun k hk => ?_), fun h9 => absurd (by omega) h9⟩
    have e := hv k hk
    by_cases hka : k = a
    · rw [if_pos hka] at e
      exact .inr ⟨0, Nat.le_refl _, e, hka, fun m hm => absurd hm (by omega)⟩
    · rw [if_neg hka] at e
      refine .inl ⟨e, fun m hm => ?_⟩
      have : m = 0 := by omega
      subst this
      exact hka
theorem M_far {x1 x2 : Int} (h : MI KMd g c t σ D told els past B F W R) (hX : FX D told els) (hN : CONN D els) (hRB : ∀ i, i < 3 → inR (R i + 1))
    (h0 : (bd1 D els x1 ∨ bd1 D els x2) → ∀ τ, MI KMd g c t τ D told els past B F W (bmp R 0) → gI τ 172 0 = 1 → Q (.inl (some (vi 0))) τ)
    (h2 : ∀ i a n : Nat, x1 = i → x2 = a → i < rG D els → a < rG D els → lch D els i n a → ∀ τ, MI KMd g c t τ D told els past B F W R → gI τ 172 0 = 0 → Q (.inl (some (vi n))) τ) : CC E mX12_far [vr 172, vi x1, vi x2] σ Q := by
  refine C_X12_far (B_X12_far_0 h.1 (fun τ1 e1 hL1 => ?_))
  obtain ⟨hI, q0⟩ := h.go KMd_fm e1
  have hn := hI.c16
  refine S_isClass hL1 hn.1 hn.2 (fun y y1 y0 => ⟨hL1, fun _ => ⟨fun hy _ => ?_, fun hy _ => S_isClass hL1 hn.1 hn.2 (fun z z1 z0 => ⟨hL1, fun _ => ⟨fun hz _ => ?_, fun hz _ => ?_⟩⟩)⟩⟩)
  · have hb := of_eq8 y1 hy
    exact S_bad1 (r := 0) hL1 hI KMd_fm q0 (by decide) (by decide) (by decide) (hRB 0 (by omega)) (fun τ hIτ qτ => ⟨hIτ.1, fun _ => ⟨fun h9 => absurd h9 (by decide), fun _ _ => h0 (by omega) τ hIτ qτ⟩⟩)
  · have hb := of_ne8 y0 hy
    have hb2 := of_ne8 z0 hz
    obtain ⟨i, rfl⟩ : ∃ i : Nat, x1 = i := ⟨x1.toNat, by omega⟩
    obtain ⟨a, rfl⟩ : ∃ a : Nat, x2 = a := ⟨x2.toNat, by omega⟩
    have hi : i < rG D els := by omega
    have ha : a < rG D els := by omega
    refine S_bad0 hL1 q0 ⟨hL1, fun _ => ⟨fun _ _ => M_laysRows hI hX.1 hX.2.1 (fun τ hI2 _ hK2 z2 => ⟨hI2.1, fun _ => far_43 (hI2.mx hK2) hX hi ha (hN i a hi ha) (fun n τ3 hl hL3 hF3 => ?_)⟩), fun h9 => absurd rfl h9⟩⟩
    obtain ⟨hI3, z3⟩ := hI2.aft hL3 hF3 (fun a j h9 => by omega)
    exact h2 i a n rfl rfl hi ha hl τ3 hI3 ((z3.trans z2).trans q0)
  · have hb := of_eq8 z1 hz
    exact S_bad1 (r := 0) hL1 hI KMd_fm q0 (by decide) (by decide) (by decide) (hRB 0 (by omega)) (fun τ hIτ qτ => ⟨hIτ.1, fun _ => ⟨fun h9 => absurd h9 (by decide), fun _ _ => h0 (by omega) τ hIτ qτ⟩⟩)
end SC4
