/-! ===== the reference lays its rows ===== -/
theorem wL_bm (x : Int) : wL x = x.bmod 18446744073709551616 := by unfold wL; exact Int64.toInt_ofInt
theorem wL_cg {x y : Int} (h : x % 18446744073709551616 = y % 18446744073709551616) : wL x = wL y := by
  rw [wL_bm, wL_bm, Int.bmod_def, Int.bmod_def]
  omega
theorem wL_md (x : Int) : wL x % 18446744073709551616 = x % 18446744073709551616 := by
  rw [wL_bm, Int.bmod_def]
  omega
theorem lc_step (X : Nat) : wL (wL (wL (X : Int) * 6364136223846793005) + 1442695040888963407) = wL ((lcN X : Nat) : Int) := by
  apply wL_cg
  unfold lcN
  have h : (wL (wL (X : Int) * 6364136223846793005) + 1442695040888963407) % 18446744073709551616 = ((X : Int) * 6364136223846793005 + 1442695040888963407) % 18446744073709551616 := by
    rw [Int.add_emod, wL_md, Int.mul_emod, wL_md, ← Int.mul_emod, ← Int.add_emod]
  rw [h]
  omega
theorem u64_tn {n : Nat} (h : n < 2 ^ 64) : (UInt64.ofNat n).toNat = n := Nat.mod_eq_of_lt h
theorem i64_nat (X : Nat) : Int64.ofInt (X : Int) = Int64.ofNat X := by
  apply Int64.toBitVec_inj.mp
  exact BitVec.ofInt_natCast 64 X
theorem lc_top {X : Nat} (h : X < 18446744073709551616) : b_lushrq (wL (X : Int)) 33 = ((X / 8589934592 : Nat) : Int) := by
  unfold b_lushrq
  rw [wL_of, i64_nat]
  have hy : ((Int32.ofInt 33).toInt64.toUInt64 &&& Int64.toUInt64 63) = UInt64.ofNat 33 := by decide +kernel
  rw [hy]
  have e : UInt64.ofNat X >>> UInt64.ofNat 33 = UInt64.ofNat (X / 2 ^ 33) := UInt64.toNat_inj.mp (by rw [UInt64.toNat_shiftRight, u64_tn h, u64_tn (by decide), u64_tn (Nat.lt_of_le_of_lt (Nat.div_le_self _ _) h), Nat.shiftRight_eq_div_pow])
  have e2 : ((Int64.ofNat X).toUInt64 >>> UInt64.ofNat 33).toInt64 = Int64.ofNat (X / 2 ^ 33) := congrArg UInt64.toInt64 e
  rw [e2, ← i64_nat]
  exact wL_id ⟨by omega, by omega⟩
theorem lcN_lt (X : Nat) : lcN X < 18446744073709551616 := Nat.mod_lt _ (by decide)
theorem ahd_ex {r : Nat} {d1 d2 : Int} {u v u' v' : Nat → Int} (hu : ∀ a, a < r → u a = u' a) (hv : ∀ a, a < r → v a = v' a) (h : ahd r d1 u d2 v) : ahd r d1 u' d2 v' := by
  have o1 : ∀ {x y : Nat → Int}, (∀ a, a < r → x a = y a) → one9 r x → one9 r y := fun e o a ha => by rw [← e a ha]; exact o a ha
  rcases h with ⟨h1, h2⟩ | ⟨h1, h2, h3⟩
  · exact .inl ⟨o1 hu h1, fun h9 => h2 (o1 (fun a ha => (hv a ha).symm) h9)⟩
  · refine .inr ⟨fun h9 => h1 (o1 (fun a ha => (hu a ha).symm) h9), fun h9 => h2 (o1 (fun a ha => (hv a ha).symm) h9), ?_⟩
    rcases h3 with h3 | ⟨h3, a, a1, a2, a3⟩
    · exact .inl h3
    · exact .inr ⟨h3, a, a1, fun b hb => by rw [← hu b (by omega), ← hv b (by omega)]; exact a2 b hb, by rw [← hu a a1, ← hv a a1]; exact a3⟩
theorem inj_le {n r : Nat} {s : Nat → Nat} (h1 : ∀ j, j < n → s j < r) (h2 : ∀ i j, i < n → j < n → s i = s j → i = j) : n ≤ r := by
  apply Nat.not_lt.mp
  intro h
  obtain ⟨i, j, a, b, e⟩ := pigeon r s (fun i hi => h1 i (by omega))
  have := h2 i j (by omega) (by omega) e
  omega
theorem sur_le {n r : Nat} {s : Nat → Nat} (h : ∀ i, i < r → ∃ j, j < n ∧ s j = i) : r ≤ n := by
  have c : ∃ q : Nat → Nat, ∀ i, i < r → q i < n ∧ s (q i) = i := ⟨fun i => theN (fun j => j < n ∧ s j = i), fun i hi => theN_of (h i hi)⟩
  obtain ⟨q, hq⟩ := c
  exact inj_le (s := q) (fun j hj => (hq j hj).1) (fun i j hi hj e => by rw [← (hq i hi).2, ← (hq j hj).2, e])
/-- the reference's cells of characters -/
def KMd (D : Int) (els : List (List Int)) (σ : Sg) : Prop :=
  rG D els ≤ 12 ∧ CplM σ els.length (gmt D els) ∧ ∀ j, j < rG D els → (2914 ≤ gR σ 2913 j ∧ gR σ 2913 j < 2962) ∧ gI σ 2962 j = (dgC D els j : Int) ∧ ∀ a, a < rG D els → gI σ (gR σ 2913 j) a = vlC D els j a
theorem CplM.fr {W : Nat → Nat → Prop} {V : Nat → Prop} {σ τ : Sg} {N : Nat} {m : Nat → Nat → Nat} (h : CplM σ N m) (h48 : rsN N m ≤ 48) (k : Fr W V σ τ) (w : ∀ a j, 557 ≤ a → a < 2861 → ¬ W a j) : CplM τ N m := fun a b c ha hb hc => (k.i (by omega) (w _ _ (by omega) (by omega))).trans (h a b c ha hb hc)
theorem KMd_fm : KFM KMd := by
  intro D els σ τ hF h
  refine ⟨h.1, h.2.1.fr (Nat.le_trans h.1 (by decide)) hF (fun a j h1 h2 h3 => by omega), fun j hj => ?_⟩
  obtain ⟨h1, h2, h3⟩ := h.2.2 j hj
  have e : gR τ 2913 j = gR σ 2913 j := hF.r (by omega) (by omega)
  rw [e]
  exact ⟨h1, (hF.i (by omega) (by omega)).trans h2, fun a ha => (hF.i (by omega) (by omega)).trans (h3 a ha)⟩
abbrev frLr : Nat → Nat → Prop := fun a k => (557 ≤ a ∧ a < 2963) ∨ (a = 172 ∧ k = 35)
abbrev frLv : Nat → Prop := fun a => a = 2861 ∨ a = 2913
/-- rows that are found so far: of numbers below n -/
def FD (τ : Sg) (D : Int) (els : List (List Int)) (mx : Nat → Int) (n f : Nat) (s : Nat → Nat) : Prop :=
  gI τ 172 35 = (f : Int) ∧ (∀ j, j < f → s j < rG D els ∧ mxS (rG D els) (omN D els) mx (s j) % (pN D els : Int) < n) ∧ (∀ i j, i < f → j < f → s i = s j → i = j) ∧ (∀ i, i < rG D els → mxS (rG D els) (omN D els) mx i % (pN D els : Int) < n → ∃ j, j < f ∧ s j = i) ∧
  ∀ j, j < f → gI τ 2962 j = (dgN D els (s j) : Int) ∧ ∀ a, a < rG D els → gI τ (gR τ 2913 j) a = chN D els (s j) a
theorem mxZ_rng {p : Nat} (hp : 0 < p) (X a : Nat) : 0 ≤ mxZ p X a ∧ mxZ p X a < (p : Int) := ⟨Int.natCast_nonneg _, Int.ofNat_lt.mpr (Nat.mod_lt _ hp)⟩
theorem mxZ_top {p : Nat} (X a : Nat) : (b_lushrq (wL ((lcN (lcI a X) : Nat) : Int)) 33).tmod (p : Int) = mxZ p X a := by
  rw [lc_top (lcN_lt _)]
  generalize hz : lcN (lcI a X) = z
  unfold mxZ
  show ((z / 8589934592 % p : Nat) : Int) = ((lcN (lcI a X) / 8589934592 % p : Nat) : Int)
  rw [hz]
section SB6
variable {E : Ev} {σ : Sg} {Q : NO → Sg → Prop} {g : Sg} {c t : Nat}
variable {D : Int} {els : List (List Int)}
theorem lr_42 {r p X : Nat} (hL : Lay LM g c t σ) (h16 : gI σ 172 16 = (r : Int)) (h18 : gI σ 172 18 = (p : Int)) (h48 : r ≤ 48) (hp : 2 ≤ p ∧ p ≤ 1000)
    (h : ∀ τ, Lay LM g c t τ → Fr (fun a _ => a = 2910) (fun _ => False) σ τ → (∀ a, a < r → gI τ 2910 a = mxZ p X a) → GG E mX12_laysRows 88 [some (vr 172), some (vl (wL ((lcI r X : Nat) : Int))), none, some (vi 1), some (vi 0), none] [] τ 0 0 Q) :
    GG E mX12_laysRows 42 [some (vr 172), some (vl (wL ((X : Nat) : Int))), none, some (vi 0), none, none] [] σ 0 0 Q := by
  refine loopU (N := r) (G := fun a τ => GG E mX12_laysRows 42 [some (vr 172), some (vl (wL ((lcI a X : Nat) : Int))), none, some (vi a), none, none] [] τ 0 0 Q)
    (P := fun n τ => Lay LM g c t τ ∧ Fr (fun a _ => a = 2910) (fun _ => False) σ τ ∧ ∀ a, a < n → gI τ 2910 a = mxZ p X a) ?_ ?_ 0 σ (by omega) ⟨hL, Fr.refl _, fun a ha => absurd ha (by omega)⟩
  · rintro a τ ha ⟨hL1, hF, hv⟩ next
    have k16 : gI τ 172 16 = (r : Int) := (hF.i (by omega) (by omega)).trans h16
    have k18 : gI τ 172 18 = (p : Int) := (hF.i (by omega) (by omega)).trans h18
    have hm2 := mxZ_rng (p := p) (by omega) X a
    have em := mxZ_top (p := p) X a
    have w : wL (mxZ p X a) = mxZ p X a := wL_id ⟨by omega, by omega⟩
    have next9 : ∀ y : Int, y = mxZ p X a → ∀ τ', Lay LM g c t τ' ∧ Fr (fun a _ => a = 2910) (fun _ => False) σ τ' ∧ (∀ b, b < a + 1 → gI τ' 2910 b = mxZ p X b) → GG E mX12_laysRows 42 [some (vr 172), some (vl (wL ((lcN (lcI a X) : Nat) : Int))), none, some (vi ((a + 1 : Nat) : Int)), none, none] [] τ' 0 0 Q := fun _ _ => next
    clear next
    generalize hq0 : mxZ p X a = q0 at *
    refine B_X12_laysRows_42 hL1 ?_
    rw [k16, k18, lc_step]
    generalize lcN (lcI a X) = z0 at *
    refine ⟨fun h9 => absurd h9 (by omega), fun _ v1 e1 => ?_⟩
    rw [e1, em, w, show ((a : Nat) : Int).toNat = a by omega]
    refine ⟨by omega, ⟨by omega, by omega⟩, ⟨by omega, by omega⟩, fun τ5 e5 => ⟨⟨by omega, by omega⟩, fun hL5 => next9 q0 rfl τ5 ⟨hL5, hF.trans (by rw [e5]; exact Fr_of1 rfl), fun b hb => ?_⟩⟩⟩
    rw [e5, gI_sI]
    by_cases hba : b = a
    · rw [if_pos ⟨rfl, hba⟩, hba, hq0]
    · rw [if_neg (fun h9 => hba h9.2)]; exact hv b (by omega)
  · rintro τ ⟨hL1, hF, hv⟩
    have k16 : gI τ 172 16 = (r : Int) := (hF.i (by omega) (by omega)).trans h16
    refine B_X12_laysRows_42 hL1 ?_
    rw [k16]
    exact ⟨fun _ _ => h τ hL1 hF hv, fun h9 => absurd (by omega) h9⟩
/-- the shift of the sheet -/
theorem shS_sm (N : Nat) (m : Nat → Nat → Nat) (mx : Nat → Int) (b e : Nat) (s : Int) : ∀ n, shS N m mx b e s n = s + sm (fun a => mx a * cpZ N m a b e) n := by
  intro n
  induction n with
  | zero => show s = s + 0; omega
  | succ n ih =>
    show shS N m mx b e s n + mx n * (cplN N m n b e : Int) = s + (sm (fun a => mx a * cpZ N m a b e) n + mx n * (cplN N m n b e : Int))
    rw [ih]; omega
theorem shV_A {N : Nat} {m : Nat → Nat → Nat} {p : Nat} {mx : Nat → Int} {n : Nat} {A : Nat → Nat → Int} (hA : ∀ e b, e < rsN N m → b < rsN N m → A e b = shV N m p mx n e b) : ShA p (rsN N m) (cpZ N m) mx n A := by
  intro e b he hb
  rw [hA e b he hb]
  unfold shV
  rw [em_id, shS_sm]
  congr 1
  unfold dl
  by_cases h : b = e
  · rw [if_pos h, if_pos h]; omega
  · rw [if_neg h, if_neg h]; omega
theorem mxS_ex {r : Nat} {om : Nat → Nat → Int} {mx mx' : Nat → Int} (h : ∀ a, a < r → mx a = mx' a) (i : Nat) : mxS r om mx i = mxS r om mx' i := sm_ext r (fun a ha => by rw [h a ha])
end SB6
