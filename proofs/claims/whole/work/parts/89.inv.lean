/-! ===== invariants ===== -/
abbrev I4 : Type := Int × Int × Int × Int
def dvS (D a b : Int) (s : I4) : I4 := ((a * s.1 + (D * b) * s.2.1).tdiv 2 - s.2.2.1, (a * s.2.1 + b * s.1).tdiv 2 - s.2.2.2, s.1, s.2.1)
def dv (D a b : Int) : Nat → I4
  | 0 => (2, 0, 0, 0)
  | n + 1 => dvS D a b (dv D a b n)
def dvIn (s : I4) : Bool := decide (-1000 ≤ s.1 ∧ s.1 ≤ 1000 ∧ -1000 ≤ s.2.1 ∧ s.2.1 ≤ 1000 ∧ -1000 ≤ s.2.2.1 ∧ s.2.2.1 ≤ 1000 ∧ -1000 ≤ s.2.2.2 ∧ s.2.2.2 ≤ 1000)
def dvAll (D a b : Int) : Nat → I4 → Bool
  | 0, s => dvIn s
  | n + 1, s => dvIn s && dvAll D a b n (dvS D a b s)
theorem dvAll_in {D a b : Int} : ∀ (n k : Nat), dvAll D a b n (dv D a b k) = true → ∀ j, k ≤ j → j ≤ k + n → dvIn (dv D a b j) = true := by
  intro n
  induction n with
  | zero =>
    intro k h j h1 h2
    have : j = k := by omega
    subst this
    exact h
  | succ n ih =>
    intro k h j h1 h2
    unfold dvAll at h
    rw [Bool.and_eq_true] at h
    by_cases hjk : j = k
    · subst hjk; exact h.1
    · exact ih (k + 1) h.2 j (by omega) (by omega)
theorem dv_chk : (List.range 9).all (fun i => (List.range 9).all (fun j => ([2, 3, 5] : List Int).all (fun D => match trO D ((i : Int) - 4) ((j : Int) - 4) with
    | some (k + 1) => dvAll D ((i : Int) - 4) ((j : Int) - 4) 200 (2, 0, 0, 0)
    | _ => true))) = true := by decide +kernel
theorem dv_bd {D : Int} {told els : List (List Int)} (hC : Clo D told els) (hD : D = 2 ∨ D = 3 ∨ D = 5) {k : Nat} (hk : k < els.length) : ∀ n, n ≤ 200 → dvIn (dv D (gd (els.getD k []) 0) (gd (els.getD k []) 1) n) = true := by
  have ht := hC.od_tr hD hk
  have o := (od_s hC.isG hk).1
  have bd := (hC.2.2.2.2.1 k hk).2.bd (show 1 ≤ D by omega)
  have ha := bd 0 (by omega)
  have hb := bd 1 (by omega)
  generalize gd (els.getD k []) 0 = a at *
  generalize gd (els.getD k []) 1 = b at *
  have h1 := List.all_eq_true.mp dv_chk (a + 4).toNat (List.mem_range.mpr (by omega))
  have h2 := List.all_eq_true.mp h1 (b + 4).toNat (List.mem_range.mpr (by omega))
  have h3 := List.all_eq_true.mp h2 D (by rcases hD with rfl | rfl | rfl <;> simp)
  rw [show (((a + 4).toNat : Nat) : Int) - 4 = a by omega, show (((b + 4).toNat : Nat) : Int) - 4 = b by omega, ht] at h3
  obtain ⟨q, hq⟩ : ∃ q, od els.length (gmt D els) k = q + 1 := ⟨od els.length (gmt D els) k - 1, by omega⟩
  rw [hq] at h3
  intro n hn
  exact dvAll_in 200 0 h3 n (by omega) (by omega)
theorem dvIn_iff {s : I4} : dvIn s = true ↔ (-1000 ≤ s.1 ∧ s.1 ≤ 1000 ∧ -1000 ≤ s.2.1 ∧ s.2.1 ≤ 1000 ∧ -1000 ≤ s.2.2.1 ∧ s.2.2.1 ≤ 1000 ∧ -1000 ≤ s.2.2.2 ∧ s.2.2.2 ≤ 1000) := by
  unfold dvIn; exact decide_eq_true_iff
/-- class numbers, leasts, sizes -/
noncomputable def rsN (N : Nat) (m : Nat → Nat → Nat) : Nat := (clAll N m N).2.1
noncomputable def csN (N : Nat) (m : Nat → Nat → Nat) (k : Nat) : Nat := ((clAll N m N).1 k).toNat
noncomputable def lsN (N : Nat) (m : Nat → Nat → Nat) (c : Nat) : Nat := ((clAll N m N).2.2.1 c).toNat
noncomputable def zsN (N : Nat) (m : Nat → Nat → Nat) (c : Nat) : Nat := cntF (clAll N m N).1 (c : Int) N
theorem csN_s {N : Nat} {m : Nat → Nat → Nat} (h : IsG N m) {k : Nat} (hk : k < N) : (clAll N m N).1 k = (csN N m k : Int) ∧ csN N m k < rsN N m := by
  obtain ⟨i1, i2, i3, i4, i5, i6, i7⟩ := clAll_ok h N (Nat.le_refl _)
  have h1 := i1 k hk
  have h2 := i2 k hk
  unfold csN rsN
  omega
theorem lsN_s {N : Nat} {m : Nat → Nat → Nat} (h : IsG N m) {c : Nat} (hc : c < rsN N m) : (clAll N m N).2.2.1 c = (lsN N m c : Int) ∧ lsN N m c < N ∧ csN N m (lsN N m c) = c ∧ ∀ k, k < N → csN N m k = c → lsN N m c ≤ k := by
  obtain ⟨i1, i2, i3, i4, i5, i6, i7⟩ := clAll_ok h N (Nat.le_refl _)
  obtain ⟨l, l1, l2, l3, l4⟩ := i3 c hc
  have e : lsN N m c = l := by unfold lsN; rw [l1]; omega
  rw [e]
  refine ⟨l1, l2, ?_, fun k hk hkc => l4 k hk ?_⟩
  · unfold csN; rw [l3]; omega
  · rw [(csN_s h hk).1, hkc]
theorem zsN_s {N : Nat} {m : Nat → Nat → Nat} (h : IsG N m) {c : Nat} (hc : c < rsN N m) : (clAll N m N).2.2.2.1 c = (zsN N m c : Int) := (clAll_ok h N (Nat.le_refl _)).2.2.2.2.2.1 c hc
theorem csN_tn {N : Nat} {m : Nat → Nat → Nat} (h : IsG N m) {a b : Nat} (ha : a < N) (hb : b < N) : csN N m a = csN N m b ↔ ∃ x, x < N ∧ b = tn N m a x := by
  obtain ⟨i1, i2, i3, i4, i5, i6, i7⟩ := clAll_ok h N (Nat.le_refl _)
  constructor
  · intro e
    refine i5 a b ha hb (i2 a ha) ?_
    rw [(csN_s h ha).1, (csN_s h hb).1, e]
  · rintro ⟨x, hx, e⟩
    unfold csN
    rw [e, i4 a x ha hx]
section S89
variable {E : Ev} {σ : Sg} {Q : NO → Sg → Prop} {g : Sg} {c t : Nat}
variable {K : Int → List (List Int) → Sg → Prop} {D : Int} {told els : List (List Int)} {past : List (List (List Int))} {B : List Int} {F : Int} {W R : Nat → Int}
theorem S_doubledValue {a b D : Int} {n : Nat} (ha : -4 ≤ a ∧ a ≤ 4) (hb : -4 ≤ b ∧ b ≤ 4) (hD : 0 ≤ D ∧ D ≤ 5) (hn : n ≤ 200) (hv : ∀ k, k ≤ 200 → dvIn (dv D a b k) = true) (hq : Q (.inl (some (vi (dv D a b n).1))) σ) : CC E mX6_doubledValue [vi a, vi b, vi D, vi n] σ Q := by
  refine C_X6_doubledValue (B_X6_doubledValue_0 ?_)
  refine loopU (N := n) (G := fun i τ => GG E mX6_doubledValue 15 [some (vi a), some (vi b), some (vi D), some (vi n), some (vi (dv D a b i).1), some (vi (dv D a b i).2.1), some (vi (dv D a b i).2.2.1), some (vi (dv D a b i).2.2.2), some (vi i), none, none] [] τ 0 0 Q) (P := fun i τ => τ = σ) ?_ ?_ 0 σ (by omega) rfl
  · rintro i τ hi rfl next
    have hs := dvIn_iff.mp (hv i (by omega))
    have hs2 := dvIn_iff.mp (hv (i + 1) (by omega))
    have K9 := next τ rfl
    have e : dv D a b (i + 1) = dvS D a b (dv D a b i) := rfl
    rw [e] at hs2 K9
    unfold dvS at hs2 K9
    dsimp only at hs2 K9
    generalize dv D a b i = s at *
    obtain ⟨p, q, lp, lq⟩ := s
    dsimp only at hs hs2 K9 ⊢
    have a1 := m4 (show a.natAbs ≤ 4 by omega) (show p.natAbs ≤ 1000 by omega)
    have a2 := m4 (show D.natAbs ≤ 5 by omega) (show b.natAbs ≤ 4 by omega)
    have a3 := m4 a2 (show q.natAbs ≤ 1000 by omega)
    have a4 := m4 (show a.natAbs ≤ 4 by omega) (show q.natAbs ≤ 1000 by omega)
    have a5 := m4 (show b.natAbs ≤ 4 by omega) (show p.natAbs ≤ 1000 by omega)
    have t1 : ((a * p + D * b * q).tdiv 2).natAbs ≤ 24000 := by rw [Int.natAbs_tdiv]; exact Nat.le_trans (Nat.div_le_self _ _) (by omega)
    have t2 : ((a * q + b * p).tdiv 2).natAbs ≤ 24000 := by rw [Int.natAbs_tdiv]; exact Nat.le_trans (Nat.div_le_self _ _) (by omega)
    exact B_X6_doubledValue_15 ⟨fun h => absurd h (by omega), fun _ => ⟨fun h => absurd h (by omega), fun _ => ⟨⟨by omega, by omega⟩, ⟨by omega, by omega⟩, ⟨by omega, by omega⟩, ⟨by omega, by omega⟩, ⟨by omega, by omega⟩, ⟨by omega, by omega⟩, ⟨by omega, by omega⟩, ⟨by omega, by omega⟩, ⟨by omega, by omega⟩, ⟨by omega, by omega⟩, ⟨by omega, by omega⟩, ⟨by omega, by omega⟩, K9⟩⟩⟩
  · rintro τ rfl
    exact B_X6_doubledValue_15 ⟨fun _ => hq, fun h9 => absurd (by omega) h9⟩
/-- doubled sums over classes -/
noncomputable def dsum (D : Int) (els : List (List Int)) (n : Nat) : Nat → Int
  | 0 => 0
  | k + 1 => dsum D els n k + (zsN els.length (gmt D els) k : Int) * (dv D (gd (els.getD (lsN els.length (gmt D els) k) []) 0) (gd (els.getD (lsN els.length (gmt D els) k) []) 1) n).1
noncomputable def invV (D : Int) (els : List (List Int)) (n : Nat) : Int := (dsum D els n (rsN els.length (gmt D els))).tdiv (2 * (els.length : Int))
theorem rsN_le (N : Nat) (m : Nat → Nat → Nat) : rsN N m ≤ N := (clAll_le N m N).1
theorem dsum_bd {D : Int} {told els : List (List Int)} (hC : Clo D told els) (hD : D = 2 ∨ D = 3 ∨ D = 5) {n : Nat} (hn : n ≤ 200) : ∀ k, k ≤ rsN els.length (gmt D els) → (dsum D els n k).natAbs ≤ 120000 * k := by
  intro k
  induction k with
  | zero => intro _; exact Nat.le_refl _
  | succ k ih =>
    intro hk
    have h1 := ih (by omega)
    have hl := (lsN_s hC.isG (show k < rsN els.length (gmt D els) by omega)).2.1
    have hs := dvIn_iff.mp (dv_bd hC hD hl n hn)
    have hz := cntF_le (clAll els.length (gmt D els) els.length).1 (k : Int) els.length
    have h120 := hC.1
    have a1 := m4 (show ((zsN els.length (gmt D els) k : Nat) : Int).natAbs ≤ 120 by unfold zsN; omega) (show (dv D (gd (els.getD (lsN els.length (gmt D els) k) []) 0) (gd (els.getD (lsN els.length (gmt D els) k) []) 1) n).1.natAbs ≤ 1000 by omega)
    show (dsum D els n k + _ * _).natAbs ≤ _
    omega
theorem X_invariants {x : Int} (h : CI K g c t σ D told els past B F W R) (hK : KF K) (hRB : ∀ i, i < 3 → inR (R i + 1)) (hC : Clo D told els) (hD : D = 2 ∨ D = 3 ∨ D = 5)
    (h0 : (x < 0 ∨ 200 < x) → ∀ τ, CI K g c t τ D told els past B F W (bmp R 1) → Q (.inr 1) τ)
    (h2 : ∀ n : Nat, x = n → n ≤ 200 → Q (.inl (some (vi (invV D els n)))) σ) : CC E mX11_invariants [vr 16, vi x] σ Q := by
  have hL := h.1
  have hG : GAll σ D els := h.2.2.2.1
  have hI := hC.isG
  have n120 := hC.1
  have npos := hC.2.1
  have cr := hL.isc.rg
  refine C_X11_invariants (B_X11_invariants_0 hL ⟨by decide, by decide, fun _ => ?_⟩)
  refine S_needBetween hL h.2.2.2.2.2.2.2.2.1 (hRB 1 (by omega)) (fun k0 k1 => ⟨hL, fun _ => ?_⟩) (fun τ hk hLτ hFτ hRτ => h0 hk τ (h.ref hK hLτ hFτ hRτ))
  obtain ⟨n, rfl⟩ : ∃ n : Nat, x = n := ⟨x.toNat, by omega⟩
  have hn : n ≤ 200 := by omega
  have hr := rsN_le els.length (gmt D els)
  have h7 : gI σ 24 7 = (rsN els.length (gmt D els) : Int) := hG.2.2.2.1.2.1
  refine C_X6_countInvariants (B_X6_countInvariants_0 hL hL.isc (fun _ => ?_))
  refine loopU (N := rsN els.length (gmt D els)) (G := fun i τ => GG E mX6_countInvariants 6 [none, some (vr 24), some (vr c), some (vi n), some (vi (dsum D els n i)), some (vi i), none, none, none] [] τ 0 0 _) (P := fun i τ => τ = σ) ?_ ?_ 0 σ (by omega) rfl
  · rintro i τ hi rfl next
    obtain ⟨l1, l2, l3, l4⟩ := lsN_s hI hi
    have hz := zsN_s hI hi
    have hA := hG.2.2.2.1.2.2.1 i hi
    have hE := h.2.2.1.2.2 _ l2
    have bd := hE.1.2.bd (show 1 ≤ D by omega)
    have b1 := dsum_bd hC hD hn i (by omega)
    have b2 := dsum_bd hC hD hn (i + 1) (by omega)
    have e9 : dsum D els n (i + 1) = dsum D els n i + (zsN els.length (gmt D els) i : Int) * (dv D (gd (els.getD (lsN els.length (gmt D els) i) []) 0) (gd (els.getD (lsN els.length (gmt D els) i) []) 1) n).1 := rfl
    rw [e9] at next b2
    refine B_X6_countInvariants_6 hL hL.isc ?_
    rw [h7]
    refine ⟨fun h => absurd h (by omega), fun _ _ => S_atN (by decide) (sh29 hL) (by decide) (by omega) ⟨hL, fun _ => ?_⟩⟩
    rw [hA.1, l1, show ((lsN els.length (gmt D els) i : Nat) : Int) * 8 = ((8 * lsN els.length (gmt D els) i + 0 : Nat) : Int) by omega]
    refine ⟨⟨by omega, by omega⟩, fun _ => S_atN (n := 960) (by omega) (hL.isc.s hL (k := 1) (by decide)) (by decide) (by omega) ⟨hL, fun _ => ⟨⟨by omega, by omega⟩, fun _ => ?_⟩⟩⟩
    rw [show ((8 * lsN els.length (gmt D els) i + 0 : Nat) : Int) + 1 = ((8 * lsN els.length (gmt D els) i + 1 : Nat) : Int) by omega]
    refine S_atN (n := 960) (by omega) (hL.isc.s hL (k := 1) (by decide)) (by decide) (by omega) ⟨hL, fun _ _ => S_atN (by decide) (sh30 hL) (by decide) (by omega) ⟨hL, fun _ _ => ?_⟩⟩
    rw [show c + 1 + 1 = c + 2 by omega, hE.2 0 (by omega), hE.2 1 (by omega), hA.2, hz, h.2.1.1]
    have hs := dvIn_iff.mp (dv_bd hC hD l2 n hn)
    refine S_doubledValue (bd 0 (by omega)) (bd 1 (by omega)) (by omega) hn (fun k hk => dv_bd hC hD l2 k hk) ⟨hL, fun _ => ?_⟩
    have hzl := cntF_le (clAll els.length (gmt D els) els.length).1 (i : Int) els.length
    have a1 := m4 (show ((zsN els.length (gmt D els) i : Nat) : Int).natAbs ≤ 120 by unfold zsN; omega) (show (dv D (gd (els.getD (lsN els.length (gmt D els) i) []) 0) (gd (els.getD (lsN els.length (gmt D els) i) []) 1) n).1.natAbs ≤ 1000 by omega)
    exact ⟨⟨by omega, by omega⟩, ⟨by omega, by omega⟩, ⟨by omega, by omega⟩, fun _ => next τ rfl⟩
  · rintro τ rfl
    have b1 := dsum_bd hC hD hn _ (Nat.le_refl (rsN els.length (gmt D els)))
    refine B_X6_countInvariants_6 hL hL.isc ?_
    rw [h7, hG.1.1]
    have hq := h2 n rfl hn
    have t1 : ((dsum D els n (rsN els.length (gmt D els))).tdiv (2 * (els.length : Int))).natAbs ≤ 120000 * 120 := by
      rw [Int.natAbs_tdiv]
      exact Nat.le_trans (Nat.div_le_self _ _) (by omega)
    refine ⟨fun _ => ⟨fun _ => ⟨⟨by omega, by omega⟩, by omega, ⟨by omega, by omega⟩, fun _ => ⟨hL, fun _ _ => hq⟩⟩, fun h9 => absurd (by omega) h9⟩, fun h9 => absurd (by omega) h9⟩
end S89
