/-! ===== queries of elements: the class ===== -/
theorem xor_sg {x y : Int} (hx : inR x) (hy : inR y) : 0 ≤ b_ixorq x y ↔ (x < 0 ↔ y < 0) := by
  have e : ∀ a : Int32, a.toInt < 0 ↔ a.toBitVec.msb = true := fun a => by
    rw [BitVec.msb_eq_toInt, decide_eq_true_eq]; rfl
  have ex := e (Int32.ofInt x)
  have ey := e (Int32.ofInt y)
  rw [ii_toInt hx] at ex
  rw [ii_toInt hy] at ey
  rw [ex, ey, ← Int.not_lt]
  unfold b_ixorq
  rw [e, Int32.toBitVec_xor, BitVec.msb_xor]
  cases (Int32.ofInt x).toBitVec.msb <;> cases (Int32.ofInt y).toBitVec.msb <;> simp
def elV (D : Int) (els : List (List Int)) (f : Nat → Int) (o v : Nat → Nat) (k w : Nat) : Int := if w < 8 then gd (els.getD k []) w else if w = 8 then (o k : Int) else if w = 9 then (v k : Int) else f k
noncomputable abbrev elW (D : Int) (els : List (List Int)) (k w : Nat) : Int := elV D els (clAll els.length (gmt D els) els.length).1 (od els.length (gmt D els)) (iv els.length (gmt D els)) k w
/-- least of an order -/
def IsLo (N : Nat) (m : Nat → Nat → Nat) (x r : Int) : Prop := (∃ k : Nat, k < N ∧ (od N m k : Int) = x ∧ r = k ∧ ∀ j, j < k → (od N m j : Int) ≠ x) ∨ (r = -1 ∧ ∀ k, k < N → (od N m k : Int) ≠ x)
noncomputable def cntO (N : Nat) (m : Nat → Nat → Nat) (x : Int) (n : Nat) : Nat := nfold (fun k c => if (od N m k : Int) = x then c + 1 else c) n 0
theorem cntO_le (N : Nat) (m : Nat → Nat → Nat) (x : Int) : ∀ n, cntO N m x n ≤ n := by
  intro n
  induction n with
  | zero => exact Nat.le_refl _
  | succ n ih =>
    show (if (od N m n : Int) = x then cntO N m x n + 1 else cntO N m x n) ≤ n + 1
    split <;> omega
noncomputable def prtV (N : Nat) (m : Nat → Nat → Nat) (f : Nat → Int) (n : Nat) : Int := nfold (fun k v => wL (wL (31 * wL (wL (31 * v) + (od N m k : Int))) + f k)) n 0
section S81
variable {E : Ev} {σ : Sg} {Q : NO → Sg → Prop} {g : Sg} {c t : Nat}
variable {K : Int → List (List Int) → Sg → Prop} {D : Int} {told els : List (List Int)} {past : List (List (List Int))} {B : List Int} {F : Int} {W R : Nat → Int}
theorem S_floorMod {x : Int} {y : Nat} (hx : inR x) (hy : 1 ≤ y ∧ y ≤ 1000) (hq : Q (.inl (some (vi (x % (y : Int))))) σ) : CC E mJ9_floorMod_7cf53 [vi x, vi y] σ Q := by
  have hs := xor_sg hx (show inR (y : Int) from ⟨by omega, by omega⟩)
  have e1 := Int.mul_tdiv_add_tmod x (y : Int)
  have hb : (x.tmod (y : Int)) = x % (y : Int) - ((if 0 ≤ x ∨ (y : Int) ∣ x then 0 else (y : Int).natAbs : Nat) : Int) := Int.tmod_eq_emod
  have hpos := Int.emod_nonneg x (show (y : Int) ≠ 0 by omega)
  have hlt := Int.emod_lt_of_pos x (show (0 : Int) < (y : Int) by omega)
  refine C_J9_floorMod_7cf53 (B_J9_floorMod_7cf53_0 ⟨by omega, fun h => ?_, fun h => ⟨fun h0 => ?_, fun h0 => ?_⟩⟩)
  · have hx0 : 0 ≤ x := by
      have := hs.mp h
      omega
    rw [if_pos (.inl hx0)] at hb
    rw [show x.tmod (y : Int) = x % (y : Int) by omega]; exact hq
  · have hd : (y : Int) ∣ x := Int.dvd_iff_tmod_eq_zero.mpr h0
    rw [if_pos (.inr hd)] at hb
    rw [show x.tmod (y : Int) = x % (y : Int) by omega]; exact hq
  · have hx0 : ¬ (0 ≤ x) := fun h9 => h (hs.mpr ⟨fun h8 => by omega, fun h8 => by omega⟩)
    have hd : ¬ ((y : Int) ∣ x) := fun h9 => h0 (Int.dvd_iff_tmod_eq_zero.mp h9)
    rw [if_neg (fun h9 => h9.elim hx0 hd), Int.natAbs_natCast] at hb
    have : x.tmod (y : Int) + (y : Int) = x % (y : Int) := by omega
    rw [this]
    exact ⟨⟨by omega, by omega⟩, hq⟩
theorem X_element {k w : Int} (h : CI K g c t σ D told els past B F W R) (hK : KF K) (hRB : ∀ i, i < 3 → inR (R i + 1)) (n120 : els.length ≤ 120)
    (h0 : (k < 0 ∨ (els.length : Int) ≤ k) → ∀ τ, CI K g c t τ D told els past B F W (bmp R 0) → Q (.inr 0) τ)
    (h1 : 0 ≤ k → k < (els.length : Int) → (w < 0 ∨ 10 < w) → ∀ τ, CI K g c t τ D told els past B F W (bmp R 1) → Q (.inr 1) τ)
    (h2 : ∀ k' w' : Nat, k = k' → w = w' → k' < els.length → w' ≤ 10 → Q (.inl (some (vi (elW D els k' w')))) σ) : CC E mX11_element [vr 16, vi k, vi w] σ Q := by
  have hL := h.1
  have hG : GAll σ D els := h.2.2.2.1
  refine C_X11_element (B_X11_element_0 hL ⟨by decide, by decide, fun _ => ?_⟩)
  rw [hG.1.1]
  refine S_needIndex hL h.2.2.2.2.2.2.2.2.1 (hRB 0 (by omega)) (fun k0 k1 => ⟨hL, by decide, by decide, fun _ => ?_⟩) (fun τ hk hLτ hFτ hRτ => h0 hk τ (h.ref hK hLτ hFτ hRτ))
  refine S_needBetween hL h.2.2.2.2.2.2.2.2.1 (hRB 1 (by omega)) (fun w0 w1 => ⟨hL, ?_⟩) (fun τ hk hLτ hFτ hRτ => h1 k0 k1 hk τ (h.ref hK hLτ hFτ hRτ))
  obtain ⟨k', rfl⟩ : ∃ k' : Nat, k = k' := ⟨k.toNat, by omega⟩
  obtain ⟨w', rfl⟩ : ∃ w' : Nat, w = w' := ⟨w.toNat, by omega⟩
  have hk : k' < els.length := by omega
  have hq := h2 k' w' rfl rfl hk (by omega)
  unfold elW elV at hq
  refine ⟨fun he _ => S_atN (by decide) (sh27 hL) (by decide) (by omega) ⟨hL, fun _ _ => ?_⟩, fun he _ => S_atN (by decide) (sh26 hL) (by decide) (by omega) ⟨hL, fun _ _ => ?_⟩, fun he _ => S_atN (by decide) (sh28 hL) (by decide) (by omega) ⟨hL, fun _ _ => ?_⟩, fun he => ⟨⟨by omega, by omega⟩, ⟨by omega, by omega⟩, fun _ => ?_⟩⟩
  · rw [hG.2.2.1.1 k' hk]; rw [if_neg (by omega), if_pos (by omega)] at hq; exact hq
  · rw [hG.2.1 k' hk]; rw [if_neg (by omega), if_neg (by omega), if_pos (by omega)] at hq; exact hq
  · rw [hG.2.2.2.1.1 k' hk]; rw [if_neg (by omega), if_neg (by omega), if_neg (by omega)] at hq; exact hq
  · have cr := hL.isc.rg
    rw [show (k' : Int) * 8 + (w' : Int) = ((8 * k' + w' : Nat) : Int) by omega]
    refine S_atN (n := 960) (by omega) (hL.isc.s hL (k := 1) (by decide)) (by decide) (by omega) ⟨hL, fun _ _ => ?_⟩
    rw [(h.2.2.1.2.2 k' hk).2 w' (by omega)]
    rw [if_pos (by omega)] at hq; exact hq
theorem X_find {x0 x1 x2 x3 x4 x5 x6 x7 : Int} (h : CI K g c t σ D told els past B F W R) (hK : KF K) (hnd : els.Nodup)
    (hq : ∀ τ, CI K g c t τ D told els past B F W R → Q (.inl (some (vi (fnd els [x0, x1, x2, x3, x4, x5, x6, x7])))) τ) : CC E mX11_find [vr 16, vi x0, vi x1, vi x2, vi x3, vi x4, vi x5, vi x6, vi x7] σ Q := by
  have hL := h.1
  refine C_X11_find (B_X11_find_0 hL (fun _ => S_ask0 hL (fun τ2 hL2 hF2 q2 => ⟨hL2, fun _ => S_ask4 hL2 (fun τ3 hL3 hF3 q3 q3' => ⟨hL3, fun _ => ?_⟩)⟩)))
  have c3 : CI K g c t τ3 D told els past B F W R := (h.scr hK hL2 hF2 (fun a j h9 => .inl h9) (fun _ h => h.elim)).scr hK hL3 hF3 (fun a j h9 => .inl h9) (fun _ h => h.elim)
  refine S_numberOfEl (n := 8) hL3 hL3.isc (PA.of (i := 51) (lo := 155) (hi := 156) rfl (by omega) (by omega) (by decide) (by decide)) (by omega) c3.2.2.1 hnd (z := [x0, x1, x2, x3, x4, x5, x6, x7]) rfl (fun j hj => ?_) ⟨hL3, fun _ _ => hq τ3 c3⟩
  have : j = 0 ∨ j = 1 ∨ j = 2 ∨ j = 3 ∨ j = 4 ∨ j = 5 ∨ j = 6 ∨ j = 7 := by omega
  rcases this with rfl | rfl | rfl | rfl | rfl | rfl | rfl | rfl
  · exact (q3 0 (by omega)).trans (q2 0 (by omega))
  · exact (q3 1 (by omega)).trans (q2 1 (by omega))
  · exact (q3 2 (by omega)).trans (q2 2 (by omega))
  · exact (q3 3 (by omega)).trans (q2 3 (by omega))
  · exact q3' 0 (by omega)
  · exact q3' 1 (by omega)
  · exact q3' 2 (by omega)
  · exact q3' 3 (by omega)
theorem X_product {k l : Int} (h : CI K g c t σ D told els past B F W R) (hK : KF K) (hRB : ∀ i, i < 3 → inR (R i + 1))
    (h0 : (k < 0 ∨ (els.length : Int) ≤ k ∨ l < 0 ∨ (els.length : Int) ≤ l) → ∀ τ, CI K g c t τ D told els past B F W (bmp R 0) → Q (.inr 0) τ)
    (h2 : ∀ k' l' : Nat, k = k' → l = l' → k' < els.length → l' < els.length → Q (.inl (some (vi (gmt D els k' l' : Int)))) σ) : CC E mX11_product [vr 16, vi k, vi l] σ Q := by
  have hL := h.1
  have hG : GAll σ D els := h.2.2.2.1
  refine C_X11_product (B_X11_product_0 hL ⟨by decide, by decide, fun _ => ?_⟩)
  rw [hG.1.1]
  refine S_needIndex hL h.2.2.2.2.2.2.2.2.1 (hRB 0 (by omega)) (fun k0 k1 => ⟨hL, by decide, by decide, fun _ => ?_⟩) (fun τ hk hLτ hFτ hRτ => h0 (by omega) τ (h.ref hK hLτ hFτ hRτ))
  rw [hG.1.1]
  refine S_needIndex hL h.2.2.2.2.2.2.2.2.1 (hRB 0 (by omega)) (fun l0 l1 => ⟨hL, fun _ => ?_⟩) (fun τ hk hLτ hFτ hRτ => h0 (by omega) τ (h.ref hK hLτ hFτ hRτ))
  obtain ⟨k', rfl⟩ : ∃ k' : Nat, k = k' := ⟨k.toNat, by omega⟩
  obtain ⟨l', rfl⟩ : ∃ l' : Nat, l = l' := ⟨l.toNat, by omega⟩
  exact S_times hL hG.1 (by omega) (by omega) ⟨hL, fun _ _ => h2 k' l' rfl rfl (by omega) (by omega)⟩
theorem X_power {k x : Int} (h : CI K g c t σ D told els past B F W R) (hK : KF K) (hRB : ∀ i, i < 3 → inR (R i + 1)) (hI : IsG els.length (gmt D els)) (hB : OdB els.length (gmt D els)) (hx : inR x)
    (h0 : (k < 0 ∨ (els.length : Int) ≤ k) → ∀ τ, CI K g c t τ D told els past B F W (bmp R 0) → Q (.inr 0) τ)
    (h2 : ∀ k' : Nat, k = k' → k' < els.length → Q (.inl (some (vi (pwr (gmt D els) k' (x % (od els.length (gmt D els) k' : Int)).toNat : Int)))) σ) : CC E mX11_power [vr 16, vi k, vi x] σ Q := by
  have hL := h.1
  have hG : GAll σ D els := h.2.2.2.1
  have n120 := hG.1.2.1
  refine C_X11_power (B_X11_power_0 hL ⟨by decide, by decide, fun _ => ?_⟩)
  rw [hG.1.1]
  refine S_needIndex hL h.2.2.2.2.2.2.2.2.1 (hRB 0 (by omega)) (fun k0 k1 => ⟨hL, fun _ => ?_⟩) (fun τ hk hLτ hFτ hRτ => h0 hk τ (h.ref hK hLτ hFτ hRτ))
  obtain ⟨k', rfl⟩ : ∃ k' : Nat, k = k' := ⟨k.toNat, by omega⟩
  have hk : k' < els.length := by omega
  have o1 := (od_s hI hk).1
  have o2 := (hB k' hk).2
  refine S_atN (by decide) (sh27 hL) (by decide) (by omega) ⟨hL, fun _ => ?_⟩
  rw [hG.2.2.1.1 k' hk]
  refine ⟨fun _ _ => S_floorMod hx (by omega) ⟨hL, fun _ _ => ?_⟩, fun h => absurd h (by omega)⟩
  have hq := h2 k' rfl hk
  have hpos := Int.emod_nonneg x (show (od els.length (gmt D els) k' : Int) ≠ 0 by omega)
  have hlt := Int.emod_lt_of_pos x (show (0 : Int) < (od els.length (gmt D els) k' : Int) by omega)
  obtain ⟨e, he⟩ : ∃ e : Nat, x % (od els.length (gmt D els) k' : Int) = e := ⟨_, (Int.toNat_of_nonneg hpos).symm⟩
  rw [he] at hq hlt ⊢
  rw [show ((e : Nat) : Int).toNat = e by omega] at hq
  refine loopU (N := e) (G := fun i τ => GG E mX11_power 46 [some (vr 16), some (vi k'), none, none, some (vi e), some (vi (pwr (gmt D els) k' i)), some (vi i)] [] τ (1 - 1) (6 - 6) Q) (P := fun i τ => τ = σ) ?_ ?_ 0 σ (by omega) rfl
  · rintro i τ hi rfl next
    exact B_X11_power_46 hL ⟨fun h => absurd h (by omega), fun _ _ => S_times hL hG.1 (pwr_lt hI hk i) hk ⟨hL, fun _ => ⟨⟨by omega, by omega⟩, fun _ => next τ rfl⟩⟩⟩
  · rintro τ rfl
    exact B_X11_power_46 hL ⟨fun _ _ => hq, fun h9 => absurd (by omega) h9⟩
theorem X_print (h : CI K g c t σ D told els past B F W R) (hq : Q (.inl (some (vl (prtV els.length (gmt D els) (clAll els.length (gmt D els) els.length).1 els.length)))) σ) : CC E mX11_print [vr 16] σ Q := by
  have hL := h.1
  have hG : GAll σ D els := h.2.2.2.1
  have n120 := hG.1.2.1
  refine C_X11_print (B_X11_print_0 hL (fun _ => ?_))
  refine loopU (N := els.length) (G := fun i τ => GG E mX11_print 4 [some (vr 16), some (vl (prtV els.length (gmt D els) (clAll els.length (gmt D els) els.length).1 i)), none, some (vi i)] [] τ 0 0 Q) (P := fun i τ => τ = σ) ?_ ?_ 0 σ (by omega) rfl
  · rintro i τ hi rfl next
    refine B_X11_print_4 hL ?_
    rw [hG.1.1]
    refine ⟨fun h => absurd h (by omega), fun _ _ => S_atN (by decide) (sh27 hL) (by decide) (by omega) ⟨hL, fun _ _ => S_atN (by decide) (sh28 hL) (by decide) (by omega) ⟨hL, fun _ v5 e5 => ⟨⟨by omega, by omega⟩, fun _ => ?_⟩⟩⟩⟩
    rw [hG.2.2.1.1 i hi, hG.2.2.2.1.1 i hi] at e5
    subst e5
    exact next τ rfl
  · rintro τ rfl
    refine B_X11_print_4 hL ?_
    rw [hG.1.1]
    exact ⟨fun _ _ => hq, fun h9 => absurd (by omega) h9⟩
theorem X_ofOrder {x w : Int} (h : CI K g c t σ D told els past B F W R) (hK : KF K) (hRB : ∀ i, i < 3 → inR (R i + 1))
    (h0 : (x < 1 ∨ 120 < x ∨ w < 0 ∨ 1 < w) → ∀ τ, CI K g c t τ D told els past B F W (bmp R 1) → Q (.inr 1) τ)
    (h1 : 1 ≤ x → x ≤ 120 → w = 1 → Q (.inl (some (vi (cntO els.length (gmt D els) x els.length)))) σ)
    (h2 : 1 ≤ x → x ≤ 120 → w = 0 → ∀ r, IsLo els.length (gmt D els) x r → Q (.inl (some (vi r))) σ) : CC E mX11_ofOrder [vr 16, vi x, vi w] σ Q := by
  have hL := h.1
  have hG : GAll σ D els := h.2.2.2.1
  have n120 := hG.1.2.1
  refine C_X11_ofOrder (B_X11_ofOrder_0 hL ⟨by decide, by decide, fun _ => ?_⟩)
  refine S_needBetween hL h.2.2.2.2.2.2.2.2.1 (hRB 1 (by omega)) (fun k0 k1 => ⟨hL, by decide, by decide, fun _ => ?_⟩) (fun τ hk hLτ hFτ hRτ => h0 (by omega) τ (h.ref hK hLτ hFτ hRτ))
  refine S_needBetween hL h.2.2.2.2.2.2.2.2.1 (hRB 1 (by omega)) (fun w0 w1 => ⟨hL, fun hw _ => ?_, fun hw _ => ?_⟩) (fun τ hk hLτ hFτ hRτ => h0 (by omega) τ (h.ref hK hLτ hFτ hRτ))
  · refine C_X4_countOfOrder (B_X4_countOfOrder_0 hL (fun _ => ?_))
    refine loopU (N := els.length) (G := fun i τ => GG E mX4_countOfOrder 4 [some (vr 24), some (vi x), some (vi (cntO els.length (gmt D els) x i)), some (vi i)] [] τ 0 0 _) (P := fun i τ => τ = σ) ?_ ?_ 0 σ (by omega) rfl
    · rintro i τ hi rfl next
      have := cntO_le els.length (gmt D els) x i
      have e9 : cntO els.length (gmt D els) x (i + 1) = if (od els.length (gmt D els) i : Int) = x then cntO els.length (gmt D els) x i + 1 else cntO els.length (gmt D els) x i := rfl
      rw [e9] at next
      refine B_X4_countOfOrder_4 hL ?_
      rw [hG.1.1, show ((i : Nat) : Int).toNat = i by omega, hG.2.2.1.1 i hi]
      refine ⟨fun h => absurd h (by omega), fun _ => ⟨⟨by omega, by omega⟩, fun hne => ⟨⟨by omega, by omega⟩, fun _ => ?_⟩, fun he => ⟨⟨by omega, by omega⟩, ⟨by omega, by omega⟩, fun _ => ?_⟩⟩⟩
      · rw [if_neg hne] at next; exact next τ rfl
      · rw [if_pos he] at next; exact next τ rfl
    · rintro τ rfl
      refine B_X4_countOfOrder_4 hL ?_
      rw [hG.1.1]
      exact ⟨fun _ _ => ⟨hL, fun _ _ => h1 k0 k1 (by omega)⟩, fun h9 => absurd (by omega) h9⟩
  · refine C_X4_leastOfOrder (B_X4_leastOfOrder_0 hL (fun _ => ?_))
    refine loopU (N := els.length) (G := fun i τ => GG E mX4_leastOfOrder 2 [some (vr 24), some (vi x), some (vi i)] [] τ 0 0 _) (P := fun i τ => τ = σ ∧ ∀ j, j < i → (od els.length (gmt D els) j : Int) ≠ x) ?_ ?_ 0 σ (by omega) ⟨rfl, fun j hj => absurd hj (by omega)⟩
    · rintro i τ hi ⟨rfl, hz⟩ next
      refine B_X4_leastOfOrder_2 hL ?_
      rw [hG.1.1, show ((i : Nat) : Int).toNat = i by omega, hG.2.2.1.1 i hi]
      refine ⟨fun h => absurd h (by omega), fun _ => ⟨⟨by omega, by omega⟩, fun hne => ⟨⟨by omega, by omega⟩, fun _ => next τ ⟨rfl, fun j hj => ?_⟩⟩, fun he _ => ⟨hL, fun _ _ => h2 k0 k1 hw i (.inl ⟨i, hi, he, rfl, hz⟩)⟩⟩⟩
      by_cases hji : j = i
      · rw [hji]; exact hne
      · exact hz j (by omega)
    · rintro τ ⟨rfl, hz⟩
      refine B_X4_leastOfOrder_2 hL ?_
      rw [hG.1.1]
      exact ⟨fun _ _ => ⟨hL, fun _ _ => h2 k0 k1 hw (-1) (.inr ⟨rfl, hz⟩)⟩, fun h9 => absurd (by omega) h9⟩
end S81
