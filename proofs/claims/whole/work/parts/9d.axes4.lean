/-! ===== axes: class and reference ===== -/
section S9d
variable {E : Ev} {σ : Sg} {Q : NO → Sg → Prop} {g : Sg} {c t : Nat}
variable {K : Int → List (List Int) → Sg → Prop} {D : Int} {told els : List (List Int)} {past : List (List (List Int))} {B : List Int} {F : Int} {W R : Nat → Int}
theorem S_halves (hL : Lay LC g c t σ) (h : gI σ 24 11 = fnd els (wholeL (-4))) (hq : Q (.inl (some (vi (hv els)))) σ) : CC E mX4_halves [vr 24] σ Q := by
  unfold hv at hq
  refine C_X4_halves (B_X4_halves_0 hL ?_)
  rw [h]
  refine ⟨fun h9 _ => ?_, fun h9 _ => ?_⟩
  · rw [if_neg h9] at hq; exact hq
  · rw [if_pos h9] at hq; exact hq
theorem tdN (a b : Nat) : (a : Int).tdiv (b : Int) = ((a / b : Nat) : Int) := rfl
theorem hv_12 (els : List (List Int)) : hv els = 1 ∨ hv els = 2 := by unfold hv; split <;> simp
theorem X_axes {x : Int} (h : CI K g c t σ D told els past B F W R) (hK : KF K) (hRB : ∀ i, i < 3 → inR (R i + 1)) (hC : Clo D told els) (hD : D = 2 ∨ D = 3 ∨ D = 5)
    (h0 : (x < 2 ∨ 120 < x) → ∀ τ, CI K g c t τ D told els past B F W (bmp R 1) → Q (.inr 1) τ)
    (h2 : ∀ n : Nat, x = n → 2 ≤ n → n ≤ 120 → Q (.inl (some (vi (axN D els n)))) σ) : CC E mX11_axes [vr 16, vi x] σ Q := by
  have hL := h.1
  have hG : GAll σ D els := h.2.2.2.1
  have hI := hC.isG
  have n120 := hC.1
  have npos := hC.2.1
  refine C_X11_axes (B_X11_axes_0 hL ⟨by decide, by decide, fun _ => ?_⟩)
  refine S_needBetween hL h.2.2.2.2.2.2.2.2.1 (hRB 1 (by omega)) (fun k0 k1 => ⟨hL, fun _ => ?_⟩) (fun τ hk hLτ hFτ hRτ => h0 hk τ (h.ref hK hLτ hFτ hRτ))
  obtain ⟨n, rfl⟩ : ∃ n : Nat, x = n := ⟨x.toNat, by omega⟩
  have hn2 : 2 ≤ n := by omega
  have hq := h2 n rfl hn2 (by omega)
  have hr := rsN_le els.length (gmt D els)
  have hr1 : 1 ≤ rsN els.length (gmt D els) := by
    have := (csN_s hI hI.1).2
    omega
  have h7 : gI σ 24 7 = (rsN els.length (gmt D els) : Int) := hG.2.2.2.1.2.1
  have h6 : gI σ 24 6 = (els.length : Int) := hG.1.1
  have h11 : gI σ 24 11 = fnd els (wholeL (-4)) := hG.2.2.2.2
  have h12 := hv_12 els
  have hsl : ∀ k, k ≤ rsN els.length (gmt D els) → shr D els n k ≤ els.length := fun k hk => by rw [shr_cn hC hD k hk]; exact cn_le _
  refine C_X4_countAxes (B_X4_countAxes_0 hL (fun _ => ?_))
  have s1 : shr D els n 1 = 0 := by
    show 0 + _ = 0
    rw [if_neg (fun h9 => absurd h9.1 (by decide))]
  have K9 : GG E mX4_countAxes 4 [some (vr 24), some (vi n), some (vi (shr D els n 1)), some (vi (1 : Nat))] [] σ 0 0 (KI (fun r5 τ6 => Lay LC g c t τ6 ∧ (inR r5 → (Lay LC g c t τ6 → Q (.inl (some (vi r5))) τ6))) (fun _ _ => False)) := by
    refine loopU (N := rsN els.length (gmt D els)) (G := fun i τ => GG E mX4_countAxes 4 [some (vr 24), some (vi n), some (vi (shr D els n i)), some (vi i)] [] τ 0 0 (KI (fun r5 τ6 => Lay LC g c t τ6 ∧ (inR r5 → (Lay LC g c t τ6 → Q (.inl (some (vi r5))) τ6))) (fun _ _ => False))) (P := fun i τ => τ = σ ∧ 1 ≤ i) ?_ ?_ 1 σ hr1 ⟨rfl, Nat.le_refl _⟩
    · rintro i τ hi ⟨rfl, hi1⟩ next
      obtain ⟨l1, l2, l3, l4⟩ := lsN_s hI hi
      have hz := zsN_s hI hi
      have hA := hG.2.2.2.1.2.2.1 i hi
      have hb := hsl i (by omega)
      have hb2 := hsl (i + 1) (by omega)
      have hzl := cntF_le (clAll els.length (gmt D els) els.length).1 (i : Int) els.length
      have hzp : 0 < zsN els.length (gmt D els) i := by
        have o := orbit hI l2
        rw [l3] at o
        apply Nat.pos_of_ne_zero
        intro h9
        rw [h9, Nat.zero_mul] at o
        omega
      have hzl' : zsN els.length (gmt D els) i ≤ els.length := hzl
      have e9 : shr D els n (i + 1) = shr D els n i + if 1 ≤ i ∧ (lsN els.length (gmt D els) i : Int) ≠ fnd els (wholeL (-4)) ∧ els.length / zsN els.length (gmt D els) i = n * hv els then zsN els.length (gmt D els) i else 0 := rfl
      have nx := next τ ⟨rfl, by omega⟩
      rw [e9] at nx hb2
      refine B_X4_countAxes_4 hL ?_
      rw [h7, show ((i : Nat) : Int).toNat = i by omega, hA.1, hA.2, l1, hz, h11, h6, tdN]
      have hdl := Nat.div_le_self els.length (zsN els.length (gmt D els) i)
      generalize zsN els.length (gmt D els) i = z at *
      generalize els.length / z = w at *
      refine ⟨fun h => absurd h (by omega), fun _ => ⟨⟨by omega, by omega⟩, fun hm => ⟨⟨by omega, by omega⟩, fun _ => ?_⟩, fun hm => ⟨fun h => absurd h (by omega), fun _ => ⟨by omega, ⟨by omega, by omega⟩, fun _ => S_halves hL h11 ⟨hL, fun _ => ?_⟩⟩⟩⟩⟩
      · rw [if_neg (fun h9 => h9.2.1 hm), Nat.add_zero] at nx
        exact nx
      · rw [hA.2, hz]
        have em : (n : Int) * (hv els : Int) = ((n * hv els : Nat) : Int) := (Int.natCast_mul _ _).symm
        have hnh : n * hv els ≤ 240 := by rcases h12 with h | h <;> rw [h] <;> omega
        rw [em]
        refine ⟨⟨by omega, by omega⟩, fun hne => ⟨⟨by omega, by omega⟩, fun _ => ?_⟩, fun he => ⟨⟨by omega, by omega⟩, ⟨by omega, by omega⟩, fun _ => ?_⟩⟩
        · rw [if_neg (fun h9 => hne (by rw [h9.2.2])), Nat.add_zero] at nx
          exact nx
        · rw [if_pos ⟨hi1, hm, by omega⟩] at nx
          exact nx
    · rintro τ ⟨rfl, _⟩
      have hb := hsl _ (Nat.le_refl _)
      have ae := axes_eq hC hD hn2
      have em : ((n : Int) - 1) * (hv els : Int) = (((n - 1) * hv els : Nat) : Int) := by rw [Int.natCast_mul]; congr 1; omega
      have hnh : (n - 1) * hv els ≤ 240 ∧ 1 ≤ (n - 1) * hv els := by rcases h12 with h | h <;> rw [h] <;> omega
      refine B_X4_countAxes_4 hL ?_
      rw [h7]
      refine ⟨fun _ => ⟨⟨by omega, by omega⟩, fun _ => S_halves hL h11 ⟨hL, fun _ => ?_⟩⟩, fun h9 => absurd (by omega) h9⟩
      rw [em, tdN, ae, Nat.mul_div_cancel _ (by omega)]
      have hal : axN D els n ≤ els.length := cn_le _
      exact ⟨⟨by omega, by omega⟩, fun _ => ⟨by omega, ⟨by omega, by omega⟩, fun _ => ⟨hL, fun _ _ => hq⟩⟩, fun h9 => absurd (by omega) h9⟩
  rw [s1] at K9
  exact K9
abbrev frMn : Nat → Nat → Prop := fun a _ => a = 2965
theorem S_minus (hL : Lay LM g c t σ) (hR : RWs σ 310 D els) (hnd : els.Nodup) (h15 : gI σ 172 15 = (els.length : Int))
    (hq : ∀ τ, Lay LM g c t τ → Fr frMn (fun _ => False) σ τ → Q (.inl (some (vi (fnd els (wholeL (-4)))))) τ) : CC E mX12_minus [vr 172] σ Q := by
  refine C_X12_minus (B_X12_minus_0 hL (fun _ => ?_))
  have hg : ∀ j, gd (wholeL (-4)) j = if j = 0 then -4 else 0 := gd_whole (-4)
  refine loopU (N := 8) (G := fun i τ => GG E mX12_minus 2 [some (vr 172), some (vi i)] [] τ 0 0 Q) (P := fun i τ => Lay LM g c t τ ∧ Fr frMn (fun _ => False) σ τ ∧ ∀ j, j < i → gI τ 2965 j = gd (wholeL (-4)) j) ?_ ?_ 0 σ (by omega) ⟨hL, Fr.refl _, fun j hj => absurd hj (by omega)⟩
  · rintro i τ hi ⟨hLτ, hF, hz⟩ next
    refine B_X12_minus_2 hLτ ⟨fun h => absurd h (by omega), fun _ => ⟨fun hne => ⟨⟨by omega, by omega⟩, fun τ4 e4 => ⟨⟨by omega, by omega⟩, fun hL4 => ?_⟩⟩, fun he => ⟨⟨by omega, by omega⟩, fun τ4 e4 => ⟨⟨by omega, by omega⟩, fun hL4 => ?_⟩⟩⟩⟩
    all_goals
      rw [show ((i : Nat) : Int).toNat = i by omega] at e4
      subst e4
      refine next _ ⟨hL4, hF.sI rfl, fun j hj => ?_⟩
      rw [gI_sI]
      by_cases hji : j = i
      · rw [if_pos ⟨rfl, hji⟩, hg, hji]
        first
        | rw [if_neg (by omega)]
        | rw [if_pos (by omega)]
      · rw [if_neg (fun h9 => hji h9.2)]; exact hz j (by omega)
  · rintro τ ⟨hLτ, hF, hz⟩
    refine B_X12_minus_2 hLτ ⟨fun _ _ => ?_, fun h9 => absurd (by omega) h9⟩
    rw [(hF.i (by omega) (by omega)).trans h15]
    exact S_placeEl (z := wholeL (-4)) (hR.fr hF (by omega) (fun a j h1 h2 => by omega)) hnd (by omega) (sh_elm hLτ) (by omega) (fun k hk => hLτ.rx (i := 2) (n := 120) rfl hk) (fun k hk => ⟨by omega, (pa_el hk).sh hLτ⟩) ⟨by omega, hLτ.1 (2965, 2966, 20, 8) (by decide) 2965 (by decide) (by decide), by omega⟩ rfl hz ⟨hLτ, fun _ _ => hq τ hLτ hF⟩
theorem S_isStill {k : Nat} (hL : Lay LM g c t σ) (hR : RWs σ 310 D els) (hnd : els.Nodup) (h15 : gI σ 172 15 = (els.length : Int))
    (hq : ∀ (r : Int) τ, Lay LM g c t τ → Fr frMn (fun _ => False) σ τ → (stl els k → r = 1) → (¬ stl els k → r = 0) → Q (.inl (some (vi r))) τ) : CC E mX12_isStill [vr 172, vi k] σ Q := by
  refine C_X12_isStill (B_X12_isStill_0 hL ⟨fun h0 _ => hq 1 σ hL (Fr.refl _) (fun _ => rfl) (fun h9 => absurd (.inl (by omega)) h9), fun h0 _ => S_minus hL hR hnd h15 (fun τ hLτ hF => ⟨hLτ, fun _ => ⟨fun hne _ => ?_, fun he _ => ?_⟩⟩)⟩)
  · refine hq 0 τ hLτ hF (fun h9 => ?_) (fun _ => rfl)
    rcases h9 with h9 | h9
    · omega
    · exact absurd h9 hne
  · exact hq 1 τ hLτ hF (fun _ => rfl) (fun h9 => absurd (.inr he) h9)
theorem S_areParallel {k l : Nat} (hL : Lay LM g c t σ) (hR : RWs σ 310 D els) (hD : D = 2 ∨ D = 3 ∨ D = 5) (hroot : gI σ 176 0 = D) (hk : k < els.length) (hl : l < els.length)
    (hq : ∀ r : Int, (prE D els k l → r = 1) → (¬ prE D els k l → r = 0) → Q (.inl (some (vi r))) σ) : CC E mX12_areParallel [vr 172, vi k, vi l] σ Q := by
  have n120 := hR.1
  obtain ⟨tk, vk⟩ := hR.2 k hk
  obtain ⟨tl, vl'⟩ := hR.2 l hl
  have bk := tk.2.bd (show 1 ≤ D by omega)
  have bl := tl.2.bd (show 1 ≤ D by omega)
  have e : prE D els k l = prl D (gd (els.getD k [])) (gd (els.getD l [])) := rfl
  rw [e] at hq
  generalize gd (els.getD k []) = x at *
  generalize gd (els.getD l []) = y at *
  clear e
  have hD5 : D.natAbs ≤ 5 := by omega
  refine C_X12_areParallel (B_X12_areParallel_0 hL (fun _ => S_root (r := 0) hL (by omega) ⟨hL, fun _ _ => ?_⟩))
  rw [show gI σ (176 + 0) 0 = D from hroot]
  have K9 : GG E mX12_areParallel 9 [some (vr 172), some (vi k), some (vi l), some (vi D), some (vi (1 : Nat)), none, none, none, none, none, none, none, none, none] [] σ 0 0 Q := by
    refine loopU (N := 4) (G := fun i τ => GG E mX12_areParallel 9 [some (vr 172), some (vi k), some (vi l), some (vi D), some (vi i), none, none, none, none, none, none, none, none, none] [] τ 0 0 Q)
      (P := fun i τ => τ = σ ∧ 1 ≤ i ∧ ∀ i' j', 1 ≤ j' → j' < i' → i' < i → qw D x y i' j' = qw D x y j' i' ∧ qp x y i' j' = qp x y j' i') ?_ ?_ 1 σ (by omega) ⟨rfl, Nat.le_refl _, fun i' j' h1 h2 h3 => absurd h3 (by omega)⟩
    · rintro i τ hi ⟨rfl, hi1, hP⟩ next
      refine B_X12_areParallel_9 hL ⟨fun h => absurd h (by omega), fun _ _ => ?_⟩
      have K8 : GG E mX12_areParallel 18 [some (vr 172), some (vi k), some (vi l), some (vi D), some (vi i), some (vi (1 : Nat)), none, none, none, none, none, none, none, none] [] τ 0 0 Q := by
        refine loopU (N := i) (G := fun j ρ => GG E mX12_areParallel 18 [some (vr 172), some (vi k), some (vi l), some (vi D), some (vi i), some (vi j), none, none, none, none, none, none, none, none] [] ρ 0 0 Q)
          (P := fun j ρ => ρ = τ ∧ 1 ≤ j ∧ ∀ j', 1 ≤ j' → j' < j → qw D x y i j' = qw D x y j' i ∧ qp x y i j' = qp x y j' i) ?_ ?_ 1 τ hi1 ⟨rfl, Nat.le_refl _, fun j' h1 h2 => absurd h2 (by omega)⟩
        · rintro j ρ hj ⟨rfl, hj1, hPj⟩ next2
          have no : ¬ (qw D x y i j = qw D x y j i ∧ qp x y i j = qp x y j i) → Q (.inl (some (vi 0))) ρ := fun h9 => hq 0 (fun h8 => absurd (h8 i j hj1 hj hi) h9) (fun _ => rfl)
          have eqw1 : x (2 * i) * y (2 * j) + D * x (2 * i + 1) * y (2 * j + 1) = qw D x y i j := rfl
          have eqw2 : x (2 * j) * y (2 * i) + D * x (2 * j + 1) * y (2 * i + 1) = qw D x y j i := rfl
          have eqp1 : x (2 * i) * y (2 * j + 1) + x (2 * i + 1) * y (2 * j) = qp x y i j := rfl
          have eqp2 : x (2 * j) * y (2 * i + 1) + x (2 * j + 1) * y (2 * i) = qp x y j i := rfl
          have gx := fun q (hq : q < 8) => show (x q).natAbs ≤ 4 by have := bk q hq; omega
          have gy := fun q (hq : q < 8) => show (y q).natAbs ≤ 4 by have := bl q hq; omega
          have a1 := m4 (gx (2 * i) (by omega)) (gy (2 * j) (by omega))
          have a2 := m4 hD5 (gx (2 * i + 1) (by omega))
          have a3 := m4 a2 (gy (2 * j + 1) (by omega))
          have b1 := m4 (gx (2 * j) (by omega)) (gy (2 * i) (by omega))
          have b2 := m4 hD5 (gx (2 * j + 1) (by omega))
          have b3 := m4 b2 (gy (2 * i + 1) (by omega))
          have c1 := m4 (gx (2 * i) (by omega)) (gy (2 * j + 1) (by omega))
          have c2 := m4 (gx (2 * i + 1) (by omega)) (gy (2 * j) (by omega))
          have d1 := m4 (gx (2 * j) (by omega)) (gy (2 * i + 1) (by omega))
          have d2 := m4 (gx (2 * j + 1) (by omega)) (gy (2 * i) (by omega))
          refine B_X12_areParallel_18 hL ?_
          rw [show ((k : Nat) : Int).toNat = k by omega, show ((l : Nat) : Int).toNat = l by omega, show ((2 : Int) * (i : Int)).toNat = 2 * i by omega, show ((2 : Int) * (j : Int)).toNat = 2 * j by omega, show ((2 : Int) * (i : Int) + 1).toNat = 2 * i + 1 by omega, show ((2 : Int) * (j : Int) + 1).toNat = 2 * j + 1 by omega,
            vk (2 * i) (by omega), vk (2 * i + 1) (by omega), vk (2 * j) (by omega), vk (2 * j + 1) (by omega), vl' (2 * i) (by omega), vl' (2 * i + 1) (by omega), vl' (2 * j) (by omega), vl' (2 * j + 1) (by omega)]
          refine ⟨fun h => absurd h (by omega), fun _ => ⟨⟨by omega, by omega⟩, ⟨by omega, by omega⟩, ⟨by omega, by omega⟩, ⟨by omega, by omega⟩, ⟨by omega, by omega⟩, ⟨by omega, by omega⟩, ⟨by omega, by omega⟩, ⟨by omega, by omega⟩, ⟨by omega, by omega⟩, ⟨by omega, by omega⟩, ⟨by omega, by omega⟩, fun v21 e21 => ?_⟩⟩
          subst e21
          refine ⟨⟨by omega, by omega⟩, fun v23 e23 => ?_⟩
          subst e23
          refine ⟨⟨by omega, by omega⟩, fun v25 e25 => ?_⟩
          subst e25
          refine ⟨⟨by omega, by omega⟩, ⟨by omega, by omega⟩, fun v28 e28 => ?_⟩
          subst e28
          refine ⟨⟨by omega, by omega⟩, fun v30 e30 => ?_⟩
          subst e30
          refine ⟨⟨by omega, by omega⟩, fun v32 e32 => ?_⟩
          subst e32
          refine ⟨⟨by omega, by omega⟩, fun hne _ => no (fun h9 => hne (by rw [eqw1, eqw2]; exact h9.1)), fun he => ⟨⟨by omega, by omega⟩, fun v35 e35 => ?_⟩⟩
          subst e35
          refine ⟨⟨by omega, by omega⟩, fun v37 e37 => ?_⟩
          subst e37
          refine ⟨⟨by omega, by omega⟩, ⟨by omega, by omega⟩, fun v40 e40 => ?_⟩
          subst e40
          refine ⟨⟨by omega, by omega⟩, fun v42 e42 => ?_⟩
          subst e42
          refine ⟨⟨by omega, by omega⟩, fun he2 => ⟨⟨by omega, by omega⟩, fun _ => next2 ρ ⟨rfl, by omega, fun j' h1 h2 => ?_⟩⟩, fun hne _ => no (fun h9 => hne (by rw [eqp1, eqp2]; exact h9.2))⟩
          by_cases hjj : j' = j
          · rw [eqw1, eqw2] at he
            rw [eqp1, eqp2] at he2
            rw [hjj]; exact ⟨he, he2⟩
          · exact hPj j' h1 (by omega)
        · rintro ρ ⟨rfl, _, hPj⟩
          refine B_X12_areParallel_18 hL ⟨fun _ => ⟨⟨by omega, by omega⟩, fun _ => next ρ ⟨rfl, by omega, fun i' j' h1 h2 h3 => ?_⟩⟩, fun h9 => absurd (by omega) h9⟩
          by_cases hii : i' = i
          · subst hii; exact hPj j' h1 h2
          · exact hP i' j' h1 h2 (by omega)
      exact K8
    · rintro τ ⟨rfl, _, hP⟩
      exact B_X12_areParallel_9 hL ⟨fun _ _ => hq 1 (fun _ => rfl) (fun h9 => absurd (fun i j h1 h2 h3 => hP i j h1 h2 h3) h9), fun h9 => absurd (by omega) h9⟩
  exact K9
end S9d
