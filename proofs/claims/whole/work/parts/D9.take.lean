/-! ===== the class: the first space; all characters ===== -/
theorem inj_sur {r : Nat} {q : Nat → Nat} (h1 : ∀ i, i < r → q i < r) (h2 : ∀ i j, i < r → j < r → q i = q j → i = j) {u : Nat} (hu : u < r) : ∃ i, i < r ∧ q i = u := by
  apply Classical.byContradiction
  intro h
  have := inj_le (n := r + 1) (r := r) (s := ups q r u) (fun j hj => by
    unfold ups
    by_cases hjr : j = r
    · rw [if_pos hjr]; exact hu
    · rw [if_neg hjr]; exact h1 j (by omega)) (fun i j hi hj e => by
    unfold ups at e
    by_cases hir : i = r
    · by_cases hjr : j = r
      · omega
      · rw [if_pos hir, if_neg hjr] at e
        exact absurd ⟨j, by omega, e.symm⟩ h
    · by_cases hjr : j = r
      · rw [if_neg hir, if_pos hjr] at e
        exact absurd ⟨i, by omega, e⟩ h
      · rw [if_neg hir, if_neg hjr] at e
        exact h2 i j (by omega) (by omega) e)
  omega
/-- at the end each row is a central one, stretched -/
theorem bst_end {p r : Nat} {cp : Nat → Nat → Nat → Int} {om ev row : Nat → Nat → Int} {sp : Nat → Int} {own : Nat → Nat} (hp : isPr p) (hS : SPEC p r cp om ev) (hB : BST p r om row sp own) (hA : ∀ i j, i < r → j < r → own i = own j → ∀ a, a < r → om i a = om j a) :
    ∃ s, Prm r s ∧ ∀ u, u < r → (∀ j, j < r → 0 ≤ row u j ∧ row u j < (p : Int)) ∧ row u 0 ≠ 0 ∧ ∀ j, j < r → row u j % (p : Int) = (row u 0 * om (s u) j) % (p : Int) := by
  have p1 := hp.1
  obtain ⟨h1, h2, h3⟩ := hB
  have oi : ∀ i j, i < r → j < r → own i = own j → i = j := fun i j hi hj e => hS.inj p1 hi hj (hA i j hi hj e)
  have os : ∀ u, u < r → ∃ i, i < r ∧ own i = u := fun u hu => inj_sur (fun i hi => (h1 i hi).1) oi hu
  have c : ∃ s : Nat → Nat, ∀ u, u < r → s u < r ∧ own (s u) = u := ⟨fun u => theN (fun i => i < r ∧ own i = u), fun u hu => theN_of (os u hu)⟩
  obtain ⟨s, hs⟩ := c
  refine ⟨s, ⟨fun u hu => (hs u hu).1, fun u v hu hv e => by rw [← (hs u hu).2, ← (hs v hv).2, e], fun y hy => ⟨own y, (h1 y hy).1, oi _ _ (hs _ (h1 y hy).1).1 hy (hs _ (h1 y hy).1).2⟩⟩, fun u hu => ?_⟩
  obtain ⟨s1, s2⟩ := hs u hu
  have su : 0 < sp u := by have := (h1 (s u) s1).2; rw [s2] at this; exact this
  obtain ⟨n, n1, n2, n3, n4, col, hE, hN⟩ := h3 u hu su
  have hn : n = 1 := by
    rw [n3]
    exact cn_one (P := fun i => own i = u) r (s u) s1 s2 (fun k hk e => oi k (s u) hk s1 (e.trans s2.symm))
  subst hn
  have ex : ∀ j, j < r → om (s u) j % (p : Int) = (om (s u) (col 0) * row u j) % (p : Int) := fun j hj => by
    rw [hE.ex (hN.cen s1 s2) hj]
    show (0 + om (s u) (col 0) * row (u + 0) j) % (p : Int) = _
    rw [Int.zero_add, Nat.add_zero]
  have e0 := ex 0 (by omega)
  rw [(hS.1 (s u) s1).1, Int.emod_eq_of_lt (by decide) (by omega)] at e0
  refine ⟨fun j hj => hE.1 0 j (by omega) hj, fun h0 => by rw [h0, Int.mul_zero, Int.zero_emod] at e0; omega, fun j hj => ?_⟩
  have e1 : (row u 0 * om (s u) j) % (p : Int) = (row u j * (om (s u) (col 0) * row u 0)) % (p : Int) := by
    rw [em_mul (u := row u 0) rfl (ex j hj)]
    congr 1
    generalize row u 0 = a
    generalize row u j = b
    generalize om (s u) (col 0) = d
    grind
  have e2 : (row u j * (om (s u) (col 0) * row u 0)) % (p : Int) = row u j % (p : Int) := by
    have e3 : (om (s u) (col 0) * row u 0) % (p : Int) = 1 % (p : Int) := by rw [← e0, Int.emod_eq_of_lt (by decide) (by omega)]
    rw [em_mul (u := row u j) rfl e3, Int.mul_one]
  rw [e1, e2]
/-- all rows together are the first space -/
theorem bst_start {p r : Nat} {cp : Nat → Nat → Nat → Int} {om ev row : Nat → Nat → Int} {sp : Nat → Int} (hp : 1 < p) (hr : 0 < r) (hS : SPEC p r cp om ev) (hrow : ∀ u j, u < r → j < r → row u j = dl u j) (h0 : sp 0 = r) (hs : ∀ u, 0 < u → u < r → sp u = 0) : BST p r om row sp (fun _ => 0) := by
  refine ⟨fun i _ => ⟨hr, by show 0 < sp 0; omega⟩, fun u hu => ?_, fun u hu hsu => ?_⟩
  · by_cases h : u = 0
    · rw [h, h0]; omega
    · rw [hs u (by omega) hu]; exact Int.le_refl _
  · have hu0 : u = 0 := by
      apply Classical.byContradiction
      intro h
      have := hs u (by omega) hu
      omega
    subst hu0
    have r0 : ∀ s j, s < r → j < r → row (0 + s) j = dl s j := fun s j h1 h2 => by rw [Nat.zero_add]; exact hrow s j h1 h2
    have d1 : ∀ s y, s < r → dt r (fun j => row (0 + s) j) y = y s := fun s y h1 => by
      show sm (fun j => row (0 + s) j * y j) r = y s
      rw [sm_ext (h := fun j => y j * dl s j) r (fun j hj => by rw [r0 s j h1 hj, Int.mul_comm]), sm_dl' y h1]
    refine ⟨r, h0, by omega, ?_, fun v h1 h2 => hs v h1 (by omega), fun s => s, ⟨fun s j h1 h2 => ?_, fun s h1 => ⟨h1, ?_, fun j hj => ?_, fun e he hes => ?_⟩⟩, fun y => ⟨fun h9 i hi _ => ?_, fun h9 s h1 => ?_⟩⟩
    · rw [cn_ext (Q := fun _ => True) r (fun k _ => ⟨fun _ => trivial, fun _ => rfl⟩), cn_all]
    · show 0 ≤ row (0 + s) j ∧ row (0 + s) j < _
      rw [r0 s j h1 h2]; unfold dl; split <;> omega
    · show row (0 + s) s = 1
      rw [r0 s s h1 h1]; exact if_pos rfl
    · show row (0 + s) j = 0
      have hj' : j < s := hj
      rw [r0 s j h1 (by omega)]; exact if_neg (by omega)
    · show row (0 + e) s = 0
      rw [r0 e s he h1]; exact if_neg hes
    · have z : ∀ s, s < r → y s % (p : Int) = 0 := fun s h1 => by have := h9 s h1; rwa [d1 s y h1] at this
      show sm (fun b => om i b * y b) r % (p : Int) = 0
      rw [sm_em (h := fun _ => 0) r (fun b hb => ?_), sm_0 r (fun _ _ => rfl), Int.zero_emod]
      rw [Int.mul_emod, z b hb, Int.mul_zero]
    · rw [d1 s y h1]
      exact hS.zero (fun j hj => by have := h9 j hj rfl; rw [dt_comm] at this; exact this) s h1
section SD9
variable {E : Ev} {σ : Sg} {Q : NO → Sg → Prop} {g : Sg} {c t : Nat}
variable {D : Int} {told els : List (List Int)}
abbrev frSg : Nat → Nat → Prop := fun a k => (a = 54 ∧ k = 11) ∨ a = 55 ∨ (57 ≤ a ∧ a < 69) ∨ a = 124
theorem S_sbegin (hL : Lay LC g c t σ) (hI : IsG els.length (gmt D els)) (hG : GAll σ D els) (r12 : rG D els ≤ 12)
    (h : ∀ τ, Lay LC g c t τ → Fr frSg (fun _ => False) σ τ → gI τ 54 11 = (rG D els : Int) → CpC τ (rG D els) (cG D els) → (∀ u j, u < rG D els → j < rG D els → gI τ (57 + u) j = dl u j) → gI τ 124 0 = (rG D els : Int) → (∀ u, 0 < u → u < rG D els → gI τ 124 u = 0) → Q (.inl none) τ) : CC E mX8_begin [vr 54, vr 24] σ Q := by
  have n120 := hG.1.2.1
  have rp := rsN_pos hI
  have k24 : ∀ τ, Fr frSg (fun _ => False) σ τ → gI τ 24 6 = (els.length : Int) ∧ gI τ 24 7 = (rG D els : Int) := fun τ hF => ⟨(hF.i (by omega) (by omega)).trans hG.1.1, (hF.i (by omega) (by omega)).trans hG.2.2.2.1.2.1⟩
  -- the couples
  have cpl : ∀ τ, Lay LC g c t τ → Fr frSg (fun _ => False) σ τ → gI τ 54 11 = (rG D els : Int) → (∀ u j, u < rG D els → j < rG D els → gI τ (57 + u) j = dl u j) → gI τ 124 0 = (rG D els : Int) → (∀ u, 0 < u → u < rG D els → gI τ 124 u = 0) → (∀ i, i < 1728 → gI τ 55 i = 0) → GG E mX8_begin 107 [some (vr 54), some (vr 24), some (vi (0 : Nat)), none, none, none] [] τ 0 0 Q := by
    intro τ0 hL0 hF0 h11 hrw h124 hsp hz
    refine loopU (N := rG D els) (G := fun k τ => GG E mX8_begin 107 [some (vr 54), some (vr 24), some (vi k), none, none, none] [] τ 0 0 Q)
      (P := fun m τ => Lay LC g c t τ ∧ Fr (fun a _ => a = 55) (fun _ => False) τ0 τ ∧ ∀ a b k, a < rG D els → b < rG D els → k < rG D els → gI τ 55 ((a * 12 + b) * 12 + k) = if k < m then (cplN els.length (gmt D els) a b k : Int) else 0) ?_ ?_ 0 τ0 (by omega) ⟨hL0, Fr.refl _, fun a b k h1 h2 h3 => by rw [if_neg (by omega)]; exact hz _ (by omega)⟩
    · rintro l τ hl ⟨hL1, hF1, hv⟩ next
      have hF01 : Fr frSg (fun _ => False) σ τ := hF0.trans (hF1.mono (fun a j h9 => .inr (.inl h9)) (fun _ h => h))
      have k11 : gI τ 54 11 = (rG D els : Int) := (hF1.i (by omega) (by omega)).trans h11
      refine B_X8_begin_107 hL1 ?_
      rw [k11]
      refine ⟨fun h9 => absurd h9 (by omega), fun _ _ => ?_⟩
      obtain ⟨l1, l2, l3, l4⟩ := lsN_s hI hl
      refine loopU (N := els.length) (G := fun n τ => GG E mX8_begin 117 [some (vr 54), some (vr 24), some (vi l), some (vi n), none, none] [] τ 0 0 Q)
        (P := fun n τ => Lay LC g c t τ ∧ Fr (fun a _ => a = 55) (fun _ => False) τ0 τ ∧ ∀ a b k, a < rG D els → b < rG D els → k < rG D els → gI τ 55 ((a * 12 + b) * 12 + k) = if k < l then (cplN els.length (gmt D els) a b k : Int) else if k = l then (cn (cplP els.length (gmt D els) a b l) n : Int) else 0) ?_ ?_ 0 τ (by omega) ⟨hL1, hF1, fun a b k h1 h2 h3 => by
          rw [hv a b k h1 h2 h3]
          by_cases hkl : k < l
          · rw [if_pos hkl, if_pos hkl]
          · rw [if_neg hkl, if_neg hkl]
            split <;> rfl⟩
      · rintro n τ2 hn ⟨hL2, hF2, hv2⟩ next2
        have hF02 : Fr frSg (fun _ => False) σ τ2 := hF0.trans (hF2.mono (fun a j h9 => .inr (.inl h9)) (fun _ h => h))
        obtain ⟨k6, k7⟩ := k24 τ2 hF02
        have hG2 : GAll τ2 D els := hG.fr hF02 (fun a j h1 h2 => by omega)
        have hiv := iv_lt hI hn
        have hm := hI.2.1 _ _ hiv l2
        have c1 := csN_s hI hn
        have c2 := csN_s hI hm
        have c1r : csN els.length (gmt D els) n < rG D els := c1.2
        have c2r : csN els.length (gmt D els) (gmt D els (iv els.length (gmt D els) n) (lsN els.length (gmt D els) l)) < rG D els := c2.2
        have e28 : ∀ x, x < els.length → gI τ2 28 x = (csN els.length (gmt D els) x : Int) := fun x hx => (hG2.2.2.2.1.1 x hx).trans (csN_s hI hx).1
        have e29 : gI τ2 29 l = (lsN els.length (gmt D els) l : Int) := (hG2.2.2.2.1.2.2.1 l hl).1.trans l1
        have e26 : gI τ2 26 n = (iv els.length (gmt D els) n : Int) := hG2.2.1 n hn
        have cur := hv2 _ _ l c1r c2r hl
        rw [if_neg (by omega), if_pos rfl] at cur
        have cl := cn_le (P := cplP els.length (gmt D els) (csN els.length (gmt D els) n) (csN els.length (gmt D els) (gmt D els (iv els.length (gmt D els) n) (lsN els.length (gmt D els) l))) l) n
        refine B_X8_begin_117 hL2 ?_
        rw [k6]
        refine ⟨fun h9 => absurd h9 (by omega), fun _ _ => S_atN (by decide) (sh26 hL2) (by decide) (by omega) ⟨hL2, fun _ _ => ?_⟩⟩
        rw [e26]
        refine S_atN (by decide) (sh29 hL2) (by decide) (by omega) ⟨hL2, fun _ _ => ?_⟩
        rw [e29]
        refine S_times hL2 hG2.1 hiv l2 ⟨hL2, fun _ _ => S_atN (by decide) (sh28 hL2) (by decide) (by omega) ⟨hL2, fun _ _ => ?_⟩⟩
        rw [e28 n hn]
        refine S_atN (by decide) (sh28 hL2) (by decide) (by omega) ⟨hL2, fun _ _ => ?_⟩
        rw [e28 _ hm]
        refine S_placeOf ⟨by omega, by omega, by omega⟩ ⟨hL2, fun _ => ⟨fun h9 => absurd h9 (by omega), fun _ => ⟨fun h9 => absurd h9 (by omega), fun _ => ?_⟩⟩⟩
        generalize hA9 : csN els.length (gmt D els) n = A9 at *
        generalize hB9 : csN els.length (gmt D els) (gmt D els (iv els.length (gmt D els) n) (lsN els.length (gmt D els) l)) = B9 at *
        rw [show (((A9 * 12 + B9) * 12 + l : Nat) : Int).toNat = (A9 * 12 + B9) * 12 + l by omega, cur]
        refine ⟨⟨by omega, by omega⟩, ⟨by omega, by omega⟩, fun τ18 e18 => ⟨⟨by omega, by omega⟩, fun hL18 => next2 τ18 ⟨hL18, by rw [e18]; exact hF2.sI rfl, fun a b k h1 h2 h3 => ?_⟩⟩⟩
        rw [e18, gI_sI]
        by_cases heq : a = A9 ∧ b = B9 ∧ k = l
        · obtain ⟨rfl, rfl, rfl⟩ := heq
          rw [if_pos ⟨rfl, rfl⟩, if_neg (by omega), if_pos rfl, cn_s, if_pos ⟨hA9, hB9⟩]
          rfl
        · rw [if_neg (fun h9 => heq (by omega)), hv2 a b k h1 h2 h3]
          by_cases hkl : k < l
          · rw [if_pos hkl, if_pos hkl]
          · rw [if_neg hkl, if_neg hkl]
            by_cases hke : k = l
            · rw [if_pos hke, if_pos hke, cn_s, if_neg (fun h9 => heq ⟨by rw [← hA9]; exact h9.1.symm, by rw [← hB9]; exact h9.2.symm, hke⟩)]
              rfl
            · rw [if_neg hke, if_neg hke]
      · rintro τ2 ⟨hL2, hF2, hv2⟩
        have hF02 : Fr frSg (fun _ => False) σ τ2 := hF0.trans (hF2.mono (fun a j h9 => .inr (.inl h9)) (fun _ h => h))
        obtain ⟨k6, k7⟩ := k24 τ2 hF02
        refine B_X8_begin_117 hL2 ?_
        rw [k6]
        refine ⟨fun _ => ⟨⟨by omega, by omega⟩, fun _ => next τ2 ⟨hL2, hF2, fun a b k h1 h2 h3 => ?_⟩⟩, fun h9 => absurd (by omega) h9⟩
        rw [hv2 a b k h1 h2 h3]
        by_cases hkl : k < l
        · rw [if_pos hkl, if_pos (by omega)]
        · rw [if_neg hkl]
          by_cases hke : k = l
          · rw [if_pos hke, if_pos (by omega), hke]; rfl
          · rw [if_neg hke, if_neg (by omega)]
    · rintro τ ⟨hL1, hF1, hv⟩
      have k11 : gI τ 54 11 = (rG D els : Int) := (hF1.i (by omega) (by omega)).trans h11
      refine B_X8_begin_107 hL1 ?_
      rw [k11]
      refine ⟨fun _ _ => h τ hL1 (hF0.trans (hF1.mono (fun a j h9 => .inr (.inl h9)) (fun _ h => h))) k11 (fun a b k h1 h2 h3 => ⟨?_, Int.natCast_nonneg _, ?_⟩) (fun u j hu hj => (hF1.i (by omega) (by omega)).trans (hrw u j hu hj)) ((hF1.i (by omega) (by omega)).trans h124) (fun u h1 h2 => (hF1.i (by omega) (by omega)).trans (hsp u h1 h2)), fun h9 => absurd (by omega) h9⟩
      · rw [hv a b k h1 h2 h3, if_pos h3]; rfl
      · have := cpl_le els.length (gmt D els) a b k
        show ((cplN els.length (gmt D els) a b k : Nat) : Int) ≤ 120
        omega
  -- all is cleared
  have clr : ∀ τ, Lay LC g c t τ → Fr frSg (fun _ => False) σ τ → gI τ 54 11 = (rG D els : Int) → (∀ u j, u < rG D els → j < rG D els → gI τ (57 + u) j = dl u j) → gI τ 124 0 = (rG D els : Int) → (∀ u, 0 < u → u < rG D els → gI τ 124 u = 0) → GG E mX8_begin 83 [some (vr 54), some (vr 24), some (vi (0 : Nat)), none, none, none] [] τ 0 0 Q := by
    intro τ0 hL0 hF0 h11 hrw h124 hsp
    refine loopU (N := 1728) (G := fun i τ => GG E mX8_begin 83 [some (vr 54), some (vr 24), some (vi i), none, none, none] [] τ 0 0 Q)
      (P := fun m τ => Lay LC g c t τ ∧ Fr (fun a _ => a = 55) (fun _ => False) τ0 τ ∧ ∀ i, i < m → gI τ 55 i = 0) ?_ ?_ 0 τ0 (by omega) ⟨hL0, Fr.refl _, fun i hi => absurd hi (by omega)⟩
    · rintro i τ hi ⟨hL1, hF1, hv⟩ next
      refine B_X8_begin_83 hL1 ?_
      rw [show ((i : Nat) : Int).toNat = i by omega]
      refine ⟨fun h9 => absurd h9 (by omega), fun _ => ⟨⟨by omega, by omega⟩, fun τ2 e2 => ⟨⟨by omega, by omega⟩, fun hL2 => next τ2 ⟨hL2, by rw [e2]; exact hF1.sI rfl, fun j hj => ?_⟩⟩⟩⟩
      rw [e2, gI_sI]
      by_cases hji : j = i
      · rw [if_pos ⟨rfl, hji⟩]
      · rw [if_neg (fun h9 => hji h9.2)]; exact hv j (by omega)
    · rintro τ ⟨hL1, hF1, hv⟩
      exact B_X8_begin_83 hL1 ⟨fun _ _ => cpl τ hL1 (hF0.trans (hF1.mono (fun a j h9 => .inr (.inl h9)) (fun _ h => h))) ((hF1.i (by omega) (by omega)).trans h11) (fun u j hu hj => (hF1.i (by omega) (by omega)).trans (hrw u j hu hj)) ((hF1.i (by omega) (by omega)).trans h124) (fun u h1 h2 => (hF1.i (by omega) (by omega)).trans (hsp u h1 h2)) hv, fun h9 => absurd (by omega) h9⟩
  refine C_X8_begin (B_X8_begin_0 hL (fun v1 e1 τ2 e2 hL2 => ?_))
  rw [(k24 σ (Fr.refl _)).2] at e1
  have ev1 : v1 = (rG D els : Int) := by rw [e1, if_neg (by omega)]
  rw [ev1] at e2
  refine loopU (N := rG D els) (G := fun u τ => GG E mX8_begin 15 [some (vr 54), some (vr 24), some (vi u), none, none, none] [] τ 0 0 Q)
    (P := fun m τ => Lay LC g c t τ ∧ Fr frSg (fun _ => False) σ τ ∧ gI τ 54 11 = (rG D els : Int) ∧ (∀ u j, u < m → j < rG D els → gI τ (57 + u) j = dl u j) ∧ ∀ u, u < m → gI τ 124 u = if u = 0 then (rG D els : Int) else 0) ?_ ?_ 0 τ2 (by omega) ⟨hL2, by rw [e2]; exact Fr_of1 (.inl ⟨rfl, rfl⟩), by rw [e2, gI_sI, if_pos ⟨rfl, rfl⟩], fun u j hu => absurd hu (by omega), fun u hu => absurd hu (by omega)⟩
  · rintro u τ hu ⟨hL1, hF1, h11, hrw, hsp⟩ next
    have inner : ∀ τ3, τ3 = sI τ 124 u (if u = 0 then (rG D els : Int) else 0) → Lay LC g c t τ3 → GG E mX8_begin 43 [some (vr 54), some (vr 24), some (vi u), some (vi (0 : Nat)), none, none] [] τ3 0 0 Q := by
      intro τ3 e3 hL3
      have q3 : ∀ a j, gI τ3 a j = if a = 124 ∧ j = u then (if u = 0 then (rG D els : Int) else 0) else gI τ a j := fun a j => by rw [e3, gI_sI]
      refine loopU (N := rG D els) (G := fun j τ => GG E mX8_begin 43 [some (vr 54), some (vr 24), some (vi u), some (vi j), none, none] [] τ 0 0 Q)
        (P := fun m ρ => Lay LC g c t ρ ∧ Fr (fun a _ => a = 57 + u) (fun _ => False) τ3 ρ ∧ ∀ j, j < m → gI ρ (57 + u) j = dl u j) ?_ ?_ 0 τ3 (by omega) ⟨hL3, Fr.refl _, fun j hj => absurd hj (by omega)⟩
      · rintro j ρ hj ⟨hL4, hF4, hv4⟩ next4
        have k11 : gI ρ 54 11 = (rG D els : Int) := (hF4.i (by omega) (by omega)).trans (by rw [q3, if_neg (by omega)]; exact h11)
        have step : ∀ (y : Int) ρ2, y = dl u j → ρ2 = sI ρ (57 + u) j y → Lay LC g c t ρ2 → GG E mX8_begin 43 [some (vr 54), some (vr 24), some (vi u), some (vi ((j : Int) + 1)), none, none] [] ρ2 0 0 Q := fun y ρ2 hy e9 hL9 => by
          refine next4 ρ2 ⟨hL9, by rw [e9]; exact hF4.sI rfl, fun j' hj' => ?_⟩
          rw [e9, gI_sI]
          by_cases hjj : j' = j
          · rw [if_pos ⟨rfl, hjj⟩, hy, hjj]
          · rw [if_neg (fun h9 => hjj h9.2)]; exact hv4 j' (by omega)
        refine B_X8_begin_43 hL4 ?_
        rw [k11, show ((u : Nat) : Int).toNat = u by omega, show ((j : Nat) : Int).toNat = j by omega]
        refine ⟨fun h9 => absurd h9 (by omega), fun _ => ⟨⟨by omega, by omega⟩, fun hne => ⟨⟨by omega, by omega⟩, fun τ5 e5 => ⟨⟨by omega, by omega⟩, fun hL5 => step 0 τ5 ?_ e5 hL5⟩⟩, fun he => ⟨⟨by omega, by omega⟩, fun τ5 e5 => ⟨⟨by omega, by omega⟩, fun hL5 => step 1 τ5 ?_ e5 hL5⟩⟩⟩⟩
        · unfold dl; rw [if_neg (by omega)]
        · unfold dl; rw [if_pos (by omega)]
      · rintro ρ ⟨hL4, hF4, hv4⟩
        have k11 : gI ρ 54 11 = (rG D els : Int) := (hF4.i (by omega) (by omega)).trans (by rw [q3, if_neg (by omega)]; exact h11)
        refine B_X8_begin_43 hL4 ?_
        rw [k11]
        refine ⟨fun _ => ⟨⟨by omega, by omega⟩, fun _ => next ρ ⟨hL4, ?_, k11, fun u' j hu' hj => ?_, fun u' hu' => ?_⟩⟩, fun h9 => absurd (by omega) h9⟩
        · rw [e3] at hF4
          exact (hF1.sI (.inr (.inr (.inr rfl)))).trans (hF4.mono (fun a j h9 => .inr (.inr (.inl (by omega)))) (fun _ h => h))
        · by_cases huu : u' = u
          · rw [huu]; exact hv4 j hj
          · rw [hF4.i (by omega) (by omega), q3, if_neg (by omega)]; exact hrw u' j (by omega) hj
        · rw [hF4.i (by omega) (by omega), q3]
          by_cases huu : u' = u
          · rw [if_pos ⟨rfl, huu⟩, huu]
          · rw [if_neg (fun h9 => huu h9.2)]; exact hsp u' (by omega)
    refine B_X8_begin_15 hL1 ?_
    rw [h11, show ((u : Nat) : Int).toNat = u by omega]
    refine ⟨fun h9 => absurd h9 (by omega), fun _ => ⟨fun hne => ⟨⟨by omega, by omega⟩, fun τ3 e3 hL3 => inner τ3 ?_ hL3⟩, fun he => ⟨⟨by omega, by omega⟩, fun τ3 e3 hL3 => inner τ3 ?_ hL3⟩⟩⟩
    · rw [if_neg (by omega)]; exact e3
    · rw [if_pos (by omega)]; exact e3
  · rintro τ ⟨hL1, hF1, h11, hrw, hsp⟩
    refine B_X8_begin_15 hL1 ?_
    rw [h11]
    refine ⟨fun _ _ => clr τ hL1 hF1 h11 hrw ?_ (fun u h1 h2 => ?_), fun h9 => absurd (by omega) h9⟩
    · rw [hsp 0 rp, if_pos rfl]
    · rw [hsp u h2, if_neg (by omega)]
/-- the class's characters lie there -/
def ChC (σ : Sg) (D : Int) (els : List (List Int)) : Prop := ∀ j, j < rG D els → (37 ≤ gR σ 36 j ∧ gR σ 36 j < 49) ∧ gI σ 49 j = (dgC D els j : Int) ∧ ∀ a, a < rG D els → gI σ (gR σ 36 j) a = vlC D els j a
abbrev frTk : Nat → Nat → Prop := fun a _ => a = 53 ∨ (37 ≤ a ∧ a < 49) ∨ a = 49
theorem S_takeCh {own : Nat → Nat} {ev : Nat → Nat → Int} (hL : Lay LC g c t σ) (hJ : JC σ) (hX : FX D told els) (hB : BCh σ D els) (hS : SPEC (pN D els) (rG D els) (cG D els) (omN D els) ev) (hT : BST (pN D els) (rG D els) (omN D els) (fun u j => gI σ (57 + u) j) (gI σ 124) own) (hA : ∀ i j, i < rG D els → j < rG D els → own i = own j → ∀ a, a < rG D els → omN D els i a = omN D els j a)
    (h : ∀ τ, Lay LC g c t τ → JC τ → Fr frTk (fun a => a = 36) σ τ → ChC τ D els → Q (.inl none) τ) : CC E mX0_take [vr 34, vr 56] σ Q := by
  have hX' := hX
  obtain ⟨hC, hGd, hp, h242, hN, hs, hD3⟩ := hX
  have hI := hC.isG
  have r12 : rG D els ≤ 12 := hGd.1
  obtain ⟨s, hP, hrow⟩ := bst_end hp hS hT hA
  have rw36 : ∀ e, e < 12 → 37 ≤ gR σ 36 e ∧ gR σ 36 e < 49 := fun e he => hL.2.2.2.1 (36, 12, 37, 49) (by decide) e he
  have inj : ∀ i j, i < 12 → j < 12 → gR σ 36 i = gR σ 36 j → i = j := hJ.1 36 (by simp)
  -- the end
  have fin : ∀ τ, Lay LC g c t τ → Fr frTk (fun _ => False) σ τ → (∀ u, u < rG D els → gI τ 49 u = (dgN D els (s u) : Int) ∧ ∀ a, a < rG D els → gI τ (gR σ 36 u) a = chN D els (s u) a) → CC E mX0_sort [vr 34] τ (KV (fun τ2 => Lay LC g c t τ2 ∧ (Lay LC g c t τ2 → Q (.inl none) τ2)) (fun _ _ => False)) := by
    intro τ hLt hFt hv
    have hBt : BCh τ D els := hB.fr hFt ⟨fun j h1 h2 => by omega, fun j => by omega, fun j => ⟨by omega, by omega, by omega⟩⟩
    have kR : ∀ i, gR τ 36 i = gR σ 36 i := fun i => hFt.r (by omega) id
    have hJt : JC τ := hJ.fr hFt ⟨id, id, id⟩ (fun a j h9 => by omega)
    refine S_sort0 (f := rG D els) hLt hJt.1 hBt.1 r12 hBt.1 r12 (fun i j hi hj hij => Classical.byContradiction (fun h9 => hij (hP.2.1 i j hi hj (chN_inj hGd hI hp h242 hN (hP.1 i hi) (hP.1 j hj) (fun a ha => by
      rw [← (hv i hi).2 a ha, ← (hv j hj).2 a ha, ← kR, ← kR]
      exact Classical.byContradiction (fun h8 => h9 ⟨a, ha, h8⟩)))))) (fun τ2 q hL2 hJ2 hF2 hp2 hs2 hq2 => ⟨hL2, fun _ => ?_⟩)
    have hPr : Prm (rG D els) (fun j => s (q j)) := by
      refine ⟨fun a ha => hP.1 _ (hp2.1 a ha), fun a b ha hb e => hp2.2.1 a b ha hb (hP.2.1 _ _ (hp2.1 a ha) (hp2.1 b hb) e), fun y hy => ?_⟩
      obtain ⟨j, hj, e⟩ := hP.2.2 y hy
      obtain ⟨x, hx, e2⟩ := hp2.2.2 j hj
      exact ⟨x, hx, by rw [← e, ← e2]⟩
    have hSr : Srt (ltN D els) (rG D els) (fun j => s (q j)) := fun a b hab hb => by
      have h9 := hs2 a b hab hb
      have ha1 := hp2.1 a (Nat.lt_trans hab hb)
      have hb1 := hp2.1 b hb
      have h9' : ahd (rG D els) (gI τ 49 (q a)) (gI τ (gR τ 36 (q a))) (gI τ 49 (q b)) (gI τ (gR τ 36 (q b))) := h9
      rw [(hv _ ha1).1, (hv _ hb1).1, kR, kR] at h9'
      exact ahd_ex (hv _ ha1).2 (hv _ hb1).2 h9'
    have e9 := piN_s hGd hI hp h242 hN hPr hSr
    refine h τ2 hL2 ⟨hJ2, fun a j haj => ?_⟩ ((hFt.mono (fun a j h9 => h9) (fun _ h => h.elim)).trans (hF2.mono (fun a j h9 => .inr (.inr h9)) (fun a h9 => h9))) (fun j hj => ?_)
    · rw [hF2.i (by omega) (by omega)]; exact hJt.2 a j haj
    · have hqj := hp2.1 j hj
      have hr9 := rw36 (q j) (by omega)
      rw [(hq2 j hj).1, (hq2 j hj).2, kR]
      unfold dgC vlC
      rw [e9 j hj]
      exact ⟨hr9, (hv _ hqj).1, fun a ha => (hF2.i (by omega) (by omega)).trans ((hv _ hqj).2 a ha)⟩
  refine C_X0_take (B_X0_take_56_0 hL (fun _ => ?_))
  refine loopU (N := rG D els) (G := fun u τ => GG E mX0_take 2 [some (vr 34), some (vr 56), some (vi u)] [] τ 0 0 Q)
    (P := fun m τ => Lay LC g c t τ ∧ Fr frTk (fun _ => False) σ τ ∧ ∀ u, u < m → gI τ 49 u = (dgN D els (s u) : Int) ∧ ∀ a, a < rG D els → gI τ (gR σ 36 u) a = chN D els (s u) a) ?_ ?_ 0 σ (by omega) ⟨hL, Fr.refl _, fun u hu => absurd hu (by omega)⟩
  · rintro u τ hu ⟨hL1, hF1, hv⟩ next
    have hB1 : BCh τ D els := hB.fr hF1 ⟨fun j h1 h2 => by omega, fun j => by omega, fun j => ⟨by omega, by omega, by omega⟩⟩
    have kR : ∀ i, gR τ 36 i = gR σ 36 i := fun i => hF1.r (by omega) id
    obtain ⟨w1, w2, w3⟩ := hrow u hu
    have rq : ∀ j, gI τ (57 + u) j = gI σ (57 + u) j := fun j => hF1.i (by omega) (by omega)
    have cen := hS.1 (s u) (hP.1 u hu)
    refine B_X0_take_56_2 hL1 ?_
    rw [hB1.1, show ((u : Nat) : Int).toNat = u by omega]
    refine ⟨fun h9 => absurd h9 (by omega), fun _ => ⟨fun h9 => absurd h9 (by omega), fun _ => ⟨⟨by omega, by omega⟩, fun _ => S_fillCharacter (v := omN D els (s u)) hL1 hX' (pa57 (by omega)) (.inr (by omega)) hB1 (by omega) cen.1 cen.2.1 (fun a ha => by rw [rq]; exact w1 a ha) (by rw [rq]; exact w2) (fun a ha => by rw [rq, rq]; exact w3 a ha) (hGd.2.2.1 _ cen) (fun τ8 hL8 hF8 g49 gx => ⟨hL8, ⟨by omega, by omega⟩, fun _ => next τ8 ⟨hL8, hF1.trans (hF8.mono (fun a j h9 => ?_) (fun _ h => h)), fun u' hu' => ?_⟩⟩)⟩⟩⟩
    · have := rw36 u (by omega)
      rw [kR] at h9
      rcases h9 with h9 | h9 | h9
      · exact .inl h9
      · exact .inr (.inl (by omega))
      · exact .inr (.inr h9.1)
    · rw [kR] at gx hF8
      have ru := rw36 u (by omega)
      have ru' := rw36 u' (by omega)
      by_cases huu : u' = u
      · rw [huu]
        exact ⟨g49, gx⟩
      · have hne : gR σ 36 u' ≠ gR σ 36 u := fun h9 => huu (inj u' u (by omega) (by omega) h9)
        have := hv u' (by omega)
        exact ⟨(hF8.i (by omega) (by omega)).trans this.1, fun a ha => (hF8.i (by omega) (by omega)).trans (this.2 a ha)⟩
  · rintro τ ⟨hL1, hF1, hv⟩
    have hB1 : BCh τ D els := hB.fr hF1 ⟨fun j h1 h2 => by omega, fun j => by omega, fun j => ⟨by omega, by omega, by omega⟩⟩
    refine B_X0_take_56_2 hL1 ?_
    rw [hB1.1]
    exact ⟨fun _ _ => fin τ hL1 hF1 hv, fun h9 => absurd (by omega) h9⟩
end SD9
