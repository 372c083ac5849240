/-! ===== the class: told, of ===== -/
theorem lng_ge {N : Nat} {m : Nat → Nat → Nat} {k : Nat} : ∀ n, k < n → od N m k ≤ lng N m n := by
  intro n
  induction n with
  | zero => intro h; omega
  | succ n ih =>
    intro h
    have e : lng N m (n + 1) = Nat.max (lng N m n) (od N m n) := rfl
    have h1 := Nat.le_max_left (lng N m n) (od N m n)
    have h2 := Nat.le_max_right (lng N m n) (od N m n)
    have e2 : Nat.max (lng N m n) (od N m n) = max (lng N m n) (od N m n) := rfl
    rw [e, e2]
    by_cases hk : k = n
    · rw [hk]; exact h2
    · exact Nat.le_trans (ih (by omega)) h1
theorem lng_at {N : Nat} {m : Nat → Nat → Nat} (h : IsG N m) : ∀ n, n ≤ N → 0 < n → ∃ k, k < n ∧ od N m k = lng N m n := by
  intro n
  induction n with
  | zero => intro _ h; omega
  | succ n ih =>
    intro hn _
    have e : lng N m (n + 1) = max (lng N m n) (od N m n) := rfl
    have o1 := (od_s h (show n < N by omega)).1
    by_cases hn0 : n = 0
    · subst hn0
      have e0 : lng N m 0 = 1 := rfl
      refine ⟨0, by omega, ?_⟩
      rw [e, e0]; omega
    · obtain ⟨k, hk, ek⟩ := ih (by omega) (by omega)
      by_cases hle : lng N m n ≤ od N m n
      · exact ⟨n, by omega, by rw [e]; omega⟩
      · exact ⟨k, by omega, by rw [e]; omega⟩
theorem pwr_inj {N : Nat} {m : Nat → Nat → Nat} (h : IsG N m) {k : Nat} (hk : k < N) {i j : Nat} (hij : i < j) (hj : j < od N m k) : pwr m k i ≠ pwr m k j := by
  intro e
  have o := od_s h hk
  have e1 := pwr_add h hk (j - i) i
  rw [show j - i + i = j by omega, ← e] at e1
  refine o.2.2.2 (j - i) (by omega) (by omega) ?_
  refine (h.2.2.2.2 _ _ _ h.1 (pwr_lt h hk (j - i)) (pwr_lt h hk i) ?_).symm
  rw [(h.2.2.1 _ (pwr_lt h hk i)).1]
  exact e1
theorem pwr_od {N : Nat} {m : Nat → Nat → Nat} (h : IsG N m) {k : Nat} (hk : k < N) (n : Nat) : ∃ j, j < od N m k ∧ pwr m k n = pwr m k j := by
  have o := od_s h hk
  induction n with
  | zero => exact ⟨0, o.1, rfl⟩
  | succ n ih =>
    obtain ⟨j, hj, e⟩ := ih
    have e1 : pwr m k (n + 1) = pwr m k (j + 1) := by
      show m (pwr m k n) k = m (pwr m k j) k
      rw [e]
    by_cases hl : j + 1 < od N m k
    · exact ⟨j + 1, hl, e1⟩
    · refine ⟨0, o.1, ?_⟩
      rw [e1, show j + 1 = od N m k by omega, o.2.2.1]
      rfl
/-- an order above the half is all -/
theorem od_big {N : Nat} {m : Nat → Nat → Nat} (h : IsG N m) {k : Nat} (hk : k < N) (h2 : N < 2 * od N m k) : od N m k = N := by
  have o := od_s h hk
  apply Classical.byContradiction
  intro hne
  have hx : ∃ x, x < N ∧ ∀ j, j < od N m k → pwr m k j ≠ x := by
    apply Classical.byContradiction
    intro h9
    have ex : ∀ x, x < N → ∃ j, j < od N m k ∧ pwr m k j = x := fun x hx => by
      apply Classical.byContradiction
      intro h8
      exact h9 ⟨x, hx, fun j hj e => h8 ⟨j, hj, e⟩⟩
    have := inj_le (n := N) (r := od N m k) (s := fun x => theN (fun j => j < od N m k ∧ pwr m k j = x)) (fun x hx => (theN_of (ex x hx)).1) (fun x y hx hy e => by
      have a := (theN_of (ex x hx)).2
      have b := (theN_of (ex y hy)).2
      rw [← a, ← b]
      exact congrArg (pwr m k) e)
    have := o.2.1
    omega
  obtain ⟨x, hxN, hxn⟩ := hx
  have hp : ∀ j, pwr m k j < N := pwr_lt h hk
  -- x times a power is no power
  have no : ∀ i j, pwr m k i ≠ m x (pwr m k j) := fun i j e => by
    obtain ⟨j', hj', ej⟩ := pwr_od h hk j
    rw [ej] at e
    have e1 := congrArg (fun z => m z (pwr m k (od N m k - j'))) e
    have e2 : m (pwr m k i) (pwr m k (od N m k - j')) = pwr m k (i + (od N m k - j')) := (pwr_add h hk _ _).symm
    have e3 : m (m x (pwr m k j')) (pwr m k (od N m k - j')) = x := by
      rw [h.2.2.2.1 _ _ _ hxN (hp _) (hp _), ← pwr_add h hk, show j' + (od N m k - j') = od N m k by omega, o.2.2.1, (h.2.2.1 x hxN).2]
    have e4 : pwr m k (i + (od N m k - j')) = x := by rw [← e2, ← e3]; exact e1
    obtain ⟨j2, hj2, ej2⟩ := pwr_od h hk (i + (od N m k - j'))
    exact hxn j2 hj2 (ej2.symm.trans e4)
  have := inj_le (n := 2 * od N m k) (r := N) (s := fun i => if i < od N m k then pwr m k i else m x (pwr m k (i - od N m k))) (fun i hi => by
    split
    · exact hp _
    · exact h.2.1 _ _ hxN (hp _)) (fun i j hi hj e => by
    have pj : ∀ a b, a < od N m k → b < od N m k → pwr m k a = pwr m k b → a = b := fun a b ha hb e9 => by
      apply Classical.byContradiction
      intro hab
      by_cases hlt : a < b
      · exact pwr_inj h hk hlt hb e9
      · exact pwr_inj h hk (show b < a by omega) ha e9.symm
    by_cases hi2 : i < od N m k
    · rw [if_pos hi2] at e
      by_cases hj2 : j < od N m k
      · rw [if_pos hj2] at e
        exact pj i j hi2 hj2 e
      · rw [if_neg hj2] at e
        exact absurd e (no _ _)
    · rw [if_neg hi2] at e
      by_cases hj2 : j < od N m k
      · rw [if_pos hj2] at e
        exact absurd e.symm (no _ _)
      · rw [if_neg hj2] at e
        have := pj _ _ (by omega) (by omega) (lcan h (hp _) (hp _) hxN e)
        omega)
  omega
theorem od_0 {N : Nat} {m : Nat → Nat → Nat} (h : IsG N m) : od N m 0 = 1 := by
  have o := od_s h h.1
  apply Classical.byContradiction
  intro hne
  exact o.2.2.2 1 (by omega) (by have := o.1; omega) (pwr_1 h h.1)
theorem lng_N {N : Nat} {m : Nat → Nat → Nat} (h : IsG N m) : (lng N m N = N ↔ ∃ k, k < N ∧ od N m k = N) ∧ ((¬ ∃ k, k < N ∧ od N m k = N) → (2 * lng N m N = N ↔ (N % 2 = 0 ∧ ∃ k, k < N ∧ od N m k = N / 2))) := by
  obtain ⟨k0, hk0, e0⟩ := lng_at h N (Nat.le_refl _) h.1
  have ge : ∀ k, k < N → od N m k ≤ lng N m N := fun k hk => lng_ge N hk
  have le : ∀ k, k < N → od N m k ≤ N := fun k hk => (od_s h hk).2.1
  refine ⟨⟨fun e => ⟨k0, hk0, e0.trans e⟩, fun ⟨k, hk, e⟩ => ?_⟩, fun hno => ⟨fun e => ⟨by omega, k0, hk0, by omega⟩, fun ⟨he, k, hk, e⟩ => ?_⟩⟩
  · have := ge k hk
    have := le k0 hk0
    omega
  · have := ge k hk
    have hn : ¬ N < 2 * od N m k0 := fun h9 => hno ⟨k0, hk0, od_big h hk0 h9⟩
    omega
/-- how many are alone in their class -/
theorem cl_one {N : Nat} {m : Nat → Nat → Nat} : ∀ n, ((clAll N m n).2.2.2.2 : Int) = sm (fun a => if (clAll N m n).2.2.2.1 a = 1 then 1 else 0) (clAll N m n).2.1 := by
  intro n
  induction n with
  | zero => rfl
  | succ n ih =>
    have e : clAll N m (n + 1) = clOne N m n (clAll N m n) := rfl
    rw [e]
    generalize clAll N m n = s at *
    unfold clOne
    by_cases hs : s.1 n = -1
    · rw [if_pos hs]
      generalize clIn N m n s.2.1 N s.1 = q
      show (((s.2.2.2.2 + if q.2 = 1 then 1 else 0 : Nat)) : Int) = sm (fun a => if ups s.2.2.2.1 s.2.1 (q.2 : Int) a = 1 then 1 else 0) (s.2.1 + 1)
      have e2 : sm (fun a => if ups s.2.2.2.1 s.2.1 (q.2 : Int) a = 1 then (1 : Int) else 0) (s.2.1 + 1) = sm (fun a => if ups s.2.2.2.1 s.2.1 (q.2 : Int) a = 1 then (1 : Int) else 0) s.2.1 + if ups s.2.2.2.1 s.2.1 (q.2 : Int) s.2.1 = 1 then 1 else 0 := rfl
      rw [e2, ups_s, sm_ext (h := fun a => if s.2.2.2.1 a = 1 then (1 : Int) else 0) s.2.1 (fun a ha => by rw [ups_n _ _ (by omega)]), ← ih]
      by_cases hq : q.2 = 1
      · rw [if_pos hq, if_pos (by omega)]; omega
      · rw [if_neg hq, if_neg (by omega)]; omega
    · rw [if_neg hs]; exact ih
section SE4
variable {E : Ev} {σ : Sg} {Q : NO → Sg → Prop} {g : Sg} {c t : Nat}
variable {D : Int} {told els : List (List Int)} {past : List (List (List Int))} {B : List Int} {F : Int} {W R : Nat → Int}
theorem GAll.ce (h : GAll σ D els) (hI : IsG els.length (gmt D els)) : gI σ 24 8 = ceN D els (rG D els) := by
  rw [h.2.2.2.1.2.2.2, cl_one]
  exact sm_ext _ (fun a ha => by
    have : (clAll els.length (gmt D els) els.length).2.2.2.1 a = (zG D els a : Int) := zsN_s hI ha
    rw [this]
    by_cases h1 : zG D els a = 1
    · rw [if_pos h1, if_pos (by omega)]
    · rw [if_neg h1, if_neg (by omega)])
theorem S_kind (hL : Lay LC g c t σ) (hG : GAll σ D els) (hI : IsG els.length (gmt D els)) (hq : Q (.inl (some (vi (kdN D els)))) σ) : CC E mX4_kind [vr 24] σ Q := by
  have n120 := hG.1.2.1
  have k6 : gI σ 24 6 = (els.length : Int) := hG.1.1
  have k10 : gI σ 24 10 = (lng els.length (gmt D els) els.length : Int) := hG.2.2.1.2.2
  obtain ⟨l1, l2⟩ := lng_N hI
  obtain ⟨k0, hk0, e0⟩ := lng_at hI els.length (Nat.le_refl _) hI.1
  have le0 := (od_s hI hk0).2.1
  unfold kdN at hq
  refine C_X4_kind (B_X4_kind_0 hL ?_)
  rw [k6, k10]
  refine ⟨fun hn => ⟨⟨by omega, by omega⟩, fun hn2 => ?_, fun he2 _ => ?_⟩, fun he _ => ?_⟩
  · have n1 : ¬ ∃ k, k < els.length ∧ od els.length (gmt D els) k = els.length := fun h9 => hn (by have := l1.mpr h9; omega)
    have n2 := fun h9 => hn2 (by have := (l2 n1).mpr h9; omega)
    rw [if_neg n1, if_neg n2] at hq
    refine ⟨fun h24 => ⟨fun h48 _ => ?_, fun h48 _ => ?_⟩, fun h24 _ => ?_⟩
    · rw [if_neg (by omega), if_neg (by omega)] at hq; exact hq
    · rw [if_neg (by omega), if_pos (by omega)] at hq; exact hq
    · rw [if_pos (by omega)] at hq; exact hq
  · have n1 : ¬ ∃ k, k < els.length ∧ od els.length (gmt D els) k = els.length := fun h9 => hn (by have := l1.mpr h9; omega)
    rw [if_neg n1, if_pos ((l2 n1).mp (by omega))] at hq
    exact hq
  · rw [if_pos (l1.mp (by omega))] at hq
    exact hq
theorem S_kindNumber (hL : Lay LC g c t σ) (hG : GAll σ D els) (hI : IsG els.length (gmt D els)) (hq : Q (.inl (some (vi (knN D els)))) σ) : CC E mX4_kindNumber [vr 24] σ Q := by
  have n120 := hG.1.2.1
  have k6 : gI σ 24 6 = (els.length : Int) := hG.1.1
  have kr := kdN_rng D els
  have ed : ((els.length : Nat) : Int).tdiv 4 = ((els.length / 4 : Nat) : Int) := rfl
  unfold knN at hq
  refine C_X4_kindNumber (B_X4_kindNumber_0 hL (fun _ => S_kind hL hG hI ⟨hL, fun _ => ?_⟩))
  rw [k6, ed]
  refine ⟨fun h0 _ => ?_, fun h1 => ⟨⟨by omega, by omega⟩, fun _ => ?_⟩, fun h2 _ => ?_, fun h3 _ => ?_, fun h4 _ => ?_⟩
  · rw [if_pos h0] at hq; exact hq
  · rw [if_neg (by omega), if_pos h1] at hq; exact hq
  · rw [if_neg (by omega), if_neg (by omega), h2] at hq; exact hq
  · rw [if_neg (by omega), if_neg (by omega), h3] at hq; exact hq
  · rw [if_neg (by omega), if_neg (by omega), show kdN D els = 4 by omega] at hq; exact hq
theorem S_halves2 (hL : Lay LC g c t σ) (hG : GAll σ D els) (h2 : fnd els (wholeL (-4)) ≠ -1 → Q (.inl (some (vi 2))) σ) (h1 : fnd els (wholeL (-4)) = -1 → Q (.inl (some (vi 1))) σ) : CC E mX4_halves [vr 24] σ Q := by
  refine C_X4_halves (B_X4_halves_0 hL ?_)
  rw [hG.2.2.2.2]
  exact ⟨fun h9 _ => h2 h9, fun h9 _ => h1 h9⟩
theorem told_24 {n : Nat} (hC : CI KCd g c t σ D told els past B F W R) (hX : FX D told els) (hn : n ≤ 15) (hK : 10 ≤ n → n ≤ 13 → KCd D els σ) (hq : Q (.inl (some (vi (toV D told els past B n)))) σ) : GG E mX11_told 24 [some (vr 16), some (vi n)] [] σ 0 0 Q := by
  have hL := hC.1
  have hG := hC.2.2.2.1
  have hI := hX.1.isG
  have n120 := hX.1.1
  have k6 : gI σ 24 6 = (els.length : Int) := hG.1.1
  have k7 : gI σ 24 7 = (rG D els : Int) := hG.2.2.2.1.2.1
  have k8 := hG.ce hI
  have k9 : gI σ 24 9 = (expo els.length (gmt D els) els.length : Int) := hG.2.2.1.2.1
  have k11 := hG.2.2.2.2
  have d6 : gI σ c 6 = D := hC.2.1.1
  have d7 : gI σ c 7 = (told.length : Int) := hC.2.1.2.2.2.1
  have d21 : gI σ 21 2 = (past.length : Int) := hC.2.2.2.2.1.1
  have d17 : gI σ 17 1 = (B.length : Int) := hC.2.2.2.2.2.1.1
  have r12 : rG D els ≤ 12 := hX.2.1.1
  have ed : ((els.length : Nat) : Int).tdiv 2 = ((els.length / 2 : Nat) : Int) := rfl
  have ed1 : ((els.length : Nat) : Int).tdiv 1 = ((els.length / 1 : Nat) : Int) := rfl
  unfold toV at hq
  refine B_X11_told_24 hL ?_
  refine ⟨fun e _ => ?_, fun e _ => ?_, fun e _ => ?_, fun e _ => ?_, fun e _ => ?_, fun e _ => ?_, fun e _ => ?_, fun e _ => ?_, fun e _ => ?_, fun e _ => ?_, fun e _ => ?_, fun e _ => ?_, fun e _ => ?_, fun e => ?_, fun e _ => ?_, fun e _ => ?_⟩
  · have : n = 0 := by omega
    subst this
    rw [d6]; exact hq
  · have : n = 1 := by omega
    subst this
    rw [d7]; exact hq
  · have : n = 2 := by omega
    subst this
    rw [k6]; exact hq
  · have : n = 3 := by omega
    subst this
    rw [k7]; exact hq
  · have : n = 4 := by omega
    subst this
    rw [k8]; exact hq
  · have : n = 5 := by omega
    subst this
    rw [k9]; exact hq
  · have : n = 6 := by omega
    subst this
    exact S_kind hL hG hI ⟨hL, fun _ _ => hq⟩
  · have : n = 7 := by omega
    subst this
    exact S_kindNumber hL hG hI ⟨hL, fun _ _ => hq⟩
  · have : n = 8 := by omega
    subst this
    have hq' : Q (.inl (some (vi (tuN els)))) σ := hq
    unfold tuN at hq'
    refine S_halves2 hL hG (fun hne => ⟨hL, fun _ => ?_⟩) (fun he => ⟨hL, fun _ => ?_⟩)
    · rw [if_neg hne] at hq'
      rw [k6, ed]
      exact ⟨by decide, ⟨by omega, by omega⟩, fun _ => hq'⟩
    · rw [if_pos he] at hq'
      rw [k6, ed1, Nat.div_one]
      exact ⟨by decide, ⟨by omega, by omega⟩, fun _ => hq'⟩
  · have : n = 9 := by omega
    subst this
    rw [k11]; exact hq
  · have : n = 10 := by omega
    subst this
    rw [(hK (by omega) (by omega)).2.1.2.2.2.1]; exact hq
  · have : n = 11 := by omega
    subst this
    rw [(hK (by omega) (by omega)).2.1.2.2.2.2.1]; exact hq
  · have : n = 12 := by omega
    subst this
    exact S_diagram hL hX (hK (by omega) (by omega)).2.2.2 ⟨hL, fun _ _ => hq⟩
  · have : n = 13 := by omega
    subst this
    rw [(hK (by omega) (by omega)).2.1.1]
    exact ⟨⟨by omega, by omega⟩, fun _ => hq⟩
  · have : n = 14 := by omega
    subst this
    rw [d21]; exact hq
  · have : n = 15 := by omega
    subst this
    rw [d17]; exact hq
theorem X_told {x : Int} (h : CI KCd g c t σ D told els past B F W R) (hX : FX D told els) (hRB : ∀ i, i < 3 → inR (R i + 1))
    (h0 : (x < 0 ∨ 15 < x) → ∀ τ, CI KCd g c t τ D told els past B F W (bmp R 1) → Q (.inr 1) τ)
    (h2 : ∀ n : Nat, x = n → n ≤ 15 → ∀ τ, CI KCd g c t τ D told els past B F W R → Q (.inl (some (vi (toV D told els past B n)))) τ) : CC E mX11_told [vr 16, vi x] σ Q := by
  refine C_X11_told (B_X11_told_0 h.1 ⟨by decide, by decide, fun _ => ?_⟩)
  refine S_needBetween h.1 h.2.2.2.2.2.2.2.2.1 (hRB 1 (by omega)) (fun k0 k1 => ⟨h.1, ?_⟩) (fun τ hk hLτ hFτ hRτ => h0 (by omega) τ (h.ref KCd_kf hLτ hFτ hRτ))
  obtain ⟨n, rfl⟩ : ∃ n : Nat, x = n := ⟨x.toNat, by omega⟩
  refine ⟨fun hl _ => told_24 h hX (by omega) (fun h1 _ => absurd h1 (by omega)) (h2 n rfl (by omega) σ h), fun hl => ⟨fun hb _ => told_24 h hX (by omega) (fun _ h1 => absurd h1 (by omega)) (h2 n rfl (by omega) σ h), fun hb _ => ?_⟩⟩
  exact X_needCh h hX (fun τ hC h14 hK => ⟨hC.1, fun _ => told_24 hC hX (by omega) (fun _ _ => hK) (h2 n rfl (by omega) τ hC)⟩)
theorem of_29 {a n : Nat} (hC : CI KCd g c t σ D told els past B F W R) (hX : FX D told els) (ha : a < rG D els) (hn : n ≤ 6) (hK : n = 4 → KCd D els σ) (hq : Q (.inl (some (vi (ofV D els a n)))) σ) : GG E mX11_of 29 [some (vr 16), some (vi a), some (vi n), none] [] σ 0 0 Q := by
  have hL := hC.1
  have hG := hC.2.2.2.1
  have hE := hC.2.2.1
  have hI := hX.1.isG
  have n120 := hX.1.1
  have r12 : rG D els ≤ 12 := hX.2.1.1
  have ci := hL.isc
  have cr := ci.rg
  have rN : rG D els ≤ els.length := rsN_le _ _
  obtain ⟨q1, q2, q3, q4, q5, q6, q7, q8⟩ := hG.cl hI ha
  have o1 := hG.2.2.1.1 _ q5
  have hEl := (hE.2.2 _ q5).2
  refine B_X11_of_29 hL (fun _ => S_atN (n := 120) (by decide) (hL.1 (29, 30, 20, 120) (by decide) 29 (by decide) (by decide)) (by decide) (by omega) ⟨hL, fun _ => ?_⟩)
  rw [q1]
  unfold ofV at hq
  refine ⟨fun e _ => ?_, fun e _ => ?_, fun e _ => ?_, fun e _ => ?_, fun e _ => ?_, fun e => ?_, fun e => ?_⟩
  · have : n = 0 := by omega
    subst this
    refine S_atN (n := 120) (by decide) (hL.1 (30, 31, 20, 120) (by decide) 30 (by decide) (by decide)) (by decide) (by omega) ⟨hL, fun _ _ => ?_⟩
    rw [q2]; exact hq
  · have : n = 1 := by omega
    subst this
    exact hq
  · have : n = 2 := by omega
    subst this
    refine S_atN (n := 120) (by decide) (hL.1 (27, 28, 20, 120) (by decide) 27 (by decide) (by decide)) (by decide) (by omega) ⟨hL, fun _ _ => ?_⟩
    rw [o1]; exact hq
  · have : n = 3 := by omega
    subst this
    exact S_inverseClass hL hG hI ha ⟨hL, fun _ _ => hq⟩
  · have : n = 4 := by omega
    subst this
    refine S_atP hL pa50c (by decide) (by omega) ⟨hL, fun _ _ => ?_⟩
    rw [((hK rfl).2.1.2.2.2.2.2 a ha).1]; exact hq
  · have : n = 5 := by omega
    subst this
    refine ⟨⟨by omega, by omega⟩, fun _ => ?_⟩
    rw [show ((lsN els.length (gmt D els) a : Nat) : Int) * 8 = ((8 * lsN els.length (gmt D els) a + 0 : Nat) : Int) by omega]
    refine S_atN (n := 960) (by omega) (ci.s hL (k := 1) (by decide)) (by decide) (by omega) ⟨hL, fun _ _ => ?_⟩
    rw [hEl 0 (by omega)]; exact hq
  · have : n = 6 := by omega
    subst this
    refine ⟨⟨by omega, by omega⟩, ⟨by omega, by omega⟩, fun _ => ?_⟩
    rw [show ((lsN els.length (gmt D els) a : Nat) : Int) * 8 + 1 = ((8 * lsN els.length (gmt D els) a + 1 : Nat) : Int) by omega]
    refine S_atN (n := 960) (by omega) (ci.s hL (k := 1) (by decide)) (by decide) (by omega) ⟨hL, fun _ _ => ?_⟩
    rw [hEl 1 (by omega)]; exact hq
theorem X_of {x1 x2 : Int} (h : CI KCd g c t σ D told els past B F W R) (hX : FX D told els) (hRB : ∀ i, i < 3 → inR (R i + 1))
    (h0 : bd1 D els x1 → ∀ τ, CI KCd g c t τ D told els past B F W (bmp R 0) → Q (.inr 0) τ)
    (h1 : ¬ bd1 D els x1 → (x2 < 0 ∨ 6 < x2) → ∀ τ, CI KCd g c t τ D told els past B F W (bmp R 1) → Q (.inr 1) τ)
    (h2 : ∀ a n : Nat, x1 = a → x2 = n → a < rG D els → n ≤ 6 → ∀ τ, CI KCd g c t τ D told els past B F W R → Q (.inl (some (vi (ofV D els a n)))) τ) : CC E mX11_of [vr 16, vi x1, vi x2] σ Q := by
  have k7 : gI σ 24 7 = (rG D els : Int) := h.2.2.2.1.2.2.2.1.2.1
  refine C_X11_of (B_X11_of_0 h.1 ⟨by decide, by decide, fun _ => ?_⟩)
  rw [k7]
  refine S_needIndex h.1 h.2.2.2.2.2.2.2.2.1 (hRB 0 (by omega)) (fun a0 a1 => ⟨h.1, by decide, by decide, fun _ => ?_⟩) (fun τ2 hk hLτ hFτ hRτ => h0 (by omega) τ2 (h.ref KCd_kf hLτ hFτ hRτ))
  refine S_needBetween h.1 h.2.2.2.2.2.2.2.2.1 (hRB 1 (by omega)) (fun b0 b1 => ⟨h.1, ?_⟩) (fun τ2 hk hLτ hFτ hRτ => h1 (by omega) (by omega) τ2 (h.ref KCd_kf hLτ hFτ hRτ))
  obtain ⟨a, rfl⟩ : ∃ i : Nat, x1 = i := ⟨x1.toNat, by omega⟩
  obtain ⟨n, rfl⟩ : ∃ i : Nat, x2 = i := ⟨x2.toNat, by omega⟩
  exact ⟨fun hne _ => of_29 h hX (by omega) (by omega) (fun e => absurd e (by omega)) (h2 a n rfl rfl (by omega) (by omega) σ h), fun he _ => X_needCh h hX (fun τ hC h14 hK => ⟨hC.1, fun _ => of_29 hC hX (by omega) (by omega) (fun _ => hK) (h2 a n rfl rfl (by omega) (by omega) τ hC)⟩)⟩
end SE4
