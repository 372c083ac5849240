/-! ===== characters: names ===== -/
noncomputable def pN (D : Int) (els : List (List Int)) : Nat := theN (fun p => ∃ d s : Nat, D = d ∧ PR els.length (expo els.length (gmt D els) els.length) d p s)
noncomputable def sN (D : Int) (els : List (List Int)) : Nat := theN (fun s => ∃ d p : Nat, D = d ∧ PR els.length (expo els.length (gmt D els) els.length) d p s)
theorem pN_of {D : Int} {els : List (List Int)} {d p s : Nat} (hD : D = d) (h : PR els.length (expo els.length (gmt D els) els.length) d p s) : pN D els = p ∧ sN D els = s := by
  have h1 : ∃ d' s' : Nat, D = d' ∧ PR els.length (expo els.length (gmt D els) els.length) d' (pN D els) s' := theN_of (p := fun p => ∃ d s : Nat, D = d ∧ PR els.length (expo els.length (gmt D els) els.length) d p s) ⟨p, d, s, hD, h⟩
  have h2 : ∃ d' p' : Nat, D = d' ∧ PR els.length (expo els.length (gmt D els) els.length) d' p' (sN D els) := theN_of (p := fun s => ∃ d p : Nat, D = d ∧ PR els.length (expo els.length (gmt D els) els.length) d p s) ⟨s, d, p, hD, h⟩
  obtain ⟨d1, s1, e1, k1⟩ := h1
  obtain ⟨d2, p2, e2, k2⟩ := h2
  have a1 : d1 = d := by omega
  have a2 : d2 = d := by omega
  subst a1
  subst a2
  exact ⟨(PR_un k1 h).1, (PR_un k2 h).2⟩
/-- classes of a group as a table -/
noncomputable abbrev rG (D : Int) (els : List (List Int)) : Nat := rsN els.length (gmt D els)
noncomputable abbrev zG (D : Int) (els : List (List Int)) : Nat → Nat := zsN els.length (gmt D els)
noncomputable abbrev iG (D : Int) (els : List (List Int)) : Nat → Nat := ivc els.length (gmt D els)
noncomputable abbrev cG (D : Int) (els : List (List Int)) : Nat → Nat → Nat → Int := cpZ els.length (gmt D els)
noncomputable def omN (D : Int) (els : List (List Int)) : Nat → Nat → Int := Classical.epsilon (fun om => ∃ ev, SPEC (pN D els) (rG D els) (cG D els) om ev)
noncomputable def nmN (D : Int) (els : List (List Int)) (v : Nat → Int) : Int := nrmV (pN D els) (rG D els) (zG D els) (iG D els) v (rG D els)
noncomputable def dgN (D : Int) (els : List (List Int)) (i : Nat) : Nat := dgV (pN D els) els.length (nmN D els (omN D els i))
noncomputable def chN (D : Int) (els : List (List Int)) (i a : Nat) : Int := chV (pN D els) (dgN D els i) (zG D els) (omN D els i) a
def ltN (D : Int) (els : List (List Int)) (i j : Nat) : Prop := ahd (rG D els) (dgN D els i) (chN D els i) (dgN D els j) (chN D els j)
noncomputable def piN (D : Int) (els : List (List Int)) : Nat → Nat := Classical.epsilon (fun q => Prm (rG D els) q ∧ Srt (ltN D els) (rG D els) q)
/-- the characters in order: degrees, values -/
noncomputable def dgC (D : Int) (els : List (List Int)) (j : Nat) : Nat := dgN D els (piN D els j)
noncomputable def vlC (D : Int) (els : List (List Int)) (j a : Nat) : Int := chN D els (piN D els j) a
/-- the reference's numbers -/
def lcN (x : Nat) : Nat := (x * 6364136223846793005 + 1442695040888963407) % 18446744073709551616
def lcI : Nat → Nat → Nat
  | 0, x => x
  | n + 1, x => lcN (lcI n x)
theorem lcI_add (a x : Nat) : ∀ b, lcI (a + b) x = lcI b (lcI a x) := by
  intro b
  induction b with
  | zero => rfl
  | succ b ih => show lcN (lcI (a + b) x) = lcN (lcI b (lcI a x)); rw [ih]
def mxZ (p x a : Nat) : Int := ((lcI (a + 1) x / 8589934592 % p : Nat) : Int)
/-- what is shown by types: as many central rows as classes; degrees; the reference's numbers take them apart at last -/
def GD (D : Int) (els : List (List Int)) : Prop :=
  rG D els ≤ 12 ∧ (∃ om ev, SPEC (pN D els) (rG D els) (cG D els) om ev) ∧ (∀ v, Cen (pN D els) (rG D els) (cG D els) v → ∃ d, 1 ≤ d ∧ d ≤ 9 ∧ okDg (pN D els) els.length (nmN D els v) d) ∧
  ∃ T, ∀ v w, Cen (pN D els) (rG D els) (cG D els) v → Cen (pN D els) (rG D els) (cG D els) w → (∃ a, a < rG D els ∧ v a ≠ w a) → sm (fun a => mxZ (pN D els) (lcI (rG D els * T) 1) a * v a) (rG D els) % (pN D els : Int) ≠ sm (fun a => mxZ (pN D els) (lcI (rG D els * T) 1) a * w a) (rG D els) % (pN D els : Int)
theorem GD.sp {D : Int} {els : List (List Int)} (h : GD D els) : ∃ ev, SPEC (pN D els) (rG D els) (cG D els) (omN D els) ev := Classical.epsilon_spec (p := fun om => ∃ ev, SPEC (pN D els) (rG D els) (cG D els) om ev) h.2.1
theorem SPEC.inj {p r : Nat} {cp : Nat → Nat → Nat → Int} {om ev : Nat → Nat → Int} (h : SPEC p r cp om ev) (hp : 1 < p) {i j : Nat} (hi : i < r) (hj : j < r) (e : ∀ a, a < r → om i a = om j a) : i = j := by
  apply Classical.byContradiction
  intro hne
  have e1 := h.2.1 i i hi hi
  have e2 := h.2.1 i j hi hj
  rw [sm_ext (h := fun b => ev i b * om j b) r (fun b hb => by rw [e b hb]), e2] at e1
  unfold dl at e1
  rw [if_neg hne, if_pos rfl, Int.zero_emod, Int.emod_eq_of_lt (by decide) (by omega)] at e1
  omega
theorem cntF_one {f : Nat → Int} {c : Int} {x : Nat} : ∀ n, (∀ k, k < n → (f k = c ↔ k = x)) → cntF f c n = if x < n then 1 else 0 := by
  intro n
  induction n with
  | zero => intro _; rw [if_neg (by omega)]; rfl
  | succ n ih =>
    intro h
    have e : cntF f c (n + 1) = cntF f c n + if f n = c then 1 else 0 := rfl
    rw [e, ih (fun k hk => h k (by omega))]
    by_cases hx : n = x
    · rw [if_neg (by omega), if_pos ((h n (by omega)).mpr hx), if_pos (by omega)]
    · rw [if_neg (fun h9 => hx ((h n (by omega)).mp h9))]
      by_cases hlt : x < n
      · rw [if_pos hlt, if_pos (by omega)]
      · rw [if_neg hlt, if_neg (by omega)]
theorem cntF_pos {f : Nat → Int} {c : Int} {x : Nat} : ∀ n, x < n → f x = c → 0 < cntF f c n := by
  intro n
  induction n with
  | zero => intro h; omega
  | succ n ih =>
    intro hx hf
    have e : cntF f c (n + 1) = cntF f c n + if f n = c then 1 else 0 := rfl
    rw [e]
    by_cases hxn : x = n
    · subst hxn
      rw [if_pos hf]; omega
    · have := ih (by omega) hf
      omega
theorem rsN_pos {N : Nat} {m : Nat → Nat → Nat} (h : IsG N m) : 0 < rsN N m := by
  have := (csN_s h h.1).2
  omega
theorem csN_0 {N : Nat} {m : Nat → Nat → Nat} (h : IsG N m) : csN N m 0 = 0 := by
  have c := csN_s h h.1
  have l := lsN_s h c.2
  have l0 : lsN N m (csN N m 0) = 0 := by have := l.2.2.2 0 h.1 rfl; omega
  apply Classical.byContradiction
  intro hne
  obtain ⟨i1, i2, i3, i4, i5, i6, i7⟩ := clAll_ok h N (Nat.le_refl _)
  have := i7 0 (csN N m 0) (by omega) c.2
  have a := (lsN_s h (rsN_pos h)).1
  have b := l.1
  rw [a, b, l0] at this
  omega
theorem csN_00 {N : Nat} {m : Nat → Nat → Nat} (h : IsG N m) {k : Nat} (hk : k < N) : csN N m k = 0 ↔ k = 0 := by
  constructor
  · intro e
    rw [← csN_0 h] at e
    obtain ⟨x, hx, e2⟩ := (csN_tn h h.1 hk).mp e.symm
    rw [e2]
    unfold tn
    rw [(h.2.2.1 _ (iv_lt h hx)).2, iv_l h hx]
  · intro e; rw [e]; exact csN_0 h
theorem zsN_0 {N : Nat} {m : Nat → Nat → Nat} (h : IsG N m) : zsN N m 0 = 1 := by
  unfold zsN
  rw [cntF_one (x := 0) N (fun k hk => ?_), if_pos h.1]
  rw [(csN_s h hk).1]
  constructor
  · intro e; exact (csN_00 h hk).mp (by omega)
  · intro e; rw [(csN_00 h hk).mpr e]
theorem zsN_pos {N : Nat} {m : Nat → Nat → Nat} (h : IsG N m) {c : Nat} (hc : c < rsN N m) : 0 < zsN N m c := by
  have l := lsN_s h hc
  refine cntF_pos (x := lsN N m c) N l.2.1 ?_
  rw [(csN_s h l.2.1).1, l.2.2.1]
theorem dgV_lt {p N : Nat} {nm : Int} (hp : 1 < p) (hN : 0 < N ∧ N < p) (h : ∃ d, 1 ≤ d ∧ d ≤ 9 ∧ okDg p N nm d) : dgV p N nm < p := by
  obtain ⟨d1, d2, d3, d4⟩ := dgV_s h
  generalize dgV p N nm = d at *
  apply Nat.not_le.mp
  intro h9
  unfold okDg at d3
  by_cases hd : d = p
  · subst hd
    have e : ((d : Int) * (d : Int) * (nm % (d : Int)) - (N : Int)) % (d : Int) = (-(N : Int)) % (d : Int) := by
      rw [Int.mul_assoc, show (d : Int) * ((d : Int) * (nm % (d : Int))) - (N : Int) = -(N : Int) + (d : Int) * ((d : Int) * (nm % (d : Int))) by omega, Int.add_mul_emod_self_left]
    rw [e] at d3
    have := Int.dvd_of_emod_eq_zero d3
    have := (Int.dvd_neg).mp this
    have := Int.le_of_dvd (by omega) this
    omega
  · refine d4 (d - p) (by omega) (by omega) ?_
    unfold okDg
    rw [← d3]
    obtain ⟨e, rfl⟩ : ∃ e : Nat, d = e + p := ⟨d - p, by omega⟩
    rw [show e + p - p = e by omega]
    have e9 : ((e + p : Nat) : Int) * ((e + p : Nat) : Int) = (e : Int) * (e : Int) + (p : Int) * ((e : Int) + (e : Int) + (p : Int)) := by
      rw [show ((e + p : Nat) : Int) = (e : Int) + (p : Int) by omega, Int.add_mul, Int.mul_add, Int.mul_add, Int.mul_add, Int.mul_add, Int.mul_comm (p : Int) (e : Int)]
      omega
    rw [e9, Int.add_mul, Int.mul_assoc (p : Int)]
    have k : ∀ X w : Int, (X + (p : Int) * w - (N : Int)) % (p : Int) = (X - (N : Int)) % (p : Int) := fun X w => by
      rw [show X + (p : Int) * w - (N : Int) = (X - (N : Int)) + (p : Int) * w by omega, Int.add_mul_emod_self_left]
    exact (k _ _).symm
theorem ovV_1 {p : Nat} (a : Int) : ovV p a 1 = a % (p : Int) := by unfold ovV; rw [Int.one_pow, Int.mul_one]
/-- other central rows have other characters -/
theorem chV_inj {p r d1 d2 : Nat} {sz : Nat → Nat} {v w : Nat → Int} (hp : isPr p) (h242 : p < 242) (hr : 0 < r) (h0 : sz 0 = 1) (hs : ∀ a, a < r → 0 < sz a ∧ sz a < p) (hd1 : 0 < d1 ∧ d1 < p) (hd2 : 0 < d2 ∧ d2 < p) (hv0 : v 0 = 1) (hw0 : w 0 = 1) (hv : ∀ a, a < r → 0 ≤ v a ∧ v a < (p : Int)) (hw : ∀ a, a < r → 0 ≤ w a ∧ w a < (p : Int)) (e : ∀ a, a < r → chV p d1 sz v a = chV p d2 sz w a) : ∀ a, a < r → v a = w a := by
  have e0 := e 0 hr
  unfold chV at e0
  rw [h0, hv0, hw0, show ((1 : Nat) : Int) = 1 from rfl, ovV_1, ovV_1, em_id, em_id, Int.mul_one, Int.mul_one, Int.emod_eq_of_lt (by omega) (by omega), Int.emod_eq_of_lt (by omega) (by omega)] at e0
  have : d1 = d2 := by omega
  subst this
  intro a ha
  have e1 := e a ha
  unfold chV at e1
  have z := hs a ha
  have y := hv a ha
  have y2 := hw a ha
  have a1 := ov_mul hp h242 (a := ((d1 : Int) * v a) % (p : Int)) (y := (sz a : Int)) ⟨by omega, by omega⟩
  have a2 := ov_mul hp h242 (a := ((d1 : Int) * w a) % (p : Int)) (y := (sz a : Int)) ⟨by omega, by omega⟩
  rw [e1, a2, em_id, em_id] at a1
  have a3 : ((d1 : Int) * (w a - v a)) % (p : Int) = 0 := by rw [Int.mul_sub, Int.sub_emod, a1, Int.sub_self, Int.zero_emod]
  have a4 := pr_0 hp h242 a3 (by rw [Int.emod_eq_of_lt (by omega) (by omega)]; omega)
  have a5 : w a % (p : Int) = v a % (p : Int) := Int.emod_eq_emod_iff_emod_sub_eq_zero.mpr a4
  rw [Int.emod_eq_of_lt y2.1 y2.2, Int.emod_eq_of_lt y.1 y.2] at a5
  exact a5.symm
theorem chN_inj {D : Int} {els : List (List Int)} (hG : GD D els) (hI : IsG els.length (gmt D els)) (hp : isPr (pN D els)) (h242 : pN D els < 242) (hN : 2 * els.length + 1 ≤ pN D els) {i j : Nat} (hi : i < rG D els) (hj : j < rG D els) (e : ∀ a, a < rG D els → chN D els i a = chN D els j a) : i = j := by
  obtain ⟨ev, hS⟩ := hG.sp
  have p1 := hp.1
  have Np := hI.1
  have ci := hS.1 i hi
  have cj := hS.1 j hj
  have di := hG.2.2.1 _ ci
  have dj := hG.2.2.1 _ cj
  have li := dgV_lt p1 ⟨hI.1, by omega⟩ di
  have lj := dgV_lt p1 ⟨hI.1, by omega⟩ dj
  exact hS.inj p1 hi hj (chV_inj hp h242 (rsN_pos hI) (zsN_0 hI) (fun a ha => ⟨zsN_pos hI ha, by have := zsN_le els.length (gmt D els) a; omega⟩) ⟨(dgV_s di).1, li⟩ ⟨(dgV_s dj).1, lj⟩ ci.1 cj.1 ci.2.1 cj.2.1 e)
theorem ltN_ord {D : Int} {els : List (List Int)} (hG : GD D els) (hI : IsG els.length (gmt D els)) (hp : isPr (pN D els)) (h242 : pN D els < 242) (hN : 2 * els.length + 1 ≤ pN D els) : Ord9 (rG D els) (ltN D els) :=
  ⟨fun a b c _ _ _ => ahd_tr, fun a b _ _ => ahd_as, fun a b ha hb hab => ahd_tot (Classical.byContradiction (fun h9 => hab (chN_inj hG hI hp h242 hN ha hb (fun x hx => Classical.byContradiction (fun h8 => h9 ⟨x, hx, h8⟩)))))⟩
