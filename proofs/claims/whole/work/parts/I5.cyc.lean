/-! ===== cyclic groups: the numbering that told turns give ===== -/
def adJ (v acc len m : Nat) (cont : Nat → Nat → Nat → Bool) : Bool := bif biJ m v then cont acc len m else cont (Nat.add acc (Nat.shiftLeft v (Nat.mul 4 len))) (Nat.add len 1) (stJ m v)
noncomputable def cyJ (n : Nat) (chk : Nat → Bool) (t0 t1 t2 t3 : Nat) (f : Nat) : Nat → Nat → Nat → Nat → Bool := Nat.rec (motive := fun _ => Nat → Nat → Nat → Nat → Bool) (fun acc len _ _ => bif Nat.beq len n then chk acc else true)
  (fun _ ih acc len m i => bif Nat.beq len i then true else
    adJ (Nat.mod (Nat.add (dgJ 4 acc i) t0) n) acc len m (fun a1 l1 m1 =>
    adJ (Nat.mod (Nat.add (dgJ 4 acc i) t1) n) a1 l1 m1 (fun a2 l2 m2 =>
    adJ (Nat.mod (Nat.add (dgJ 4 acc i) t2) n) a2 l2 m2 (fun a3 l3 m3 =>
    adJ (Nat.mod (Nat.add (dgJ 4 acc i) t3) n) a3 l3 m3 (fun a4 l4 m4 => ih a4 l4 m4 (Nat.add i 1)))))) f
section SI5
variable {D : Int} {told els : List (List Int)} {f : Nat → Nat} {N : Nat} {x : Nat → Nat}
/-- as far as it has come, by exponents -/
def RlJ (els : List (List Int)) (f : Nat → Nat) (N : Nat) (E : Nat → Nat) (es : List (List Int)) (acc len m : Nat) : Prop :=
  es.length = len ∧ (∀ k, k < len → E k < N ∧ es.getD k [] = els.getD (f (E k)) []) ∧ (∀ i j, i < len → j < len → E i = E j → i = j) ∧ acc = pkJ 4 E len ∧ ∀ v, biJ m v = true ↔ ∃ k, k < len ∧ E k = v
/-- what is told, by exponents -/
def TlJ (D : Int) (told els : List (List Int)) (f : Nat → Nat) (N : Nat) (x : Nat → Nat) : Prop :=
  N = els.length ∧ (∀ k, k < N → f k < N) ∧ (∀ k l, k < N → l < N → f k = f l → k = l) ∧ (∀ k l, k < N → l < N → gmt D els (f k) (f l) = f ((k + l) % N)) ∧ told.length ≤ 4 ∧ (∀ u, u < told.length → x u < N ∧ told.getD u [] = els.getD (f (x u)) []) ∧ ∀ u, told.length ≤ u → x u = 0
theorem cy_u (hC : Clo D told els) (hT : TlJ D told els f N x) {E : Nat → Nat} {es : List (List Int)} {acc len m i u : Nat} (hR : RlJ els f N E es acc len m) (hi : i < len) (hF : ∃ F, clRun D told F es i (min u told.length) = some (.inr els)) :
    ∃ (E' : Nat → Nat) (es' : List (List Int)) (acc' len' m' : Nat), RlJ els f N E' es' acc' len' m' ∧ (∀ k, k < len → E' k = E k) ∧ len ≤ len' ∧ (∃ F, clRun D told F es' i (min (u + 1) told.length) = some (.inr els)) ∧ ∀ cont, adJ ((E i + x u) % N) acc len m cont = cont acc' len' m' := by
  obtain ⟨r1, r2, r3, r4, r5⟩ := hR
  obtain ⟨eN, f1, f2, f3, t4, t5, t6⟩ := hT
  have Ei := (r2 i hi).1
  by_cases hu : u < told.length
  · obtain ⟨F, hF⟩ := hF
    rw [Nat.min_eq_left (by omega)] at hF
    cases F with
    | zero => cases hF
    | succ F =>
      obtain ⟨xu, tu⟩ := t5 u hu
      have hw : (E i + x u) % N < N := Nat.mod_lt _ (by omega)
      have hm : mulL D (es.getD i []) (told.getD u []) = some (els.getD (f ((E i + x u) % N)) []) := by
        have g := (hC.gm (k := f (E i)) (l := f (x u)) (by rw [← eN]; exact f1 _ Ei) (by rw [← eN]; exact f1 _ xu)).2
        rw [f3 _ _ Ei xu] at g
        rw [(r2 i hi).2, tu]
        exact g
      have hmem : els.getD (f ((E i + x u) % N)) [] ∈ es ↔ ∃ k, k < len ∧ E k = (E i + x u) % N := by
        rw [mem_getD]
        constructor
        · rintro ⟨k, hk, e⟩
          rw [r1] at hk
          rw [(r2 k hk).2] at e
          exact ⟨k, hk, f2 _ _ (r2 k hk).1 hw (getD_inj hC.2.2.2.1 (by rw [← eN]; exact f1 _ (r2 k hk).1) (by rw [← eN]; exact f1 _ hw) e)⟩
        · rintro ⟨k, hk, e⟩
          exact ⟨k, by omega, by rw [(r2 k hk).2, e]⟩
      unfold clRun at hF
      rw [if_neg (by omega), if_neg (by omega)] at hF
      unfold clStep at hF
      rw [hm] at hF
      (try dsimp only at hF)
      rw [Nat.min_eq_left (by omega)]
      by_cases hin : ∃ k, k < len ∧ E k = (E i + x u) % N
      · rw [if_pos (hmem.mpr hin)] at hF
        refine ⟨E, es, acc, len, m, ⟨r1, r2, r3, r4, r5⟩, fun _ _ => rfl, Nat.le_refl _, ⟨F, hF⟩, fun cont => ?_⟩
        unfold adJ
        rw [(r5 _).mpr hin]; rfl
      · rw [if_neg (fun h9 => hin (hmem.mp h9))] at hF
        by_cases h120 : es.length = 120
        · rw [if_pos h120] at hF
          cases hF
        · rw [if_neg h120] at hF
          have hb : biJ m ((E i + x u) % N) = false := by
            cases e : biJ m ((E i + x u) % N)
            · rfl
            · exact absurd ((r5 _).mp e) hin
          refine ⟨fun k => if k = len then (E i + x u) % N else E k, es ++ [els.getD (f ((E i + x u) % N)) []], Nat.add acc (Nat.shiftLeft ((E i + x u) % N) (Nat.mul 4 len)), Nat.add len 1, stJ m ((E i + x u) % N), ⟨by rw [List.length_append, r1]; rfl, fun k hk => ?_, fun a b ha hb9 e => ?_, ?_, fun v => ?_⟩, fun k hk => if_neg (by omega), Nat.le_succ _, ⟨F, hF⟩, fun cont => ?_⟩
          · have hk2 : k < len + 1 := hk
            by_cases e : k = len
            · dsimp only
              rw [if_pos e, e, ← r1]
              exact ⟨hw, getD_end9⟩
            · dsimp only
              rw [if_neg e, getD_lt9 (by omega)]
              exact r2 k (by omega)
          · have ha2 : a < len + 1 := ha
            have hb2 : b < len + 1 := hb9
            (try dsimp only at e)
            by_cases e1 : a = len
            · by_cases e2 : b = len
              · omega
              · rw [if_pos e1, if_neg e2] at e
                exact absurd ⟨b, by omega, e.symm⟩ hin
            · by_cases e2 : b = len
              · rw [if_neg e1, if_pos e2] at e
                exact absurd ⟨a, by omega, e⟩ hin
              · rw [if_neg e1, if_neg e2] at e
                exact r3 a b (by omega) (by omega) e
          · show acc + Nat.shiftLeft ((E i + x u) % N) (Nat.mul 4 len) = pkJ 4 (fun k => if k = len then (E i + x u) % N else E k) len + (if len = len then (E i + x u) % N else E len) * 2 ^ (4 * len)
            have e1 : Nat.shiftLeft ((E i + x u) % N) (Nat.mul 4 len) = (E i + x u) % N * 2 ^ (4 * len) := Nat.shiftLeft_eq _ _
            rw [if_pos rfl, r4, e1, pkJ_ext (b := 4) (f := fun k => if k = len then (E i + x u) % N else E k) (h := E) len (fun k hk => if_neg (by omega))]
          · rw [biJ_st, Bool.or_eq_true, decide_eq_true_eq, r5]
            constructor
            · rintro (⟨k, hk, e⟩ | e)
              · exact ⟨k, Nat.lt_succ_of_lt hk, by (try dsimp only); rw [if_neg (by omega)]; exact e⟩
              · exact ⟨len, Nat.lt_succ_self _, by (try dsimp only); rw [if_pos rfl]; exact e⟩
            · rintro ⟨k, hk, e⟩
              have hk2 : k < len + 1 := hk
              (try dsimp only at e)
              by_cases e1 : k = len
              · rw [if_pos e1] at e
                exact .inr e
              · rw [if_neg e1] at e
                exact .inl ⟨k, by omega, e⟩
          · unfold adJ
            rw [hb]; rfl
  · have x0 : x u = 0 := t6 u (by omega)
    have e : (E i + x u) % N = E i := by rw [x0, Nat.add_zero]; exact Nat.mod_eq_of_lt Ei
    rw [Nat.min_eq_right (by omega)] at hF
    refine ⟨E, es, acc, len, m, ⟨r1, r2, r3, r4, r5⟩, fun _ _ => rfl, Nat.le_refl _, by rw [Nat.min_eq_right (by omega)]; exact hF, fun cont => ?_⟩
    unfold adJ
    rw [e, (r5 _).mpr ⟨i, hi, rfl⟩]; rfl
theorem cy_go (hC : Clo D told els) (hT : TlJ D told els f N x) (h16 : N ≤ 16) (chk : Nat → Bool) : ∀ g i, i + g = N → ∀ E es acc len m, RlJ els f N E es acc len m → i ≤ len → (∃ F, clRun D told F es i 0 = some (.inr els)) → cyJ N chk (x 0) (x 1) (x 2) (x 3) g acc len m i = true →
    ∃ E : Nat → Nat, (∀ k, k < N → E k < N ∧ els.getD k [] = els.getD (f (E k)) []) ∧ chk (pkJ 4 E N) = true := by
  have eN := hT.1
  have t4 := hT.2.2.2.2.1
  have fin : ∀ E es acc len m i, RlJ els f N E es acc len m → len ≤ i → (∃ F, clRun D told F es i 0 = some (.inr els)) → es = els := fun E es acc len m i hR hi hF => by
    obtain ⟨F, hF⟩ := hF
    cases F with
    | zero => cases hF
    | succ F =>
      unfold clRun at hF
      rw [if_pos (by rw [hR.1]; exact hi)] at hF
      cases hF
      rfl
  intro g
  induction g with
  | zero =>
    intro i hi E es acc len m hR hil hF h
    have hle : len ≤ N := inj_le (fun j hj => (hR.2.1 j hj).1) hR.2.2.1
    have e := fin E es acc len m i hR (by omega) hF
    have el : len = N := by rw [← hR.1, e, eN]
    subst el
    subst e
    refine ⟨E, hR.2.1, ?_⟩
    have h2 : (bif Nat.beq len len then chk acc else true) = true := h
    rw [bqJ_in rfl] at h2
    rw [← hR.2.2.2.1]
    exact h2
  | succ g ih =>
    intro i hi E es acc len m hR hil hF h
    by_cases e : len = i
    · have e2 := fin E es acc len m i hR (by omega) hF
      have el : len = N := by rw [← hR.1, e2, eN]
      omega
    · have hlt : i < len := by omega
      have hb : Nat.beq len i = false := by
        cases hb : Nat.beq len i
        · rfl
        · exact absurd (bqJ hb) e
      have hd : dgJ 4 acc i = E i := by
        rw [hR.2.2.2.1]
        exact dgJ_pk (fun k hk => by have := (hR.2.1 k hk).1; omega) hlt
      have h2 : (bif Nat.beq len i then true else
          adJ ((dgJ 4 acc i + x 0) % N) acc len m (fun a1 l1 m1 => adJ ((dgJ 4 acc i + x 1) % N) a1 l1 m1 (fun a2 l2 m2 => adJ ((dgJ 4 acc i + x 2) % N) a2 l2 m2 (fun a3 l3 m3 => adJ ((dgJ 4 acc i + x 3) % N) a3 l3 m3 (fun a4 l4 m4 => cyJ N chk (x 0) (x 1) (x 2) (x 3) g a4 l4 m4 (i + 1)))))) = true := h
      rw [hb, hd] at h2
      have h3 : adJ ((E i + x 0) % N) acc len m (fun a1 l1 m1 => adJ ((E i + x 1) % N) a1 l1 m1 (fun a2 l2 m2 => adJ ((E i + x 2) % N) a2 l2 m2 (fun a3 l3 m3 => adJ ((E i + x 3) % N) a3 l3 m3 (fun a4 l4 m4 => cyJ N chk (x 0) (x 1) (x 2) (x 3) g a4 l4 m4 (i + 1))))) = true := h2
      obtain ⟨E1, es1, a1, l1, m1, R1, k1, g1, F1, c1⟩ := cy_u hC hT (u := 0) hR hlt (by rw [Nat.min_eq_left (Nat.zero_le _)]; exact hF)
      rw [c1] at h3
      obtain ⟨E2, es2, a2, l2, m2, R2, k2, g2, F2, c2⟩ := cy_u hC hT (u := 1) R1 (by omega) F1
      rw [k1 i hlt] at c2
      (try dsimp only at h3)
      rw [c2] at h3
      obtain ⟨E3, es3, a3, l3, m3, R3, k3, g3, F3, c3⟩ := cy_u hC hT (u := 2) R2 (by omega) F2
      rw [k2 i (by omega), k1 i hlt] at c3
      (try dsimp only at h3)
      rw [c3] at h3
      obtain ⟨E4, es4, a4, l4, m4, R4, k4, g4, F4, c4⟩ := cy_u hC hT (u := 3) R3 (by omega) F3
      rw [k3 i (by omega), k2 i (by omega), k1 i hlt] at c4
      (try dsimp only at h3)
      rw [c4] at h3
      (try dsimp only at h3)
      refine ih (i + 1) (by omega) E4 es4 a4 l4 m4 R4 (by omega) ?_ h3
      obtain ⟨F, hF4⟩ := F4
      rw [Nat.min_eq_right (by omega)] at hF4
      cases F with
      | zero => cases hF4
      | succ F =>
        unfold clRun at hF4
        rw [if_neg (by rw [R4.1]; omega), if_pos (Nat.le_refl _)] at hF4
        exact ⟨F, hF4⟩
end SI5
/-- classes of who commutes are numbered as its elements -/
theorem ls_id {N : Nat} {m : Nat → Nat → Nat} (h : IsG N m) (hr : rsN N m = N) {a : Nat} (ha : a < N) : lsN N m a = a := by
  obtain ⟨i1, i2, i3, i4, i5, i6, i7⟩ := clAll_ok h N (Nat.le_refl _)
  have st : ∀ c d, c < d → d < N → lsN N m c < lsN N m d := fun c d hcd hd => by
    have k := i7 c d hcd (by show d < rsN N m; omega)
    have a := (lsN_s h (show c < rsN N m by omega)).1
    have b := (lsN_s h (show d < rsN N m by omega)).1
    rw [a, b] at k
    omega
  have up : ∀ j c, c + j < N → lsN N m c + j ≤ lsN N m (c + j) := by
    intro j
    induction j with
    | zero => intro c _; exact Nat.le_refl _
    | succ j ih =>
      intro c hc
      have := ih c (by omega)
      have := st (c + j) (c + (j + 1)) (by omega) hc
      omega
  have u1 := up a 0 (by omega)
  have u2 := up (N - 1 - a) a (by omega)
  have l := (lsN_s h (show a + (N - 1 - a) < rsN N m by omega)).2.1
  rw [Nat.zero_add] at u1
  omega
def tcJ (D : Int) (a : P2) : Nat → P2 × P2
  | 0 => ((4, 0), a)
  | k + 1 => ((tcJ D a k).2, sb (tp D (tcJ D a k).2 a) (tcJ D a k).1)
noncomputable def ckV (d : List Nat) (a : P2) : Bool := Nat.beq (djR d) (djN d) && Nat.beq (ordT (djD d : Int) a) (djN d) && alJ (djN d) (fun k => Nat.beq (djC d k) k && decide ((tcJ (djD d : Int) a k).1 = djM d k) && alJ (djN d) (fun l => Nat.beq (djT d k l) (Nat.mod (Nat.add k l) (djN d))))
noncomputable def cyA (n p WW K t0 : Nat) : Bool := alJ n (fun t1 => alJ n (fun t2 => alJ n (fun t3 => cyJ n (leafJ p n WW K) t0 t1 t2 t3 n 0 1 1 0)))
theorem tc_of {D : Int} {N : Nat} {m : Nat → Nat → Nat} {t : Nat → P2} (h : TG D N m t) {g : Nat} (hg : g < N) : ∀ k, tcJ D (t g) k = (t (pwr m g k), t (pwr m g (k + 1))) := by
  have hI := h.1
  intro k
  induction k with
  | zero =>
    show ((4, 0), t g) = (t 0, t (m 0 g))
    rw [h.2.1, (hI.2.2.1 g hg).1]
  | succ k ih =>
    show ((tcJ D (t g) k).2, sb (tp D (tcJ D (t g) k).2 (t g)) (tcJ D (t g) k).1) = _
    rw [ih]
    show (t (pwr m g (k + 1)), sb (tp D (t (m (pwr m g k) g)) (t g)) (t (pwr m g k))) = _
    rw [← h.xx (pwr_lt hI hg k) hg]
    rfl
theorem cyc_types {D : Int} {told els : List (List Int)} {d : List Nat} {WW K : Nat} {a : P2} {g : Nat} (hC : Clo D told els) (hD9 : D = 2 ∨ D = 3 ∨ D = 5) (hcl : clos D told = some (.inr els)) (ht : tolds D told) (hg : g < els.length) (hi : ISO els.length (gmt D els) (tra els) (od els.length (gmt D els) g) (fun k l => (k + l) % od els.length (gmt D els) g) (fun k => tra els (pwr (gmt D els) g k))) (ha : tra els g = a)
    (hD : D = (djD d : Int)) (hk : chkJ d = true) (hV : ckV d a = true) (hW : ckW d WW K = true) (hp : ∀ t0, t0 < djN d → cyA (djN d) (djP d) WW K t0 = true) : GD D els ∧ CONN D els := by
  have hI := hC.isG
  have hTG := hC.tg (by omega)
  unfold ckV at hV
  simp only [Bool.and_eq_true] at hV
  obtain ⟨⟨v1, v2⟩, v3⟩ := hV
  have eR := bqJ v1
  have eo : od els.length (gmt D els) g = djN d := by
    have o := hC.od_tr hD9 hg
    rw [← bqJ v2, ← hD, ← ha]
    unfold ordT
    show _ = (match trO D (gd (els.getD g []) 0) (gd (els.getD g []) 1) with
      | some k => k
      | none => 0)
    rw [o]
  have eo2 := eo
  rw [eo] at hi
  obtain ⟨e, f, q, h⟩ := ISO.two hi
  have hv : ∀ k, k < djN d → djC d k = k ∧ (tcJ D a k).1 = djM d k ∧ ∀ l, l < djN d → djT d k l = (k + l) % djN d := fun k hk9 => by
    have b := alJ_of v3 k hk9
    simp only [Bool.and_eq_true] at b
    refine ⟨bqJ b.1.1, by rw [hD]; exact of_decide_eq_true b.1.2, fun l hl => bqJ (alJ_of b.2 l hl)⟩
  have hJ : ISW D els d (fun k => tra els (pwr (gmt D els) g k)) f q := by
    refine ⟨e.symm, hD, hk, ⟨h.1, h.2.1, fun k l hk9 hl9 => ?_, h.2.2.2⟩, fun k hk9 => ?_⟩
    · rw [(hv k (by omega)).2.2 l (by omega)]
      exact h.2.2.1 k l hk9 hl9
    · have b := hv k (by omega)
      rw [b.1, ← b.2.1, ← ha, tc_of hTG hg]
  obtain ⟨ep, es, hpr, h242, h2N⟩ := hJ.pr hC hD9
  have p1 := hpr.1
  have r12 := hJ.r12
  have er : rsN els.length (gmt D els) = els.length := by rw [(hJ.cls hI).r hI, eR]; exact e.symm
  have hT : ∀ u, u < told.length → ∃ w, w < els.length ∧ told.getD u [] = els.getD (f w) [] := fun u hu => by
    obtain ⟨m9, hm, em⟩ := hC.2.2.2.2.2.1 0 u hC.2.1 hu
    rw [hC.2.2.1, mulL_l1 (ht.2 u hu).1] at em
    have k := h.2.1 m9 hm
    exact ⟨q m9, k.2.1, by rw [k.2.2.2]; exact Option.some.inj em⟩
  obtain ⟨x, hx⟩ : ∃ x : Nat → Nat, ∀ u, (u < told.length → x u < els.length ∧ told.getD u [] = els.getD (f (x u)) []) ∧ (told.length ≤ u → x u = 0) :=
    ⟨fun u => if u < told.length then theN (fun w => w < els.length ∧ told.getD u [] = els.getD (f w) []) else 0, fun u => ⟨fun hu => by
      (try dsimp only)
      rw [if_pos hu]; exact theN_of (hT u hu), fun hu => if_neg (by omega)⟩⟩
  have hTl : TlJ D told els f els.length x := ⟨rfl, fun k hk9 => (h.2.1 k hk9).1, fun k l hk9 hl9 e9 => by rw [← (h.2.1 k hk9).2.2.1, ← (h.2.1 l hl9).2.2.1, e9], fun k l hk9 hl9 => by rw [e]; exact (h.2.2.1 k l hk9 hl9).2, ht.1, fun u hu => (hx u).1 hu, fun u hu => (hx u).2 hu⟩
  have xl : ∀ u, x u < els.length := fun u => by
    by_cases hu : u < told.length
    · exact ((hx u).1 hu).1
    · rw [(hx u).2 (by omega)]; exact hI.1
  have hcy : cyJ els.length (leafJ (djP d) (djR d) WW K) (x 0) (x 1) (x 2) (x 3) els.length 0 1 1 0 = true := by
    have xl2 : ∀ u, x u < djN d := fun u => by rw [← e]; exact xl u
    have c := alJ_of (alJ_of (alJ_of (hp (x 0) (xl2 0)) (x 1) (xl2 1)) (x 2) (xl2 2)) (x 3) (xl2 3)
    rw [eR, e]; exact c
  have hst : RlJ els f els.length (fun _ => 0) [oneL] 0 1 1 := by
    refine ⟨rfl, fun k hk9 => ⟨hI.1, ?_⟩, fun i j hi9 hj9 _ => by omega, rfl, fun v => ?_⟩
    · have : k = 0 := by omega
      subst this
      rw [h.1, hC.2.2.1]; rfl
    · have e1 : (1 : Nat) = stJ 0 0 := rfl
      rw [e1, biJ_st, biJ_0, Bool.false_or, decide_eq_true_eq]
      exact ⟨fun h9 => ⟨0, by decide, h9⟩, fun ⟨_, _, h9⟩ => h9⟩
  obtain ⟨E, hE, hc⟩ := cy_go hC hTl (by omega) (leafJ (djP d) (djR d) WW K) els.length 0 (Nat.zero_add _) _ _ 0 1 1 hst (by omega) ⟨700, hcl⟩ hcy
  have hs : ∀ k, k < els.length → E k = piJ D els d q k := fun k hk9 => by
    have b := hE k hk9
    have e1 := getD_inj hC.2.2.2.1 hk9 (h.2.1 _ b.1).1 b.2
    show _ = djC d (q (lsN els.length (gmt D els) k))
    rw [ls_id hI er hk9]
    have e2 : q k = E k := by
      have := (h.2.1 _ b.1).2.2.1
      rw [← e1] at this
      exact this
    rw [e2, (hv (E k) (by have := b.1; omega)).1]
  have hgd := hJ.gd hC hD9 (leaf_ok (s := piJ D els d q) ⟨by omega, h242⟩ r12 hW (fun a9 ha9 => by
    rw [dgJ_pk (fun i hi9 => ?_) (show a9 < els.length by omega)]
    · exact hs a9 (by omega)
    · have := (hE i hi9).1
      omega) (hJ.prm hC).1 hc)
  exact ⟨hgd, hJ.conn hC hD9 hgd⟩
