/-! ===== the reference: how often, ways, powers ===== -/
def FX (D : Int) (told els : List (List Int)) : Prop := Clo D told els ∧ GD D els ∧ isPr (pN D els) ∧ pN D els < 242 ∧ 2 * els.length + 1 ≤ pN D els ∧ sN D els < pN D els ∧ (D = 2 ∨ D = 3 ∨ D = 5)
noncomputable def wG (D : Int) (els : List (List Int)) (a j : Nat) : Int := gd (els.getD (lsN els.length (gmt D els) a) []) j
noncomputable def natN (D : Int) (els : List (List Int)) (a : Nat) : Int := ovV (pN D els) ((wG D els a 0 + (sN D els : Int) * wG D els a 1) % (pN D els : Int)) 2
noncomputable def ofN (D : Int) (els : List (List Int)) (f : Nat → Int) (i : Nat) : Int := ovV (pN D els) (sm (fun a => (zG D els a : Int) * (f a * vlC D els i (iG D els a))) (rG D els) % (pN D els : Int)) (els.length : Int)
noncomputable def ofP (D : Int) (els : List (List Int)) (a b i : Nat) : Int := ofN D els (fun k => (vlC D els a k * vlC D els b k) % (pN D els : Int)) i
noncomputable def waN (D : Int) (els : List (List Int)) (a b : Nat) : Int := ofN D els (fun k => (natN D els k * vlC D els a k) % (pN D els : Int)) b
noncomputable def walN (D : Int) (els : List (List Int)) (a n : Nat) : Int := sm (fun b => waN D els a b) n
noncomputable def wwN (D : Int) (els : List (List Int)) (x : Int) (n : Nat) : Int := sm (fun a => if walN D els a (rG D els) = x then 1 else 0) n
noncomputable def diaN (D : Int) (els : List (List Int)) : Int := if wwN D els 1 (rG D els) = 4 then 1 else if wwN D els 1 (rG D els) = 3 then 2 else 0
/-- rows of powers: this one, the one ahead -/
noncomputable def pwN (D : Int) (els : List (List Int)) (a : Nat) : Nat → Int × Int
  | 0 => (1, 0)
  | n + 1 => ((natN D els a * (pwN D els a n).1 - (pwN D els a n).2) % (pN D els : Int), (pwN D els a n).1)
theorem ovV_cg {p : Nat} {a b : Int} (y : Int) (h : a % (p : Int) = b % (p : Int)) : ovV p a y = ovV p b y := em_mul h rfl
section SC0
variable {E : Ev} {σ : Sg} {Q : NO → Sg → Prop} {g : Sg} {c t : Nat}
variable {D : Int} {told els : List (List Int)}
theorem chV_rng {p : Nat} (h : 0 < p) (d : Nat) (sz : Nat → Nat) (v : Nat → Int) (a : Nat) : 0 ≤ chV p d sz v a ∧ chV p d sz v a < (p : Int) := ov_rng h _ _
theorem vlC_rng (h : 0 < pN D els) (i a : Nat) : 0 ≤ vlC D els i a ∧ vlC D els i a < (pN D els : Int) := chV_rng h _ _ _ _
theorem natN_rng (h : 0 < pN D els) (a : Nat) : 0 ≤ natN D els a ∧ natN D els a < (pN D els : Int) := ov_rng h _ _
theorem ofN_rng (h : 0 < pN D els) (f : Nat → Int) (i : Nat) : 0 ≤ ofN D els f i ∧ ofN D els f i < (pN D els : Int) := ov_rng h _ _
theorem waN_rng (h : 0 < pN D els) (a b : Nat) : 0 ≤ waN D els a b ∧ waN D els a b < (pN D els : Int) := ofN_rng h _ _
theorem pwN_rng (h : 1 < pN D els) (a : Nat) : ∀ n, (0 ≤ (pwN D els a n).1 ∧ (pwN D els a n).1 < (pN D els : Int)) ∧ (0 ≤ (pwN D els a n).2 ∧ (pwN D els a n).2 < (pN D els : Int)) := by
  intro n
  induction n with
  | zero => exact ⟨⟨by show (0 : Int) ≤ 1; omega, by show (1 : Int) < _; omega⟩, ⟨by show (0 : Int) ≤ 0; omega, by show (0 : Int) < _; omega⟩⟩
  | succ n ih => exact ⟨em_rng (by omega) _, ih.1⟩
/-- the reference's characters lie there -/
def MX (g : Sg) (c t : Nat) (τ : Sg) (D : Int) (els : List (List Int)) : Prop := Lay LM g c t τ ∧ MAll τ D els (pN D els) (sN D els) ∧ KMd D els τ
theorem MX.fr {W : Nat → Nat → Prop} {V : Nat → Prop} {τ : Sg} (h : MX g c t σ D els) (hL : Lay LM g c t τ) (k : Fr W V σ τ) (w : ∀ a j, W a j → 2963 ≤ a) (v : ∀ a, ¬ V a) : MX g c t τ D els :=
  ⟨hL, h.2.1.fr k ⟨fun a j h1 h2 h3 => by have := w a j h3; omega, fun j h1 h2 h3 => by have := w 172 j h3; omega⟩, KMd_fm D els σ τ (k.mono (fun a j h9 => .inr (w a j h9)) (fun a h9 => absurd h9 (v a))) h.2.2⟩
theorem MAll.kk (h : MAll σ D els (pN D els) (sN D els)) : gI σ 172 16 = (rG D els : Int) ∧ gI σ 172 18 = (pN D els : Int) ∧ gI σ 172 15 = (els.length : Int) ∧ gI σ 172 19 = (sN D els : Int) := ⟨h.2.2.2.2.1.2.1, h.2.2.2.2.2.1, h.2.1.1, h.2.2.2.2.2.2⟩
theorem MAll.cl {p s : Nat} (h : MAll σ D els p s) (hI : IsG els.length (gmt D els)) {a : Nat} (ha : a < rG D els) : gI σ 554 a = (lsN els.length (gmt D els) a : Int) ∧ gI σ 555 a = (zG D els a : Int) ∧ gI σ 552 (lsN els.length (gmt D els) a) = (iv els.length (gmt D els) (lsN els.length (gmt D els) a) : Int) ∧ gI σ 553 (iv els.length (gmt D els) (lsN els.length (gmt D els) a)) = (iG D els a : Int) ∧ lsN els.length (gmt D els) a < els.length ∧ iv els.length (gmt D els) (lsN els.length (gmt D els) a) < els.length ∧ iG D els a < rG D els ∧ zG D els a ≤ 120 := by
  have l := lsN_s hI ha
  have i1 := iv_lt hI l.2.1
  have h1 := h.2.2.2.2.1.2.2 a ha
  have n := h.1.1
  refine ⟨h1.1.trans l.1, h1.2.trans (zsN_s hI ha), h.2.2.1 _ l.2.1, (h.2.2.2.2.1.1 _ i1).trans (csN_s hI i1).1, l.2.1, i1, ivc_lt hI ha, Nat.le_trans (zsN_le _ _ a) n⟩
theorem MX.k (h : MX g c t σ D els) : gI σ 172 16 = (rG D els : Int) ∧ gI σ 172 18 = (pN D els : Int) ∧ gI σ 172 15 = (els.length : Int) ∧ gI σ 172 19 = (sN D els : Int) := h.2.1.kk
theorem MX.cl (h : MX g c t σ D els) (hI : IsG els.length (gmt D els)) {a : Nat} (ha : a < rG D els) : gI σ 554 a = (lsN els.length (gmt D els) a : Int) ∧ gI σ 555 a = (zG D els a : Int) ∧ gI σ 552 (lsN els.length (gmt D els) a) = (iv els.length (gmt D els) (lsN els.length (gmt D els) a) : Int) ∧ gI σ 553 (iv els.length (gmt D els) (lsN els.length (gmt D els) a)) = (iG D els a : Int) ∧ lsN els.length (gmt D els) a < els.length ∧ iv els.length (gmt D els) (lsN els.length (gmt D els) a) < els.length ∧ iG D els a < rG D els ∧ zG D els a ≤ 120 := h.2.1.cl hI ha
theorem MX.row (h : MX g c t σ D els) {i a : Nat} (hi : i < rG D els) (ha : a < rG D els) : gI σ (gR σ 2913 i) a = vlC D els i a := (h.2.2.2.2 i hi).2.2 a ha
theorem M_natural0 {a : Nat} (hL : Lay LM g c t σ) (hM : MAll σ D els (pN D els) (sN D els)) (hX : FX D told els) (ha : a < rG D els) (hq : Q (.inl (some (vi (natN D els a)))) σ) : CC E mX12_natural [vr 172, vi a] σ Q := by
  obtain ⟨hC, hG, hp, h242, hN, hs, hD⟩ := hX
  have hI := hC.isG
  obtain ⟨k16, k18, k15, k19⟩ := hM.kk
  have p1 := hp.1
  have r12 : rG D els ≤ 12 := hG.1
  obtain ⟨q1, q2, q3, q4, q5, q6, q7, q8⟩ := hM.cl hI ha
  have n120 := hC.1
  have hE := hM.1.2 _ q5
  have bd := hE.1.2.bd (show 1 ≤ D by omega)
  have b0 := bd 0 (by omega)
  have b1 := bd 1 (by omega)
  have e0 := hE.2 0 (by omega)
  have e1 := hE.2 1 (by omega)
  have w0 : wG D els a 0 = gd (els.getD (lsN els.length (gmt D els) a) []) 0 := rfl
  have w1 : wG D els a 1 = gd (els.getD (lsN els.length (gmt D els) a) []) 1 := rfl
  rw [← w0] at b0 e0
  rw [← w1] at b1 e1
  unfold natN at hq
  generalize wG D els a 0 = x0 at *
  generalize wG D els a 1 = x1 at *
  have m1 := m4 (show ((sN D els : Nat) : Int).natAbs ≤ 1000 by omega) (show x1.natAbs ≤ 4 by omega)
  have u1 : wL ((sN D els : Int) * x1) = (sN D els : Int) * x1 := inL_of (by omega)
  have u2 : wL (x0 + (sN D els : Int) * x1) = x0 + (sN D els : Int) * x1 := inL_of (by omega)
  have r1 := em_rng (p := pN D els) (by omega) (x0 + (sN D els : Int) * x1)
  refine C_X12_natural (B_X12_natural_0 hL ?_)
  rw [show ((a : Nat) : Int).toNat = a by omega, q1, show ((lsN els.length (gmt D els) a : Nat) : Int).toNat = lsN els.length (gmt D els) a by omega, k19, e0, e1]
  refine ⟨⟨by omega, by omega⟩, ⟨by omega, by omega⟩, fun v5 e5 v6 e6 _ => ?_⟩
  rw [e5, u1, u2] at e6
  subst e6
  exact M_mod hL k18 (by omega) ⟨hL, fun _ _ => M_over hL k18 (by omega) (by omega) (by omega) ⟨hL, fun _ _ => hq⟩⟩
theorem M_natural {a : Nat} (h : MX g c t σ D els) (hX : FX D told els) (ha : a < rG D els) (hq : Q (.inl (some (vi (natN D els a)))) σ) : CC E mX12_natural [vr 172, vi a] σ Q := M_natural0 h.1 h.2.1 hX ha hq
theorem M_oftenIn {i x n : Nat} {f : Nat → Int} (h : MX g c t σ D els) (hX : FX D told els) (hP : PA LM x n) (hn : rG D els ≤ n) (hi : i < rG D els) (hf : ∀ a, a < rG D els → gI σ x a = f a ∧ 0 ≤ f a ∧ f a < (pN D els : Int)) (hq : Q (.inl (some (vi (ofN D els f i)))) σ) : CC E mX12_oftenIn [vr 172, vr x, vi i] σ Q := by
  obtain ⟨hC, hG, hp, h242, hN, hs, hD⟩ := hX
  have hI := hC.isG
  obtain ⟨k16, k18, k15, k19⟩ := h.k
  have p1 := hp.1
  have n120 := hC.1
  have r12 : rG D els ≤ 12 := hG.1
  have rw9 := (h.2.2.2.2 i hi).1
  let S9 : Nat → Int := fun k => sm (fun a => (((zG D els a : Int) * f a) % (pN D els : Int)) * vlC D els i (iG D els a)) k
  have eS : S9 (rG D els) % (pN D els : Int) = sm (fun a => (zG D els a : Int) * (f a * vlC D els i (iG D els a))) (rG D els) % (pN D els : Int) := by
    refine sm_em (rG D els) (fun a _ => ?_)
    rw [em_mul (em_id _ _) rfl, Int.mul_assoc]
  refine C_X12_oftenIn (B_X12_oftenIn_0 h.1 hP (fun _ => ?_))
  refine loopU (N := rG D els) (G := fun a τ => GG E mX12_oftenIn 5 [some (vr 172), some (vr x), some (vi i), some (vl (S9 a)), none, some (vi a)] [] τ 0 0 Q) (P := fun a τ => τ = σ ∧ (S9 a).natAbs ≤ 1000000 * a) ?_ ?_ 0 σ (by omega) ⟨rfl, by show (0 : Int).natAbs ≤ _; decide⟩
  · rintro a τ ha ⟨rfl, hb⟩ next
    obtain ⟨q1, q2, q3, q4, q5, q6, q7, q8⟩ := h.cl hI ha
    obtain ⟨f1, f2, f3⟩ := hf a ha
    have e9 : S9 (a + 1) = S9 a + (((zG D els a : Int) * f a) % (pN D els : Int)) * vlC D els i (iG D els a) := rfl
    have v9 := vlC_rng (D := D) (els := els) (by omega) i (iG D els a)
    have m1 := m4 (show ((zG D els a : Nat) : Int).natAbs ≤ 120 by omega) (show (f a).natAbs ≤ 1000 by omega)
    have r1 := em_rng (p := pN D els) (by omega) ((zG D els a : Int) * f a)
    have m2 := m4 (show (((zG D els a : Int) * f a) % (pN D els : Int)).natAbs ≤ 1000 by omega) (show (vlC D els i (iG D els a)).natAbs ≤ 1000 by omega)
    have u1 : wL ((zG D els a : Int) * f a) = (zG D els a : Int) * f a := inL_of (by omega)
    have rr := h.row hi q7
    refine B_X12_oftenIn_5 h.1 hP ?_
    rw [k16, show ((a : Nat) : Int).toNat = a by omega, f1, q2, u1]
    refine ⟨fun h9 => absurd h9 (by omega), fun _ => ⟨⟨by omega, by omega⟩, ⟨by omega, by omega⟩, fun v8 e8 _ => ?_⟩⟩
    rw [e8]
    refine M_mod h.1 k18 (by omega) ⟨h.1, fun _ => ⟨⟨by omega, by omega⟩, fun b12 e12 _ => ?_⟩⟩
    rw [show ((i : Nat) : Int).toNat = i by omega] at e12
    rw [q1, show ((lsN els.length (gmt D els) a : Nat) : Int).toNat = lsN els.length (gmt D els) a by omega, q3, show ((iv els.length (gmt D els) (lsN els.length (gmt D els) a) : Nat) : Int).toNat = iv els.length (gmt D els) (lsN els.length (gmt D els) a) by omega, q4, show ((iG D els a : Nat) : Int).toNat = iG D els a by omega]
    refine ⟨⟨by omega, by omega⟩, ⟨by omega, by omega⟩, ⟨by omega, by omega⟩, fun v17 e17 => ⟨⟨by omega, by omega⟩, fun _ => ?_⟩⟩
    rw [e12, rr] at e17
    have u2 : wL ((((zG D els a : Int) * f a) % (pN D els : Int)) * v17) = (((zG D els a : Int) * f a) % (pN D els : Int)) * vlC D els i (iG D els a) := by rw [e17]; exact inL_of (by omega)
    have u3 : wL (S9 a + (((zG D els a : Int) * f a) % (pN D els : Int)) * vlC D els i (iG D els a)) = S9 (a + 1) := by rw [e9]; exact inL_of (by omega)
    rw [u2, u3]
    exact next τ ⟨rfl, by rw [e9]; omega⟩
  · rintro τ ⟨rfl, hb⟩
    have r1 := em_rng (p := pN D els) (by omega) (S9 (rG D els))
    have et : ((els.length : Nat) : Int).tmod (pN D els : Int) = (els.length : Int) := by
      show ((els.length % pN D els : Nat) : Int) = _
      rw [Nat.mod_eq_of_lt (by omega)]
    refine B_X12_oftenIn_5 h.1 hP ?_
    rw [k16]
    refine ⟨fun _ _ => M_mod h.1 k18 (by omega) ⟨h.1, fun _ => ?_⟩, fun h9 => absurd (by omega) h9⟩
    rw [k18, k15, et]
    refine ⟨by omega, fun _ => M_over h.1 k18 (by omega) (by omega) (by omega) ⟨h.1, fun _ _ => ?_⟩⟩
    rw [eS]
    exact hq
abbrev frF : Nat → Nat → Prop := fun a _ => a = 2963
theorem pa2963 : PA LM 2963 48 := ⟨by decide, by decide, by decide, by decide⟩
theorem M_oftenOf {a b i : Nat} (h : MX g c t σ D els) (hX : FX D told els) (ha : a < rG D els) (hb : b < rG D els) (hi : i < rG D els) (hq : ∀ τ, Lay LM g c t τ → Fr frF (fun _ => False) σ τ → Q (.inl (some (vi (ofP D els a b i)))) τ) : CC E mX12_oftenOf [vr 172, vi a, vi b, vi i] σ Q := by
  have hX' := hX
  obtain ⟨hC, hG, hp, h242, hN, hs, hD⟩ := hX
  have p1 := hp.1
  have r12 : rG D els ≤ 12 := hG.1
  refine C_X12_oftenOf (B_X12_oftenOf_0 h.1 (fun _ => ?_))
  refine loopU (N := rG D els) (G := fun k τ => GG E mX12_oftenOf 3 [some (vr 172), some (vi a), some (vi b), some (vi i), some (vi k)] [] τ 0 0 Q)
    (P := fun n τ => Lay LM g c t τ ∧ Fr frF (fun _ => False) σ τ ∧ ∀ k, k < n → gI τ 2963 k = (vlC D els a k * vlC D els b k) % (pN D els : Int)) ?_ ?_ 0 σ (by omega) ⟨h.1, Fr.refl _, fun k hk => absurd hk (by omega)⟩
  · rintro k τ hk ⟨hL1, hF, hv⟩ next
    have h1 := h.fr hL1 hF (fun a j h9 => by omega) (fun _ h9 => h9)
    obtain ⟨k16, k18, _⟩ := h1.k
    have v1 := vlC_rng (D := D) (els := els) (by omega) a k
    have v2 := vlC_rng (D := D) (els := els) (by omega) b k
    have m1 := m4 (show (vlC D els a k).natAbs ≤ 1000 by omega) (show (vlC D els b k).natAbs ≤ 1000 by omega)
    have u1 : wL (vlC D els a k * vlC D els b k) = vlC D els a k * vlC D els b k := inL_of (by omega)
    refine B_X12_oftenOf_3 hL1 ?_
    rw [k16, show ((a : Nat) : Int).toNat = a by omega, show ((b : Nat) : Int).toNat = b by omega, show ((k : Nat) : Int).toNat = k by omega]
    refine ⟨fun h9 => absurd h9 (by omega), fun _ => ⟨⟨by omega, by omega⟩, fun b4 e4 _ => ⟨⟨by omega, by omega⟩, ⟨by omega, by omega⟩, fun b8 e8 _ _ => ?_⟩⟩⟩
    rw [e4, e8, h1.row ha hk, h1.row hb hk, u1]
    refine M_mod hL1 k18 (by omega) ⟨hL1, fun _ τ12 e12 => ⟨⟨by omega, by omega⟩, fun hL12 => next τ12 ⟨hL12, hF.trans (by rw [e12]; exact Fr_of1 rfl), fun j hj => ?_⟩⟩⟩
    rw [e12, gI_sI]
    by_cases hjk : j = k
    · rw [if_pos ⟨rfl, hjk⟩, hjk]
    · rw [if_neg (fun h9 => hjk h9.2)]; exact hv j (by omega)
  · rintro τ ⟨hL1, hF, hv⟩
    have h1 := h.fr hL1 hF (fun a j h9 => by omega) (fun _ h9 => h9)
    obtain ⟨k16, k18, _⟩ := h1.k
    refine B_X12_oftenOf_3 hL1 ?_
    rw [k16]
    exact ⟨fun _ _ => M_oftenIn h1 hX' (n := 48) pa2963 (by omega) hi (fun k hk => ⟨hv k hk, em_rng (by omega) _⟩) ⟨hL1, fun _ _ => hq τ hL1 hF⟩, fun h9 => absurd (by omega) h9⟩
theorem M_waysOf {a i : Nat} (h : MX g c t σ D els) (hX : FX D told els) (ha : a < rG D els) (hi : i < rG D els) (hq : ∀ τ, Lay LM g c t τ → Fr frF (fun _ => False) σ τ → Q (.inl (some (vi (waN D els a i)))) τ) : CC E mX12_waysOf [vr 172, vi a, vi i] σ Q := by
  have hX' := hX
  obtain ⟨hC, hG, hp, h242, hN, hs, hD⟩ := hX
  have p1 := hp.1
  have r12 : rG D els ≤ 12 := hG.1
  refine C_X12_waysOf (B_X12_waysOf_0 h.1 (fun _ => ?_))
  refine loopU (N := rG D els) (G := fun k τ => GG E mX12_waysOf 2 [some (vr 172), some (vi a), some (vi i), some (vi k)] [] τ 0 0 Q)
    (P := fun n τ => Lay LM g c t τ ∧ Fr frF (fun _ => False) σ τ ∧ ∀ k, k < n → gI τ 2963 k = (natN D els k * vlC D els a k) % (pN D els : Int)) ?_ ?_ 0 σ (by omega) ⟨h.1, Fr.refl _, fun k hk => absurd hk (by omega)⟩
  · rintro k τ hk ⟨hL1, hF, hv⟩ next
    have h1 := h.fr hL1 hF (fun a j h9 => by omega) (fun _ h9 => h9)
    obtain ⟨k16, k18, _⟩ := h1.k
    have v1 := natN_rng (D := D) (els := els) (by omega) k
    have v2 := vlC_rng (D := D) (els := els) (by omega) a k
    have m1 := m4 (show (natN D els k).natAbs ≤ 1000 by omega) (show (vlC D els a k).natAbs ≤ 1000 by omega)
    have u1 : wL (natN D els k * vlC D els a k) = natN D els k * vlC D els a k := inL_of (by omega)
    refine B_X12_waysOf_2 hL1 ?_
    rw [k16]
    refine ⟨fun h9 => absurd h9 (by omega), fun _ _ => M_natural h1 hX' hk ⟨hL1, fun _ => ⟨⟨by omega, by omega⟩, fun b6 e6 _ => ⟨⟨by omega, by omega⟩, fun _ => ?_⟩⟩⟩⟩
    rw [show ((a : Nat) : Int).toNat = a by omega] at e6
    rw [show ((k : Nat) : Int).toNat = k by omega, e6, h1.row ha hk, u1]
    refine M_mod hL1 k18 (by omega) ⟨hL1, fun _ τ12 e12 => ⟨⟨by omega, by omega⟩, fun hL12 => next τ12 ⟨hL12, hF.trans (by rw [e12]; exact Fr_of1 rfl), fun j hj => ?_⟩⟩⟩
    rw [e12, gI_sI]
    by_cases hjk : j = k
    · rw [if_pos ⟨rfl, hjk⟩, hjk]
    · rw [if_neg (fun h9 => hjk h9.2)]; exact hv j (by omega)
  · rintro τ ⟨hL1, hF, hv⟩
    have h1 := h.fr hL1 hF (fun a j h9 => by omega) (fun _ h9 => h9)
    obtain ⟨k16, k18, _⟩ := h1.k
    refine B_X12_waysOf_2 hL1 ?_
    rw [k16]
    exact ⟨fun _ _ => M_oftenIn h1 hX' (n := 48) pa2963 (by omega) hi (fun k hk => ⟨hv k hk, em_rng (by omega) _⟩) ⟨hL1, fun _ _ => hq τ hL1 hF⟩, fun h9 => absurd (by omega) h9⟩
theorem walN_bd (h : 0 < pN D els) (h242 : pN D els < 242) (a : Nat) : ∀ n, 0 ≤ walN D els a n ∧ walN D els a n ≤ 242 * n := by
  intro n
  induction n with
  | zero => exact ⟨Int.le_refl _, Int.le_refl _⟩
  | succ n ih =>
    have e : walN D els a (n + 1) = walN D els a n + waN D els a n := rfl
    have := waN_rng (D := D) (els := els) h a n
    rw [e]
    omega
theorem wwN_bd (x : Int) : ∀ n, 0 ≤ wwN D els x n ∧ wwN D els x n ≤ n := by
  intro n
  induction n with
  | zero => exact ⟨Int.le_refl _, Int.le_refl _⟩
  | succ n ih =>
    have e : wwN D els x (n + 1) = wwN D els x n + if walN D els n (rG D els) = x then 1 else 0 := rfl
    rw [e]
    split <;> omega
theorem M_waysInAll {a : Nat} (h : MX g c t σ D els) (hX : FX D told els) (ha : a < rG D els) (hq : ∀ τ, Lay LM g c t τ → Fr frF (fun _ => False) σ τ → Q (.inl (some (vi (walN D els a (rG D els))))) τ) : CC E mX12_waysInAll [vr 172, vi a] σ Q := by
  have hX' := hX
  obtain ⟨hC, hG, hp, h242, hN, hs, hD⟩ := hX
  have p1 := hp.1
  have r12 : rG D els ≤ 12 := hG.1
  refine C_X12_waysInAll (B_X12_waysInAll_0 h.1 (fun _ => ?_))
  refine loopU (N := rG D els) (G := fun k τ => GG E mX12_waysInAll 4 [some (vr 172), some (vi a), some (vi (walN D els a k)), some (vi k)] [] τ 0 0 Q)
    (P := fun n τ => Lay LM g c t τ ∧ Fr frF (fun _ => False) σ τ) ?_ ?_ 0 σ (by omega) ⟨h.1, Fr.refl _⟩
  · rintro k τ hk ⟨hL1, hF⟩ next
    have h1 := h.fr hL1 hF (fun a j h9 => by omega) (fun _ h9 => h9)
    obtain ⟨k16, k18, _⟩ := h1.k
    have b1 := walN_bd (D := D) (els := els) (by omega) h242 a k
    have b2 := waN_rng (D := D) (els := els) (by omega) a k
    refine B_X12_waysInAll_4 hL1 ?_
    rw [k16]
    exact ⟨fun h9 => absurd h9 (by omega), fun _ _ => M_waysOf h1 hX' ha hk (fun τ2 hL2 hF2 => ⟨hL2, fun _ => ⟨⟨by omega, by omega⟩, ⟨by omega, by omega⟩, fun _ => next τ2 ⟨hL2, hF.trans hF2⟩⟩⟩)⟩
  · rintro τ ⟨hL1, hF⟩
    have h1 := h.fr hL1 hF (fun a j h9 => by omega) (fun _ h9 => h9)
    obtain ⟨k16, k18, _⟩ := h1.k
    refine B_X12_waysInAll_4 hL1 ?_
    rw [k16]
    exact ⟨fun _ _ => hq τ hL1 hF, fun h9 => absurd (by omega) h9⟩
theorem M_withWaysOf {x : Int} (h : MX g c t σ D els) (hX : FX D told els) (hq : ∀ τ, Lay LM g c t τ → Fr frF (fun _ => False) σ τ → Q (.inl (some (vi (wwN D els x (rG D els))))) τ) : CC E mX12_withWaysOf [vr 172, vi x] σ Q := by
  have hX' := hX
  obtain ⟨hC, hG, hp, h242, hN, hs, hD⟩ := hX
  have p1 := hp.1
  have r12 : rG D els ≤ 12 := hG.1
  refine C_X12_withWaysOf (B_X12_withWaysOf_0 h.1 (fun _ => ?_))
  refine loopU (N := rG D els) (G := fun k τ => GG E mX12_withWaysOf 4 [some (vr 172), some (vi x), some (vi (wwN D els x k)), some (vi k)] [] τ 0 0 Q)
    (P := fun n τ => Lay LM g c t τ ∧ Fr frF (fun _ => False) σ τ) ?_ ?_ 0 σ (by omega) ⟨h.1, Fr.refl _⟩
  · rintro k τ hk ⟨hL1, hF⟩ next
    have h1 := h.fr hL1 hF (fun a j h9 => by omega) (fun _ h9 => h9)
    obtain ⟨k16, k18, _⟩ := h1.k
    have b1 := wwN_bd (D := D) (els := els) x k
    have e9 : wwN D els x (k + 1) = wwN D els x k + if walN D els k (rG D els) = x then 1 else 0 := rfl
    rw [e9] at next
    refine B_X12_withWaysOf_4 hL1 ?_
    rw [k16]
    refine ⟨fun h9 => absurd h9 (by omega), fun _ _ => M_waysInAll h1 hX' hk (fun τ2 hL2 hF2 => ⟨hL2, fun _ => ⟨fun hne => ⟨⟨by omega, by omega⟩, ⟨by omega, by omega⟩, fun _ => ?_⟩, fun he => ⟨⟨by omega, by omega⟩, ⟨by omega, by omega⟩, fun _ => ?_⟩⟩⟩)⟩
    · rw [if_neg hne] at next
      exact next τ2 ⟨hL2, hF.trans hF2⟩
    · rw [if_pos he] at next
      exact next τ2 ⟨hL2, hF.trans hF2⟩
  · rintro τ ⟨hL1, hF⟩
    have h1 := h.fr hL1 hF (fun a j h9 => by omega) (fun _ h9 => h9)
    obtain ⟨k16, k18, _⟩ := h1.k
    refine B_X12_withWaysOf_4 hL1 ?_
    rw [k16]
    exact ⟨fun _ _ => hq τ hL1 hF, fun h9 => absurd (by omega) h9⟩
theorem M_diagram (h : MX g c t σ D els) (hX : FX D told els) (hq : ∀ τ, Lay LM g c t τ → Fr frF (fun _ => False) σ τ → Q (.inl (some (vi (diaN D els)))) τ) : CC E mX12_diagram [vr 172] σ Q := by
  refine C_X12_diagram (B_X12_diagram_0 h.1 (fun _ => M_withWaysOf h hX (fun τ hL hF => ⟨hL, fun _ => ?_⟩)))
  have hq' := hq τ hL hF
  unfold diaN at hq'
  refine ⟨fun h4 => ⟨fun h3 _ => ?_, fun h3 _ => ?_⟩, fun h4 _ => ?_⟩
  · rw [if_neg h4, if_neg h3] at hq'; exact hq'
  · rw [if_neg h4, if_pos h3] at hq'; exact hq'
  · rw [if_pos h4] at hq'; exact hq'
abbrev frP2 : Nat → Nat → Prop := fun a _ => a = 2963 ∨ a = 2964
theorem M_laysPower {n : Nat} (h : MX g c t σ D els) (hX : FX D told els) (hn : n ≤ 200) (hq : ∀ τ, Lay LM g c t τ → Fr frP2 (fun _ => False) σ τ → (∀ a, a < rG D els → gI τ 2963 a = (pwN D els a n).1) → Q (.inl none) τ) : CC E mX12_laysPower [vr 172, vi n] σ Q := by
  have hX' := hX
  obtain ⟨hC, hG, hp, h242, hN, hs, hD⟩ := hX
  have p1 := hp.1
  have r12 : rG D els ≤ 12 := hG.1
  refine C_X12_laysPower (B_X12_laysPower_0 h.1 (fun _ => ?_))
  refine loopU (N := rG D els) (G := fun k τ => GG E mX12_laysPower 2 [some (vr 172), some (vi n), some (vi k), none, none] [] τ 0 0 Q)
    (P := fun k τ => Lay LM g c t τ ∧ Fr frP2 (fun _ => False) σ τ ∧ ∀ a, a < k → gI τ 2963 a = 1 ∧ gI τ 2964 a = 0) ?_ ?_ 0 σ (by omega) ⟨h.1, Fr.refl _, fun a ha => absurd ha (by omega)⟩
  · rintro k τ hk ⟨hL1, hF, hv⟩ next
    have h1 := h.fr hL1 hF (fun a j h9 => by omega) (fun _ h9 => h9)
    obtain ⟨k16, k18, _⟩ := h1.k
    refine B_X12_laysPower_2 hL1 ?_
    rw [k16, show ((k : Nat) : Int).toNat = k by omega]
    refine ⟨fun h9 => absurd h9 (by omega), fun _ => ⟨⟨by omega, by omega⟩, fun τ2 e2 τ3 e3 => ⟨⟨by omega, by omega⟩, fun hL3 => next τ3 ⟨hL3, by rw [e3, e2]; exact (hF.sI (.inl rfl)).sI (.inr rfl), fun a ha => ?_⟩⟩⟩⟩
    rw [e3, e2, gI_sI, gI_sI, gI_sI, gI_sI]
    by_cases hak : a = k
    · simp [hak]
    · have := hv a (by omega)
      simp [hak, this]
  · rintro τ ⟨hL1, hF, hv⟩
    have h1 := h.fr hL1 hF (fun a j h9 => by omega) (fun _ h9 => h9)
    obtain ⟨k16, k18, _⟩ := h1.k
    refine B_X12_laysPower_2 hL1 ?_
    rw [k16]
    refine ⟨fun _ _ => ?_, fun h9 => absurd (by omega) h9⟩
    refine loopU (N := n) (G := fun j τ => GG E mX12_laysPower 32 [some (vr 172), some (vi n), some (vi j), none, none] [] τ 0 0 Q)
      (P := fun j τ => Lay LM g c t τ ∧ Fr frP2 (fun _ => False) σ τ ∧ ∀ a, a < rG D els → gI τ 2963 a = (pwN D els a j).1 ∧ gI τ 2964 a = (pwN D els a j).2) ?_ ?_ 0 τ (by omega) ⟨hL1, hF, hv⟩
    · rintro j ρ hj ⟨hL2, hF2, hv2⟩ next
      refine B_X12_laysPower_32 hL2 ⟨fun h9 => absurd h9 (by omega), fun _ _ => ?_⟩
      refine loopU (N := rG D els) (G := fun k τ => GG E mX12_laysPower 39 [some (vr 172), some (vi n), some (vi j), some (vi k), none] [] τ 0 0 Q)
        (P := fun k τ => Lay LM g c t τ ∧ Fr frP2 (fun _ => False) σ τ ∧ ∀ a, a < rG D els → (a < k → gI τ 2963 a = (pwN D els a (j + 1)).1 ∧ gI τ 2964 a = (pwN D els a (j + 1)).2) ∧ (k ≤ a → gI τ 2963 a = (pwN D els a j).1 ∧ gI τ 2964 a = (pwN D els a j).2)) ?_ ?_ 0 ρ (by omega) ⟨hL2, hF2, fun a ha => ⟨fun h9 => absurd h9 (by omega), fun _ => hv2 a ha⟩⟩
      · rintro k ρ2 hk ⟨hL3, hF3, hv3⟩ next2
        have h3 := h.fr hL3 hF3 (fun a j h9 => by omega) (fun _ h9 => h9)
        obtain ⟨g16, g18, _⟩ := h3.k
        have cur := (hv3 k hk).2 (Nat.le_refl _)
        have b1 := pwN_rng p1 k j
        have b2 := natN_rng (D := D) (els := els) (by omega) k
        have e9 : pwN D els k (j + 1) = ((natN D els k * (pwN D els k j).1 - (pwN D els k j).2) % (pN D els : Int), (pwN D els k j).1) := rfl
        have e91 : (pwN D els k (j + 1)).1 = (natN D els k * (pwN D els k j).1 - (pwN D els k j).2) % (pN D els : Int) := rfl
        have e92 : (pwN D els k (j + 1)).2 = (pwN D els k j).1 := rfl
        generalize (pwN D els k j).1 = x1 at *
        generalize (pwN D els k j).2 = x2 at *
        have m1 := m4 (show (natN D els k).natAbs ≤ 1000 by omega) (show x1.natAbs ≤ 1000 by omega)
        have u1 : wL (natN D els k * x1) = natN D els k * x1 := inL_of (by omega)
        have u2 : wL (natN D els k * x1 - x2) = natN D els k * x1 - x2 := inL_of (by omega)
        refine B_X12_laysPower_39 hL3 ?_
        rw [g16]
        refine ⟨fun h9 => absurd h9 (by omega), fun _ _ => M_natural h3 hX' hk ⟨hL3, fun _ => ⟨⟨by omega, by omega⟩, fun v5 e5 _ => ?_⟩⟩⟩
        rw [show ((k : Nat) : Int).toNat = k by omega, cur.1, cur.2, u1, u2] at e5
        subst e5
        refine M_mod hL3 g18 (by omega) ⟨hL3, fun _ τ8 e8 τ9 e10 => ⟨⟨by omega, by omega⟩, fun hL9 => next2 τ9 ⟨hL9, by rw [e10, e8]; exact (hF3.sI (.inr rfl)).sI (.inl rfl), fun a ha => ?_⟩⟩⟩
        rw [show ((k : Nat) : Int).toNat = k by omega, cur.1] at e8
        rw [show ((k : Nat) : Int).toNat = k by omega] at e10
        rw [e10, e8, gI_sI, gI_sI, gI_sI, gI_sI]
        by_cases hak : a = k
        · subst hak
          refine ⟨fun _ => ?_, fun h9 => absurd h9 (by omega)⟩
          simp [e91, e92]
        · refine ⟨fun h9 => ?_, fun h9 => ?_⟩
          · have := (hv3 a ha).1 (by omega)
            simp [hak, this]
          · have := (hv3 a ha).2 (by omega)
            simp [hak, this]
      · rintro ρ2 ⟨hL3, hF3, hv3⟩
        have h3 := h.fr hL3 hF3 (fun a j h9 => by omega) (fun _ h9 => h9)
        obtain ⟨g16, g18, _⟩ := h3.k
        refine B_X12_laysPower_39 hL3 ?_
        rw [g16]
        exact ⟨fun _ => ⟨⟨by omega, by omega⟩, fun _ => next ρ2 ⟨hL3, hF3, fun a ha => (hv3 a ha).1 ha⟩⟩, fun h9 => absurd (by omega) h9⟩
    · rintro ρ ⟨hL2, hF2, hv2⟩
      exact B_X12_laysPower_32 hL2 ⟨fun _ _ => hq ρ hL2 hF2 (fun a ha => (hv2 a ha).1), fun h9 => absurd (by omega) h9⟩
end SC0
