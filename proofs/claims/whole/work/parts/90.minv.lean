/-! ===== the reference: invariants ===== -/
theorem inL_of {x : Int} (h : x.natAbs ≤ 1000000000000) : wL x = x := wL_id ⟨by omega, by omega⟩
section S90
variable {E : Ev} {σ : Sg} {Q : NO → Sg → Prop} {g : Sg} {c t : Nat}
variable {K : Int → List (List Int) → Sg → Prop} {D : Int} {told els : List (List Int)} {past : List (List (List Int))} {B : List Int} {F : Int} {W R : Nat → Int}
theorem M_invariants {x : Int} (h : MI K g c t σ D told els past B F W R) (hK : KFM K) (hRB : ∀ i, i < 3 → inR (R i + 1)) (hC : Clo D told els) (hD : D = 2 ∨ D = 3 ∨ D = 5)
    (h0 : (x < 0 ∨ 200 < x) → ∀ τ, MI K g c t τ D told els past B F W (bmp R 1) → gI τ 172 0 = 1 → Q (.inl (some (vi 0))) τ)
    (h2 : ∀ n : Nat, x = n → n ≤ 200 → ∀ τ, MI K g c t τ D told els past B F W R → gI τ 172 0 = 0 → Q (.inl (some (vi (invV D els n)))) τ) : CC E mX12_invariants [vr 172, vi x] σ Q := by
  have hI9 := hC.isG
  have n120 := hC.1
  have npos := hC.2.1
  refine C_X12_invariants (B_X12_invariants_0 h.1 (fun τ1 e1 hL1 => ?_))
  obtain ⟨hI, q0⟩ := h.go hK e1
  have hS : ST τ1 0 D told := hI.2.1
  obtain ⟨d, p, s, m1, m2, m3, m5⟩ := hI.2.2.1
  have hn := hI.n15
  refine S_in (fun r r1 r0 => ⟨hL1, fun _ => ⟨fun hr _ => ?_, fun hr _ => ?_⟩⟩)
  · have hx := of_ne9 r0 hr
    obtain ⟨n, rfl⟩ : ∃ n : Nat, x = n := ⟨x.toNat, by omega⟩
    have hn2 : n ≤ 200 := by omega
    have hq := h2 n rfl hn2 τ1 hI q0
    have hrl := rsN_le els.length (gmt D els)
    have h16 : gI τ1 172 16 = (rsN els.length (gmt D els) : Int) := m5.2.2.2.2.1.2.1
    refine S_bad0 hL1 q0 ⟨hL1, fun _ => ⟨fun _ _ => ?_, fun h9 => absurd rfl h9⟩⟩
    refine loopU (N := rsN els.length (gmt D els)) (G := fun i τ => GG E mX12_invariants 37 [some (vr 172), some (vi n), some (vl (dsum D els n i)), none, some (vi i), none, none, none, none, none, none, none, none, none, none, none, none, none, none, none, none, none] [] τ 0 0 Q) (P := fun i τ => τ = τ1) ?_ ?_ 0 τ1 (by omega) rfl
    · rintro i τ hi rfl next
      obtain ⟨l1, l2, l3, l4⟩ := lsN_s hI9 hi
      have hz := zsN_s hI9 hi
      have hA := m5.2.2.2.2.1.2.2 i hi
      have hE := m5.1.2 _ l2
      have bd := hE.1.2.bd (show 1 ≤ D by omega)
      have b1 := dsum_bd hC hD hn2 i (by omega)
      have b2 := dsum_bd hC hD hn2 (i + 1) (by omega)
      have e9 : dsum D els n (i + 1) = dsum D els n i + (zsN els.length (gmt D els) i : Int) * (dv D (gd (els.getD (lsN els.length (gmt D els) i) []) 0) (gd (els.getD (lsN els.length (gmt D els) i) []) 1) n).1 := rfl
      have hzl := cntF_le (clAll els.length (gmt D els) els.length).1 (i : Int) els.length
      have hba := bd 0 (by omega)
      have hbb := bd 1 (by omega)
      have hdv := dv_bd hC hD l2
      rw [e9] at next b2
      refine B_X12_invariants_37 hL1 ?_
      rw [h16, show ((i : Nat) : Int).toNat = i by omega, hA.1, l1, show ((lsN els.length (gmt D els) i : Nat) : Int).toNat = lsN els.length (gmt D els) i by omega, hE.2 0 (by omega), hE.2 1 (by omega)]
      refine ⟨fun h => absurd h (by omega), fun _ => ⟨⟨by omega, by omega⟩, ⟨by omega, by omega⟩, fun _ => ?_⟩⟩
      generalize gd (els.getD (lsN els.length (gmt D els) i) []) 0 = a at *
      generalize gd (els.getD (lsN els.length (gmt D els) i) []) 1 = b at *
      refine loopU (N := n) (G := fun j ρ => GG E mX12_invariants 97 [some (vr 172), some (vi n), some (vl (dsum D els n i)), none, some (vi i), some (vl a), none, some (vl b), none, some (vl (dv D a b j).1), none, some (vl (dv D a b j).2.1), none, some (vl (dv D a b j).2.2.1), none, some (vl (dv D a b j).2.2.2), none, some (vi j), none, none, none, none] [] ρ 0 0 Q) (P := fun j ρ => ρ = τ) ?_ ?_ 0 τ (by omega) rfl
      · rintro j ρ hj rfl nextj
        have hs := dvIn_iff.mp (hdv j (by omega))
        have hs2 := dvIn_iff.mp (hdv (j + 1) (by omega))
        have K9 := nextj ρ rfl
        have e : dv D a b (j + 1) = dvS D a b (dv D a b j) := rfl
        rw [e] at hs2 K9
        unfold dvS at hs2 K9
        dsimp only at hs2 K9
        generalize dv D a b j = w at *
        obtain ⟨u, v, lu, lv⟩ := w
        dsimp only at hs hs2 K9 ⊢
        have a1 := m4 (show a.natAbs ≤ 4 by omega) (show u.natAbs ≤ 1000 by omega)
        have a2 := m4 (show D.natAbs ≤ 5 by omega) (show b.natAbs ≤ 4 by omega)
        have a3 := m4 a2 (show v.natAbs ≤ 1000 by omega)
        have a4 := m4 (show a.natAbs ≤ 4 by omega) (show v.natAbs ≤ 1000 by omega)
        have a6 := m4 (show b.natAbs ≤ 4 by omega) (show u.natAbs ≤ 1000 by omega)
        have t1 : ((a * u + D * b * v).tdiv 2).natAbs ≤ 24000 := by rw [Int.natAbs_tdiv]; exact Nat.le_trans (Nat.div_le_self _ _) (by omega)
        have t2 : ((a * v + b * u).tdiv 2).natAbs ≤ 24000 := by rw [Int.natAbs_tdiv]; exact Nat.le_trans (Nat.div_le_self _ _) (by omega)
        refine B_X12_invariants_97 hL1 ⟨fun h => absurd h (by omega), fun _ _ => S_root (r := 0) hL1 (by omega) ⟨hL1, fun _ v5 e5 v6 e6 => ?_⟩⟩
        rw [hS.1] at e5
        rw [inL_of (x := a * u) (by omega), inL_of (x := D * b) (by omega), inL_of (x := D * b * v) (by omega), inL_of (x := a * u + D * b * v) (by omega)] at e5
        rw [inL_of (x := a * v) (by omega), inL_of (x := b * u) (by omega), inL_of (x := a * v + b * u) (by omega), inL_of (x := (a * v + b * u).tdiv 2) (by omega)] at e6
        subst e5 e6
        rw [inL_of (x := (a * u + D * b * v).tdiv 2) (by omega), inL_of (x := (a * u + D * b * v).tdiv 2 - lu) (by omega), inL_of (x := (a * v + b * u).tdiv 2 - lv) (by omega)]
        exact ⟨⟨by omega, by omega⟩, fun _ => K9⟩
      · rintro ρ rfl
        have hs := dvIn_iff.mp (hdv n (by omega))
        have a1 := m4 (show ((zsN els.length (gmt D els) i : Nat) : Int).natAbs ≤ 120 by unfold zsN; omega) (show (dv D a b n).1.natAbs ≤ 1000 by omega)
        refine B_X12_invariants_97 hL1 ⟨fun _ => ⟨⟨by omega, by omega⟩, ⟨by omega, by omega⟩, fun _ => ?_⟩, fun h9 => absurd (by omega) h9⟩
        rw [show ((i : Nat) : Int).toNat = i by omega, hA.2, hz, inL_of (x := (zsN els.length (gmt D els) i : Int) * (dv D a b n).1) (by omega), inL_of (x := dsum D els n i + (zsN els.length (gmt D els) i : Int) * (dv D a b n).1) (by omega)]
        exact next ρ rfl
    · rintro τ rfl
      have b1 := dsum_bd hC hD hn2 _ (Nat.le_refl (rsN els.length (gmt D els)))
      have t1 : ((dsum D els n (rsN els.length (gmt D els))).tdiv (2 * (els.length : Int))).natAbs ≤ 120000 * 120 := by
        rw [Int.natAbs_tdiv]
        exact Nat.le_trans (Nat.div_le_self _ _) (by omega)
      refine B_X12_invariants_37 hL1 ?_
      rw [h16, hn.1, inL_of (x := 2 * (els.length : Int)) (by omega), inL_of (x := (dsum D els n (rsN els.length (gmt D els))).tdiv (2 * (els.length : Int))) (by omega)]
      exact ⟨fun _ => ⟨by omega, ⟨by omega, by omega⟩, fun _ => hq⟩, fun h9 => absurd (by omega) h9⟩
  · have hx := of_eq9 r1 hr
    exact S_bad1 (r := 1) hL1 hI hK q0 (by decide) (by decide) (by decide) (hRB 1 (by omega)) (fun τ hIτ qτ => ⟨hIτ.1, fun _ => ⟨fun h9 => absurd h9 (by decide), fun _ _ => h0 (by omega) τ hIτ qτ⟩⟩)
end S90
