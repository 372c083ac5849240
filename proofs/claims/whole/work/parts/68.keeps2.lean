/-! ===== the reference's keepsGroup: orders, inverses, classes ===== -/
section S28
variable {E : Ev} {σ : Sg} {Q : NO → Sg → Prop} {g : Sg} {c t : Nat}
theorem keeps_inv {N k : Nat} {m : Nat → Nat → Nat} (hL : Lay LM g c t σ) (hI : IsG N m) (hM : MT σ N m) (hk : k < N)
    (h : ∀ τ, Lay LM g c t τ → Fr (fun a j => (a = 552 ∨ a = 553) ∧ j = k) (fun _ => False) σ τ → gI τ 552 k = (iv N m k : Int) → gI τ 553 k = -1 → GG E mX12_keepsGroup 140 [some (vr 172), some (vi ((k + 1 : Nat) : Int)), none, none, none] [] τ 0 0 Q) :
    GG E mX12_keepsGroup 200 [some (vr 172), some (vi k), none, none, some (vi 0)] [] σ 0 0 Q := by
  have n120 := hM.2.1
  refine loopU (N := N) (G := fun j τ => GG E mX12_keepsGroup 200 [some (vr 172), some (vi k), none, none, some (vi j)] [] τ 0 0 Q)
    (P := fun j τ => Lay LM g c t τ ∧ Fr (fun a j => (a = 552 ∨ a = 553) ∧ j = k) (fun _ => False) σ τ ∧ (iv N m k < j → gI τ 552 k = (iv N m k : Int))) ?_ ?_ 0 σ (by omega) ⟨hL, Fr.refl _, fun h9 => absurd h9 (by omega)⟩
  · rintro j τ hj ⟨hLτ, hF, hz⟩ next
    have hMτ := hM.fr hF ⟨by omega, fun _ _ _ _ => by omega⟩
    refine B_X12_keepsGroup_200 hLτ ?_
    rw [hMτ.1, show ((k : Nat) : Int).toNat = k by omega, show ((j : Nat) : Int).toNat = j by omega, hMτ.2.2 k j hk hj]
    refine ⟨fun h => absurd h (by omega), fun _ => ⟨⟨by omega, by omega⟩, ⟨by omega, by omega⟩, fun h0 => ⟨⟨by omega, by omega⟩, fun _ => next τ ⟨hLτ, hF, fun h1 => ?_⟩⟩, fun h0 τ8 e8 => ⟨⟨by omega, by omega⟩, fun hL8 => ?_⟩⟩⟩
    · refine hz ?_
      have : iv N m k ≠ j := fun e => h0 (by rw [← e, iv_r hI hk]; rfl)
      omega
    · subst e8
      have e : j = iv N m k := iv_un hI hk hj (by omega)
      refine next _ ⟨hL8, hF.sI (by omega), fun _ => ?_⟩
      rw [gI_sI, if_pos ⟨rfl, rfl⟩, e]
  · rintro τ ⟨hLτ, hF, hz⟩
    have hMτ := hM.fr hF ⟨by omega, fun _ _ _ _ => by omega⟩
    refine B_X12_keepsGroup_200 hLτ ?_
    rw [hMτ.1, show ((k : Nat) : Int).toNat = k by omega]
    refine ⟨fun _ => ⟨⟨by omega, by omega⟩, fun τ2 e2 => ⟨⟨by omega, by omega⟩, fun hL2 => ?_⟩⟩, fun h9 => absurd (by omega) h9⟩
    subst e2
    refine h _ hL2 (hF.sI (by omega)) ?_ ?_
    · rw [gI_sI, if_neg (by omega)]; exact hz (iv_lt hI hk)
    · rw [gI_sI, if_pos ⟨rfl, rfl⟩]
abbrev frO : Nat → Nat → Prop := fun a k => a = 551 ∨ a = 552 ∨ a = 553 ∨ (a = 172 ∧ k = 17)
theorem keeps_2 {N : Nat} {m : Nat → Nat → Nat} (hL : Lay LM g c t σ) (hI : IsG N m) (hM : MT σ N m) (hB : OdB N m) (h17 : gI σ 172 17 = 1)
    (h : ∀ τ, Lay LM g c t τ → Fr (fun a k => frO a k ∨ (a = 172 ∧ k = 16)) (fun _ => False) σ τ → MV τ N m N → MO τ N m N → MCs τ N (clAll N m 0) → GG E mX12_keepsGroup 255 [some (vr 172), some (vi 0), none, none, none] [] τ 0 0 Q) :
    GG E mX12_keepsGroup 140 [some (vr 172), some (vi 0), none, none, none] [] σ 0 0 Q := by
  have n120 := hM.2.1
  refine loopU (N := N) (G := fun i τ => GG E mX12_keepsGroup 140 [some (vr 172), some (vi i), none, none, none] [] τ 0 0 Q)
    (P := fun i τ => Lay LM g c t τ ∧ Fr frO (fun _ => False) σ τ ∧ MV τ N m i ∧ MO τ N m i ∧ ∀ k, k < i → gI τ 553 k = -1) ?_ ?_ 0 σ (by omega) ⟨hL, Fr.refl _, fun k hk => absurd hk (by omega), ⟨fun k hk => absurd hk (by omega), h17⟩, fun k hk => absurd hk (by omega)⟩
  · rintro i τ hi ⟨hLτ, hF, hv, ho, hc⟩ next
    have hMτ := hM.fr hF ⟨by omega, fun _ _ _ _ => by omega⟩
    have o := od_s hI hi
    refine B_X12_keepsGroup_140 hLτ ?_
    rw [hMτ.1]
    refine ⟨fun h => absurd h (by omega), fun _ _ => ?_⟩
    have K := loopU (N := od N m i) (G := fun j τ => GG E mX12_keepsGroup 152 [some (vr 172), some (vi i), some (vi j), some (vi (pwr m i j)), none] [] τ 0 0 Q) (P := fun j ρ => 1 ≤ j ∧ ρ = τ) ?_ ?_ 1 τ o.1 ⟨Nat.le_refl _, rfl⟩
    · rw [pwr_1 hI hi] at K
      exact K
    · rintro j ρ hj ⟨hj1, rfl⟩ nextj
      have hne := o.2.2.2 j hj1 hj
      have hlt := pwr_lt hI hi j
      refine B_X12_keepsGroup_152 hLτ ⟨fun h9 => absurd h9 (by omega), fun _ => ?_⟩
      rw [show ((pwr m i j : Nat) : Int).toNat = pwr m i j by omega, show ((i : Nat) : Int).toNat = i by omega, hMτ.2.2 _ _ hlt hi]
      have := o.2.1
      exact ⟨⟨by omega, by omega⟩, ⟨by omega, by omega⟩, ⟨by omega, by omega⟩, fun _ => nextj _ ⟨by omega, rfl⟩⟩
    · rintro ρ ⟨_, rfl⟩
      have x1 := expo_le hB (show i ≤ N by omega)
      have x2 := expo_le hB (show i + 1 ≤ N by omega)
      have hb := (hB i hi).2
      refine B_X12_keepsGroup_152 hLτ ⟨fun _ => ⟨⟨by omega, by omega⟩, fun τ2 e2 hL2 => ?_⟩, fun h9 => absurd (by rw [o.2.2.1]; rfl) h9⟩
      rw [show ((i : Nat) : Int).toNat = i by omega] at e2
      have q17 : gI τ2 172 17 = (expo N m i : Int) := by rw [e2, gI_sI, if_neg (by omega)]; exact ho.2
      rw [q17]
      refine S_common ⟨hL2, fun _ => ?_⟩
      have hg : 0 < Nat.gcd (expo N m i) (od N m i) := Nat.gcd_pos_of_pos_left _ x1.1
      have e6 : (expo N m i : Int).tdiv (Nat.gcd (expo N m i) (od N m i) : Int) = ((expo N m i / Nat.gcd (expo N m i) (od N m i) : Nat) : Int) := rfl
      have hle : expo N m i / Nat.gcd (expo N m i) (od N m i) ≤ expo N m i := Nat.div_le_self _ _
      have e7 : ((expo N m i / Nat.gcd (expo N m i) (od N m i) : Nat) : Int) * (od N m i : Int) = (expo N m (i + 1) : Int) := by
        rw [← Int.natCast_mul, lcm_div]; rfl
      rw [e6, e7]
      generalize expo N m i / Nat.gcd (expo N m i) (od N m i) = qq at *
      refine ⟨by omega, ⟨by omega, by omega⟩, ⟨by omega, by omega⟩, fun τ8 e8 hL8 => ?_⟩
      have hF8 : Fr frO (fun _ => False) ρ τ8 := by
        rw [e8, e2]
        exact ((Fr.refl ρ).sI (by omega)).sI (by omega)
      have hM8 := hMτ.fr hF8 ⟨by omega, fun _ _ _ _ => by omega⟩
      refine keeps_inv hL8 hI hM8 hi (fun τ9 hL9 hF9 q552 q553 => ?_)
      have hF89 := hF9.mono (W' := frO) (fun a k hb => by omega) (fun _ h => h)
      refine next τ9 ⟨hL9, (hF.trans hF8).trans hF89, fun k hk => ?_, ⟨fun k hk => ?_, ?_⟩, fun k hk => ?_⟩
      · by_cases hki : k = i
        · subst hki; exact q552
        · rw [hF9.i (by omega) (by omega), e8, e2, gI_sI, if_neg (by omega), gI_sI, if_neg (by omega)]; exact hv k (by omega)
      · rw [hF9.i (by omega) (by omega), e8, e2, gI_sI, if_neg (by omega), gI_sI]
        by_cases hki : k = i
        · subst hki; rw [if_pos ⟨rfl, rfl⟩]
        · rw [if_neg (by omega)]; exact ho.1 k (by omega)
      · rw [hF9.i (by omega) (by omega), e8, gI_sI, if_pos ⟨rfl, rfl⟩]
      · by_cases hki : k = i
        · subst hki; exact q553
        · rw [hF9.i (by omega) (by omega), e8, e2, gI_sI, if_neg (by omega), gI_sI, if_neg (by omega)]; exact hc k (by omega)
  · rintro τ ⟨hLτ, hF, hv, ho, hc⟩
    have hMτ := hM.fr hF ⟨by omega, fun _ _ _ _ => by omega⟩
    refine B_X12_keepsGroup_140 hLτ ?_
    rw [hMτ.1]
    refine ⟨fun _ τ1 e1 hL1 => ?_, fun h9 => absurd (by omega) h9⟩
    subst e1
    refine h _ hL1 ((hF.mono (fun a k hb => .inl hb) (fun _ h => h)).sI (.inr ⟨rfl, rfl⟩)) (fun k hk => by rw [gI_sI, if_neg (by omega)]; exact hv k hk) ⟨fun k hk => by rw [gI_sI, if_neg (by omega)]; exact ho.1 k hk, by rw [gI_sI, if_neg (by omega)]; exact ho.2⟩ ⟨fun j hj => by rw [gI_sI, if_neg (by omega)]; exact hc j hj, by rw [gI_sI, if_pos ⟨rfl, rfl⟩]; rfl, fun j hj => absurd hj (by show ¬ j < 0; omega)⟩
abbrev frM : Nat → Nat → Prop := fun a k => a = 553 ∨ a = 554 ∨ a = 555 ∨ (a = 172 ∧ k = 16)
theorem keeps_cl {N k : Nat} {m : Nat → Nat → Nat} {s : CS} (hL : Lay LM g c t σ) (hI : IsG N m) (hM : MT σ N m) (hV : MV σ N m N) (hS : MCs σ N s) (hk : k < N) (hs : s.2.1 < 120) (hm : s.1 k = -1)
    (h : ∀ τ, Lay LM g c t τ → Fr frM (fun _ => False) σ τ → MCs τ N (clOne N m k s) → GG E mX12_keepsGroup 255 [some (vr 172), some (vi ((k + 1 : Nat) : Int)), none, none, none] [] τ 0 0 Q) :
    GG E mX12_keepsGroup 255 [some (vr 172), some (vi k), none, none, none] [] σ 0 0 Q := by
  have n120 := hM.2.1
  refine B_X12_keepsGroup_255 hL ?_
  rw [hM.1, show ((k : Nat) : Int).toNat = k by omega, hS.1 k hk]
  refine ⟨fun h => absurd h (by omega), fun _ => ⟨⟨by omega, by omega⟩, fun _ => ?_, fun h9 => absurd hm h9⟩⟩
  rw [hS.2.1, show ((s.2.1 : Nat) : Int).toNat = s.2.1 by omega]
  refine ⟨⟨by omega, by omega⟩, fun τ6 e6 => ?_⟩
  subst e6
  rw [gI_sI, if_neg (by omega), hS.2.1, show ((s.2.1 : Nat) : Int).toNat = s.2.1 by omega]
  refine ⟨⟨by omega, by omega⟩, fun τ8 e8 hL8 => ?_⟩
  subst e8
  refine loopU (N := N) (G := fun i τ => GG E mX12_keepsGroup 298 [some (vr 172), some (vi k), some (vi i), none, none] [] τ 0 0 Q)
    (P := fun i τ => Lay LM g c t τ ∧ Fr frM (fun _ => False) σ τ ∧ (∀ j, j < N → gI τ 553 j = (clIn N m k s.2.1 i s.1).1 j) ∧ gI τ 172 16 = (s.2.1 : Int) ∧ gI τ 554 s.2.1 = (k : Int) ∧ gI τ 555 s.2.1 = ((clIn N m k s.2.1 i s.1).2 : Int) ∧ ∀ j, j < s.2.1 → gI τ 554 j = s.2.2.1 j ∧ gI τ 555 j = s.2.2.2.1 j) ?_ ?_ 0 _ (by omega)
    ⟨hL8, ((Fr.refl σ).sI (by omega)).sI (by omega), fun j hj => ?_, ?_, ?_, ?_, fun j hj => ⟨?_, ?_⟩⟩
  · rintro i τ hi ⟨hLτ, hF, z1, z2, z3, z4, z5⟩ next
    have hMτ := hM.fr hF ⟨by omega, fun _ _ _ _ => by omega⟩
    have hVτ := hV.fr hF (fun _ => by omega)
    have ht := tn_lt hI hk hi
    have hiv := iv_lt hI hi
    have hmv := hI.2.1 _ _ hiv hk
    have e9 : clIn N m k s.2.1 (i + 1) s.1 = if (clIn N m k s.2.1 i s.1).1 (tn N m k i) = -1 then (ups (clIn N m k s.2.1 i s.1).1 (tn N m k i) (s.2.1 : Int), (clIn N m k s.2.1 i s.1).2 + 1) else clIn N m k s.2.1 i s.1 := rfl
    have hle := clIn_le N m k s.2.1 s.1 i
    rw [e9] at next
    refine B_X12_keepsGroup_298 hLτ ?_
    rw [hMτ.1, show ((k : Nat) : Int).toNat = k by omega, show ((i : Nat) : Int).toNat = i by omega, hVτ i hi, show ((iv N m i : Nat) : Int).toNat = iv N m i by omega, hMτ.2.2 _ _ hiv hk, show ((m (iv N m i) k : Nat) : Int).toNat = m (iv N m i) k by omega, hMτ.2.2 _ _ hmv hi]
    refine ⟨fun h => absurd h (by omega), fun _ => ⟨⟨by omega, by omega⟩, ⟨by omega, by omega⟩, ⟨by omega, by omega⟩, ⟨by omega, by omega⟩, fun v10 e10 => ?_⟩⟩
    have e11 : v10 = (tn N m k i : Int) := e10
    subst e11
    rw [show ((tn N m k i : Nat) : Int).toNat = tn N m k i by omega, z1 _ ht]
    refine ⟨⟨by omega, by omega⟩, fun he τ12 e12 => ?_, fun hne => ⟨⟨by omega, by omega⟩, fun _ => ?_⟩⟩
    · rw [z2] at e12
      subst e12
      rw [if_pos he] at next
      rw [gI_sI, if_neg (by omega), z2, show ((s.2.1 : Nat) : Int).toNat = s.2.1 by omega, gI_sI, if_neg (by omega), z4]
      refine ⟨⟨by omega, by omega⟩, ⟨by omega, by omega⟩, fun τ15 e15 => ⟨⟨by omega, by omega⟩, fun hL15 => ?_⟩⟩
      subst e15
      refine next _ ⟨hL15, (hF.sI (by omega)).sI (by omega), fun j hj => ?_, ?_, ?_, ?_, fun j hj => ⟨?_, ?_⟩⟩
      · rw [gI_sI, if_neg (by omega), gI_sI]
        by_cases hj2 : j = tn N m k i
        · subst hj2; rw [if_pos ⟨rfl, rfl⟩]; exact (ups_s _ _ _).symm
        · rw [if_neg (fun h9 => hj2 h9.2)]
          show _ = ups _ _ _ _
          rw [ups_n _ _ hj2]
          exact z1 j hj
      · rw [gI_sI, if_neg (by omega), gI_sI, if_neg (by omega)]; exact z2
      · rw [gI_sI, if_neg (by omega), gI_sI, if_neg (by omega)]; exact z3
      · rw [gI_sI, if_pos ⟨rfl, rfl⟩]; rfl
      · rw [gI_sI, if_neg (by omega), gI_sI, if_neg (by omega)]; exact (z5 j hj).1
      · rw [gI_sI, if_neg (by omega), gI_sI, if_neg (by omega)]; exact (z5 j hj).2
    · rw [if_neg hne] at next
      exact next τ ⟨hLτ, hF, z1, z2, z3, z4, z5⟩
  · rintro τ ⟨hLτ, hF, z1, z2, z3, z4, z5⟩
    have hMτ := hM.fr hF ⟨by omega, fun _ _ _ _ => by omega⟩
    have e9 : clOne N m k s = ((clIn N m k s.2.1 N s.1).1, s.2.1 + 1, ups s.2.2.1 s.2.1 (k : Int), ups s.2.2.2.1 s.2.1 ((clIn N m k s.2.1 N s.1).2 : Int), s.2.2.2.2 + if (clIn N m k s.2.1 N s.1).2 = 1 then 1 else 0) := if_pos hm
    rw [e9] at h
    refine B_X12_keepsGroup_298 hLτ ?_
    rw [hMτ.1, z2]
    refine ⟨fun _ => ⟨⟨by omega, by omega⟩, fun τ2 e2 => ⟨⟨by omega, by omega⟩, fun hL2 => ?_⟩⟩, fun h9 => absurd (by omega) h9⟩
    subst e2
    refine h _ hL2 (hF.sI (by omega)) ⟨fun j hj => ?_, ?_, fun j hj => ⟨?_, ?_⟩⟩
    · rw [gI_sI, if_neg (by omega)]; exact z1 j hj
    · rw [gI_sI, if_pos ⟨rfl, rfl⟩]; rfl
    · rw [gI_sI, if_neg (by omega)]
      show _ = ups _ _ _ _
      unfold ups
      split
      · rename_i he; rw [he]; exact z3
      · rename_i hne
        exact (z5 j (by have : j < s.2.1 + 1 := hj; omega)).1
    · rw [gI_sI, if_neg (by omega)]
      show _ = ups _ _ _ _
      unfold ups
      split
      · rename_i he; rw [he]; exact z4
      · rename_i hne
        exact (z5 j (by have : j < s.2.1 + 1 := hj; omega)).2
  · rw [gI_sI, if_neg (by omega), gI_sI, if_neg (by omega)]; exact hS.1 j hj
  · rw [gI_sI, if_neg (by omega), gI_sI, if_neg (by omega)]; exact hS.2.1
  · rw [gI_sI, if_neg (by omega), gI_sI, if_pos ⟨rfl, rfl⟩]
  · rw [gI_sI, if_pos ⟨rfl, rfl⟩]; rfl
  · rw [gI_sI, if_neg (by omega), gI_sI, if_neg (by omega)]; exact (hS.2.2 j hj).1
  · rw [gI_sI, if_neg (by omega), gI_sI, if_neg (by omega)]; exact (hS.2.2 j hj).2
theorem S_keepsGroup {D : Int} {told els : List (List Int)} {d p s : Nat} (hL : Lay LM g c t σ) (hC : Clo D told els) (hB : OdB els.length (gmt D els)) (hS : ST σ 0 D told) (hR : RWs σ 188 D els) (hN : gI σ 172 12 = (els.length : Int)) (hD : D = (d : Int)) (hP : PR els.length (expo els.length (gmt D els) els.length) d p s) (hp : p ≤ 241)
    (h : ∀ τ, Lay LM g c t τ → Fr frK (fun _ => False) σ τ → MAll τ D els p s → gI τ 172 27 = 0 → Q (.inl none) τ) : CC E mX12_keepsGroup [vr 172] σ Q := by
  have n120 := hC.1
  have hI := hC.isG
  have hD5 := hS.2.2.1
  have hx := expo_le hB (Nat.le_refl els.length)
  refine keeps_1 hL hC hS hR hN (fun τ1 hL1 hF1 r1 m1 q17 => ?_)
  refine keeps_2 hL1 hI m1 hB q17 (fun τ2 hL2 hF2 v2 o2 c2 => ?_)
  have m2 := m1.fr hF2 ⟨by omega, fun _ _ _ _ => by omega⟩
  have r2 := r1.fr hF2 (by omega) (fun a j _ _ => by omega)
  have hF12 := hF1.trans (hF2.mono (W' := frK) (fun a k hb => by omega) (fun _ h => h))
  refine loopU (N := els.length) (G := fun i τ => GG E mX12_keepsGroup 255 [some (vr 172), some (vi i), none, none, none] [] τ 0 0 Q)
    (P := fun i τ => Lay LM g c t τ ∧ Fr frM (fun _ => False) τ2 τ ∧ MCs τ els.length (clAll els.length (gmt D els) i)) ?_ ?_ 0 _ (by omega) ⟨hL2, Fr.refl _, c2⟩
  · rintro i τ hi ⟨hLτ, hF, hz⟩ next
    have hMτ := m2.fr hF ⟨by omega, fun _ _ _ _ => by omega⟩
    have hVτ := v2.fr hF (fun _ => by omega)
    have e9 : clAll els.length (gmt D els) (i + 1) = clOne els.length (gmt D els) i (clAll els.length (gmt D els) i) := rfl
    rw [e9] at next
    by_cases hm : (clAll els.length (gmt D els) i).1 i = -1
    · have := clAll_le els.length (gmt D els) i
      exact keeps_cl hLτ hI hMτ hVτ hz hi (by omega) hm (fun ρ hLρ hFρ hzρ => next ρ ⟨hLρ, hF.trans hFρ, hzρ⟩)
    · refine B_X12_keepsGroup_255 hLτ ?_
      rw [hMτ.1, show ((i : Nat) : Int).toNat = i by omega, hz.1 i hi]
      refine ⟨fun h => absurd h (by omega), fun _ => ⟨⟨by omega, by omega⟩, fun h9 => absurd h9 hm, fun _ => ⟨⟨by omega, by omega⟩, fun _ => next τ ⟨hLτ, hF, ?_⟩⟩⟩⟩
      unfold clOne
      rw [if_neg hm]
      exact hz
  · rintro τ ⟨hLτ, hF, hz⟩
    have hMτ := m2.fr hF ⟨by omega, fun _ _ _ _ => by omega⟩
    have hVτ := v2.fr hF (fun _ => by omega)
    have hOτ := o2.fr hF ⟨fun _ => by omega, by omega⟩
    have hRτ := r2.fr hF (by omega) (fun a j _ _ => by omega)
    have hF2τ := hF12.trans (hF.mono (W' := frK) (fun a k hb => by omega) (fun _ h => h))
    refine B_X12_keepsGroup_255 hLτ ?_
    rw [hMτ.1]
    refine ⟨fun _ _ => ?_, fun h9 => absurd (by omega) h9⟩
    refine S_laysPrime (N := els.length) (d := d) hLτ n120 hx (by omega) hP hp hMτ.1 hOτ.2 ((hF2τ.i (by omega) (by omega)).trans (hS.1.trans hD)) (fun τ5 hL5 hF5 q18 q19 => ⟨hL5, fun τ6 e6 hL6 => ?_⟩)
    subst e6
    have hF6 : Fr (fun a k => frP a k ∨ (a = 172 ∧ k = 27)) (fun _ => False) τ (sI τ5 172 27 0) := (hF5.mono (fun a k hb => .inl hb) (fun _ h => h)).sI (.inr ⟨rfl, rfl⟩)
    refine h _ hL6 (hF2τ.trans (hF6.mono (fun a k hb => by omega) (fun _ h => h))) ⟨hRτ.fr hF6 (by omega) (fun a j _ _ => by omega), hMτ.fr hF6 ⟨by omega, fun _ _ _ _ => by omega⟩, hVτ.fr hF6 (fun _ => by omega), hOτ.fr hF6 ⟨fun _ => by omega, by omega⟩, hz.fr hF6 ⟨fun _ => ⟨by omega, by omega, by omega⟩, by omega⟩, ?_, ?_⟩ ?_
    · rw [gI_sI, if_neg (by omega)]; exact q18
    · rw [gI_sI, if_neg (by omega)]; exact q19
    · rw [gI_sI, if_pos ⟨rfl, rfl⟩]
end S28
