/-! ===== the law: power, isMade, isKept, find, add ===== -/
section S9i
variable {E : Ev} {σ τ : Sg} {Q : NO → Sg → Prop} {g : Sg} {c t c' t' : Nat}
variable {K K' : Int → List (List Int) → Sg → Prop} {D : Int} {told els : List (List Int)} {past : List (List (List Int))} {B : List Int} {F : Int} {W R : Nat → Int}
variable {x4 : Int} {n rc rs : Nat}
theorem thr_finB {w r6 : Int} (hC : CI K σ c t σ D told els past B F W R) (hK : KF K) (hM : MI K' σ c' t' τ D told els past B F W R) (ho : OUT σ) (hO : OKs D told els past) (hR : ∀ i, i < 3 → 0 ≤ R i ∧ R i ≤ n) (h0 : gI τ 172 0 = w) (hv : w = 0 → (r6 = 0 → gI σ 2968 0 = 0) ∧ (¬ r6 = 0 → gI σ 2968 0 = 1)) (hN : NXT E K K' x4 n rc rs Q) :
    okO τ 172 12 ∧ CC E mX12_thrown [vr 172] τ (KI (fun r8 τ9 => inR r8 → ((r8 = w → ((w ≠ 0 → GG E mL_law 2194 [some (vr 5), some (vr 16), some (vr 172), some (vr 2968), some (vi x4), none, none] [] τ9 rc rs Q) ∧ (w = 0 → okB 23 τ9 2968 0 ∧ ((r6 = 0 → (((gI τ9 2968 0) = 0 → GG E mL_law 2194 [some (vr 5), some (vr 16), some (vr 172), some (vr 2968), some (vi x4), none, none] [] τ9 rc rs Q) ∧ (¬ ((gI τ9 2968 0) = 0) → (0 : Int) = 1))) ∧ (¬ (r6 = 0) → (((gI τ9 2968 0) = 1 → GG E mL_law 2194 [some (vr 5), some (vr 16), some (vr 172), some (vr 2968), some (vi x4), none, none] [] τ9 rc rs Q) ∧ (¬ ((gI τ9 2968 0) = 1) → (0 : Int) = 1))))))) ∧ (¬ (r8 = w) → (0 : Int) = 1))) (fun _ _ => False)) := by
  have hI := inv_of hC hK hM ho hO hR
  have o := m2o hM.1 ho
  have nx := hN τ _ _ _ _ _ _ _ _ hI
  refine ⟨okM172 hM, C_X12_thrown (B_X12_thrown_0 hM.1 (fun _ _ => ?_))⟩
  rw [h0]
  exact ⟨fun _ => ⟨fun _ => nx, fun hw => ⟨okO23 o.1, fun h6 => ⟨fun _ => nx, fun h9 => absurd (o.2.trans ((hv hw).1 h6)) h9⟩, fun h6 => ⟨fun _ => nx, fun h9 => absurd (o.2.trans ((hv hw).2 h6)) h9⟩⟩⟩, fun h9 => absurd rfl h9⟩
theorem law_power (hn : n ≤ 5000) (hS : SCR E x4) (hSI : ∀ j, j < (eS E 5).2 → inR (eI E 5 j)) (hI : INV K K' σ n D told els past B F W R) (hK : KF K) (hK' : KFM K') (hr : 4 ≤ rc ∧ 26 ≤ rs) (hN : ∀ rc' rs', rc ≤ rc' + 4 → rs ≤ rs' + 26 → NXT E K K' x4 (n + 1) rc' rs' Q) : GG E mL_law 873 [some (vr 5), some (vr 16), some (vr 172), some (vr 2968), some (vi x4), none, none] [] σ rc rs Q := by
  obtain ⟨⟨c, t, hC⟩, ⟨c', t', hM⟩, hO, o1, o2, hR⟩ := hI
  have hRB := inR_1 hR hn
  have hCl := hO.clo
  refine GG.ev (fun ho => ?_)
  have hx : inR (gI σ 5 (x4 + 2).toNat) := by
    obtain ⟨s1, s2, s3, s4⟩ := hS
    rw [((ho 5 (by decide)).2 _).1]
    exact hSI _ (by omega)
  refine B_L_law_873 ⟨inx hS (by decide), oka hS ho (by decide), inx hS (by decide), oka hS ho (by decide), by omega, by omega, C_L_power (B_L_power_0 ⟨by decide, by decide, okC16 hC, CC.out (X_power hC hK hRB hCl.isG (hCl.odB hO.1) hx (fun hk τ1 hC1 hp => ?_) (fun k' e1 hk' hp => ?_))⟩)⟩
  · have hM1 := hM.by hK' hC1.1
    have oo := x2o hC1.1 ⟨o1, o2⟩
    refine ⟨fun _ _ => ⟨oka hS hp (by decide), oka hS hp (by decide), okM172 hM1, ?_⟩, fun h9 => absurd h9 (by decide), fun h9 => absurd h9 (by decide)⟩
    rw [arg ho hp, arg ho hp]
    exact M_power hM1 hK' hRB hCl.isG (hCl.odB hO.1) (fun _ τ hMτ h0 _ => thr_fin hC1.re hK hMτ oo hO (bmp_le hR 0) h0 (fun h9 => absurd h9 (by decide)) (hN _ _ (by omega) (by omega))) (fun k' e1 hk' => by exfalso; omega)
  · have hC1 := hC
    have hM1 := hM
    have oo : OUT σ := ⟨o1, o2⟩
    refine fun _ => ⟨okO23 oo, fun τ4 e4 _ => ?_⟩
    have hp4 := hp.put e4
    have C4 := hC1.put hK e4
    have M4 := hM1.put hK' e4
    obtain ⟨oo4, v4⟩ := oo.put e4
    refine ⟨oka hS hp4 (by decide), oka hS hp4 (by decide), okM172 M4, ?_⟩
    rw [arg ho hp4, arg ho hp4]
    refine M_power M4 hK' hRB hCl.isG (hCl.odB hO.1) (fun hk9 => by exfalso; omega) (fun k2 e3 hk2 τ hMτ h0 _ => ?_)
    have ek : k2 = k' := by omega
    subst ek
    exact thr_fin C4 hK hMτ oo4 hO (le_1 hR) h0 (fun _ => v4) (hN _ _ (by omega) (by omega))

theorem law_isMade (hn : n ≤ 5000) (hS : SCR E x4) (hI : INV K K' σ n D told els past B F W R) (hK : KF K) (hK' : KFM K') (hr : 4 ≤ rc ∧ 26 ≤ rs) (hN : ∀ rc' rs', rc ≤ rc' + 4 → rs ≤ rs' + 26 → NXT E K K' x4 (n + 1) rc' rs' Q) : GG E mL_law 1869 [some (vr 5), some (vr 16), some (vr 172), some (vr 2968), some (vi x4), none, none] [] σ rc rs Q := by
  obtain ⟨⟨c, t, hC⟩, ⟨c', t', hM⟩, hO, o1, o2, hR⟩ := hI
  have hRB := inR_1 hR hn
  have hCl := hO.clo
  refine GG.ev (fun ho => ?_)
  refine B_L_law_1869 ⟨inx hS (by decide), oka hS ho (by decide), inx hS (by decide), oka hS ho (by decide), inx hS (by decide), oka hS ho (by decide), by omega, by omega, C_L_isMade (B_L_isMade_0 ⟨by decide, by decide, okC16 hC, CC.out (X_isMade hC hK hRB hCl.isG (fun hk τ1 hC1 hp => ?_) (fun k' l' e' q0 q1 q2 p0 p1 p2 r r1 r0 τ1 hC1 hp => ?_))⟩)⟩
  · have hM1 := hM.by hK' hC1.1
    have oo := x2o hC1.1 ⟨o1, o2⟩
    refine ⟨fun _ _ => ⟨oka hS hp (by decide), oka hS hp (by decide), oka hS hp (by decide), okM172 hM1, ?_⟩, fun h9 => absurd h9 (by decide), fun h9 => absurd h9 (by decide)⟩
    rw [arg ho hp, arg ho hp, arg ho hp]
    exact M_isMade hM1 hK' hRB hCl.isG (fun _ τ hMτ h0 _ => thr_finB hC1.re hK hMτ oo hO (bmp_le hR 0) h0 (fun h9 => absurd h9 (by decide)) (hN _ _ (by omega) (by omega))) (fun k' l' e' q0 q1 q2 p0 p1 p2 => by exfalso; omega)
  · have hM1 := hM.by hK' hC1.1
    have oo := x2o hC1.1 ⟨o1, o2⟩
    refine fun _ => ⟨fun hr0 => ⟨okO23 oo, fun τ4 e4 _ => ?_⟩, fun hr0 => ⟨okO23 oo, fun τ4 e4 _ => ?_⟩⟩
    · have hp4 := hp.put e4
      have C4 := hC1.put hK e4
      have M4 := hM1.put hK' e4
      obtain ⟨oo4, v4⟩ := oo.put e4
      refine ⟨oka hS hp4 (by decide), oka hS hp4 (by decide), oka hS hp4 (by decide), okM172 M4, ?_⟩
      rw [arg ho hp4, arg ho hp4, arg ho hp4]
      refine M_isMade M4 hK' hRB hCl.isG (fun hk9 => by exfalso; omega) (fun k2 l2 e2 u0 u1 u2 w0 w1 w2 r2 s1 s0 τ hMτ h0 _ => ?_)
      have ek2 : k2 = k' := by omega
      have el2 : l2 = l' := by omega
      have ee2 : e2 = e' := by omega
      subst ek2 el2 ee2
      exact thr_finB C4 hK hMτ oo4 hO (le_1 hR) h0 (fun _ => ⟨fun _ => v4, fun h9 => absurd (s0 (of_eq9 r1 hr0)) h9⟩) (hN _ _ (by omega) (by omega))
    · have hp4 := hp.put e4
      have C4 := hC1.put hK e4
      have M4 := hM1.put hK' e4
      obtain ⟨oo4, v4⟩ := oo.put e4
      refine ⟨oka hS hp4 (by decide), oka hS hp4 (by decide), oka hS hp4 (by decide), okM172 M4, ?_⟩
      rw [arg ho hp4, arg ho hp4, arg ho hp4]
      refine M_isMade M4 hK' hRB hCl.isG (fun hk9 => by exfalso; omega) (fun k2 l2 e2 u0 u1 u2 w0 w1 w2 r2 s1 s0 τ hMτ h0 _ => ?_)
      have ek2 : k2 = k' := by omega
      have el2 : l2 = l' := by omega
      have ee2 : e2 = e' := by omega
      subst ek2 el2 ee2
      exact thr_finB C4 hK hMτ oo4 hO (le_1 hR) h0 (fun _ => ⟨fun h9 => by have := s1 (of_ne9 r0 hr0); omega, fun _ => v4⟩) (hN _ _ (by omega) (by omega))

theorem law_isKept (hn : n ≤ 5000) (hS : SCR E x4) (hI : INV K K' σ n D told els past B F W R) (hK : KF K) (hK' : KFM K') (hr : 4 ≤ rc ∧ 26 ≤ rs) (hN : ∀ rc' rs', rc ≤ rc' + 4 → rs ≤ rs' + 26 → NXT E K K' x4 (n + 1) rc' rs' Q) : GG E mL_law 1956 [some (vr 5), some (vr 16), some (vr 172), some (vr 2968), some (vi x4), none, none] [] σ rc rs Q := by
  obtain ⟨⟨c, t, hC⟩, ⟨c', t', hM⟩, hO, o1, o2, hR⟩ := hI
  have hRB := inR_1 hR hn
  have hCl := hO.clo
  refine GG.ev (fun ho => ?_)
  refine B_L_law_1956 ⟨inx hS (by decide), oka hS ho (by decide), inx hS (by decide), oka hS ho (by decide), by omega, by omega, C_L_isKept (B_L_isKept_0 ⟨by decide, by decide, okC16 hC, CC.out (X_isKept hC hK hRB hCl.isG (fun hk τ1 hC1 hp => ?_) (fun k' l' q0 q1 p0 p1 r r1 r0 τ1 hC1 hp => ?_))⟩)⟩
  · have hM1 := hM.by hK' hC1.1
    have oo := x2o hC1.1 ⟨o1, o2⟩
    refine ⟨fun _ _ => ⟨oka hS hp (by decide), oka hS hp (by decide), okM172 hM1, ?_⟩, fun h9 => absurd h9 (by decide), fun h9 => absurd h9 (by decide)⟩
    rw [arg ho hp, arg ho hp]
    exact M_isKept hM1 hK' hRB hCl.isG (fun _ τ hMτ h0 _ => thr_finB hC1.re hK hMτ oo hO (bmp_le hR 0) h0 (fun h9 => absurd h9 (by decide)) (hN _ _ (by omega) (by omega))) (fun k' l' q0 q1 p0 p1 => by exfalso; omega)
  · have hM1 := hM.by hK' hC1.1
    have oo := x2o hC1.1 ⟨o1, o2⟩
    refine fun _ => ⟨fun hr0 => ⟨okO23 oo, fun τ4 e4 _ => ?_⟩, fun hr0 => ⟨okO23 oo, fun τ4 e4 _ => ?_⟩⟩
    · have hp4 := hp.put e4
      have C4 := hC1.put hK e4
      have M4 := hM1.put hK' e4
      obtain ⟨oo4, v4⟩ := oo.put e4
      refine ⟨oka hS hp4 (by decide), oka hS hp4 (by decide), okM172 M4, ?_⟩
      rw [arg ho hp4, arg ho hp4]
      refine M_isKept M4 hK' hRB hCl.isG (fun hk9 => by exfalso; omega) (fun k2 l2 u0 u1 w0 w1 r2 s1 s0 τ hMτ h0 _ => ?_)
      have ek2 : k2 = k' := by omega
      have el2 : l2 = l' := by omega
      subst ek2 el2
      exact thr_finB C4 hK hMτ oo4 hO (le_1 hR) h0 (fun _ => ⟨fun _ => v4, fun h9 => absurd (s0 (of_eq9 r1 hr0)) h9⟩) (hN _ _ (by omega) (by omega))
    · have hp4 := hp.put e4
      have C4 := hC1.put hK e4
      have M4 := hM1.put hK' e4
      obtain ⟨oo4, v4⟩ := oo.put e4
      refine ⟨oka hS hp4 (by decide), oka hS hp4 (by decide), okM172 M4, ?_⟩
      rw [arg ho hp4, arg ho hp4]
      refine M_isKept M4 hK' hRB hCl.isG (fun hk9 => by exfalso; omega) (fun k2 l2 u0 u1 w0 w1 r2 s1 s0 τ hMτ h0 _ => ?_)
      have ek2 : k2 = k' := by omega
      have el2 : l2 = l' := by omega
      subst ek2 el2
      exact thr_finB C4 hK hMτ oo4 hO (le_1 hR) h0 (fun _ => ⟨fun h9 => by have := s1 (of_ne9 r0 hr0); omega, fun _ => v4⟩) (hN _ _ (by omega) (by omega))

theorem law_find (hn : n ≤ 5000) (hS : SCR E x4) (hI : INV K K' σ n D told els past B F W R) (hK : KF K) (hK' : KFM K') (hr : 4 ≤ rc ∧ 26 ≤ rs) (hN : ∀ rc' rs', rc ≤ rc' + 4 → rs ≤ rs' + 26 → NXT E K K' x4 (n + 1) rc' rs' Q) : GG E mL_law 690 [some (vr 5), some (vr 16), some (vr 172), some (vr 2968), some (vi x4), none, none] [] σ rc rs Q := by
  obtain ⟨⟨c, t, hC⟩, ⟨c', t', hM⟩, hO, o1, o2, hR⟩ := hI
  have hRB := inR_1 hR hn
  have hCl := hO.clo
  refine GG.ev (fun ho => ?_)
  refine B_L_law_690 ⟨inx hS (by decide), oka hS ho (by decide), inx hS (by decide), oka hS ho (by decide), inx hS (by decide), oka hS ho (by decide), inx hS (by decide), oka hS ho (by decide), inx hS (by decide), oka hS ho (by decide), inx hS (by decide), oka hS ho (by decide), inx hS (by decide), oka hS ho (by decide), inx hS (by decide), oka hS ho (by decide), okC16 hC, CC.out (X_find hC hK hCl.2.2.2.1 (fun τ1 hC1 hp _ => ?_))⟩
  have hM1 := hM.by hK' hC1.1
  have oo := x2o hC1.1 ⟨o1, o2⟩
  refine ⟨oka hS hp (by decide), oka hS hp (by decide), oka hS hp (by decide), oka hS hp (by decide), oka hS hp (by decide), oka hS hp (by decide), oka hS hp (by decide), oka hS hp (by decide), by omega, by omega, okM172 hM1, ?_⟩
  rw [arg ho hp, arg ho hp, arg ho hp, arg ho hp, arg ho hp, arg ho hp, arg ho hp, arg ho hp]
  exact M_find hM1 hK' hCl.2.2.2.1 (fun τ hMτ h0 _ => ⟨fun _ => hN _ _ (by omega) (by omega) τ _ _ _ _ _ _ _ _ (inv_of hC1.re hK hMτ oo hO (le_1 hR)), fun h9 => absurd rfl h9⟩)
theorem law_add (hn : n ≤ 5000) (hS : SCR E x4) (hI : INV K K' σ n D told els past B F W R) (hK : KF K) (hK' : KFM K') (hr : 4 ≤ rc ∧ 26 ≤ rs) (hN : ∀ rc' rs', rc ≤ rc' + 4 → rs ≤ rs' + 26 → NXT E K K' x4 (n + 1) rc' rs' Q) : GG E mL_law 326 [some (vr 5), some (vr 16), some (vr 172), some (vr 2968), some (vi x4), none, none] [] σ rc rs Q := by
  obtain ⟨⟨c, t, hC⟩, ⟨c', t', hM⟩, hO, o1, o2, hR⟩ := hI
  have hRB := inR_1 hR hn
  have hCl := hO.clo
  refine GG.ev (fun ho => ?_)
  refine B_L_law_326 ⟨inx hS (by decide), oka hS ho (by decide), inx hS (by decide), oka hS ho (by decide), inx hS (by decide), oka hS ho (by decide), inx hS (by decide), oka hS ho (by decide), inx hS (by decide), oka hS ho (by decide), inx hS (by decide), oka hS ho (by decide), inx hS (by decide), oka hS ho (by decide), inx hS (by decide), oka hS ho (by decide), by omega, by omega, C_L_add (B_L_add_0 ⟨by decide, by decide, okC16 hC, CC.out (X_add hC hK hO hRB (fun hy τ1 hC1 hp => ?_) (fun hy h4 τ1 hC1 hp => ?_) (fun hy h4 k m i u hcl τ1 hC1 hp => ?_) (fun hy h4 els' hcl τ1 hC1 hp => ?_))⟩)⟩
  · have hM1 := hM.by hK' hC1.1
    have oo := x2o hC1.1 ⟨o1, o2⟩
    refine ⟨fun h9 => absurd h9 (by decide), fun _ _ => ⟨oka hS hp (by decide), oka hS hp (by decide), oka hS hp (by decide), oka hS hp (by decide), oka hS hp (by decide), oka hS hp (by decide), oka hS hp (by decide), oka hS hp (by decide), by omega, by omega, okM172 hM1, ?_⟩, fun h9 => absurd h9 (by decide)⟩
    rw [arg ho hp, arg ho hp, arg ho hp, arg ho hp, arg ho hp, arg ho hp, arg ho hp, arg ho hp]
    exact M_add hM1 hK' hO hRB (Nat.le_refl _) (fun _ τ hMτ h0 _ => thr_fin hC1.re hK hMτ oo hO (bmp_le hR 1) h0 (fun h9 => absurd h9 (by decide)) (hN _ _ (by omega) (by omega))) (fun h9 => absurd h9 hy) (fun h9 => absurd h9 hy) (fun h9 => absurd h9 hy)
  · have hM1 := hM.by hK' hC1.1
    have oo := x2o hC1.1 ⟨o1, o2⟩
    refine ⟨fun h9 => absurd h9 (by decide), fun h9 => absurd h9 (by decide), fun _ _ => ⟨oka hS hp (by decide), oka hS hp (by decide), oka hS hp (by decide), oka hS hp (by decide), oka hS hp (by decide), oka hS hp (by decide), oka hS hp (by decide), oka hS hp (by decide), by omega, by omega, okM172 hM1, ?_⟩⟩
    rw [arg ho hp, arg ho hp, arg ho hp, arg ho hp, arg ho hp, arg ho hp, arg ho hp, arg ho hp]
    exact M_add hM1 hK' hO hRB (Nat.le_refl _) (fun h9 => absurd hy h9) (fun _ _ τ hMτ h0 _ => thr_fin hC1.re hK hMτ oo hO (bmp_le hR 2) h0 (fun h9 => absurd h9 (by decide)) (hN _ _ (by omega) (by omega))) (fun _ h9 => by exfalso; omega) (fun _ h9 => by exfalso; omega)
  · have hM1 := hM.by hK' hC1.1
    have oo := x2o hC1.1 ⟨o1, o2⟩
    refine ⟨fun h9 => absurd h9 (by decide), fun h9 => absurd h9 (by decide), fun _ _ => ⟨oka hS hp (by decide), oka hS hp (by decide), oka hS hp (by decide), oka hS hp (by decide), oka hS hp (by decide), oka hS hp (by decide), oka hS hp (by decide), oka hS hp (by decide), by omega, by omega, okM172 hM1, ?_⟩⟩
    rw [arg ho hp, arg ho hp, arg ho hp, arg ho hp, arg ho hp, arg ho hp, arg ho hp, arg ho hp]
    refine M_add hM1 hK' hO hRB (Nat.le_refl _) (fun h9 => absurd hy h9) (fun _ h9 => by exfalso; omega) (fun _ _ k2 m2 i2 u2 hcl2 τ hMτ h0 _ => ?_) (fun _ _ els2 hcl2 => ?_)
    · rw [hcl] at hcl2
      injection hcl2 with hcl2
      injection hcl2 with hcl2
      injection hcl2 with a1 a2
      injection a2 with a2 a3
      injection a3 with a3 a4
      subst a1 a2 a3 a4
      exact thr_fin hC1.re hK hMτ oo hO (bmp_le hR 2) h0 (fun h9 => absurd h9 (by decide)) (hN _ _ (by omega) (by omega))
    · exfalso
      rw [hcl] at hcl2
      injection hcl2 with hcl2
      cases hcl2
  · have hM1 := hM.by hK' hC1.1
    have oo := x2o hC1.1 ⟨o1, o2⟩
    refine fun _ => ⟨okO23 oo, fun τ4 e4 _ => ?_⟩
    have hp4 := hp.put e4
    have C4 := hC1.put hK e4
    have M4 := hM1.put hK' e4
    obtain ⟨oo4, v4⟩ := oo.put e4
    refine ⟨oka hS hp4 (by decide), oka hS hp4 (by decide), oka hS hp4 (by decide), oka hS hp4 (by decide), oka hS hp4 (by decide), oka hS hp4 (by decide), oka hS hp4 (by decide), oka hS hp4 (by decide), by omega, by omega, okM172 M4, ?_⟩
    rw [arg ho hp4, arg ho hp4, arg ho hp4, arg ho hp4, arg ho hp4, arg ho hp4, arg ho hp4, arg ho hp4]
    have htd : tolds D (told ++ [[gI σ 5 (x4 + 1).toNat, gI σ 5 (x4 + 2).toNat, gI σ 5 (x4 + 3).toNat, gI σ 5 (x4 + 4).toNat, gI σ 5 (x4 + 5).toNat, gI σ 5 (x4 + 6).toNat, gI σ 5 (x4 + 7).toNat, gI σ 5 (x4 + 8).toNat]]) := ⟨by simp; omega, fun z hz => by
      by_cases hzl : z < told.length
      · rw [getD_app9 hzl]; exact hO.2.1.2 z hzl
      · have : z = told.length := by simp at hz; omega
        subst this
        rw [getD_last9]; exact hy⟩
    have hO' := hO.keep htd hcl
    refine M_add M4 hK' hO hRB (Nat.le_refl _) (fun h9 => absurd hy h9) (fun _ h9 => by exfalso; omega) (fun _ _ k2 m2 i2 u2 hcl2 => ?_) (fun _ _ els2 hcl2 τ hMτ h0 _ => ?_)
    · exfalso
      rw [hcl] at hcl2
      injection hcl2 with hcl2
      cases hcl2
    · rw [hcl] at hcl2
      injection hcl2 with hcl2
      injection hcl2 with hcl2
      subst hcl2
      exact thr_fin C4 hK hMτ oo4 hO' (le_1 hR) h0 (fun _ => v4) (hN _ _ (by omega) (by omega))
end S9i
