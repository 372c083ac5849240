/-! ===== the law: calls that may be refused ===== -/
section S9h
variable {E : Ev} {σ τ : Sg} {Q : NO → Sg → Prop} {g : Sg} {c t c' t' : Nat}
variable {K K' : Int → List (List Int) → Sg → Prop} {D : Int} {told els : List (List Int)} {past : List (List (List Int))} {B : List Int} {F : Int} {W R : Nat → Int}
variable {x4 : Int} {n rc rs : Nat}
theorem OutE.put {r : Int} (h : OutE E σ) (e : τ = sI σ 2968 0 r) : OutE E τ := by
  subst e
  exact fun a ha => ⟨(h a ha).1, fun j => ⟨by rw [gI_sI, if_neg (by omega)]; exact ((h a ha).2 j).1, ((h a ha).2 j).2⟩⟩
theorem thr_fin {w r6 : Int} (hC : CI K σ c t σ D told els past B F W R) (hK : KF K) (hM : MI K' σ c' t' τ D told els past B F W R) (ho : OUT σ) (hO : OKs D told els past) (hR : ∀ i, i < 3 → 0 ≤ R i ∧ R i ≤ n) (h0 : gI τ 172 0 = w) (hv : w = 0 → gI σ 2968 0 = r6) (hN : NXT E K K' x4 n rc rs Q) :
    okO τ 172 12 ∧ CC E mX12_thrown [vr 172] τ (KI (fun r8 τ9 => inR r8 → ((r8 = w → ((w ≠ 0 → GG E mL_law 2194 [some (vr 5), some (vr 16), some (vr 172), some (vr 2968), some (vi x4), none, none] [] τ9 rc rs Q) ∧ (w = 0 → okB 23 τ9 2968 0 ∧ (((gI τ9 2968 0) = r6 → GG E mL_law 2194 [some (vr 5), some (vr 16), some (vr 172), some (vr 2968), some (vi x4), none, none] [] τ9 rc rs Q) ∧ (¬ ((gI τ9 2968 0) = r6) → (0 : Int) = 1))))) ∧ (¬ (r8 = w) → (0 : Int) = 1))) (fun _ _ => False)) := by
  have hI := inv_of hC hK hM ho hO hR
  have o := m2o hM.1 ho
  have nx := hN τ _ _ _ _ _ _ _ _ hI
  refine ⟨okM172 hM, C_X12_thrown (B_X12_thrown_0 hM.1 (fun _ _ => ?_))⟩
  rw [h0]
  exact ⟨fun _ => ⟨fun _ => nx, fun hw => ⟨okO23 o.1, fun _ => nx, fun h9 => absurd (o.2.trans (hv hw)) h9⟩⟩, fun h9 => absurd rfl h9⟩
theorem taB_nn {y : Int} : 0 ≤ b_iandq y 255 := by
  unfold b_iandq
  have e : (Int32.ofInt y &&& Int32.ofInt 255).toBitVec = (Int32.ofInt y).toBitVec &&& 255#32 := rfl
  show 0 ≤ (Int32.ofInt y &&& Int32.ofInt 255).toBitVec.toInt
  rw [e]
  have h : ((Int32.ofInt y).toBitVec &&& 255#32).toNat ≤ 255 := by rw [BitVec.toNat_and]; exact Nat.and_le_right
  rw [BitVec.toInt_eq_toNat_of_lt (by omega)]
  omega
theorem CI.byt (h : CI K g c t σ D told els past B F W R) : ∀ i, i < B.length → 0 ≤ gd B i := fun i hi => by
  have := h.2.2.2.2.2.1.2.2 i hi
  rw [← this]; exact taB_nn
theorem law_drop (hn : n ≤ 5000) (hS : SCR E x4) (hI : INV K K' σ n D told els past B F W R) (hK : KF K) (hK' : KFM K') (hr : 4 ≤ rc ∧ 26 ≤ rs) (hN : ∀ rc' rs', rc ≤ rc' + 4 → rs ≤ rs' + 26 → NXT E K K' x4 (n + 1) rc' rs' Q) : GG E mL_law 472 [some (vr 5), some (vr 16), some (vr 172), some (vr 2968), some (vi x4), none, none] [] σ rc rs Q := by
  obtain ⟨⟨c, t, hC⟩, ⟨c', t', hM⟩, hO, o1, o2, hR⟩ := hI
  have hRB := inR_1 hR hn
  have hCl := hO.clo
  refine GG.ev (fun ho => ?_)
  refine B_L_law_472 ⟨inx hS (by decide), oka hS ho (by decide), by omega, by omega, C_L_drop (B_L_drop_0 ⟨by decide, by decide, okC16 hC, CC.out (X_drop hC hK hO hRB (fun hk τ1 hC1 hp => ?_) (fun k' e hk' els' hcl τ1 hC1 hp => ?_))⟩)⟩
  · have hM1 := hM.by hK' hC1.1
    have oo := x2o hC1.1 ⟨o1, o2⟩
    refine ⟨fun _ _ => ⟨oka hS hp (by decide), okM172 hM1, ?_⟩, fun h9 => absurd h9 (by decide), fun h9 => absurd h9 (by decide)⟩
    rw [arg ho hp]
    exact M_drop hM1 hK' hO hRB (fun _ τ hMτ h0 _ => thr_fin hC1.re hK hMτ oo hO (bmp_le hR 0) h0 (fun h9 => absurd h9 (by decide)) (hN _ _ (by omega) (by omega))) (fun k' e hk' => by exfalso; omega)
  · have hM1 := hM.by hK' hC1.1
    have oo := x2o hC1.1 ⟨o1, o2⟩
    refine fun _ => ⟨okO23 oo, fun τ4 e4 _ => ?_⟩
    have hp4 := hp.put e4
    have C4 := hC1.put hK e4
    have M4 := hM1.put hK' e4
    obtain ⟨oo4, v4⟩ := oo.put e4
    refine ⟨oka hS hp4 (by decide), okM172 M4, ?_⟩
    rw [arg ho hp4]
    have hO' : OKs D (told.eraseIdx k') els' (keepP past told) := hO.keep (hO.drop hk').1 hcl
    refine M_drop M4 hK' hO hRB (fun hk9 => by exfalso; omega) (fun k2 e2 hk2 els2 hcl2 τ hMτ h0 _ => ?_)
    have ek : k2 = k' := by omega
    subst ek
    rw [hcl] at hcl2
    injection hcl2 with hcl2
    injection hcl2 with hcl2
    subst hcl2
    exact thr_fin C4 hK hMτ oo4 hO' (le_1 hR) h0 (fun _ => v4) (hN _ _ (by omega) (by omega))

theorem law_product (hn : n ≤ 5000) (hS : SCR E x4) (hI : INV K K' σ n D told els past B F W R) (hK : KF K) (hK' : KFM K') (hr : 4 ≤ rc ∧ 26 ≤ rs) (hN : ∀ rc' rs', rc ≤ rc' + 4 → rs ≤ rs' + 26 → NXT E K K' x4 (n + 1) rc' rs' Q) : GG E mL_law 805 [some (vr 5), some (vr 16), some (vr 172), some (vr 2968), some (vi x4), none, none] [] σ rc rs Q := by
  obtain ⟨⟨c, t, hC⟩, ⟨c', t', hM⟩, hO, o1, o2, hR⟩ := hI
  have hRB := inR_1 hR hn
  have hCl := hO.clo
  refine GG.ev (fun ho => ?_)
  refine B_L_law_805 ⟨inx hS (by decide), oka hS ho (by decide), inx hS (by decide), oka hS ho (by decide), by omega, by omega, C_L_product (B_L_product_0 ⟨by decide, by decide, okC16 hC, CC.out (X_product hC hK hRB (fun hk τ1 hC1 hp => ?_) (fun k' l' e1 e2 hk' hl' hp => ?_))⟩)⟩
  · have hM1 := hM.by hK' hC1.1
    have oo := x2o hC1.1 ⟨o1, o2⟩
    refine ⟨fun _ _ => ⟨oka hS hp (by decide), oka hS hp (by decide), okM172 hM1, ?_⟩, fun h9 => absurd h9 (by decide), fun h9 => absurd h9 (by decide)⟩
    rw [arg ho hp, arg ho hp]
    exact M_product hM1 hK' hRB (fun _ τ hMτ h0 _ => thr_fin hC1.re hK hMτ oo hO (bmp_le hR 0) h0 (fun h9 => absurd h9 (by decide)) (hN _ _ (by omega) (by omega))) (fun k' l' e1 e2 hk' hl' => by exfalso; omega)
  · have hC1 := hC
    have hM1 := hM
    have oo : OUT σ := ⟨o1, o2⟩
    refine fun _ => ⟨okO23 oo, fun τ4 e4 _ => ?_⟩
    have hp4 := hp.put e4
    have C4 := hC1.put hK e4
    have M4 := hM1.put hK' e4
    obtain ⟨oo4, v4⟩ := oo.put e4
    refine ⟨oka hS hp4 (by decide), oka hS hp4 (by decide), okM172 M4, ?_⟩
    rw [arg ho hp4, arg ho hp4]
    refine M_product M4 hK' hRB (fun hk9 => by exfalso; omega) (fun k2 l2 e3 e4' hk2 hl2 τ hMτ h0 _ => ?_)
    have ek : k2 = k' := by omega
    have el : l2 = l' := by omega
    subst ek el
    exact thr_fin C4 hK hMτ oo4 hO (le_1 hR) h0 (fun _ => v4) (hN _ _ (by omega) (by omega))

theorem law_axes (hn : n ≤ 5000) (hS : SCR E x4) (hI : INV K K' σ n D told els past B F W R) (hK : KF K) (hK' : KFM K') (hr : 4 ≤ rc ∧ 26 ≤ rs) (hN : ∀ rc' rs', rc ≤ rc' + 4 → rs ≤ rs' + 26 → NXT E K K' x4 (n + 1) rc' rs' Q) : GG E mL_law 1089 [some (vr 5), some (vr 16), some (vr 172), some (vr 2968), some (vi x4), none, none] [] σ rc rs Q := by
  obtain ⟨⟨c, t, hC⟩, ⟨c', t', hM⟩, hO, o1, o2, hR⟩ := hI
  have hRB := inR_1 hR hn
  have hCl := hO.clo
  refine GG.ev (fun ho => ?_)
  refine B_L_law_1089 ⟨inx hS (by decide), oka hS ho (by decide), by omega, by omega, C_L_axes (B_L_axes_0 ⟨by decide, by decide, okC16 hC, CC.out (X_axes hC hK hRB hCl hO.1 (fun hk τ1 hC1 hp => ?_) (fun k e hk1 hk2 hp => ?_))⟩)⟩
  · have hM1 := hM.by hK' hC1.1
    have oo := x2o hC1.1 ⟨o1, o2⟩
    refine ⟨fun h9 => absurd h9 (by decide), fun _ _ => ⟨oka hS hp (by decide), okM172 hM1, ?_⟩, fun h9 => absurd h9 (by decide)⟩
    rw [arg ho hp]
    exact M_axes hM1 hK' hRB hCl hO.1 (fun _ τ hMτ h0 _ => thr_fin hC1.re hK hMτ oo hO (bmp_le hR 1) h0 (fun h9 => absurd h9 (by decide)) (hN _ _ (by omega) (by omega))) (fun k e hk1 hk2 => by exfalso; omega)
  · have hC1 := hC
    have hM1 := hM
    have oo : OUT σ := ⟨o1, o2⟩
    refine fun _ => ⟨okO23 oo, fun τ4 e4 _ => ?_⟩
    have hp4 := hp.put e4
    have C4 := hC1.put hK e4
    have M4 := hM1.put hK' e4
    obtain ⟨oo4, v4⟩ := oo.put e4
    refine ⟨oka hS hp4 (by decide), okM172 M4, ?_⟩
    rw [arg ho hp4]
    refine M_axes M4 hK' hRB hCl hO.1 (fun hk9 => by exfalso; omega) (fun k2 e2 hk3 hk4 τ hMτ h0 _ => ?_)
    have ek : k2 = k := by omega
    subst ek
    exact thr_fin C4 hK hMτ oo4 hO (le_1 hR) h0 (fun _ => v4) (hN _ _ (by omega) (by omega))

theorem law_invariants (hn : n ≤ 5000) (hS : SCR E x4) (hI : INV K K' σ n D told els past B F W R) (hK : KF K) (hK' : KFM K') (hr : 4 ≤ rc ∧ 26 ≤ rs) (hN : ∀ rc' rs', rc ≤ rc' + 4 → rs ≤ rs' + 26 → NXT E K K' x4 (n + 1) rc' rs' Q) : GG E mL_law 1597 [some (vr 5), some (vr 16), some (vr 172), some (vr 2968), some (vi x4), none, none] [] σ rc rs Q := by
  obtain ⟨⟨c, t, hC⟩, ⟨c', t', hM⟩, hO, o1, o2, hR⟩ := hI
  have hRB := inR_1 hR hn
  have hCl := hO.clo
  refine GG.ev (fun ho => ?_)
  refine B_L_law_1597 ⟨inx hS (by decide), oka hS ho (by decide), by omega, by omega, C_L_invariants (B_L_invariants_0 ⟨by decide, by decide, okC16 hC, CC.out (X_invariants hC hK hRB hCl hO.1 (fun hk τ1 hC1 hp => ?_) (fun k e hk1 hp => ?_))⟩)⟩
  · have hM1 := hM.by hK' hC1.1
    have oo := x2o hC1.1 ⟨o1, o2⟩
    refine ⟨fun h9 => absurd h9 (by decide), fun _ _ => ⟨oka hS hp (by decide), okM172 hM1, ?_⟩, fun h9 => absurd h9 (by decide)⟩
    rw [arg ho hp]
    exact M_invariants hM1 hK' hRB hCl hO.1 (fun _ τ hMτ h0 _ => thr_fin hC1.re hK hMτ oo hO (bmp_le hR 1) h0 (fun h9 => absurd h9 (by decide)) (hN _ _ (by omega) (by omega))) (fun k e hk1 => by exfalso; omega)
  · have hC1 := hC
    have hM1 := hM
    have oo : OUT σ := ⟨o1, o2⟩
    refine fun _ => ⟨okO23 oo, fun τ4 e4 _ => ?_⟩
    have hp4 := hp.put e4
    have C4 := hC1.put hK e4
    have M4 := hM1.put hK' e4
    obtain ⟨oo4, v4⟩ := oo.put e4
    refine ⟨oka hS hp4 (by decide), okM172 M4, ?_⟩
    rw [arg ho hp4]
    refine M_invariants M4 hK' hRB hCl hO.1 (fun hk9 => by exfalso; omega) (fun k2 e2 hk3 τ hMτ h0 _ => ?_)
    have ek : k2 = k := by omega
    subst ek
    exact thr_fin C4 hK hMτ oo4 hO (le_1 hR) h0 (fun _ => v4) (hN _ _ (by omega) (by omega))

theorem law_makers (hn : n ≤ 5000) (hS : SCR E x4) (hI : INV K K' σ n D told els past B F W R) (hK : KF K) (hK' : KFM K') (hr : 4 ≤ rc ∧ 26 ≤ rs) (hN : ∀ rc' rs', rc ≤ rc' + 4 → rs ≤ rs' + 26 → NXT E K K' x4 (n + 1) rc' rs' Q) : GG E mL_law 2099 [some (vr 5), some (vr 16), some (vr 172), some (vr 2968), some (vi x4), none, none] [] σ rc rs Q := by
  obtain ⟨⟨c, t, hC⟩, ⟨c', t', hM⟩, hO, o1, o2, hR⟩ := hI
  have hRB := inR_1 hR hn
  have hCl := hO.clo
  refine GG.ev (fun ho => ?_)
  refine B_L_law_2099 ⟨inx hS (by decide), oka hS ho (by decide), by omega, by omega, C_L_makers (B_L_makers_0 ⟨by decide, by decide, okC16 hC, CC.out (X_makers hC hK hRB hCl.isG (fun hk τ1 hC1 hp => ?_) (fun w0 w1 a b hab τ1 hC1 hp => ?_))⟩)⟩
  · have hM1 := hM.by hK' hC1.1
    have oo := x2o hC1.1 ⟨o1, o2⟩
    refine ⟨fun h9 => absurd h9 (by decide), fun _ _ => ⟨oka hS hp (by decide), okM172 hM1, ?_⟩, fun h9 => absurd h9 (by decide)⟩
    rw [arg ho hp]
    exact M_makers hM1 hK' hRB hCl.isG (fun _ τ hMτ h0 _ => thr_fin hC1.re hK hMτ oo hO (bmp_le hR 1) h0 (fun h9 => absurd h9 (by decide)) (hN _ _ (by omega) (by omega))) (fun w0 w1 => by exfalso; omega)
  · have hM1 := hM.by hK' hC1.1
    have oo := x2o hC1.1 ⟨o1, o2⟩
    refine fun _ => ⟨okO23 oo, fun τ4 e4 _ => ?_⟩
    have hp4 := hp.put e4
    have C4 := hC1.put hK e4
    have M4 := hM1.put hK' e4
    obtain ⟨oo4, v4⟩ := oo.put e4
    refine ⟨oka hS hp4 (by decide), okM172 M4, ?_⟩
    rw [arg ho hp4]
    refine M_makers M4 hK' hRB hCl.isG (fun hk9 => by exfalso; omega) (fun _ _ a2 b2 hab2 τ hMτ h0 _ => ?_)
    obtain ⟨ea, eb⟩ := hab.un hab2
    subst ea eb
    exact thr_fin C4 hK hMτ oo4 hO (le_1 hR) h0 (fun _ => v4) (hN _ _ (by omega) (by omega))

theorem law_ofOrder (hn : n ≤ 5000) (hS : SCR E x4) (hI : INV K K' σ n D told els past B F W R) (hK : KF K) (hK' : KFM K') (hr : 4 ≤ rc ∧ 26 ≤ rs) (hN : ∀ rc' rs', rc ≤ rc' + 4 → rs ≤ rs' + 26 → NXT E K K' x4 (n + 1) rc' rs' Q) : GG E mL_law 2031 [some (vr 5), some (vr 16), some (vr 172), some (vr 2968), some (vi x4), none, none] [] σ rc rs Q := by
  obtain ⟨⟨c, t, hC⟩, ⟨c', t', hM⟩, hO, o1, o2, hR⟩ := hI
  have hRB := inR_1 hR hn
  have hCl := hO.clo
  refine GG.ev (fun ho => ?_)
  refine B_L_law_2031 ⟨inx hS (by decide), oka hS ho (by decide), inx hS (by decide), oka hS ho (by decide), by omega, by omega, C_L_ofOrder (B_L_ofOrder_0 ⟨by decide, by decide, okC16 hC, CC.out (X_ofOrder hC hK hRB (fun hk τ1 hC1 hp => ?_) (fun h1 h2 h3 hp => ?_) (fun h1 h2 h3 r hr9 hp => ?_))⟩)⟩
  · have hM1 := hM.by hK' hC1.1
    have oo := x2o hC1.1 ⟨o1, o2⟩
    refine ⟨fun h9 => absurd h9 (by decide), fun _ _ => ⟨oka hS hp (by decide), oka hS hp (by decide), okM172 hM1, ?_⟩, fun h9 => absurd h9 (by decide)⟩
    rw [arg ho hp, arg ho hp]
    exact M_ofOrder hM1 hK' hRB (fun _ τ hMτ h0 _ => thr_fin hC1.re hK hMτ oo hO (bmp_le hR 1) h0 (fun h9 => absurd h9 (by decide)) (hN _ _ (by omega) (by omega))) (fun h1 h2 h3 => by exfalso; omega) (fun h1 h2 h3 => by exfalso; omega)
  · have hC1 := hC
    have hM1 := hM
    have oo : OUT σ := ⟨o1, o2⟩
    refine fun _ => ⟨okO23 oo, fun τ4 e4 _ => ?_⟩
    have hp4 := hp.put e4
    have C4 := hC1.put hK e4
    have M4 := hM1.put hK' e4
    obtain ⟨oo4, v4⟩ := oo.put e4
    refine ⟨oka hS hp4 (by decide), oka hS hp4 (by decide), okM172 M4, ?_⟩
    rw [arg ho hp4, arg ho hp4]
    exact M_ofOrder M4 hK' hRB (fun hk9 => by exfalso; omega) (fun _ _ _ τ hMτ h0 _ => thr_fin C4 hK hMτ oo4 hO (le_1 hR) h0 (fun _ => v4) (hN _ _ (by omega) (by omega))) (fun _ _ h9 => by exfalso; omega)
  · have hC1 := hC
    have hM1 := hM
    have oo : OUT σ := ⟨o1, o2⟩
    refine fun _ => ⟨okO23 oo, fun τ4 e4 _ => ?_⟩
    have hp4 := hp.put e4
    have C4 := hC1.put hK e4
    have M4 := hM1.put hK' e4
    obtain ⟨oo4, v4⟩ := oo.put e4
    refine ⟨oka hS hp4 (by decide), oka hS hp4 (by decide), okM172 M4, ?_⟩
    rw [arg ho hp4, arg ho hp4]
    refine M_ofOrder M4 hK' hRB (fun hk9 => by exfalso; omega) (fun _ _ h9 => by exfalso; omega) (fun _ _ _ r2 hr2 τ hMτ h0 _ => ?_)
    have er := hr9.un hr2
    subst er
    exact thr_fin C4 hK hMτ oo4 hO (le_1 hR) h0 (fun _ => v4) (hN _ _ (by omega) (by omega))

theorem law_element (hn : n ≤ 5000) (hS : SCR E x4) (hI : INV K K' σ n D told els past B F W R) (hK : KF K) (hK' : KFM K') (hr : 4 ≤ rc ∧ 26 ≤ rs) (hN : ∀ rc' rs', rc ≤ rc' + 4 → rs ≤ rs' + 26 → NXT E K K' x4 (n + 1) rc' rs' Q) : GG E mL_law 622 [some (vr 5), some (vr 16), some (vr 172), some (vr 2968), some (vi x4), none, none] [] σ rc rs Q := by
  obtain ⟨⟨c, t, hC⟩, ⟨c', t', hM⟩, hO, o1, o2, hR⟩ := hI
  have hRB := inR_1 hR hn
  have hCl := hO.clo
  refine GG.ev (fun ho => ?_)
  refine B_L_law_622 ⟨inx hS (by decide), oka hS ho (by decide), inx hS (by decide), oka hS ho (by decide), by omega, by omega, C_L_element (B_L_element_0 ⟨by decide, by decide, okC16 hC, CC.out (X_element hC hK hRB hCl.1 (fun hk τ1 hC1 hp => ?_) (fun h1 h2 hk τ1 hC1 hp => ?_) (fun k' w' e1 e2 hk' hw' hp => ?_))⟩)⟩
  · have hM1 := hM.by hK' hC1.1
    have oo := x2o hC1.1 ⟨o1, o2⟩
    refine ⟨fun _ _ => ⟨oka hS hp (by decide), oka hS hp (by decide), okM172 hM1, ?_⟩, fun h9 => absurd h9 (by decide), fun h9 => absurd h9 (by decide)⟩
    rw [arg ho hp, arg ho hp]
    exact M_element hM1 hK' hRB (fun _ τ hMτ h0 _ => thr_fin hC1.re hK hMτ oo hO (bmp_le hR 0) h0 (fun h9 => absurd h9 (by decide)) (hN _ _ (by omega) (by omega))) (fun h1 h2 => by exfalso; omega) (fun k' w' e1 e2 hk' => by exfalso; omega)
  · have hM1 := hM.by hK' hC1.1
    have oo := x2o hC1.1 ⟨o1, o2⟩
    refine ⟨fun h9 => absurd h9 (by decide), fun _ _ => ⟨oka hS hp (by decide), oka hS hp (by decide), okM172 hM1, ?_⟩, fun h9 => absurd h9 (by decide)⟩
    rw [arg ho hp, arg ho hp]
    exact M_element hM1 hK' hRB (fun h9 => by exfalso; omega) (fun _ _ _ τ hMτ h0 _ => thr_fin hC1.re hK hMτ oo hO (bmp_le hR 1) h0 (fun h9 => absurd h9 (by decide)) (hN _ _ (by omega) (by omega))) (fun k' w' e1 e2 hk' hw' => by exfalso; omega)
  · have hC1 := hC
    have hM1 := hM
    have oo : OUT σ := ⟨o1, o2⟩
    refine fun _ => ⟨okO23 oo, fun τ4 e4 _ => ?_⟩
    have hp4 := hp.put e4
    have C4 := hC1.put hK e4
    have M4 := hM1.put hK' e4
    obtain ⟨oo4, v4⟩ := oo.put e4
    refine ⟨oka hS hp4 (by decide), oka hS hp4 (by decide), okM172 M4, ?_⟩
    rw [arg ho hp4, arg ho hp4]
    refine M_element M4 hK' hRB (fun hk9 => by exfalso; omega) (fun _ _ h9 => by exfalso; omega) (fun k2 w2 e3 e4' hk2 hw2 τ hMτ h0 _ => ?_)
    have ek : k2 = k' := by omega
    have el : w2 = w' := by omega
    subst ek el
    exact thr_fin C4 hK hMτ oo4 hO (le_1 hR) h0 (fun _ => v4) (hN _ _ (by omega) (by omega))

theorem law_made (hn : n ≤ 5000) (hS : SCR E x4) (hI : INV K K' σ n D told els past B F W R) (hK : KF K) (hK' : KFM K') (hr : 4 ≤ rc ∧ 26 ≤ rs) (hN : ∀ rc' rs', rc ≤ rc' + 4 → rs ≤ rs' + 26 → NXT E K K' x4 (n + 1) rc' rs' Q) : GG E mL_law 1789 [some (vr 5), some (vr 16), some (vr 172), some (vr 2968), some (vi x4), none, none] [] σ rc rs Q := by
  obtain ⟨⟨c, t, hC⟩, ⟨c', t', hM⟩, hO, o1, o2, hR⟩ := hI
  have hRB := inR_1 hR hn
  have hCl := hO.clo
  refine GG.ev (fun ho => ?_)
  refine B_L_law_1789 ⟨inx hS (by decide), oka hS ho (by decide), inx hS (by decide), oka hS ho (by decide), inx hS (by decide), oka hS ho (by decide), by omega, by omega, C_L_made (B_L_made_0 ⟨by decide, by decide, okC16 hC, CC.out (X_made hC hK hRB hCl.isG (fun hk τ1 hC1 hp => ?_) (fun h1 h2 h3 h4 hk τ1 hC1 hp => ?_) (fun k' l' e1 e2 hk' hl' hw mem hm τ1 hC1 hp => ?_) (fun k' l' e1 e2 hk' hl' hw r hr9 τ1 hC1 hp => ?_))⟩)⟩
  · have hM1 := hM.by hK' hC1.1
    have oo := x2o hC1.1 ⟨o1, o2⟩
    refine ⟨fun _ _ => ⟨oka hS hp (by decide), oka hS hp (by decide), oka hS hp (by decide), okM172 hM1, ?_⟩, fun h9 => absurd h9 (by decide), fun h9 => absurd h9 (by decide)⟩
    rw [arg ho hp, arg ho hp, arg ho hp]
    exact M_made hM1 hK' hRB hCl.isG (fun _ τ hMτ h0 _ => thr_fin hC1.re hK hMτ oo hO (bmp_le hR 0) h0 (fun h9 => absurd h9 (by decide)) (hN _ _ (by omega) (by omega))) (fun h1 h2 h3 h4 => by exfalso; omega) (fun k' l' e1 e2 hk' hl' => by exfalso; omega) (fun k' l' e1 e2 hk' hl' => by exfalso; omega)
  · have hM1 := hM.by hK' hC1.1
    have oo := x2o hC1.1 ⟨o1, o2⟩
    refine ⟨fun h9 => absurd h9 (by decide), fun _ _ => ⟨oka hS hp (by decide), oka hS hp (by decide), oka hS hp (by decide), okM172 hM1, ?_⟩, fun h9 => absurd h9 (by decide)⟩
    rw [arg ho hp, arg ho hp, arg ho hp]
    exact M_made hM1 hK' hRB hCl.isG (fun h9 => by exfalso; omega) (fun _ _ _ _ _ τ hMτ h0 _ => thr_fin hC1.re hK hMτ oo hO (bmp_le hR 1) h0 (fun h9 => absurd h9 (by decide)) (hN _ _ (by omega) (by omega))) (fun k' l' e1 e2 hk' hl' hw => by exfalso; omega) (fun k' l' e1 e2 hk' hl' hw => by exfalso; omega)
  · have hM1 := hM.by hK' hC1.1
    have oo := x2o hC1.1 ⟨o1, o2⟩
    refine fun _ => ⟨okO23 oo, fun τ4 e4 _ => ?_⟩
    have hp4 := hp.put e4
    have C4 := hC1.put hK e4
    have M4 := hM1.put hK' e4
    obtain ⟨oo4, v4⟩ := oo.put e4
    refine ⟨oka hS hp4 (by decide), oka hS hp4 (by decide), oka hS hp4 (by decide), okM172 M4, ?_⟩
    rw [arg ho hp4, arg ho hp4, arg ho hp4]
    refine M_made M4 hK' hRB hCl.isG (fun hk9 => by exfalso; omega) (fun _ _ _ _ h9 => by exfalso; omega) (fun k2 l2 e3 e4' hk2 hl2 hw2 mem2 hm2 τ hMτ h0 _ => ?_) (fun k2 l2 e3 e4' hk2 hl2 hw2 => by exfalso; omega)
    have ek : k2 = k' := by omega
    have el : l2 = l' := by omega
    subst ek el
    rw [hm2.len hm]
    exact thr_fin C4 hK hMτ oo4 hO (le_1 hR) h0 (fun _ => v4) (hN _ _ (by omega) (by omega))
  · have hM1 := hM.by hK' hC1.1
    have oo := x2o hC1.1 ⟨o1, o2⟩
    refine fun _ => ⟨okO23 oo, fun τ4 e4 _ => ?_⟩
    have hp4 := hp.put e4
    have C4 := hC1.put hK e4
    have M4 := hM1.put hK' e4
    obtain ⟨oo4, v4⟩ := oo.put e4
    refine ⟨oka hS hp4 (by decide), oka hS hp4 (by decide), oka hS hp4 (by decide), okM172 M4, ?_⟩
    rw [arg ho hp4, arg ho hp4, arg ho hp4]
    refine M_made M4 hK' hRB hCl.isG (fun hk9 => by exfalso; omega) (fun _ _ _ _ h9 => by exfalso; omega) (fun k2 l2 e3 e4' hk2 hl2 hw2 => by exfalso; omega) (fun k2 l2 e3 e4' hk2 hl2 hw2 r2 hr2 τ hMτ h0 _ => ?_)
    have ek : k2 = k' := by omega
    have el : l2 = l' := by omega
    subst ek el
    have er := hr9.un hr2
    subst er
    exact thr_fin C4 hK hMτ oo4 hO (le_1 hR) h0 (fun _ => v4) (hN _ _ (by omega) (by omega))

theorem law_text (hn : n ≤ 5000) (hS : SCR E x4) (hI : INV K K' σ n D told els past B F W R) (hK : KF K) (hK' : KFM K') (hr : 4 ≤ rc ∧ 26 ≤ rs) (hN : ∀ rc' rs', rc ≤ rc' + 4 → rs ≤ rs' + 26 → NXT E K K' x4 (n + 1) rc' rs' Q) : GG E mL_law 257 [some (vr 5), some (vr 16), some (vr 172), some (vr 2968), some (vi x4), none, none] [] σ rc rs Q := by
  obtain ⟨⟨c, t, hC⟩, ⟨c', t', hM⟩, hO, o1, o2, hR⟩ := hI
  have hRB := inR_1 hR hn
  have hCl := hO.clo
  refine GG.ev (fun ho => ?_)
  refine B_L_law_257 ⟨inx hS (by decide), oka hS ho (by decide), by omega, by omega, C_L_text (B_L_text_0 ⟨by decide, by decide, okC16 hC, CC.out (X_text hC hK hRB (fun hk τ1 hC1 hp => ?_) (fun m e hm k s w hpt τ1 hC1 hp => ?_) (fun m e hm D' told' els' hpt hO' τ1 hC1 hp => ?_))⟩)⟩
  · have hM1 := hM.by hK' hC1.1
    have oo := x2o hC1.1 ⟨o1, o2⟩
    refine ⟨fun h9 => absurd h9 (by decide), fun _ _ => ⟨oka hS hp (by decide), okM172 hM1, ?_⟩, fun h9 => absurd h9 (by decide)⟩
    rw [arg ho hp]
    exact M_text hM1 hK' hRB hC.byt (fun _ τ hMτ h0 _ => thr_fin hC1.re hK hMτ oo hO (bmp_le hR 1) h0 (fun h9 => absurd h9 (by decide)) (hN _ _ (by omega) (by omega))) (fun m e hm => by exfalso; omega) (fun m e hm => by exfalso; omega)
  · have hM1 := hM.by hK' hC1.1
    have oo := x2o hC1.1 ⟨o1, o2⟩
    refine fun _ => ⟨okO23 oo, fun τ4 e4 _ => ?_⟩
    have hp4 := hp.put e4
    have C4 := hC1.put hK e4
    have M4 := hM1.put hK' e4
    obtain ⟨oo4, v4⟩ := oo.put e4
    refine ⟨oka hS hp4 (by decide), okM172 M4, ?_⟩
    rw [arg ho hp4]
    refine M_text M4 hK' hRB hC.byt (fun hk9 => by exfalso; omega) (fun m2 e2 hm2 k2 s2 w2 hpt2 τ hMτ h0 _ => ?_) (fun m2 e2 hm2 D2 told2 els2 hpt2 => ?_)
    · have em : m2 = m := by omega
      subst em
      rw [hpt] at hpt2
      injection hpt2 with hpt2
      injection hpt2 with a1 a2
      injection a2 with a2 a3
      subst a1 a2 a3
      exact thr_fin C4 hK hMτ oo4 hO (le_1 hR) h0 (fun _ => v4) (hN _ _ (by omega) (by omega))
    · exfalso
      have em : m2 = m := by omega
      subst em
      rw [hpt] at hpt2
      cases hpt2
  · have hM1 := hM.by hK' hC1.1
    have oo := x2o hC1.1 ⟨o1, o2⟩
    refine fun _ => ⟨okO23 oo, fun τ4 e4 _ => ?_⟩
    have hp4 := hp.put e4
    have C4 := hC1.put hK e4
    have M4 := hM1.put hK' e4
    obtain ⟨oo4, v4⟩ := oo.put e4
    refine ⟨oka hS hp4 (by decide), okM172 M4, ?_⟩
    rw [arg ho hp4]
    refine M_text M4 hK' hRB hC.byt (fun hk9 => by exfalso; omega) (fun m2 e2 hm2 k2 s2 w2 hpt2 => ?_) (fun m2 e2 hm2 D2 told2 els2 hpt2 hO2 τ hMτ h0 _ => ?_)
    · exfalso
      have em : m2 = m := by omega
      subst em
      rw [hpt] at hpt2
      cases hpt2
    · have em : m2 = m := by omega
      subst em
      rw [hpt] at hpt2
      injection hpt2 with hpt2
      injection hpt2 with a1 a2
      subst a1 a2
      have a3 := hO'.2.2.1
      rw [hO2.2.2.1] at a3
      injection a3 with a3
      injection a3 with a3
      subst a3
      exact thr_fin C4 hK hMτ oo4 hO2 (le_1 hR) h0 (fun _ => v4) (hN _ _ (by omega) (by omega))

end S9h
