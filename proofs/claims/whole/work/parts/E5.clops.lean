/-! ===== the law: what is asked of characters ===== -/
theorem FX.of {D : Int} {told els : List (List Int)} (hC : Clo D told els) (hD : D = 2 ∨ D = 3 ∨ D = 5) (hG : GD D els) : FX D told els := by
  obtain ⟨d, hDd, hd3⟩ : ∃ d : Nat, D = d ∧ (d = 2 ∨ d = 3 ∨ d = 5) := ⟨D.toNat, by omega, by omega⟩
  have oB := hC.odB hD
  obtain ⟨p, s, hPR, h241⟩ := PR_ex hC.1 (expo_dvd oB _ (Nat.le_refl _)) hd3
  obtain ⟨ep, es⟩ := pN_of hDd hPR
  refine ⟨hC, hG, ?_⟩
  rw [ep, es]
  exact ⟨hPR.1.2.2.1, by omega, hPR.1.1, hPR.2.2.1.2.1, hD⟩
/-- what types must show -/
def TYPES : Prop := ∀ (D : Int) (told els : List (List Int)), tolds D told → clos D told = some (.inr els) → (D = 2 ∨ D = 3 ∨ D = 5) → GD D els ∧ CONN D els
section SE5
variable {E : Ev} {σ τ : Sg} {Q : NO → Sg → Prop} {g : Sg} {c t c' t' : Nat}
variable {D : Int} {told els : List (List Int)} {past : List (List (List Int))} {B : List Int} {F : Int} {W R : Nat → Int}
variable {x4 : Int} {n rc rs : Nat}
theorem X_couples2 {x1 x2 x3 : Int} (h : CI KCd g c t σ D told els past B F W R) (hX : FX D told els) (hRB : ∀ i, i < 3 → inR (R i + 1))
    (h0 : (bd1 D els x1 ∨ bd1 D els x2 ∨ bd1 D els x3) → ∀ τ, CI KCd g c t τ D told els past B F W (bmp R 0) → Q (.inr 0) τ)
    (h2 : ∀ a b i : Nat, x1 = a → x2 = b → x3 = i → a < rG D els → b < rG D els → i < rG D els → ∀ τ, CI KCd g c t τ D told els past B F W R → Q (.inl (some (vi (cplN els.length (gmt D els) a b i)))) τ) : CC E mX11_couples [vr 16, vi x1, vi x2, vi x3] σ Q :=
  X_couples h KCd_kf hRB hX.1 (fun hk τ hC => h0 (by
    rcases hk with h | h | h | h | h | h
    · exact .inl (.inl h)
    · exact .inl (.inr h)
    · exact .inr (.inl (.inl h))
    · exact .inr (.inl (.inr h))
    · exact .inr (.inr (.inl h))
    · exact .inr (.inr (.inr h))) τ hC) (fun i j l e1 e2 e3 h1 h3 h4 => h2 i j l e1 e2 e3 h1 h3 h4 σ h)
theorem lawc_told (hn : n ≤ 5000) (hS : SCR E x4) (hI : INV KCd KMd σ n D told els past B F W R) (hg : TYPES) (hr : 4 ≤ rc ∧ 26 ≤ rs) (hN : ∀ rc' rs', rc ≤ rc' + 4 → rs ≤ rs' + 26 → NXT E KCd KMd x4 (n + 1) rc' rs' Q) : GG E mL_law 566 [some (vr 5), some (vr 16), some (vr 172), some (vr 2968), some (vi x4), none, none] [] σ rc rs Q := by
  obtain ⟨⟨c, t, hC⟩, ⟨c', t', hM⟩, hO, o1, o2, hR⟩ := hI
  have hRB := inR_1 hR hn
  have hCl := hO.clo
  obtain ⟨hGD, hCN⟩ := hg D told els hO.2.1 hO.2.2.1 hO.1
  have hX := FX.of hCl hO.1 hGD
  have hK := KCd_kf
  have hK' := KMd_fm
  refine GG.ev (fun ho => ?_)
  refine B_L_law_566 ⟨inx hS (by decide), oka hS ho (by decide), by omega, by omega, C_L_told (B_L_told_0 ⟨by decide, by decide, okC16 hC, CC.out (X_told hC hX hRB (fun hk τ1 hC1 hp => ?_) (fun k e0_ p0_ τ1 hC1 hp => ?_))⟩)⟩
  · have hM1 := hM.by hK' hC1.1
    have oo := x2o hC1.1 ⟨o1, o2⟩
    refine ⟨fun h9 => absurd h9 (by decide), fun _ _ => ⟨oka hS hp (by decide), okM172 hM1, ?_⟩, fun h9 => absurd h9 (by decide)⟩
    rw [arg ho hp]
    exact M_toldQ hM1 hX hRB (fun _ τ hMτ h0 _ => thr_fin hC1.re hK hMτ oo hO (bmp_le hR 1) h0 (fun h9 => absurd h9 (by decide)) (hN _ _ (by omega) (by omega))) (fun k e0_ p0_ => by exfalso; omega)
  · have hM1 := hM.by hK' hC1.1
    have oo := x2o hC1.1 ⟨o1, o2⟩
    refine fun _ => ⟨okO23 oo, fun τ4 e4 _ => ?_⟩
    have hp4 := hp.put e4
    have C4 := hC1.put hK e4
    have M4 := hM1.put hK' e4
    obtain ⟨oo4, v4⟩ := oo.put e4
    refine ⟨oka hS hp4 (by decide), okM172 M4, ?_⟩
    rw [arg ho hp4]
    refine M_toldQ M4 hX hRB (fun hk9 => by exfalso; omega) (fun k2 f0_ q0_ τ hMτ h0 _ => ?_)
    have ek : k2 = k := by omega
    subst ek
    exact thr_fin C4 hK hMτ oo4 hO (le_1 hR) h0 (fun _ => v4) (hN _ _ (by omega) (by omega))

theorem lawc_of (hn : n ≤ 5000) (hS : SCR E x4) (hI : INV KCd KMd σ n D told els past B F W R) (hg : TYPES) (hr : 4 ≤ rc ∧ 26 ≤ rs) (hN : ∀ rc' rs', rc ≤ rc' + 4 → rs ≤ rs' + 26 → NXT E KCd KMd x4 (n + 1) rc' rs' Q) : GG E mL_law 941 [some (vr 5), some (vr 16), some (vr 172), some (vr 2968), some (vi x4), none, none] [] σ rc rs Q := by
  obtain ⟨⟨c, t, hC⟩, ⟨c', t', hM⟩, hO, o1, o2, hR⟩ := hI
  have hRB := inR_1 hR hn
  have hCl := hO.clo
  obtain ⟨hGD, hCN⟩ := hg D told els hO.2.1 hO.2.2.1 hO.1
  have hX := FX.of hCl hO.1 hGD
  have hK := KCd_kf
  have hK' := KMd_fm
  refine GG.ev (fun ho => ?_)
  refine B_L_law_941 ⟨inx hS (by decide), oka hS ho (by decide), inx hS (by decide), oka hS ho (by decide), by omega, by omega, C_L_of (B_L_of_0 ⟨by decide, by decide, okC16 hC, CC.out (X_of hC hX hRB (fun hk τ1 hC1 hp => ?_) (fun h1 hk τ1 hC1 hp => ?_) (fun a b e0_ e1_ p0_ p1_ τ1 hC1 hp => ?_))⟩)⟩
  · have hM1 := hM.by hK' hC1.1
    have oo := x2o hC1.1 ⟨o1, o2⟩
    refine ⟨fun _ _ => ⟨oka hS hp (by decide), oka hS hp (by decide), okM172 hM1, ?_⟩, fun h9 => absurd h9 (by decide), fun h9 => absurd h9 (by decide)⟩
    rw [arg ho hp, arg ho hp]
    exact M_of hM1 hX hRB (fun _ τ hMτ h0 _ => thr_fin hC1.re hK hMτ oo hO (bmp_le hR 0) h0 (fun h9 => absurd h9 (by decide)) (hN _ _ (by omega) (by omega))) (fun h1 h9 => by exfalso; omega) (fun a b e0_ e1_ p0_ p1_ => by exfalso; omega)
  · have hM1 := hM.by hK' hC1.1
    have oo := x2o hC1.1 ⟨o1, o2⟩
    refine ⟨fun h9 => absurd h9 (by decide), fun _ _ => ⟨oka hS hp (by decide), oka hS hp (by decide), okM172 hM1, ?_⟩, fun h9 => absurd h9 (by decide)⟩
    rw [arg ho hp, arg ho hp]
    exact M_of hM1 hX hRB (fun h9 => by exfalso; omega) (fun _ _ τ hMτ h0 _ => thr_fin hC1.re hK hMτ oo hO (bmp_le hR 1) h0 (fun h9 => absurd h9 (by decide)) (hN _ _ (by omega) (by omega))) (fun a b e0_ e1_ p0_ p1_ => by exfalso; omega)
  · have hM1 := hM.by hK' hC1.1
    have oo := x2o hC1.1 ⟨o1, o2⟩
    refine fun _ => ⟨okO23 oo, fun τ4 e4 _ => ?_⟩
    have hp4 := hp.put e4
    have C4 := hC1.put hK e4
    have M4 := hM1.put hK' e4
    obtain ⟨oo4, v4⟩ := oo.put e4
    refine ⟨oka hS hp4 (by decide), oka hS hp4 (by decide), okM172 M4, ?_⟩
    rw [arg ho hp4, arg ho hp4]
    refine M_of M4 hX hRB (fun hk9 => by exfalso; omega) (fun h1 hk9 => by exfalso; omega) (fun a2 b2 f0_ f1_ q0_ q1_ τ hMτ h0 _ => ?_)
    have ea : a2 = a := by omega
    have eb : b2 = b := by omega
    subst ea eb
    exact thr_fin C4 hK hMτ oo4 hO (le_1 hR) h0 (fun _ => v4) (hN _ _ (by omega) (by omega))

theorem lawc_couples (hn : n ≤ 5000) (hS : SCR E x4) (hI : INV KCd KMd σ n D told els past B F W R) (hg : TYPES) (hr : 4 ≤ rc ∧ 26 ≤ rs) (hN : ∀ rc' rs', rc ≤ rc' + 4 → rs ≤ rs' + 26 → NXT E KCd KMd x4 (n + 1) rc' rs' Q) : GG E mL_law 1009 [some (vr 5), some (vr 16), some (vr 172), some (vr 2968), some (vi x4), none, none] [] σ rc rs Q := by
  obtain ⟨⟨c, t, hC⟩, ⟨c', t', hM⟩, hO, o1, o2, hR⟩ := hI
  have hRB := inR_1 hR hn
  have hCl := hO.clo
  obtain ⟨hGD, hCN⟩ := hg D told els hO.2.1 hO.2.2.1 hO.1
  have hX := FX.of hCl hO.1 hGD
  have hK := KCd_kf
  have hK' := KMd_fm
  refine GG.ev (fun ho => ?_)
  refine B_L_law_1009 ⟨inx hS (by decide), oka hS ho (by decide), inx hS (by decide), oka hS ho (by decide), inx hS (by decide), oka hS ho (by decide), by omega, by omega, C_L_couples (B_L_couples_0 ⟨by decide, by decide, okC16 hC, CC.out (X_couples2 hC hX hRB (fun hk τ1 hC1 hp => ?_) (fun a b i e0_ e1_ e2_ p0_ p1_ p2_ τ1 hC1 hp => ?_))⟩)⟩
  · have hM1 := hM.by hK' hC1.1
    have oo := x2o hC1.1 ⟨o1, o2⟩
    refine ⟨fun _ _ => ⟨oka hS hp (by decide), oka hS hp (by decide), oka hS hp (by decide), okM172 hM1, ?_⟩, fun h9 => absurd h9 (by decide), fun h9 => absurd h9 (by decide)⟩
    rw [arg ho hp, arg ho hp, arg ho hp]
    exact M_couples hM1 hX hRB (fun _ τ hMτ h0 _ => thr_fin hC1.re hK hMτ oo hO (bmp_le hR 0) h0 (fun h9 => absurd h9 (by decide)) (hN _ _ (by omega) (by omega))) (fun a b i e0_ e1_ e2_ p0_ p1_ p2_ => by exfalso; omega)
  · have hM1 := hM.by hK' hC1.1
    have oo := x2o hC1.1 ⟨o1, o2⟩
    refine fun _ => ⟨okO23 oo, fun τ4 e4 _ => ?_⟩
    have hp4 := hp.put e4
    have C4 := hC1.put hK e4
    have M4 := hM1.put hK' e4
    obtain ⟨oo4, v4⟩ := oo.put e4
    refine ⟨oka hS hp4 (by decide), oka hS hp4 (by decide), oka hS hp4 (by decide), okM172 M4, ?_⟩
    rw [arg ho hp4, arg ho hp4, arg ho hp4]
    refine M_couples M4 hX hRB (fun hk9 => by exfalso; omega) (fun a2 b2 i2 f0_ f1_ f2_ q0_ q1_ q2_ τ hMτ h0 _ => ?_)
    have ea : a2 = a := by omega
    have eb : b2 = b := by omega
    have ei : i2 = i := by omega
    subst ea eb ei
    exact thr_fin C4 hK hMτ oo4 hO (le_1 hR) h0 (fun _ => v4) (hN _ _ (by omega) (by omega))

theorem lawc_degree (hn : n ≤ 5000) (hS : SCR E x4) (hI : INV KCd KMd σ n D told els past B F W R) (hg : TYPES) (hr : 4 ≤ rc ∧ 26 ≤ rs) (hN : ∀ rc' rs', rc ≤ rc' + 4 → rs ≤ rs' + 26 → NXT E KCd KMd x4 (n + 1) rc' rs' Q) : GG E mL_law 1145 [some (vr 5), some (vr 16), some (vr 172), some (vr 2968), some (vi x4), none, none] [] σ rc rs Q := by
  obtain ⟨⟨c, t, hC⟩, ⟨c', t', hM⟩, hO, o1, o2, hR⟩ := hI
  have hRB := inR_1 hR hn
  have hCl := hO.clo
  obtain ⟨hGD, hCN⟩ := hg D told els hO.2.1 hO.2.2.1 hO.1
  have hX := FX.of hCl hO.1 hGD
  have hK := KCd_kf
  have hK' := KMd_fm
  refine GG.ev (fun ho => ?_)
  refine B_L_law_1145 ⟨inx hS (by decide), oka hS ho (by decide), by omega, by omega, C_L_degree (B_L_degree_0 ⟨by decide, by decide, okC16 hC, CC.out (X_degree hC hX hRB (fun hk τ1 hC1 hp => ?_) (fun i e0_ p0_ τ1 hC1 hp => ?_))⟩)⟩
  · have hM1 := hM.by hK' hC1.1
    have oo := x2o hC1.1 ⟨o1, o2⟩
    refine ⟨fun _ _ => ⟨oka hS hp (by decide), okM172 hM1, ?_⟩, fun h9 => absurd h9 (by decide), fun h9 => absurd h9 (by decide)⟩
    rw [arg ho hp]
    exact M_degree hM1 hX hRB (fun _ τ hMτ h0 _ => thr_fin hC1.re hK hMτ oo hO (bmp_le hR 0) h0 (fun h9 => absurd h9 (by decide)) (hN _ _ (by omega) (by omega))) (fun i e0_ p0_ => by exfalso; omega)
  · have hM1 := hM.by hK' hC1.1
    have oo := x2o hC1.1 ⟨o1, o2⟩
    refine fun _ => ⟨okO23 oo, fun τ4 e4 _ => ?_⟩
    have hp4 := hp.put e4
    have C4 := hC1.put hK e4
    have M4 := hM1.put hK' e4
    obtain ⟨oo4, v4⟩ := oo.put e4
    refine ⟨oka hS hp4 (by decide), okM172 M4, ?_⟩
    rw [arg ho hp4]
    refine M_degree M4 hX hRB (fun hk9 => by exfalso; omega) (fun i2 f0_ q0_ τ hMτ h0 _ => ?_)
    have ei : i2 = i := by omega
    subst ei
    exact thr_fin C4 hK hMτ oo4 hO (le_1 hR) h0 (fun _ => v4) (hN _ _ (by omega) (by omega))

theorem lawc_value (hn : n ≤ 5000) (hS : SCR E x4) (hI : INV KCd KMd σ n D told els past B F W R) (hg : TYPES) (hr : 4 ≤ rc ∧ 26 ≤ rs) (hN : ∀ rc' rs', rc ≤ rc' + 4 → rs ≤ rs' + 26 → NXT E KCd KMd x4 (n + 1) rc' rs' Q) : GG E mL_law 1201 [some (vr 5), some (vr 16), some (vr 172), some (vr 2968), some (vi x4), none, none] [] σ rc rs Q := by
  obtain ⟨⟨c, t, hC⟩, ⟨c', t', hM⟩, hO, o1, o2, hR⟩ := hI
  have hRB := inR_1 hR hn
  have hCl := hO.clo
  obtain ⟨hGD, hCN⟩ := hg D told els hO.2.1 hO.2.2.1 hO.1
  have hX := FX.of hCl hO.1 hGD
  have hK := KCd_kf
  have hK' := KMd_fm
  refine GG.ev (fun ho => ?_)
  refine B_L_law_1201 ⟨inx hS (by decide), oka hS ho (by decide), inx hS (by decide), oka hS ho (by decide), by omega, by omega, C_L_value (B_L_value_0 ⟨by decide, by decide, okC16 hC, CC.out (X_value hC hX hRB (fun hk τ1 hC1 hp => ?_) (fun i a e0_ e1_ p0_ p1_ τ1 hC1 hp => ?_))⟩)⟩
  · have hM1 := hM.by hK' hC1.1
    have oo := x2o hC1.1 ⟨o1, o2⟩
    refine ⟨fun _ _ => ⟨oka hS hp (by decide), oka hS hp (by decide), okM172 hM1, ?_⟩, fun h9 => absurd h9 (by decide), fun h9 => absurd h9 (by decide)⟩
    rw [arg ho hp, arg ho hp]
    exact M_value hM1 hX hRB (fun _ τ hMτ h0 _ => thr_fin hC1.re hK hMτ oo hO (bmp_le hR 0) h0 (fun h9 => absurd h9 (by decide)) (hN _ _ (by omega) (by omega))) (fun i a e0_ e1_ p0_ p1_ => by exfalso; omega)
  · have hM1 := hM.by hK' hC1.1
    have oo := x2o hC1.1 ⟨o1, o2⟩
    refine fun _ => ⟨okO23 oo, fun τ4 e4 _ => ?_⟩
    have hp4 := hp.put e4
    have C4 := hC1.put hK e4
    have M4 := hM1.put hK' e4
    obtain ⟨oo4, v4⟩ := oo.put e4
    refine ⟨oka hS hp4 (by decide), oka hS hp4 (by decide), okM172 M4, ?_⟩
    rw [arg ho hp4, arg ho hp4]
    refine M_value M4 hX hRB (fun hk9 => by exfalso; omega) (fun i2 a2 f0_ f1_ q0_ q1_ τ hMτ h0 _ => ?_)
    have ei : i2 = i := by omega
    have ea : a2 = a := by omega
    subst ei ea
    exact thr_fin C4 hK hMτ oo4 hO (le_1 hR) h0 (fun _ => v4) (hN _ _ (by omega) (by omega))

theorem lawc_often (hn : n ≤ 5000) (hS : SCR E x4) (hI : INV KCd KMd σ n D told els past B F W R) (hg : TYPES) (hr : 4 ≤ rc ∧ 26 ≤ rs) (hN : ∀ rc' rs', rc ≤ rc' + 4 → rs ≤ rs' + 26 → NXT E KCd KMd x4 (n + 1) rc' rs' Q) : GG E mL_law 1269 [some (vr 5), some (vr 16), some (vr 172), some (vr 2968), some (vi x4), none, none] [] σ rc rs Q := by
  obtain ⟨⟨c, t, hC⟩, ⟨c', t', hM⟩, hO, o1, o2, hR⟩ := hI
  have hRB := inR_1 hR hn
  have hCl := hO.clo
  obtain ⟨hGD, hCN⟩ := hg D told els hO.2.1 hO.2.2.1 hO.1
  have hX := FX.of hCl hO.1 hGD
  have hK := KCd_kf
  have hK' := KMd_fm
  refine GG.ev (fun ho => ?_)
  refine B_L_law_1269 ⟨inx hS (by decide), oka hS ho (by decide), inx hS (by decide), oka hS ho (by decide), inx hS (by decide), oka hS ho (by decide), by omega, by omega, C_L_often (B_L_often_0 ⟨by decide, by decide, okC16 hC, CC.out (X_often hC hX hRB (fun hk τ1 hC1 hp => ?_) (fun a b i e0_ e1_ e2_ p0_ p1_ p2_ τ1 hC1 hp => ?_))⟩)⟩
  · have hM1 := hM.by hK' hC1.1
    have oo := x2o hC1.1 ⟨o1, o2⟩
    refine ⟨fun _ _ => ⟨oka hS hp (by decide), oka hS hp (by decide), oka hS hp (by decide), okM172 hM1, ?_⟩, fun h9 => absurd h9 (by decide), fun h9 => absurd h9 (by decide)⟩
    rw [arg ho hp, arg ho hp, arg ho hp]
    exact M_often hM1 hX hRB (fun _ τ hMτ h0 _ => thr_fin hC1.re hK hMτ oo hO (bmp_le hR 0) h0 (fun h9 => absurd h9 (by decide)) (hN _ _ (by omega) (by omega))) (fun a b i e0_ e1_ e2_ p0_ p1_ p2_ => by exfalso; omega)
  · have hM1 := hM.by hK' hC1.1
    have oo := x2o hC1.1 ⟨o1, o2⟩
    refine fun _ => ⟨okO23 oo, fun τ4 e4 _ => ?_⟩
    have hp4 := hp.put e4
    have C4 := hC1.put hK e4
    have M4 := hM1.put hK' e4
    obtain ⟨oo4, v4⟩ := oo.put e4
    refine ⟨oka hS hp4 (by decide), oka hS hp4 (by decide), oka hS hp4 (by decide), okM172 M4, ?_⟩
    rw [arg ho hp4, arg ho hp4, arg ho hp4]
    refine M_often M4 hX hRB (fun hk9 => by exfalso; omega) (fun a2 b2 i2 f0_ f1_ f2_ q0_ q1_ q2_ τ hMτ h0 _ => ?_)
    have ea : a2 = a := by omega
    have eb : b2 = b := by omega
    have ei : i2 = i := by omega
    subst ea eb ei
    exact thr_fin C4 hK hMτ oo4 hO (le_1 hR) h0 (fun _ => v4) (hN _ _ (by omega) (by omega))

theorem lawc_opposite (hn : n ≤ 5000) (hS : SCR E x4) (hI : INV KCd KMd σ n D told els past B F W R) (hg : TYPES) (hr : 4 ≤ rc ∧ 26 ≤ rs) (hN : ∀ rc' rs', rc ≤ rc' + 4 → rs ≤ rs' + 26 → NXT E KCd KMd x4 (n + 1) rc' rs' Q) : GG E mL_law 1349 [some (vr 5), some (vr 16), some (vr 172), some (vr 2968), some (vi x4), none, none] [] σ rc rs Q := by
  obtain ⟨⟨c, t, hC⟩, ⟨c', t', hM⟩, hO, o1, o2, hR⟩ := hI
  have hRB := inR_1 hR hn
  have hCl := hO.clo
  obtain ⟨hGD, hCN⟩ := hg D told els hO.2.1 hO.2.2.1 hO.1
  have hX := FX.of hCl hO.1 hGD
  have hK := KCd_kf
  have hK' := KMd_fm
  refine GG.ev (fun ho => ?_)
  refine B_L_law_1349 ⟨inx hS (by decide), oka hS ho (by decide), by omega, by omega, C_L_opposite (B_L_opposite_0 ⟨by decide, by decide, okC16 hC, CC.out (X_opposite hC hX hRB (fun hk τ1 hC1 hp => ?_) (fun i e0_ p0_ y hy τ1 hC1 hp => ?_))⟩)⟩
  · have hM1 := hM.by hK' hC1.1
    have oo := x2o hC1.1 ⟨o1, o2⟩
    refine ⟨fun _ _ => ⟨oka hS hp (by decide), okM172 hM1, ?_⟩, fun h9 => absurd h9 (by decide), fun h9 => absurd h9 (by decide)⟩
    rw [arg ho hp]
    exact M_opposite hM1 hX hRB (fun _ τ hMτ h0 _ => thr_fin hC1.re hK hMτ oo hO (bmp_le hR 0) h0 (fun h9 => absurd h9 (by decide)) (hN _ _ (by omega) (by omega))) (fun i e0_ p0_ => by exfalso; omega)
  · have hM1 := hM.by hK' hC1.1
    have oo := x2o hC1.1 ⟨o1, o2⟩
    refine fun _ => ⟨okO23 oo, fun τ4 e4 _ => ?_⟩
    have hp4 := hp.put e4
    have C4 := hC1.put hK e4
    have M4 := hM1.put hK' e4
    obtain ⟨oo4, v4⟩ := oo.put e4
    refine ⟨oka hS hp4 (by decide), okM172 M4, ?_⟩
    rw [arg ho hp4]
    refine M_opposite M4 hX hRB (fun hk9 => by exfalso; omega) (fun i2 f0_ q0_ y2 hy2 τ hMτ h0 _ => ?_)
    have ei : i2 = i := by omega
    subst ei
    have ey := hy.un hy2
    subst ey
    exact thr_fin C4 hK hMτ oo4 hO (le_1 hR) h0 (fun _ => v4) (hN _ _ (by omega) (by omega))

theorem lawc_ways (hn : n ≤ 5000) (hS : SCR E x4) (hI : INV KCd KMd σ n D told els past B F W R) (hg : TYPES) (hr : 4 ≤ rc ∧ 26 ≤ rs) (hN : ∀ rc' rs', rc ≤ rc' + 4 → rs ≤ rs' + 26 → NXT E KCd KMd x4 (n + 1) rc' rs' Q) : GG E mL_law 1405 [some (vr 5), some (vr 16), some (vr 172), some (vr 2968), some (vi x4), none, none] [] σ rc rs Q := by
  obtain ⟨⟨c, t, hC⟩, ⟨c', t', hM⟩, hO, o1, o2, hR⟩ := hI
  have hRB := inR_1 hR hn
  have hCl := hO.clo
  obtain ⟨hGD, hCN⟩ := hg D told els hO.2.1 hO.2.2.1 hO.1
  have hX := FX.of hCl hO.1 hGD
  have hK := KCd_kf
  have hK' := KMd_fm
  refine GG.ev (fun ho => ?_)
  refine B_L_law_1405 ⟨inx hS (by decide), oka hS ho (by decide), inx hS (by decide), oka hS ho (by decide), by omega, by omega, C_L_ways (B_L_ways_0 ⟨by decide, by decide, okC16 hC, CC.out (X_ways hC hX hRB (fun hk τ1 hC1 hp => ?_) (fun i a e0_ e1_ p0_ p1_ τ1 hC1 hp => ?_))⟩)⟩
  · have hM1 := hM.by hK' hC1.1
    have oo := x2o hC1.1 ⟨o1, o2⟩
    refine ⟨fun _ _ => ⟨oka hS hp (by decide), oka hS hp (by decide), okM172 hM1, ?_⟩, fun h9 => absurd h9 (by decide), fun h9 => absurd h9 (by decide)⟩
    rw [arg ho hp, arg ho hp]
    exact M_ways hM1 hX hRB (fun _ τ hMτ h0 _ => thr_fin hC1.re hK hMτ oo hO (bmp_le hR 0) h0 (fun h9 => absurd h9 (by decide)) (hN _ _ (by omega) (by omega))) (fun i a e0_ e1_ p0_ p1_ => by exfalso; omega)
  · have hM1 := hM.by hK' hC1.1
    have oo := x2o hC1.1 ⟨o1, o2⟩
    refine fun _ => ⟨okO23 oo, fun τ4 e4 _ => ?_⟩
    have hp4 := hp.put e4
    have C4 := hC1.put hK e4
    have M4 := hM1.put hK' e4
    obtain ⟨oo4, v4⟩ := oo.put e4
    refine ⟨oka hS hp4 (by decide), oka hS hp4 (by decide), okM172 M4, ?_⟩
    rw [arg ho hp4, arg ho hp4]
    refine M_ways M4 hX hRB (fun hk9 => by exfalso; omega) (fun i2 a2 f0_ f1_ q0_ q1_ τ hMτ h0 _ => ?_)
    have ei : i2 = i := by omega
    have ea : a2 = a := by omega
    subst ei ea
    exact thr_fin C4 hK hMτ oo4 hO (le_1 hR) h0 (fun _ => v4) (hN _ _ (by omega) (by omega))

theorem lawc_far (hn : n ≤ 5000) (hS : SCR E x4) (hI : INV KCd KMd σ n D told els past B F W R) (hg : TYPES) (hr : 4 ≤ rc ∧ 26 ≤ rs) (hN : ∀ rc' rs', rc ≤ rc' + 4 → rs ≤ rs' + 26 → NXT E KCd KMd x4 (n + 1) rc' rs' Q) : GG E mL_law 1473 [some (vr 5), some (vr 16), some (vr 172), some (vr 2968), some (vi x4), none, none] [] σ rc rs Q := by
  obtain ⟨⟨c, t, hC⟩, ⟨c', t', hM⟩, hO, o1, o2, hR⟩ := hI
  have hRB := inR_1 hR hn
  have hCl := hO.clo
  obtain ⟨hGD, hCN⟩ := hg D told els hO.2.1 hO.2.2.1 hO.1
  have hX := FX.of hCl hO.1 hGD
  have hK := KCd_kf
  have hK' := KMd_fm
  refine GG.ev (fun ho => ?_)
  refine B_L_law_1473 ⟨inx hS (by decide), oka hS ho (by decide), inx hS (by decide), oka hS ho (by decide), by omega, by omega, C_L_far (B_L_far_0 ⟨by decide, by decide, okC16 hC, CC.out (X_far hC hX hRB (fun hk τ1 hC1 hp => ?_) (fun i a e0_ e1_ p0_ p1_ τ1 hC1 hp => ?_))⟩)⟩
  · have hM1 := hM.by hK' hC1.1
    have oo := x2o hC1.1 ⟨o1, o2⟩
    refine ⟨fun _ _ => ⟨oka hS hp (by decide), oka hS hp (by decide), okM172 hM1, ?_⟩, fun h9 => absurd h9 (by decide), fun h9 => absurd h9 (by decide)⟩
    rw [arg ho hp, arg ho hp]
    exact M_far hM1 hX hCN hRB (fun _ τ hMτ h0 _ => thr_fin hC1.re hK hMτ oo hO (bmp_le hR 0) h0 (fun h9 => absurd h9 (by decide)) (hN _ _ (by omega) (by omega))) (fun i a n2 e0_ e1_ p0_ p1_ => by exfalso; omega)
  · have hM1 := hM.by hK' hC1.1
    have oo := x2o hC1.1 ⟨o1, o2⟩
    refine fun _ => ⟨okO23 oo, fun τ4 e4 _ => ?_⟩
    have hp4 := hp.put e4
    have C4 := hC1.put hK e4
    have M4 := hM1.put hK' e4
    obtain ⟨oo4, v4⟩ := oo.put e4
    refine ⟨oka hS hp4 (by decide), oka hS hp4 (by decide), okM172 M4, ?_⟩
    rw [arg ho hp4, arg ho hp4]
    refine M_far M4 hX hCN hRB (fun hk9 => by exfalso; omega) (fun i2 a2 n2 f0_ f1_ q0_ q1_ hl τ hMτ h0 _ => ?_)
    have ei : i2 = i := by omega
    have ea : a2 = a := by omega
    subst ei ea
    exact thr_fin C4 hK hMτ oo4 hO (le_1 hR) h0 (fun _ => v4.trans (fw_lch p0_ p1_ hl)) (hN _ _ (by omega) (by omega))

theorem lawc_withWays (hn : n ≤ 5000) (hS : SCR E x4) (hI : INV KCd KMd σ n D told els past B F W R) (hg : TYPES) (hr : 4 ≤ rc ∧ 26 ≤ rs) (hN : ∀ rc' rs', rc ≤ rc' + 4 → rs ≤ rs' + 26 → NXT E KCd KMd x4 (n + 1) rc' rs' Q) : GG E mL_law 1541 [some (vr 5), some (vr 16), some (vr 172), some (vr 2968), some (vi x4), none, none] [] σ rc rs Q := by
  obtain ⟨⟨c, t, hC⟩, ⟨c', t', hM⟩, hO, o1, o2, hR⟩ := hI
  have hRB := inR_1 hR hn
  have hCl := hO.clo
  obtain ⟨hGD, hCN⟩ := hg D told els hO.2.1 hO.2.2.1 hO.1
  have hX := FX.of hCl hO.1 hGD
  have hK := KCd_kf
  have hK' := KMd_fm
  refine GG.ev (fun ho => ?_)
  refine B_L_law_1541 ⟨inx hS (by decide), oka hS ho (by decide), by omega, by omega, C_L_withWays (B_L_withWays_0 ⟨by decide, by decide, okC16 hC, CC.out (X_withWays hC hX hRB (fun hk τ1 hC1 hp => ?_) (fun p0_ p1_ τ1 hC1 hp => ?_))⟩)⟩
  · have hM1 := hM.by hK' hC1.1
    have oo := x2o hC1.1 ⟨o1, o2⟩
    refine ⟨fun h9 => absurd h9 (by decide), fun _ _ => ⟨oka hS hp (by decide), okM172 hM1, ?_⟩, fun h9 => absurd h9 (by decide)⟩
    rw [arg ho hp]
    exact M_withWays hM1 hX hRB (fun _ τ hMτ h0 _ => thr_fin hC1.re hK hMτ oo hO (bmp_le hR 1) h0 (fun h9 => absurd h9 (by decide)) (hN _ _ (by omega) (by omega))) (fun p0_ p1_ => by exfalso; omega)
  · have hM1 := hM.by hK' hC1.1
    have oo := x2o hC1.1 ⟨o1, o2⟩
    refine fun _ => ⟨okO23 oo, fun τ4 e4 _ => ?_⟩
    have hp4 := hp.put e4
    have C4 := hC1.put hK e4
    have M4 := hM1.put hK' e4
    obtain ⟨oo4, v4⟩ := oo.put e4
    refine ⟨oka hS hp4 (by decide), okM172 M4, ?_⟩
    rw [arg ho hp4]
    refine M_withWays M4 hX hRB (fun hk9 => by exfalso; omega) (fun q0_ q1_ τ hMτ h0 _ => ?_)
    exact thr_fin C4 hK hMτ oo4 hO (le_1 hR) h0 (fun _ => v4) (hN _ _ (by omega) (by omega))

theorem lawc_inRow (hn : n ≤ 5000) (hS : SCR E x4) (hI : INV KCd KMd σ n D told els past B F W R) (hg : TYPES) (hr : 4 ≤ rc ∧ 26 ≤ rs) (hN : ∀ rc' rs', rc ≤ rc' + 4 → rs ≤ rs' + 26 → NXT E KCd KMd x4 (n + 1) rc' rs' Q) : GG E mL_law 1653 [some (vr 5), some (vr 16), some (vr 172), some (vr 2968), some (vi x4), none, none] [] σ rc rs Q := by
  obtain ⟨⟨c, t, hC⟩, ⟨c', t', hM⟩, hO, o1, o2, hR⟩ := hI
  have hRB := inR_1 hR hn
  have hCl := hO.clo
  obtain ⟨hGD, hCN⟩ := hg D told els hO.2.1 hO.2.2.1 hO.1
  have hX := FX.of hCl hO.1 hGD
  have hK := KCd_kf
  have hK' := KMd_fm
  refine GG.ev (fun ho => ?_)
  refine B_L_law_1653 ⟨inx hS (by decide), oka hS ho (by decide), inx hS (by decide), oka hS ho (by decide), by omega, by omega, C_L_inRow (B_L_inRow_0 ⟨by decide, by decide, okC16 hC, CC.out (X_inRow hC hX hRB (fun hk τ1 hC1 hp => ?_) (fun h1 hk τ1 hC1 hp => ?_) (fun i k e0_ e1_ p0_ p1_ τ1 hC1 hp => ?_))⟩)⟩
  · have hM1 := hM.by hK' hC1.1
    have oo := x2o hC1.1 ⟨o1, o2⟩
    refine ⟨fun _ _ => ⟨oka hS hp (by decide), oka hS hp (by decide), okM172 hM1, ?_⟩, fun h9 => absurd h9 (by decide), fun h9 => absurd h9 (by decide)⟩
    rw [arg ho hp, arg ho hp]
    exact M_inRow hM1 hX hRB (fun _ τ hMτ h0 _ => thr_fin hC1.re hK hMτ oo hO (bmp_le hR 0) h0 (fun h9 => absurd h9 (by decide)) (hN _ _ (by omega) (by omega))) (fun h1 h9 => by exfalso; omega) (fun i k e0_ e1_ p0_ p1_ => by exfalso; omega)
  · have hM1 := hM.by hK' hC1.1
    have oo := x2o hC1.1 ⟨o1, o2⟩
    refine ⟨fun h9 => absurd h9 (by decide), fun _ _ => ⟨oka hS hp (by decide), oka hS hp (by decide), okM172 hM1, ?_⟩, fun h9 => absurd h9 (by decide)⟩
    rw [arg ho hp, arg ho hp]
    exact M_inRow hM1 hX hRB (fun h9 => by exfalso; omega) (fun _ _ τ hMτ h0 _ => thr_fin hC1.re hK hMτ oo hO (bmp_le hR 1) h0 (fun h9 => absurd h9 (by decide)) (hN _ _ (by omega) (by omega))) (fun i k e0_ e1_ p0_ p1_ => by exfalso; omega)
  · have hM1 := hM.by hK' hC1.1
    have oo := x2o hC1.1 ⟨o1, o2⟩
    refine fun _ => ⟨okO23 oo, fun τ4 e4 _ => ?_⟩
    have hp4 := hp.put e4
    have C4 := hC1.put hK e4
    have M4 := hM1.put hK' e4
    obtain ⟨oo4, v4⟩ := oo.put e4
    refine ⟨oka hS hp4 (by decide), oka hS hp4 (by decide), okM172 M4, ?_⟩
    rw [arg ho hp4, arg ho hp4]
    refine M_inRow M4 hX hRB (fun hk9 => by exfalso; omega) (fun h1 hk9 => by exfalso; omega) (fun i2 k2 f0_ f1_ q0_ q1_ τ hMτ h0 _ => ?_)
    have ei : i2 = i := by omega
    have ek : k2 = k := by omega
    subst ei ek
    exact thr_fin C4 hK hMτ oo4 hO (le_1 hR) h0 (fun _ => v4) (hN _ _ (by omega) (by omega))

theorem lawc_row (hn : n ≤ 5000) (hS : SCR E x4) (hI : INV KCd KMd σ n D told els past B F W R) (hg : TYPES) (hr : 4 ≤ rc ∧ 26 ≤ rs) (hN : ∀ rc' rs', rc ≤ rc' + 4 → rs ≤ rs' + 26 → NXT E KCd KMd x4 (n + 1) rc' rs' Q) : GG E mL_law 1721 [some (vr 5), some (vr 16), some (vr 172), some (vr 2968), some (vi x4), none, none] [] σ rc rs Q := by
  obtain ⟨⟨c, t, hC⟩, ⟨c', t', hM⟩, hO, o1, o2, hR⟩ := hI
  have hRB := inR_1 hR hn
  have hCl := hO.clo
  obtain ⟨hGD, hCN⟩ := hg D told els hO.2.1 hO.2.2.1 hO.1
  have hX := FX.of hCl hO.1 hGD
  have hK := KCd_kf
  have hK' := KMd_fm
  refine GG.ev (fun ho => ?_)
  refine B_L_law_1721 ⟨inx hS (by decide), oka hS ho (by decide), inx hS (by decide), oka hS ho (by decide), by omega, by omega, C_L_row (B_L_row_0 ⟨by decide, by decide, okC16 hC, CC.out (X_row hC hX hRB (fun hk τ1 hC1 hp => ?_) (fun i e0_ p0_ y hy τ1 hC1 hp => ?_))⟩)⟩
  · have hM1 := hM.by hK' hC1.1
    have oo := x2o hC1.1 ⟨o1, o2⟩
    refine ⟨fun _ _ => ⟨oka hS hp (by decide), oka hS hp (by decide), okM172 hM1, ?_⟩, fun h9 => absurd h9 (by decide), fun h9 => absurd h9 (by decide)⟩
    rw [arg ho hp, arg ho hp]
    exact M_row hM1 hX hRB (fun _ τ hMτ h0 _ => thr_fin hC1.re hK hMτ oo hO (bmp_le hR 0) h0 (fun h9 => absurd h9 (by decide)) (hN _ _ (by omega) (by omega))) (fun i e0_ p0_ => by exfalso; omega)
  · have hM1 := hM.by hK' hC1.1
    have oo := x2o hC1.1 ⟨o1, o2⟩
    refine fun _ => ⟨okO23 oo, fun τ4 e4 _ => ?_⟩
    have hp4 := hp.put e4
    have C4 := hC1.put hK e4
    have M4 := hM1.put hK' e4
    obtain ⟨oo4, v4⟩ := oo.put e4
    refine ⟨oka hS hp4 (by decide), oka hS hp4 (by decide), okM172 M4, ?_⟩
    rw [arg ho hp4, arg ho hp4]
    refine M_row M4 hX hRB (fun hk9 => by exfalso; omega) (fun i2 f0_ q0_ y2 hy2 τ hMτ h0 _ => ?_)
    have ei : i2 = i := by omega
    subst ei
    have ey := hy.un hy2
    subst ey
    exact thr_fin C4 hK hMτ oo4 hO (le_1 hR) h0 (fun _ => v4) (hN _ _ (by omega) (by omega))

end SE5
