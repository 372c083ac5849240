/-! ===== the class: degree, value, often, ways, far ===== -/
section SE2
variable {E : Ev} {σ : Sg} {Q : NO → Sg → Prop} {g : Sg} {c t : Nat}
variable {D : Int} {told els : List (List Int)} {past : List (List (List Int))} {B : List Int} {F : Int} {W R : Nat → Int}
theorem pa37 {a : Nat} (h : 37 ≤ a ∧ a < 49) : PA LC a 12 := by
  have h1 : ∀ q ∈ yX LC, q.1 < 37 ∨ 49 ≤ q.1 := by decide
  exact ⟨by show 16 ≤ a; omega, by show a < 172; omega, by omega, fun q hq => by have := h1 q hq; omega, (37, 49, 20, 12), by decide, h.1, h.2, rfl⟩
theorem pa127 {a : Nat} (h : 127 ≤ a ∧ a < 139) : PA LC a 12 := by
  have h1 : ∀ q ∈ yX LC, q.1 < 127 ∨ 139 ≤ q.1 := by decide
  exact ⟨by show 16 ≤ a; omega, by show a < 172; omega, by omega, fun q hq => by have := h1 q hq; omega, (127, 139, 20, 12), by decide, h.1, h.2, rfl⟩
theorem pa140 {a : Nat} (h : 140 ≤ a ∧ a < 152) : PA LC a 12 := by
  have h1 : ∀ q ∈ yX LC, q.1 < 140 ∨ 152 ≤ q.1 := by decide
  exact ⟨by show 16 ≤ a; omega, by show a < 172; omega, by omega, fun q hq => by have := h1 q hq; omega, (140, 152, 20, 12), by decide, h.1, h.2, rfl⟩
theorem pa49 : PA LC 49 12 := ⟨by decide, by decide, by decide, by decide, (49, 50, 20, 12), by decide, by decide, by decide, rfl⟩
theorem pa50c : PA LC 50 12 := ⟨by decide, by decide, by decide, by decide, (50, 51, 20, 12), by decide, by decide, by decide, rfl⟩
theorem pa153 : PA LC 153 12 := ⟨by decide, by decide, by decide, by decide, (153, 154, 20, 12), by decide, by decide, by decide, rfl⟩
theorem S_atP {a n k : Nat} (hL : Lay LC g c t σ) (hP : PA LC a n) (hn : n ≤ 2147483647) (hk : k < n) (hq : Q (.inl (some (vi (gI σ a k)))) σ) : CC E mX11_at [vr a, vi k] σ Q := S_atN hP.2.2.1 (hP.sh hL) hn hk hq
theorem X_degree {x : Int} (h : CI KCd g c t σ D told els past B F W R) (hX : FX D told els) (hRB : ∀ i, i < 3 → inR (R i + 1))
    (h0 : bd1 D els x → ∀ τ, CI KCd g c t τ D told els past B F W (bmp R 0) → Q (.inr 0) τ)
    (h2 : ∀ i : Nat, x = i → i < rG D els → ∀ τ, CI KCd g c t τ D told els past B F W R → Q (.inl (some (vi (dgC D els i)))) τ) : CC E mX11_degree [vr 16, vi x] σ Q := by
  refine C_X11_degree (B_X11_degree_0 h.1 (fun _ => X_needCh h hX (fun τ hC h14 hK => ⟨hC.1, by decide, by decide, fun _ => ?_⟩)))
  obtain ⟨r12, hB, hCh, hG⟩ := hK
  have r12' : rG D els ≤ 12 := r12
  rw [hB.1]
  refine S_needIndex hC.1 hC.2.2.2.2.2.2.2.2.1 (hRB 0 (by omega)) (fun a0 a1 => ⟨hC.1, fun _ => ?_⟩) (fun τ2 hk hLτ hFτ hRτ => h0 (by omega) τ2 (hC.ref KCd_kf hLτ hFτ hRτ))
  obtain ⟨i, rfl⟩ : ∃ i : Nat, x = i := ⟨x.toNat, by omega⟩
  refine S_atP hC.1 pa49 (by decide) (by omega) ⟨hC.1, fun _ _ => ?_⟩
  rw [(hCh i (by omega)).2.1]
  exact h2 i rfl (by omega) τ hC
theorem X_value {x1 x2 : Int} (h : CI KCd g c t σ D told els past B F W R) (hX : FX D told els) (hRB : ∀ i, i < 3 → inR (R i + 1))
    (h0 : (bd1 D els x1 ∨ bd1 D els x2) → ∀ τ, CI KCd g c t τ D told els past B F W (bmp R 0) → Q (.inr 0) τ)
    (h2 : ∀ i a : Nat, x1 = i → x2 = a → i < rG D els → a < rG D els → ∀ τ, CI KCd g c t τ D told els past B F W R → Q (.inl (some (vi (vlC D els i a)))) τ) : CC E mX11_value [vr 16, vi x1, vi x2] σ Q := by
  refine C_X11_value (B_X11_value_0 h.1 (fun _ => X_needCh h hX (fun τ hC h14 hK => ⟨hC.1, by decide, by decide, fun _ => ?_⟩)))
  obtain ⟨r12, hB, hCh, hG⟩ := hK
  have r12' : rG D els ≤ 12 := r12
  have h7 : gI τ 24 7 = (rG D els : Int) := hC.2.2.2.1.2.2.2.1.2.1
  rw [hB.1]
  refine S_needIndex hC.1 hC.2.2.2.2.2.2.2.2.1 (hRB 0 (by omega)) (fun a0 a1 => ⟨hC.1, by decide, by decide, fun _ => ?_⟩) (fun τ2 hk hLτ hFτ hRτ => h0 (by omega) τ2 (hC.ref KCd_kf hLτ hFτ hRτ))
  rw [h7]
  refine S_needIndex hC.1 hC.2.2.2.2.2.2.2.2.1 (hRB 0 (by omega)) (fun b0 b1 => ⟨hC.1, ⟨a0, by omega⟩, fun b12 e12 w12 _ => ?_⟩) (fun τ2 hk hLτ hFτ hRτ => h0 (by omega) τ2 (hC.ref KCd_kf hLτ hFτ hRτ))
  obtain ⟨i, rfl⟩ : ∃ i : Nat, x1 = i := ⟨x1.toNat, by omega⟩
  obtain ⟨a, rfl⟩ : ∃ i : Nat, x2 = i := ⟨x2.toNat, by omega⟩
  rw [show ((i : Nat) : Int).toNat = i by omega] at e12
  refine S_atP hC.1 (pa37 w12) (by decide) (by omega) ⟨hC.1, fun _ _ => ?_⟩
  rw [e12, (hCh i (by omega)).2.2 a (by omega)]
  exact h2 i a rfl rfl (by omega) (by omega) τ hC
theorem X_often {x1 x2 x3 : Int} (h : CI KCd g c t σ D told els past B F W R) (hX : FX D told els) (hRB : ∀ i, i < 3 → inR (R i + 1))
    (h0 : (bd1 D els x1 ∨ bd1 D els x2 ∨ bd1 D els x3) → ∀ τ, CI KCd g c t τ D told els past B F W (bmp R 0) → Q (.inr 0) τ)
    (h2 : ∀ a b i : Nat, x1 = a → x2 = b → x3 = i → a < rG D els → b < rG D els → i < rG D els → ∀ τ, CI KCd g c t τ D told els past B F W R → Q (.inl (some (vi (ofP D els a b i)))) τ) : CC E mX11_often [vr 16, vi x1, vi x2, vi x3] σ Q := by
  refine C_X11_often (B_X11_often_0 h.1 (fun _ => X_needCh h hX (fun τ hC h14 hK => ⟨hC.1, by decide, by decide, fun _ => ?_⟩)))
  obtain ⟨r12, hB, hCh, hG⟩ := hK
  have r12' : rG D els ≤ 12 := r12
  have p1 := hX.2.2.1.1
  rw [hB.1]
  refine S_needIndex hC.1 hC.2.2.2.2.2.2.2.2.1 (hRB 0 (by omega)) (fun a0 a1 => ⟨hC.1, by decide, by decide, fun _ => ?_⟩) (fun τ2 hk hLτ hFτ hRτ => h0 (by omega) τ2 (hC.ref KCd_kf hLτ hFτ hRτ))
  rw [hB.1]
  refine S_needIndex hC.1 hC.2.2.2.2.2.2.2.2.1 (hRB 0 (by omega)) (fun b0 b1 => ⟨hC.1, by decide, by decide, fun _ => ?_⟩) (fun τ2 hk hLτ hFτ hRτ => h0 (by omega) τ2 (hC.ref KCd_kf hLτ hFτ hRτ))
  rw [hB.1]
  refine S_needIndex hC.1 hC.2.2.2.2.2.2.2.2.1 (hRB 0 (by omega)) (fun c0 c1 => ⟨hC.1, ⟨a0, by omega⟩, fun b16 e16 w16 => ⟨⟨b0, by omega⟩, fun b19 e19 w19 _ => ?_⟩⟩) (fun τ2 hk hLτ hFτ hRτ => h0 (by omega) τ2 (hC.ref KCd_kf hLτ hFτ hRτ))
  obtain ⟨a, rfl⟩ : ∃ i : Nat, x1 = i := ⟨x1.toNat, by omega⟩
  obtain ⟨b, rfl⟩ : ∃ i : Nat, x2 = i := ⟨x2.toNat, by omega⟩
  obtain ⟨i, rfl⟩ : ∃ i : Nat, x3 = i := ⟨x3.toNat, by omega⟩
  rw [show ((a : Nat) : Int).toNat = a by omega] at e16
  rw [show ((b : Nat) : Int).toNat = b by omega] at e19
  refine S_inProduct (f := vlC D els a) (h9 := vlC D els b) hC.1 hX hB hCh (pa37 w16) (pa37 w19) (by omega) (by omega) (by omega) (fun k hk => ⟨by rw [e16]; exact (hCh a (by omega)).2.2 k hk, vlC_rng (by omega) a k⟩) (fun k hk => ⟨by rw [e19]; exact (hCh b (by omega)).2.2 k hk, vlC_rng (by omega) b k⟩) (fun τ2 hL2 hF2 => ⟨hL2, fun _ _ => ?_⟩)
  exact h2 a b i rfl rfl rfl (by omega) (by omega) (by omega) τ2 (hC.scr KCd_kf hL2 hF2 (fun a j h9 => by omega) (fun _ h9 => h9))
theorem X_ways {x1 x2 : Int} (h : CI KCd g c t σ D told els past B F W R) (hX : FX D told els) (hRB : ∀ i, i < 3 → inR (R i + 1))
    (h0 : (bd1 D els x1 ∨ bd1 D els x2) → ∀ τ, CI KCd g c t τ D told els past B F W (bmp R 0) → Q (.inr 0) τ)
    (h2 : ∀ i a : Nat, x1 = i → x2 = a → i < rG D els → a < rG D els → ∀ τ, CI KCd g c t τ D told els past B F W R → Q (.inl (some (vi (waN D els i a)))) τ) : CC E mX11_ways [vr 16, vi x1, vi x2] σ Q := by
  refine C_X11_ways (B_X11_ways_0 h.1 (fun _ => X_needCh h hX (fun τ hC h14 hK => ⟨hC.1, by decide, by decide, fun _ => ?_⟩)))
  obtain ⟨r12, hB, hCh, hG⟩ := hK
  have r12' : rG D els ≤ 12 := r12
  rw [hG.1]
  refine S_needIndex hC.1 hC.2.2.2.2.2.2.2.2.1 (hRB 0 (by omega)) (fun a0 a1 => ⟨hC.1, by decide, by decide, fun _ => ?_⟩) (fun τ2 hk hLτ hFτ hRτ => h0 (by omega) τ2 (hC.ref KCd_kf hLτ hFτ hRτ))
  rw [hG.1]
  refine S_needIndex hC.1 hC.2.2.2.2.2.2.2.2.1 (hRB 0 (by omega)) (fun b0 b1 => ⟨hC.1, ⟨a0, by omega⟩, fun _ => ?_⟩) (fun τ2 hk hLτ hFτ hRτ => h0 (by omega) τ2 (hC.ref KCd_kf hLτ hFτ hRτ))
  obtain ⟨i, rfl⟩ : ∃ i : Nat, x1 = i := ⟨x1.toNat, by omega⟩
  obtain ⟨a, rfl⟩ : ∃ i : Nat, x2 = i := ⟨x2.toNat, by omega⟩
  rw [show ((i : Nat) : Int).toNat = i by omega]
  refine S_atP hC.1 (pa127 (by omega)) (by decide) (by omega) ⟨hC.1, fun _ _ => ?_⟩
  rw [(hG.2 i a (by omega) (by omega)).1]
  exact h2 i a rfl rfl (by omega) (by omega) τ hC
theorem X_far {x1 x2 : Int} (h : CI KCd g c t σ D told els past B F W R) (hX : FX D told els) (hRB : ∀ i, i < 3 → inR (R i + 1))
    (h0 : (bd1 D els x1 ∨ bd1 D els x2) → ∀ τ, CI KCd g c t τ D told els past B F W (bmp R 0) → Q (.inr 0) τ)
    (h2 : ∀ i a : Nat, x1 = i → x2 = a → i < rG D els → a < rG D els → ∀ τ, CI KCd g c t τ D told els past B F W R → Q (.inl (some (vi (fwN D els (rG D els) i a)))) τ) : CC E mX11_far [vr 16, vi x1, vi x2] σ Q := by
  refine C_X11_far (B_X11_far_0 h.1 (fun _ => X_needCh h hX (fun τ hC h14 hK => ⟨hC.1, by decide, by decide, fun _ => ?_⟩)))
  obtain ⟨r12, hB, hCh, hG⟩ := hK
  have r12' : rG D els ≤ 12 := r12
  rw [hG.1]
  refine S_needIndex hC.1 hC.2.2.2.2.2.2.2.2.1 (hRB 0 (by omega)) (fun a0 a1 => ⟨hC.1, by decide, by decide, fun _ => ?_⟩) (fun τ2 hk hLτ hFτ hRτ => h0 (by omega) τ2 (hC.ref KCd_kf hLτ hFτ hRτ))
  rw [hG.1]
  refine S_needIndex hC.1 hC.2.2.2.2.2.2.2.2.1 (hRB 0 (by omega)) (fun b0 b1 => ⟨hC.1, ⟨a0, by omega⟩, fun _ => ?_⟩) (fun τ2 hk hLτ hFτ hRτ => h0 (by omega) τ2 (hC.ref KCd_kf hLτ hFτ hRτ))
  obtain ⟨i, rfl⟩ : ∃ i : Nat, x1 = i := ⟨x1.toNat, by omega⟩
  obtain ⟨a, rfl⟩ : ∃ i : Nat, x2 = i := ⟨x2.toNat, by omega⟩
  rw [show ((i : Nat) : Int).toNat = i by omega]
  refine S_atP hC.1 (pa140 (by omega)) (by decide) (by omega) ⟨hC.1, fun _ _ => ?_⟩
  rw [(hG.2 i a (by omega) (by omega)).2]
  exact h2 i a rfl rfl (by omega) (by omega) τ hC
end SE2
