/-! ===== the law: the walk over the script ===== -/
section S9j
variable {E : Ev} {Q : NO → Sg → Prop}
variable {K K' : Int → List (List Int) → Sg → Prop}
/-- a call, at its place in the law -/
def LOP (E : Ev) (K K' : Int → List (List Int) → Sg → Prop) (Q : NO → Sg → Prop) (pc : Nat) : Prop := ∀ (x4 : Int) (n rc rs : Nat) (σ : Sg) (D : Int) (told els : List (List Int)) (past : List (List (List Int))) (B : List Int) (F : Int) (W R : Nat → Int),
  n ≤ 5000 → SCR E x4 → INV K K' σ n D told els past B F W R → (4 ≤ rc ∧ 26 ≤ rs) → (∀ rc' rs', rc ≤ rc' + 4 → rs ≤ rs' + 26 → NXT E K K' x4 (n + 1) rc' rs' Q) → GG E mL_law pc [some (vr 5), some (vr 16), some (vr 172), some (vr 2968), some (vi x4), none, none] [] σ rc rs Q
theorem INV.up {σ : Sg} {n : Nat} {D : Int} {told els : List (List Int)} {past : List (List (List Int))} {B : List Int} {F : Int} {W R : Nat → Int} (h : INV K K' σ n D told els past B F W R) : INV K K' σ (n + 1) D told els past B F W R := by
  obtain ⟨h1, h2, h3, h4, h5, h6⟩ := h
  exact ⟨h1, h2, h3, h4, h5, le_1 h6⟩
theorem law_loop (hK : KF K) (hK' : KFM K') (h30 : (eS E 5).1 = 30) (hlen : (eS E 5).2 ≤ 4608) (hSI : ∀ j, j < (eS E 5).2 → inR (eI E 5 j))
    (h_told : LOP E K K' Q 566)
    (h_of : LOP E K K' Q 941)
    (h_couples : LOP E K K' Q 1009)
    (h_degree : LOP E K K' Q 1145)
    (h_value : LOP E K K' Q 1201)
    (h_often : LOP E K K' Q 1269)
    (h_opposite : LOP E K K' Q 1349)
    (h_ways : LOP E K K' Q 1405)
    (h_far : LOP E K K' Q 1473)
    (h_withWays : LOP E K K' Q 1541)
    (h_inRow : LOP E K K' Q 1653)
    (h_row : LOP E K K' Q 1721)
    : ∀ (d k : Nat) (σ : Sg) (rc rs : Nat) (D : Int) (told els : List (List Int)) (past : List (List (List Int))) (B : List Int) (F : Int) (W R : Nat → Int), k + d = 513 → INV K K' σ k D told els past B F W R → 4 * d ≤ rc → 26 * d ≤ rs → GG E mL_law 23 [some (vr 5), some (vr 16), some (vr 172), some (vr 2968), some (vi (9 * k)), none, none] [] σ rc rs Q := by
  intro d
  induction d with
  | zero =>
    intro k σ rc rs D told els past B F W R hkd hI hrc hrs
    refine GG.ev (fun ho => ?_)
    have e := (ho 5 (by decide)).1
    refine B_L_law_23 ⟨⟨.inr ⟨by decide, by decide, .inl (by rw [e]; exact h30)⟩, by rw [e]; omega⟩, by rw [e]; exact ⟨by omega, by omega⟩, ?_⟩
    rw [e]
    exact ⟨fun _ => rfl, fun h9 => absurd (by omega) h9⟩
  | succ d ih =>
    intro k σ rc rs D told els past B F W R hkd hI hrc hrs
    refine GG.ev (fun ho => ?_)
    have e := (ho 5 (by decide)).1
    refine B_L_law_23 ⟨⟨.inr ⟨by decide, by decide, .inl (by rw [e]; exact h30)⟩, by rw [e]; omega⟩, by rw [e]; exact ⟨by omega, by omega⟩, ?_⟩
    rw [e]
    refine ⟨fun _ => rfl, fun hlt => ?_⟩
    have hS : SCR E (9 * (k : Int)) := ⟨h30, by omega, by omega, hlen⟩
    have hn : k ≤ 5000 := by omega
    have hr : 4 ≤ rc ∧ 26 ≤ rs := ⟨by omega, by omega⟩
    have hN : ∀ rc' rs', rc ≤ rc' + 4 → rs ≤ rs' + 26 → NXT E K K' (9 * (k : Int)) (k + 1) rc' rs' Q := fun rc' rs' h1 h2 τ D2 told2 els2 past2 B2 F2 W2 R2 hI2 => by
      refine B_L_law_2194 ⟨inx hS (by decide), ?_⟩
      have g := ih (k + 1) τ rc' rs' D2 told2 els2 past2 B2 F2 W2 R2 (by omega) hI2 (by omega) (by omega)
      rw [show (9 : Int) * ((k + 1 : Nat) : Int) = 9 * (k : Int) + 9 by omega] at g
      exact g
    have hN0 := hN rc rs (by omega) (by omega)
    have o0 := oka hS ho (j := 0) (by decide)
    rw [Int.add_zero] at o0
    exact ⟨o0, fun _ => law_feed hS hI hK hK' hN0,
      fun _ => law_text hn hS hI hK hK' hr hN,
      fun _ => law_fault hI hK hK' hN0,
      fun _ => law_add hn hS hI hK hK' hr hN,
      fun _ => law_drop hn hS hI hK hK' hr hN,
      fun _ => law_undo hI hK hK' hN0,
      fun _ => law_why hS hI hK hK' hN0,
      fun _ => h_told _ _ _ _ _ _ _ _ _ _ _ _ _ hn hS hI hr hN,
      fun _ => law_element hn hS hI hK hK' hr hN,
      fun _ => law_find hn hS hI hK hK' hr hN,
      fun _ => law_product hn hS hI hK hK' hr hN,
      fun _ => law_power hn hS hSI hI hK hK' hr hN,
      fun _ => h_of _ _ _ _ _ _ _ _ _ _ _ _ _ hn hS hI hr hN,
      fun _ => h_couples _ _ _ _ _ _ _ _ _ _ _ _ _ hn hS hI hr hN,
      fun _ => law_axes hn hS hI hK hK' hr hN,
      fun _ => h_degree _ _ _ _ _ _ _ _ _ _ _ _ _ hn hS hI hr hN,
      fun _ => h_value _ _ _ _ _ _ _ _ _ _ _ _ _ hn hS hI hr hN,
      fun _ => h_often _ _ _ _ _ _ _ _ _ _ _ _ _ hn hS hI hr hN,
      fun _ => h_opposite _ _ _ _ _ _ _ _ _ _ _ _ _ hn hS hI hr hN,
      fun _ => h_ways _ _ _ _ _ _ _ _ _ _ _ _ _ hn hS hI hr hN,
      fun _ => h_far _ _ _ _ _ _ _ _ _ _ _ _ _ hn hS hI hr hN,
      fun _ => h_withWays _ _ _ _ _ _ _ _ _ _ _ _ _ hn hS hI hr hN,
      fun _ => law_invariants hn hS hI hK hK' hr hN,
      fun _ => h_inRow _ _ _ _ _ _ _ _ _ _ _ _ _ hn hS hI hr hN,
      fun _ => h_row _ _ _ _ _ _ _ _ _ _ _ _ _ hn hS hI hr hN,
      fun _ => law_made hn hS hI hK hK' hr hN,
      fun _ => law_isMade hn hS hI hK hK' hr hN,
      fun _ => law_isKept hn hS hI hK hK' hr hN,
      fun _ => law_ofOrder hn hS hI hK hK' hr hN,
      fun _ => law_makers hn hS hI hK hK' hr hN,
      fun _ => law_print hI hK hK' hN0,
      fun _ => law_status hS hI hK hK' hN0,
      fun _ => hN0 σ _ _ _ _ _ _ _ _ hI.up⟩
end S9j
