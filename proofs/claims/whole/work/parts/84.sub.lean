/-! ===== Subgroup ===== -/
abbrev frS : Nat → Nat → Prop := fun a k => a = 32 ∨ a = 33 ∨ (a = 31 ∧ k = 2)
/-- members, places, count -/
def MemC (σ : Sg) (mem : List Nat) : Prop := gI σ 31 2 = (mem.length : Int) ∧ (∀ j, j < mem.length → gI σ 33 j = (mem.getD j 0 : Int)) ∧ ∀ e, e < 120 → (gI σ 32 e = -1 ↔ e ∉ mem)
theorem mem_getN {l : List Nat} {v : Nat} : v ∈ l ↔ ∃ k, k < l.length ∧ l.getD k 0 = v := by
  rw [List.mem_iff_getElem]
  constructor
  · rintro ⟨k, hk, h⟩
    exact ⟨k, hk, by rw [List.getD_eq_getElem?_getD, List.getElem?_eq_getElem hk]; exact h⟩
  · rintro ⟨k, hk, h⟩
    refine ⟨k, hk, ?_⟩
    rw [List.getD_eq_getElem?_getD, List.getElem?_eq_getElem hk] at h
    exact h
theorem getN_app {l m : List Nat} {k : Nat} (h : k < l.length) : (l ++ m).getD k 0 = l.getD k 0 := by
  rw [List.getD_eq_getElem?_getD, List.getD_eq_getElem?_getD, List.getElem?_append_left h]
theorem getN_last {l : List Nat} {v : Nat} : (l ++ [v]).getD l.length 0 = v := by
  rw [List.getD_eq_getElem?_getD, List.getElem?_append_right (Nat.le_refl _), Nat.sub_self]; rfl
section S84
variable {E : Ev} {σ : Sg} {Q : NO → Sg → Prop} {g : Sg} {c t : Nat}
theorem S_take9 {e : Nat} {mem : List Nat} (hL : Lay LC g c t σ) (he : e < 120) (hM : MemC σ mem) (hn : mem.Nodup) (hl : ∀ x, x ∈ mem → x < 120)
    (h : ∀ τ, Lay LC g c t τ → Fr frS (fun _ => False) σ τ → MemC τ (if e ∈ mem then mem else mem ++ [e]) → Q (.inl none) τ) : CC E mX9_take [vr 31, vi e] σ Q := by
  have hle := nodup_le hn hl
  refine C_X9_take (B_X9_take_0 hL ?_)
  rw [hM.1, show ((e : Nat) : Int).toNat = e by omega]
  by_cases hem : e ∈ mem
  · rw [if_pos hem] at h
    have hne : ¬ (gI σ 32 e = -1) := fun h9 => (hM.2.2 e he).mp h9 hem
    exact ⟨fun h => absurd h (by omega), fun _ => ⟨fun h => absurd h (by omega), fun _ => ⟨fun _ _ => h σ hL (Fr.refl _) hM, fun _ => ⟨⟨by omega, by omega⟩, fun _ _ => h σ hL (Fr.refl _) hM, fun h9 => absurd h9 hne⟩⟩⟩⟩
  · rw [if_neg hem] at h
    have hlt : mem.length < 120 := by
      have hn2 : (e :: mem).Nodup := List.nodup_cons.mpr ⟨hem, hn⟩
      have := nodup_le hn2 (N := 120) (fun x hx => by
        rcases List.mem_cons.mp hx with rfl | hx
        · exact he
        · exact hl x hx)
      rw [List.length_cons] at this
      omega
    have heq := (hM.2.2 e he).mpr hem
    refine ⟨fun h => absurd h (by omega), fun _ => ⟨fun h => absurd h (by omega), fun _ => ⟨fun h => absurd h (by omega), fun _ => ⟨⟨by omega, by omega⟩, fun h9 => absurd heq h9, fun _ τ2 e2 => ?_⟩⟩⟩⟩
    have q2 : gI τ2 31 2 = (mem.length : Int) := by rw [e2, gI_sI, if_neg (by omega)]; exact hM.1
    rw [q2, show ((mem.length : Nat) : Int).toNat = mem.length by omega]
    refine ⟨⟨by omega, by omega⟩, fun τ4 e4 => ?_⟩
    have q4 : gI τ4 31 2 = (mem.length : Int) := by rw [e4, gI_sI, if_neg (by omega)]; exact q2
    rw [q4]
    refine ⟨⟨by omega, by omega⟩, fun τ6 e6 hL6 => ?_⟩
    subst e6 e4 e2
    have hlen : (mem ++ [e]).length = mem.length + 1 := by simp
    refine h _ hL6 ((((Fr.refl σ).sI (by omega)).sI (by omega)).sI (by omega)) ⟨by rw [gI_sI, if_pos ⟨rfl, rfl⟩, hlen]; rfl, fun j hj => ?_, fun x hx => ?_⟩
    · rw [gI_sI, if_neg (by omega), gI_sI]
      by_cases hjl : j = mem.length
      · rw [if_pos ⟨rfl, hjl⟩, hjl, getN_last]
      · rw [if_neg (fun h9 => hjl h9.2), gI_sI, if_neg (by omega), getN_app (by omega)]
        exact hM.2.1 j (by omega)
    · rw [gI_sI, if_neg (by omega), gI_sI, if_neg (by omega), gI_sI]
      by_cases hxe : x = e
      · rw [if_pos ⟨rfl, hxe⟩]
        constructor
        · intro h9; omega
        · intro h9; exact absurd (by rw [hxe]; simp) h9
      · rw [if_neg (fun h9 => hxe h9.2), hM.2.2 x hx, List.mem_append, List.mem_singleton]
        constructor
        · intro h9 h8; exact h8.elim h9 hxe
        · intro h9 h8; exact h9 (.inl h8)
theorem S_make {N k l : Nat} {m : Nat → Nat → Nat} (hL : Lay LC g c t σ) (hI : IsG N m) (hG : GT σ N m) (hk : k < N) (hl : l < N)
    (h : ∀ τ mem, Lay LC g c t τ → Fr frS (fun _ => False) σ τ → IsMem N m k l mem → MemC τ mem → Q (.inl none) τ) : CC E mX9_make [vr 31, vr 24, vi k, vi l] σ Q := by
  have n120 := hG.2.1
  refine C_X9_make (B_X9_make_0 hL (fun _ => ?_))
  refine loopU (N := 120) (G := fun i τ => GG E mX9_make 3 [some (vr 31), some (vr 24), some (vi k), some (vi l), some (vi i)] [] τ 0 0 Q) (P := fun i τ => Lay LC g c t τ ∧ Fr frS (fun _ => False) σ τ ∧ ∀ j, j < i → gI τ 32 j = -1) ?_ ?_ 0 σ (by omega) ⟨hL, Fr.refl _, fun j hj => absurd hj (by omega)⟩
  · rintro i τ hi ⟨hLτ, hF, hz⟩ next
    refine B_X9_make_3 hLτ ⟨fun h => absurd h (by omega), fun _ => ⟨⟨by omega, by omega⟩, fun τ5 e5 => ⟨⟨by omega, by omega⟩, fun hL5 => ?_⟩⟩⟩
    rw [show ((i : Nat) : Int).toNat = i by omega] at e5
    subst e5
    refine next _ ⟨hL5, hF.sI (by omega), fun j hj => ?_⟩
    rw [gI_sI]
    by_cases hji : j = i
    · rw [if_pos ⟨rfl, hji⟩]
    · rw [if_neg (fun h9 => hji h9.2)]; exact hz j (by omega)
  · rintro τ ⟨hLτ, hF, hz⟩
    refine B_X9_make_3 hLτ ⟨fun _ τ1 e1 hL1 => ?_, fun h9 => absurd (by omega) h9⟩
    have hM1 : MemC τ1 [] := ⟨by rw [e1, gI_sI, if_pos ⟨rfl, rfl⟩]; rfl, fun j hj => absurd hj (by simp), fun e he => ⟨fun _ => by simp, fun _ => by rw [e1, gI_sI, if_neg (by omega)]; exact hz e he⟩⟩
    have hF1 : Fr frS (fun _ => False) σ τ1 := by rw [e1]; exact hF.sI (by omega)
    refine S_take9 (e := 0) hL1 (by omega) hM1 (by simp) (fun x hx => absurd hx (by simp)) (fun τ3 hL3 hF3 hM3 => ⟨hL3, fun _ => ?_⟩)
    have e3 : (if (0 : Nat) ∈ ([] : List Nat) then ([] : List Nat) else [] ++ [0]) = [0] := rfl
    rw [e3] at hM3
    refine loopU (N := N) (G := fun i τ => GG E mX9_make 40 [some (vr 31), some (vr 24), some (vi k), some (vi l), some (vi i)] [] τ 0 0 Q)
      (P := fun i τ => Lay LC g c t τ ∧ Fr frS (fun _ => False) σ τ ∧ ∃ mem : List Nat, MemC τ mem ∧ mem.Nodup ∧ (0 ∈ mem) ∧ i ≤ mem.length ∧ (∀ e, e ∈ mem → e < N ∧ inGen m k l e) ∧ ∀ j, j < i → m (mem.getD j 0) k ∈ mem ∧ m (mem.getD j 0) l ∈ mem) ?_ ?_ 0 τ3 (by omega)
      ⟨hL3, hF1.trans hF3, [0], hM3, by simp, by simp, by simp, fun e he => by rw [List.mem_singleton] at he; subst he; exact ⟨hI.1, inGen_0 m k l⟩, fun j hj => absurd hj (by omega)⟩
    · rintro i ρ hi ⟨hLρ, hFρ, mem, hM, hn, h0, hil, hmem, hcl⟩ next
      have hlen := nodup_le hn (fun e he => (hmem e he).1)
      have hGρ : GT ρ N m := hG.fr hFρ ⟨by omega, fun _ => by omega⟩
      refine B_X9_make_40 hLρ ?_
      rw [hM.1, show ((i : Nat) : Int).toNat = i by omega]
      by_cases hlt : i < mem.length
      · have hxm : mem.getD i 0 ∈ mem := mem_getN.mpr ⟨i, hlt, rfl⟩
        have hx := hmem _ hxm
        refine ⟨fun h => absurd h (by omega), fun _ => ⟨fun h => absurd h (by omega), fun _ => ⟨⟨by omega, by omega⟩, fun _ => ?_⟩⟩⟩
        rw [hM.2.1 i hlt]
        have hxk := hI.2.1 _ _ hx.1 hk
        have hxl := hI.2.1 _ _ hx.1 hl
        refine S_times hLρ hGρ hx.1 hk ⟨hLρ, fun _ _ => ?_⟩
        refine S_take9 hLρ (by omega) hM hn (fun x h9 => by have := (hmem x h9).1; omega) (fun ρ5 hL5 hF5 hM5 => ⟨hL5, fun _ => ?_⟩)
        have hG5 : GT ρ5 N m := hGρ.fr hF5 ⟨by omega, fun _ => by omega⟩
        -- the first new one
        have step : ∀ (mem : List Nat) (y : Nat), mem.Nodup → (∀ e, e ∈ mem → e < N ∧ inGen m k l e) → y < N → inGen m k l y → ∀ mem', mem' = (if y ∈ mem then mem else mem ++ [y]) → mem'.Nodup ∧ (∀ e, e ∈ mem' → e < N ∧ inGen m k l e) ∧ (∀ e, e ∈ mem → e ∈ mem') ∧ y ∈ mem' ∧ (∀ j, j < mem.length → mem'.getD j 0 = mem.getD j 0) ∧ mem.length ≤ mem'.length := by
          intro mem y hn hm hy hg mem' e
          by_cases hym : y ∈ mem
          · rw [if_pos hym] at e
            subst e
            exact ⟨hn, hm, fun _ h => h, hym, fun _ _ => rfl, Nat.le_refl _⟩
          · rw [if_neg hym] at e
            subst e
            refine ⟨?_, fun e he => ?_, fun e he => List.mem_append.mpr (.inl he), by simp, fun j hj => getN_app hj, by simp⟩
            · rw [List.nodup_append]
              refine ⟨hn, by simp, fun a ha b hb => ?_⟩
              rw [List.mem_singleton] at hb
              subst hb
              exact fun e => hym (e ▸ ha)
            · rcases List.mem_append.mp he with he | he
              · exact hm e he
              · rw [List.mem_singleton] at he
                subst he; exact ⟨hy, hg⟩
        have s1 := step mem _ hn hmem hxk (inGen_k hx.2) _ rfl
        generalize hme : (if m (mem.getD i 0) k ∈ mem then mem else mem ++ [m (mem.getD i 0) k]) = mem1 at *
        obtain ⟨n1, m1, i1, y1, g1, l1⟩ := s1
        rw [hM5.2.1 i (by omega), g1 i hlt]
        refine S_times hL5 hG5 hx.1 hl ⟨hL5, fun _ _ => ?_⟩
        refine S_take9 hL5 (by omega) hM5 n1 (fun x h9 => by have := (m1 x h9).1; omega) (fun ρ7 hL7 hF7 hM7 => ⟨hL7, ⟨by omega, by omega⟩, fun _ => ?_⟩)
        have s2 := step mem1 _ n1 m1 hxl (inGen_l hx.2) _ rfl
        generalize (if m (mem.getD i 0) l ∈ mem1 then mem1 else mem1 ++ [m (mem.getD i 0) l]) = mem2 at *
        obtain ⟨n2, m2, i2, y2, g2, l2⟩ := s2
        refine next ρ7 ⟨hL7, (hFρ.trans hF5).trans hF7, mem2, hM7, n2, i2 _ (i1 _ h0), by omega, m2, fun j hj => ?_⟩
        rw [g2 j (by omega), g1 j (by omega)]
        by_cases hji : j = i
        · rw [hji]; exact ⟨i2 _ y1, y2⟩
        · have := hcl j (by omega)
          exact ⟨i2 _ (i1 _ this.1), i2 _ (i1 _ this.2)⟩
      · refine ⟨fun _ _ => h ρ mem hLρ hFρ ⟨hn, fun e => ⟨hmem e, fun he => ?_⟩⟩ hM, fun h => absurd h (by omega)⟩
        refine inGen_in (p := fun e => e ∈ mem) h0 (fun x hx => ?_) he.2
        obtain ⟨j, hj, rfl⟩ := mem_getN.mp hx
        exact hcl j (by omega)
    · rintro ρ ⟨hLρ, hFρ, mem, hM, hn, h0, hil, hmem, hcl⟩
      have hlen := nodup_le hn (fun e he => (hmem e he).1)
      refine B_X9_make_40 hLρ ?_
      rw [hM.1]
      refine ⟨fun _ _ => h ρ mem hLρ hFρ ⟨hn, fun e => ⟨hmem e, fun he => ?_⟩⟩ hM, fun h9 => absurd (by omega) h9⟩
      refine inGen_in (p := fun e => e ∈ mem) h0 (fun x hx => ?_) he.2
      obtain ⟨j, hj, rfl⟩ := mem_getN.mp hx
      exact hcl j (by omega)
theorem S_holds {N e k l : Nat} {m : Nat → Nat → Nat} {mem : List Nat} (hL : Lay LC g c t σ) (he : e < N) (hN : N ≤ 120) (hM : MemC σ mem) (hm : IsMem N m k l mem) (hq : ∀ r : Int, (inGen m k l e → r = 1) → (¬ inGen m k l e → r = 0) → Q (.inl (some (vi r))) σ) : CC E mX9_holds [vr 31, vi e] σ Q := by
  refine C_X9_holds (B_X9_holds_0 hL ?_)
  rw [show ((e : Nat) : Int).toNat = e by omega]
  refine ⟨fun h => absurd h (by omega), fun _ => ⟨fun h => absurd h (by omega), fun _ => ⟨⟨by omega, by omega⟩, fun h1 _ => ?_, fun h1 _ => ?_⟩⟩⟩
  · exact hq 0 (fun h9 => absurd ((hm.2 e).mpr ⟨he, h9⟩) ((hM.2.2 e (by omega)).mp h1)) (fun _ => rfl)
  · refine hq 1 (fun _ => rfl) (fun h9 => absurd ((hM.2.2 e (by omega)).mpr (fun h8 => h9 ((hm.2 e).mp h8).2)) h1)
theorem S_holdsTurned {N x k l : Nat} {m : Nat → Nat → Nat} {mem : List Nat} (hL : Lay LC g c t σ) (hI : IsG N m) (hG : GT σ N m) (hV : GV σ N m) (hx : x < N) (hM : MemC σ mem) (hm : IsMem N m k l mem)
    (hq : ∀ r : Int, ((∀ h, h < N → inGen m k l (tn N m x h)) → r = 1) → (¬ (∀ h, h < N → inGen m k l (tn N m x h)) → r = 0) → Q (.inl (some (vi r))) σ) : CC E mX9_holdsTurned [vr 31, vr 24, vi x] σ Q := by
  have n120 := hG.2.1
  refine C_X9_holdsTurned (B_X9_holdsTurned_0 hL (fun _ => ?_))
  refine loopU (N := N) (G := fun i τ => GG E mX9_holdsTurned 2 [some (vr 31), some (vr 24), some (vi x), some (vi i)] [] τ 0 0 Q) (P := fun i τ => τ = σ ∧ ∀ h, h < i → inGen m k l (tn N m x h)) ?_ ?_ 0 σ (by omega) ⟨rfl, fun h hh => absurd hh (by omega)⟩
  · rintro i τ hi ⟨rfl, hz⟩ next
    refine B_X9_holdsTurned_2 hL ?_
    rw [hG.1]
    refine ⟨fun h => absurd h (by omega), fun _ _ => S_turned hL hI hG hV hx hi ⟨hL, fun _ _ => S_holds hL (tn_lt hI hx hi) n120 hM hm (fun r r1 r0 => ⟨hL, fun _ => ⟨fun h1 => ⟨⟨by omega, by omega⟩, fun _ => next τ ⟨rfl, fun h hh => ?_⟩⟩, fun h1 _ => ?_⟩⟩)⟩⟩
    · by_cases hhi : h = i
      · rw [hhi]
        by_cases h9 : inGen m k l (tn N m x i)
        · exact h9
        · exact absurd (r0 h9) h1
      · exact hz h (by omega)
    · exact hq 0 (fun h9 => by have := r1 (h9 i hi); omega) (fun _ => rfl)
  · rintro τ ⟨rfl, hz⟩
    refine B_X9_holdsTurned_2 hL ?_
    rw [hG.1]
    exact ⟨fun _ _ => hq 1 (fun _ => rfl) (fun h9 => absurd hz h9), fun h9 => absurd (by omega) h9⟩
theorem S_leastBeside {N k l : Nat} {m : Nat → Nat → Nat} {mem : List Nat} (hL : Lay LC g c t σ) (hN : N ≤ 120) (hM : MemC σ mem) (hm : IsMem N m k l mem) (hq : ∀ r, IsLb N m k l r → Q (.inl (some (vi r))) σ) : CC E mX9_leastBeside [vr 31, vi N] σ Q := by
  refine C_X9_leastBeside (B_X9_leastBeside_0 hL (fun _ => ?_))
  refine loopU (N := N) (G := fun i τ => GG E mX9_leastBeside 2 [some (vr 31), some (vi N), some (vi i)] [] τ 0 0 Q) (P := fun i τ => τ = σ ∧ ∀ j, j < i → inGen m k l j) ?_ ?_ 0 σ (by omega) ⟨rfl, fun h hh => absurd hh (by omega)⟩
  · rintro i τ hi ⟨rfl, hz⟩ next
    refine B_X9_leastBeside_2 hL ⟨fun h => absurd h (by omega), fun _ _ => S_holds hL hi hN hM hm (fun r r1 r0 => ⟨hL, fun _ => ⟨fun h1 => ⟨⟨by omega, by omega⟩, fun _ => next τ ⟨rfl, fun h hh => ?_⟩⟩, fun h1 _ => ?_⟩⟩)⟩
    · by_cases hhi : h = i
      · rw [hhi]
        by_cases h9 : inGen m k l i
        · exact h9
        · exact absurd (r0 h9) h1
      · exact hz h (by omega)
    · exact hq i (.inl ⟨i, hi, rfl, fun h9 => by have := r1 h9; omega, hz⟩)
  · rintro τ ⟨rfl, hz⟩
    exact B_X9_leastBeside_2 hL ⟨fun _ _ => hq (-1) (.inr ⟨rfl, fun e he => hz e he⟩), fun h9 => absurd (by omega) h9⟩
abbrev frS2 : Nat → Nat → Prop := fun a k => a = 32 ∨ a = 33 ∨ (a = 31 ∧ (k = 2 ∨ k = 3 ∨ k = 4))
theorem S_searchMakers {N : Nat} {m : Nat → Nat → Nat} (hL : Lay LC g c t σ) (hI : IsG N m) (hG : GT σ N m) (h : ∀ τ, Lay LC g c t τ → Fr frS2 (fun _ => False) σ τ → MkC τ N m → Q (.inl none) τ) : CC E mX9_searchMakers [vr 31, vr 24] σ Q := by
  have n120 := hG.2.1
  refine C_X9_searchMakers (B_X9_searchMakers_0 hL (fun τ1 e1 τ2 e2 hL2 => ?_))
  subst e1 e2
  refine loopU (N := N) (G := fun i τ => GG E mX9_searchMakers 12 [some (vr 31), some (vr 24), some (vi i)] [] τ 0 0 Q)
    (P := fun i τ => Lay LC g c t τ ∧ Fr frS2 (fun _ => False) σ τ ∧ ((gI τ 31 3 = -1 ∧ gI τ 31 4 = -1 ∧ ∀ k l, k < i → l < N → ¬ mkAll N m k l) ∨ (gI τ 31 3 ≠ -1 ∧ MkC τ N m))) ?_ ?_ 0 _ (by omega) ⟨hL2, ((Fr.refl σ).sI (by omega)).sI (by omega), .inl ⟨by simp [gI_sI], by simp [gI_sI], fun k l hk => absurd hk (by omega)⟩⟩
  · rintro i τ hi ⟨hLτ, hF, hz⟩ next
    have hGτ : GT τ N m := hG.fr hF ⟨by omega, fun _ => by omega⟩
    refine B_X9_searchMakers_12 hLτ ?_
    rw [hGτ.1]
    refine ⟨fun h => absurd h (by omega), fun _ => ⟨fun h9 _ => ?_, fun h9 _ => ?_⟩⟩
    · rcases hz with hz | hz
      · exact absurd hz.1 h9
      · exact h τ hLτ hF hz.2
    · rcases hz with ⟨z3, z4, hz⟩ | hz
      · refine C_X9_searchSecond (B_X9_searchSecond_0 hLτ (fun _ => ?_))
        refine loopU (N := N) (G := fun j τ => GG E mX9_searchSecond 2 [some (vr 31), some (vr 24), some (vi i), some (vi j)] [] τ 0 0 _)
          (P := fun j ρ => i ≤ j ∧ Lay LC g c t ρ ∧ Fr frS2 (fun _ => False) σ ρ ∧ gI ρ 31 3 = -1 ∧ gI ρ 31 4 = -1 ∧ ∀ l, l < j → ¬ mkAll N m i l) ?_ ?_ i τ (by omega) ⟨Nat.le_refl _, hLτ, hF, z3, z4, fun l hl h9 => hz l i hl hi (mkAll_sw h9)⟩
        · rintro j ρ hj ⟨hij, hLρ, hFρ, y3, y4, hy⟩ nextj
          have hGρ : GT ρ N m := hG.fr hFρ ⟨by omega, fun _ => by omega⟩
          refine B_X9_searchSecond_2 hLρ ?_
          rw [hGρ.1]
          refine ⟨fun h => absurd h (by omega), fun _ _ => S_make hLρ hI hGρ hi hj (fun ρ2 mem hLρ2 hFρ2 hmem hM => ⟨hLρ2, ?_⟩)⟩
          have hF2 : Fr frS2 (fun _ => False) σ ρ2 := hFρ.trans (hFρ2.mono (fun a k h9 => by omega) (fun _ h => h))
          have x3 : gI ρ2 31 3 = -1 := (hFρ2.i (by omega) (by omega)).trans y3
          have x4 : gI ρ2 31 4 = -1 := (hFρ2.i (by omega) (by omega)).trans y4
          rw [hM.1, (hFρ2.i (by omega) (by omega)).trans hGρ.1]
          refine ⟨fun hne => ⟨⟨by omega, by omega⟩, fun _ => nextj ρ2 ⟨by omega, hLρ2, hF2, x3, x4, fun l hl => ?_⟩⟩, fun he τ4 e4 τ5 e5 hL5 => ?_⟩
          · by_cases hlj : l = j
            · rw [hlj]; exact fun h9 => hne (by rw [hmem.all.mpr h9])
            · exact hy l (by omega)
          · subst e4 e5
            have q3 : gI (sI (sI ρ2 31 3 (i : Int)) 31 4 (j : Int)) 31 3 = (i : Int) := by simp [gI_sI]
            have q4 : gI (sI (sI ρ2 31 3 (i : Int)) 31 4 (j : Int)) 31 4 = (j : Int) := by simp [gI_sI]
            refine ⟨hL5, ⟨by omega, by omega⟩, fun _ => next _ ⟨hL5, (hF2.sI (by omega)).sI (by omega), .inr ⟨by rw [q3]; omega, ?_⟩⟩⟩
            unfold MkC
            rw [q3, q4]
            refine .inl ⟨i, j, rfl, rfl, hi, hj, hmem.all.mp (by omega), fun k' l' hk' hl' hlex => ?_⟩
            rcases hlex with h8 | ⟨rfl, h8⟩
            · exact hz k' l' h8 hl'
            · exact hy l' h8
        · rintro ρ ⟨hij, hLρ, hFρ, y3, y4, hy⟩
          have hGρ : GT ρ N m := hG.fr hFρ ⟨by omega, fun _ => by omega⟩
          refine B_X9_searchSecond_2 hLρ ?_
          rw [hGρ.1]
          refine ⟨fun _ _ => ⟨hLρ, ⟨by omega, by omega⟩, fun _ => next ρ ⟨hLρ, hFρ, .inl ⟨y3, y4, fun k l hk hl => ?_⟩⟩⟩, fun h9 => absurd (by omega) h9⟩
          by_cases hki : k = i
          · rw [hki]; exact hy l hl
          · exact hz k l (by omega) hl
      · exact absurd h9 hz.1
  · rintro τ ⟨hLτ, hF, hz⟩
    have hGτ : GT τ N m := hG.fr hF ⟨by omega, fun _ => by omega⟩
    refine B_X9_searchMakers_12 hLτ ?_
    rw [hGτ.1]
    refine ⟨fun _ _ => ?_, fun h9 => absurd (by omega) h9⟩
    rcases hz with ⟨z3, z4, hz⟩ | hz
    · refine h τ hLτ hF (.inr ⟨z3, z4, hz⟩)
    · exact h τ hLτ hF hz.2
end S84
