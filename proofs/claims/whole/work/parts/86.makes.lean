/-! ===== the reference's makes ===== -/
abbrev frN : Nat → Nat → Prop := fun a k => a = 2967 ∨ (a = 172 ∧ k = 41)
noncomputable def inOr (mem : List Nat) (e : Nat) : Int := if e ∈ mem then 1 else 0
def MemM (σ : Sg) (N : Nat) (mem : List Nat) : Prop := gI σ 172 41 = (mem.length : Int) ∧ ∀ e, e < N → gI σ 2967 e = inOr mem e
section S86
variable {E : Ev} {σ : Sg} {Q : NO → Sg → Prop} {g : Sg} {c t : Nat}
theorem inOr_1 {mem : List Nat} {e : Nat} (h : e ∈ mem) : inOr mem e = 1 := if_pos h
theorem inOr_0 {mem : List Nat} {e : Nat} (h : e ∉ mem) : inOr mem e = 0 := if_neg h
/-- one product more -/
theorem mk_one {N k l e w y : Nat} {x : Int} {mem : List Nat} (hL : Lay LM g c t σ) (hN : N ≤ 120) (hy : y < N) (hw : w < 2) (hM : MemM σ N mem) (hlen : mem.length ≤ 120)
    (K : ∀ τ, Lay LM g c t τ → Fr frN (fun _ => False) σ τ → MemM τ N (if y ∈ mem then mem else mem ++ [y]) → GG E mX12_makes 72 [some (vr 172), some (vi k), some (vi l), some (vi (if y ∈ mem then x else 1)), some (vi e), some (vi ((w + 1 : Nat) : Int)), none] [] τ 0 0 Q) :
    GG E mX12_makes 98 [some (vr 172), some (vi k), some (vi l), some (vi x), some (vi e), some (vi w), some (vi y)] [] σ 0 0 Q := by
  refine B_X12_makes_98 hL ?_
  rw [show ((y : Nat) : Int).toNat = y by omega, hM.2 y hy]
  by_cases hm : y ∈ mem
  · rw [inOr_1 hm]
    simp only [if_pos hm] at K
    exact ⟨⟨by omega, by omega⟩, fun _ => ⟨fun h9 => absurd h9 (by decide), fun _ => ⟨⟨by omega, by omega⟩, fun _ => K σ hL (Fr.refl _) hM⟩⟩⟩
  · rw [inOr_0 hm]
    simp only [if_neg hm] at K
    refine ⟨⟨by omega, by omega⟩, fun _ => ⟨fun _ τ3 e3 => ?_, fun h9 => absurd rfl h9⟩⟩
    have q3 : gI τ3 172 41 = (mem.length : Int) := by rw [e3, gI_sI, if_neg (by omega)]; exact hM.1
    rw [q3]
    refine ⟨⟨by omega, by omega⟩, fun τ5 e5 => ⟨⟨by omega, by omega⟩, fun hL5 => ?_⟩⟩
    subst e5 e3
    have hlen2 : (mem ++ [y]).length = mem.length + 1 := by simp
    refine K _ hL5 (((Fr.refl σ).sI (by omega)).sI (by omega)) ?_
    refine ⟨by rw [gI_sI, if_pos ⟨rfl, rfl⟩, hlen2]; rfl, fun z hz => ?_⟩
    rw [gI_sI, if_neg (by omega), gI_sI]
    by_cases hzy : z = y
    · rw [if_pos ⟨rfl, hzy⟩, inOr_1 (by rw [hzy]; simp)]
    · rw [if_neg (fun h9 => hzy h9.2), hM.2 z hz]
      by_cases hzm : z ∈ mem
      · rw [inOr_1 hzm, inOr_1 (List.mem_append.mpr (.inl hzm))]
      · rw [inOr_0 hzm, inOr_0 (fun h9 => by
          rcases List.mem_append.mp h9 with h9 | h9
          · exact hzm h9
          · exact hzy (List.mem_singleton.mp h9))]
theorem snoc_ok {N : Nat} {m : Nat → Nat → Nat} {k l : Nat} (mem : List Nat) (y : Nat) (hn : mem.Nodup) (hm : ∀ e, e ∈ mem → e < N ∧ inGen m k l e) (hy : y < N) (hg : inGen m k l y) (mem' : List Nat) (e : mem' = (if y ∈ mem then mem else mem ++ [y])) :
    mem'.Nodup ∧ (∀ e, e ∈ mem' → e < N ∧ inGen m k l e) ∧ (∀ e, e ∈ mem → e ∈ mem') ∧ y ∈ mem' ∧ mem.length ≤ mem'.length ∧ (y ∉ mem → mem.length < mem'.length) ∧ (y ∈ mem → mem' = mem) := by
  by_cases hym : y ∈ mem
  · rw [if_pos hym] at e
    subst e
    exact ⟨hn, hm, fun _ h => h, hym, Nat.le_refl _, fun h => absurd hym h, fun _ => rfl⟩
  · rw [if_neg hym] at e
    subst e
    refine ⟨?_, fun e he => ?_, fun e he => List.mem_append.mpr (.inl he), by simp, by simp, fun _ => by simp, fun h => absurd h hym⟩
    · rw [List.nodup_append]
      refine ⟨hn, by simp, fun a ha b hb => ?_⟩
      rw [List.mem_singleton] at hb
      subst hb
      exact fun e => hym (e ▸ ha)
    · rcases List.mem_append.mp he with he | he
      · exact hm e he
      · rw [List.mem_singleton] at he
        subst he; exact ⟨hy, hg⟩
theorem S_makes {N k l : Nat} {m : Nat → Nat → Nat} (hL : Lay LM g c t σ) (hI : IsG N m) (hG : MT σ N m) (hk : k < N) (hl : l < N)
    (h : ∀ τ mem, Lay LM g c t τ → Fr frN (fun _ => False) σ τ → IsMem N m k l mem → MemM τ N mem → Q (.inl none) τ) : CC E mX12_makes [vr 172, vi k, vi l] σ Q := by
  have n120 := hG.2.1
  have main : ∀ (n : Nat) (mem : List Nat) (τ : Sg), N - mem.length = n → Lay LM g c t τ → Fr frN (fun _ => False) σ τ → MemM τ N mem → mem.Nodup → 0 ∈ mem → (∀ e, e ∈ mem → e < N ∧ inGen m k l e) → GG E mX12_makes 38 [some (vr 172), some (vi k), some (vi l), some (vi 1), none, none, none] [] τ 0 0 Q := by
    intro n
    induction n using Nat.strongRecOn with
    | _ n ih =>
      intro mem0 τ hle hLτ hF hM0 hn0 h00 hmem0
      refine B_X12_makes_38 hLτ ⟨fun h9 => absurd h9 (by decide), fun _ _ => ?_⟩
      refine loopU (N := N) (G := fun i τ => ∀ (x : Int) (mem : List Nat), (Lay LM g c t τ ∧ Fr frN (fun _ => False) σ τ ∧ MemM τ N mem ∧ mem.Nodup ∧ 0 ∈ mem ∧ (∀ e, e ∈ mem → e < N ∧ inGen m k l e) ∧ (x = 0 ∨ x = 1) ∧ (mem0.length ≤ mem.length ∧ (x = 1 → mem0.length < mem.length)) ∧ (x = 0 → ∀ e, e < i → e ∈ mem → m e k ∈ mem ∧ m e l ∈ mem)) → GG E mX12_makes 47 [some (vr 172), some (vi k), some (vi l), some (vi x), some (vi i), none, none] [] τ 0 0 Q) (P := fun _ _ => True) ?_ ?_ 0 τ (by omega) trivial 0 mem0 ⟨hLτ, hF, hM0, hn0, h00, hmem0, .inl rfl, ⟨Nat.le_refl _, fun h9 => absurd h9 (by decide)⟩, fun _ e he => absurd he (by omega)⟩
      · rintro i ρ hi _ next x mem ⟨hLρ, hFρ, hM, hn, h0, hmem, hx, ⟨hx2, hx1⟩, hx0⟩
        have hlen := nodup_le hn (fun e he => (hmem e he).1)
        have hGρ : MT ρ N m := hG.fr hFρ ⟨by omega, fun _ _ _ _ => by omega⟩
        refine B_X12_makes_47 hLρ ?_
        rw [hGρ.1, show ((i : Nat) : Int).toNat = i by omega, hM.2 i hi]
        by_cases him : i ∈ mem
        · rw [inOr_1 him]
          refine ⟨fun h => absurd h (by omega), fun _ => ⟨⟨by omega, by omega⟩, fun _ => ⟨fun _ _ => ?_, fun h9 => absurd h9 (by decide)⟩⟩⟩
          have yk := hI.2.1 _ _ hi hk
          have yl := hI.2.1 _ _ hi hl
          have gi := (hmem i him).2
          refine B_X12_makes_72 hLρ ?_
          rw [show ((i : Nat) : Int).toNat = i by omega, show ((k : Nat) : Int).toNat = k by omega, hGρ.2.2 i k hi hk]
          refine ⟨fun h => absurd h (by omega), fun _ => ⟨⟨by omega, by omega⟩, fun h9 => absurd rfl h9, fun _ => ⟨⟨by omega, by omega⟩, fun _ => ?_⟩⟩⟩
          refine mk_one (w := 0) hLρ n120 yk (by omega) hM (by omega) (fun χ hLχ hFχ hMχ => ?_)
          obtain ⟨n1, m1, i1, y1, l1, s1, e1⟩ := snoc_ok mem _ hn hmem yk (inGen_k gi) _ rfl
          generalize hme1 : (if m i k ∈ mem then mem else mem ++ [m i k]) = mem1 at *
          have hlen1 := nodup_le n1 (fun e he => (m1 e he).1)
          have hGχ : MT χ N m := hGρ.fr hFχ ⟨by omega, fun _ _ _ _ => by omega⟩
          refine B_X12_makes_72 hLχ ?_
          rw [show ((i : Nat) : Int).toNat = i by omega, show ((l : Nat) : Int).toNat = l by omega, hGχ.2.2 i l hi hl]
          refine ⟨fun h => absurd h (by omega), fun _ => ⟨⟨by omega, by omega⟩, fun _ => ⟨⟨by omega, by omega⟩, fun _ => ?_⟩, fun h9 => absurd h9 (by decide)⟩⟩
          refine mk_one (w := 1) hLχ n120 yl (by omega) hMχ (by omega) (fun ψ hLψ hFψ hMψ => ?_)
          obtain ⟨n2, m2, i2, y2, l2, s2, e2⟩ := snoc_ok mem1 _ n1 m1 yl (inGen_l gi) _ rfl
          generalize hme2 : (if m i l ∈ mem1 then mem1 else mem1 ++ [m i l]) = mem2 at *
          have hxx : (if m i l ∈ mem1 then (if m i k ∈ mem then x else 1) else 1) = (0 : Int) ∨ (if m i l ∈ mem1 then (if m i k ∈ mem then x else 1) else 1) = (1 : Int) := by
            split
            · split
              · exact hx
              · exact .inr rfl
            · exact .inr rfl
          refine B_X12_makes_72 hLψ ⟨fun _ => ⟨⟨by omega, by omega⟩, fun _ => ?_⟩, fun h9 => absurd (by omega) h9⟩
          refine next ψ trivial _ mem2 ⟨hLψ, (hFρ.trans hFχ).trans hFψ, hMψ, n2, i2 _ (i1 _ h0), m2, hxx, ⟨by omega, fun h9 => ?_⟩, fun h9 e he hem => ?_⟩
          · by_cases c2 : m i l ∈ mem1
            · rw [if_pos c2] at h9
              by_cases c1 : m i k ∈ mem
              · rw [if_pos c1] at h9
                have := hx1 h9
                omega
              · have := s1 c1
                omega
            · have := s2 c2
              omega
          · by_cases c2 : m i l ∈ mem1
            · rw [if_pos c2] at h9
              by_cases c1 : m i k ∈ mem
              · rw [if_pos c1] at h9
                have em1 := e1 c1
                have em2 := e2 c2
                rw [em2, em1] at hem ⊢
                by_cases hei : e = i
                · rw [hei]
                  exact ⟨c1, by rw [em1] at c2; exact c2⟩
                · exact hx0 h9 e (by omega) hem
              · rw [if_neg c1] at h9; exact absurd h9 (by decide)
            · rw [if_neg c2] at h9; exact absurd h9 (by decide)
        · rw [inOr_0 him]
          refine ⟨fun h => absurd h (by omega), fun _ => ⟨⟨by omega, by omega⟩, fun _ => ⟨fun h9 => absurd rfl h9, fun _ => ⟨⟨by omega, by omega⟩, fun _ => ?_⟩⟩⟩⟩
          refine next ρ trivial x mem ⟨hLρ, hFρ, hM, hn, h0, hmem, hx, ⟨hx2, hx1⟩, fun h9 e he hem => ?_⟩
          by_cases hei : e = i
          · rw [hei] at hem; exact absurd hem him
          · exact hx0 h9 e (by omega) hem
      · rintro ρ _ x mem ⟨hLρ, hFρ, hM, hn, h0, hmem, hx, ⟨hx2, hx1⟩, hx0⟩
        have hlen := nodup_le hn (fun e he => (hmem e he).1)
        have hGρ : MT ρ N m := hG.fr hFρ ⟨by omega, fun _ _ _ _ => by omega⟩
        refine B_X12_makes_47 hLρ ?_
        rw [hGρ.1]
        refine ⟨fun _ _ => ?_, fun h9 => absurd (by omega) h9⟩
        rcases hx with rfl | rfl
        · refine B_X12_makes_38 hLρ ⟨fun _ _ => h ρ mem hLρ hFρ ⟨hn, fun e => ⟨hmem e, fun he => ?_⟩⟩ hM, fun h9 => absurd rfl h9⟩
          exact (inGen_in (p := fun e => e < N ∧ e ∈ mem) ⟨hI.1, h0⟩ (fun y hy => ⟨⟨hI.2.1 _ _ hy.1 hk, (hx0 rfl y hy.1 hy.2).1⟩, ⟨hI.2.1 _ _ hy.1 hl, (hx0 rfl y hy.1 hy.2).2⟩⟩) he.2).2
        · have := hx1 rfl
          exact ih (N - mem.length) (by omega) mem ρ rfl hLρ hFρ hM hn h0 hmem
  refine C_X12_makes (B_X12_makes_0 hL (fun _ => ?_))
  refine loopU (N := N) (G := fun i τ => GG E mX12_makes 2 [some (vr 172), some (vi k), some (vi l), some (vi i), none, none, none] [] τ 0 0 Q) (P := fun i τ => Lay LM g c t τ ∧ Fr frN (fun _ => False) σ τ ∧ ∀ e, e < i → gI τ 2967 e = inOr [0] e) ?_ ?_ 0 σ (by omega) ⟨hL, Fr.refl _, fun e he => absurd he (by omega)⟩
  · rintro i τ hi ⟨hLτ, hF, hz⟩ next
    have hGτ : MT τ N m := hG.fr hF ⟨by omega, fun _ _ _ _ => by omega⟩
    refine B_X12_makes_2 hLτ ?_
    rw [hGτ.1]
    refine ⟨fun h => absurd h (by omega), fun _ => ⟨fun h0 => ⟨⟨by omega, by omega⟩, fun τ3 e3 => ⟨⟨by omega, by omega⟩, fun hL3 => ?_⟩⟩, fun h0 => ⟨⟨by omega, by omega⟩, fun τ3 e3 => ⟨⟨by omega, by omega⟩, fun hL3 => ?_⟩⟩⟩⟩
    all_goals
      rw [show ((i : Nat) : Int).toNat = i by omega] at e3
      subst e3
      refine next _ ⟨hL3, hF.sI (by omega), fun e he => ?_⟩
      rw [gI_sI]
      by_cases hei : e = i
      · rw [if_pos ⟨rfl, hei⟩, hei]
        first
          | rw [inOr_0 (by simp; omega)]
          | rw [inOr_1 (by simp; omega)]
      · rw [if_neg (fun h9 => hei h9.2)]; exact hz e (by omega)
  · rintro τ ⟨hLτ, hF, hz⟩
    have hGτ : MT τ N m := hG.fr hF ⟨by omega, fun _ _ _ _ => by omega⟩
    refine B_X12_makes_2 hLτ ?_
    rw [hGτ.1]
    refine ⟨fun _ τ1 e1 hL1 => ?_, fun h9 => absurd (by omega) h9⟩
    subst e1
    exact main _ [0] _ rfl hL1 (hF.sI (by omega)) ⟨by rw [gI_sI, if_pos ⟨rfl, rfl⟩]; rfl, fun e he => by rw [gI_sI, if_neg (by omega)]; exact hz e he⟩ (by simp) (by simp) (fun e he => by rw [List.mem_singleton] at he; subst he; exact ⟨hI.1, inGen_0 m k l⟩)
end S86
