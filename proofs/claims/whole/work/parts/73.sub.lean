/-! ===== fewer told turns close too; tuns told: conditions ===== -/
theorem sub_run {D : Int} {told els told' : List (List Int)} (hC : Clo D told els) (hs : ∀ u, u < told'.length → ∃ w, w < told.length ∧ told'.getD u [] = told.getD w []) : ∀ (f : Nat) (els' : List (List Int)) (i u : Nat),
    els'.Nodup → (∀ k, k < els'.length → els'.getD k [] ∈ els) → ∀ r, clRun D told' f els' i u ≠ some (.inl r) := by
  intro f
  induction f with
  | zero => intro els' i u _ _ r h; cases h
  | succ f ih =>
    intro els' i u hn hm r h
    unfold clRun at h
    split at h
    · cases h
    · rename_i hi
      split at h
      · exact ih _ _ _ hn hm r h
      · rename_i hu
        obtain ⟨m, hm1, hm2⟩ := mem_getD.mp (hm i (by omega))
        obtain ⟨w, hw1, hw2⟩ := hs u (by omega)
        obtain ⟨m2, q1, q2⟩ := hC.2.2.2.2.2.1 m w hm1 hw1
        rw [hm2, ← hw2] at q2
        have hv : els.getD m2 [] ∈ els := mem_getD.mpr ⟨m2, q1, rfl⟩
        unfold clStep at h
        rw [q2] at h
        dsimp only at h
        generalize els.getD m2 [] = v at h hv
        by_cases hve : v ∈ els'
        · rw [if_pos hve] at h
          exact ih _ _ _ hn hm r h
        · rw [if_neg hve] at h
          have hn2 : (els' ++ [v]).Nodup := by
            rw [List.nodup_append]
            refine ⟨hn, by simp, fun a ha b hb => ?_⟩
            rw [List.mem_singleton] at hb
            subst hb
            exact fun e => hve (e ▸ ha)
          have hsub : (els' ++ [v]) ⊆ els := by
            intro x hx
            rw [List.mem_append] at hx
            rcases hx with hx | hx
            · obtain ⟨k, hk, e⟩ := mem_getD.mp hx
              rw [← e]; exact hm k hk
            · rw [List.mem_singleton] at hx
              rw [hx]; exact hv
          have hle := hn2.length_le_of_subset hsub
          have h120 := hC.1
          rw [List.length_append, List.length_singleton] at hle
          rw [if_neg (by omega)] at h
          refine ih _ _ _ hn2 (fun k hk => ?_) r h
          exact hsub (mem_getD.mpr ⟨k, hk, rfl⟩)
theorem clos_sub {D : Int} {told els told' : List (List Int)} (hC : Clo D told els) (h4 : told'.length ≤ 4) (hs : ∀ u, u < told'.length → ∃ w, w < told.length ∧ told'.getD u [] = told.getD w []) : ∃ els', clos D told' = some (.inr els') := by
  have h1 : ∀ r, clos D told' ≠ some (.inl r) := fun r => sub_run hC hs 700 [oneL] 0 0 (by decide) (fun k hk => by
    have : k = 0 := by simp at hk; omega
    subst this
    exact mem_getD.mpr ⟨0, hC.2.1, hC.2.2.1⟩) r
  have h2 : clos D told' ≠ none := clRun_ends D told' h4 700 [oneL] 0 0 (by decide) (by omega) (by omega)
  match h : clos D told' with
  | none => exact absurd h h2
  | some (.inl r) => exact absurd h (h1 r)
  | some (.inr e) => exact ⟨e, rfl⟩
theorem clos_ends {D : Int} {told : List (List Int)} (h4 : told.length ≤ 4) : ∃ r, clos D told = some r := by
  have h2 : clos D told ≠ none := clRun_ends D told h4 700 [oneL] 0 0 (by decide) (by omega) (by omega)
  match h : clos D told with
  | none => exact absurd h h2
  | some r => exact ⟨r, rfl⟩
/-- what holds of told turns, their elements, the past -/
def tolds (D : Int) (told : List (List Int)) : Prop := told.length ≤ 4 ∧ ∀ u, u < told.length → isTL D (told.getD u [])
def OKs (D : Int) (told els : List (List Int)) (past : List (List (List Int))) : Prop :=
  (D = 2 ∨ D = 3 ∨ D = 5) ∧ tolds D told ∧ clos D told = some (.inr els) ∧ past.length ≤ 8 ∧ ∀ i, i < past.length → tolds D (past.getD i []) ∧ ∃ e, clos D (past.getD i []) = some (.inr e)
theorem OKs.clo {D : Int} {told els : List (List Int)} {past : List (List (List Int))} (h : OKs D told els past) : Clo D told els := clos_Clo h.2.1.2 h.2.2.1
/-- the past with what is told now -/
def keepP (past : List (List (List Int))) (told : List (List Int)) : List (List (List Int)) := (if 8 ≤ past.length then past.tail else past) ++ [told]
theorem getD_tail {past : List (List (List Int))} {i : Nat} : past.tail.getD i [] = past.getD (i + 1) [] := by
  cases past with
  | nil => rfl
  | cons a l => rfl
theorem getD_app9' {l m : List (List (List Int))} {k : Nat} (h : k < l.length) : (l ++ m).getD k [] = l.getD k [] := by
  rw [List.getD_eq_getElem?_getD, List.getD_eq_getElem?_getD, List.getElem?_append_left h]
theorem getD_last9' {l : List (List (List Int))} {v : List (List Int)} : (l ++ [v]).getD l.length [] = v := by
  rw [List.getD_eq_getElem?_getD, List.getElem?_append_right (Nat.le_refl _), Nat.sub_self]; rfl
theorem OKs.keep {D : Int} {told els told' els' : List (List Int)} {past : List (List (List Int))} (h : OKs D told els past) (ht : tolds D told') (hc : clos D told' = some (.inr els')) : OKs D told' els' (keepP past told) := by
  obtain ⟨h1, h2, h3, h4, h5⟩ := h
  refine ⟨h1, ht, hc, ?_, fun i hi => ?_⟩
  · unfold keepP
    rw [List.length_append, List.length_singleton]
    split
    · rw [List.length_tail]; omega
    · omega
  · unfold keepP at hi ⊢
    rw [List.length_append, List.length_singleton] at hi
    by_cases h8 : 8 ≤ past.length
    · rw [if_pos h8] at hi ⊢
      rw [List.length_tail] at hi
      by_cases hil : i < past.tail.length
      · rw [getD_app9' hil, getD_tail]
        rw [List.length_tail] at hil
        exact h5 (i + 1) (by omega)
      · have : i = past.tail.length := by rw [List.length_tail] at hil ⊢; omega
        rw [this, getD_last9']
        exact ⟨h2, els, h3⟩
    · rw [if_neg h8] at hi ⊢
      by_cases hil : i < past.length
      · rw [getD_app9' hil]; exact h5 i hil
      · have : i = past.length := by omega
        rw [this, getD_last9']
        exact ⟨h2, els, h3⟩
theorem eraseIdx_getD {told : List (List Int)} {k : Nat} (hk : k < told.length) {u : Nat} (hu : u < (told.eraseIdx k).length) : (told.eraseIdx k).getD u [] = told.getD (if u < k then u else u + 1) [] := by
  rw [List.length_eraseIdx_of_lt hk] at hu
  rw [List.getD_eq_getElem?_getD, List.getD_eq_getElem?_getD, List.getElem?_eraseIdx]
  split <;> rfl
theorem OKs.drop {D : Int} {told els : List (List Int)} {past : List (List (List Int))} (h : OKs D told els past) {k : Nat} (hk : k < told.length) : tolds D (told.eraseIdx k) ∧ ∃ els', clos D (told.eraseIdx k) = some (.inr els') := by
  have hl := List.length_eraseIdx_of_lt hk
  have h4 := h.2.1.1
  have ht : tolds D (told.eraseIdx k) := ⟨by omega, fun u hu => by rw [eraseIdx_getD hk hu]; exact h.2.1.2 _ (by split <;> omega)⟩
  refine ⟨ht, clos_sub h.clo (by omega) (fun u hu => ⟨if u < k then u else u + 1, by split <;> omega, eraseIdx_getD hk hu⟩)⟩
theorem OKs.undo {D : Int} {told els : List (List Int)} {past : List (List (List Int))} (h : OKs D told els past) (hp : 0 < past.length) : ∃ els', OKs D (past.getD (past.length - 1) []) els' past.dropLast := by
  obtain ⟨h1, h2, h3, h4, h5⟩ := h
  obtain ⟨q1, e, q2⟩ := h5 (past.length - 1) (by omega)
  refine ⟨e, h1, q1, q2, by rw [List.length_dropLast]; omega, fun i hi => ?_⟩
  rw [List.length_dropLast] at hi
  have : past.dropLast.getD i [] = past.getD i [] := by
    rw [List.getD_eq_getElem?_getD, List.getD_eq_getElem?_getD, List.getElem?_dropLast, if_pos hi]
  rw [this]
  exact h5 i (by omega)
/-- the group that two make -/
def inGen (m : Nat → Nat → Nat) (k l e : Nat) : Prop := ∃ w : List Bool, e = w.foldl (fun x b => m x (if b then k else l)) 0
def mkAll (N : Nat) (m : Nat → Nat → Nat) (k l : Nat) : Prop := ∀ e, e < N → inGen m k l e
/-- the first two that make all -/
def IsMk (N : Nat) (m : Nat → Nat → Nat) (a b : Int) : Prop :=
  (∃ k l : Nat, a = k ∧ b = l ∧ k < N ∧ l < N ∧ mkAll N m k l ∧ ∀ k' l', k' < N → l' < N → (k' < k ∨ (k' = k ∧ l' < l)) → ¬ mkAll N m k' l') ∨ (a = -1 ∧ b = -1 ∧ ∀ k l, k < N → l < N → ¬ mkAll N m k l)
def MkC (σ : Sg) (N : Nat) (m : Nat → Nat → Nat) : Prop := IsMk N m (gI σ 31 3) (gI σ 31 4)
/-- rows that change places stay apart -/
def JC0 (σ : Sg) : Prop := ∀ a, a = 36 ∨ a = 69 ∨ a = 108 → ∀ i j, i < 12 → j < 12 → gR σ a i = gR σ a j → i = j
/-- and all that lies in rows that are worked upon is small -/
def JC (σ : Sg) : Prop := JC0 σ ∧ ∀ a j, (70 ≤ a ∧ a < 82 ∧ j < 12) ∨ (109 ≤ a ∧ a < 121 ∧ j < 24) → 0 ≤ gI σ a j ∧ gI σ a j ≤ 241
theorem JC0.fr {W : Nat → Nat → Prop} {V : Nat → Prop} {σ τ : Sg} (h : JC0 σ) (k : Fr W V σ τ) (w : ¬ V 36 ∧ ¬ V 69 ∧ ¬ V 108) : JC0 τ := fun a ha i j hi hj e => by
  have q : ∀ n, gR τ a n = gR σ a n := fun n => by
    rcases ha with rfl | rfl | rfl
    · exact k.r (by omega) w.1
    · exact k.r (by omega) w.2.1
    · exact k.r (by omega) w.2.2
  rw [q, q] at e
  exact h a ha i j hi hj e
theorem JC.fr {W : Nat → Nat → Prop} {V : Nat → Prop} {σ τ : Sg} (h : JC σ) (k : Fr W V σ τ) (w : ¬ V 36 ∧ ¬ V 69 ∧ ¬ V 108) (w2 : ∀ a j, (70 ≤ a ∧ a < 82) ∨ (109 ≤ a ∧ a < 121) → ¬ W a j) : JC τ :=
  ⟨h.1.fr k w, fun a j ha => by
    rw [k.i (by omega) (w2 a j (by omega))]
    exact h.2 a j ha⟩
/-- the class's cells hold this state -/
def CI (K : Int → List (List Int) → Sg → Prop) (g : Sg) (c t : Nat) (τ : Sg) (D : Int) (told els : List (List Int)) (past : List (List (List Int))) (B : List Int) (F : Int) (W R : Nat → Int) : Prop :=
  Lay LC g c t τ ∧ CloT τ c D told ∧ CloE τ c D els ∧ GAll τ D els ∧ PastC τ D past ∧ TapeC τ B ∧ gI τ 16 16 = F ∧ (∀ i, i < 4 → gI τ 156 i = W i) ∧ RfC τ R ∧ (JC τ ∧ (gI τ 16 14 = 0 ∨ (gI τ 16 14 = 1 ∧ K D els τ))) ∧ (gI τ 16 15 = 0 ∨ (gI τ 16 15 = 1 ∧ MkC τ els.length (gmt D els)))
theorem CI.j {K : Int → List (List Int) → Sg → Prop} {g : Sg} {c t : Nat} {τ : Sg} {D : Int} {told els : List (List Int)} {past : List (List (List Int))} {B : List Int} {F : Int} {W R : Nat → Int} (h : CI K g c t τ D told els past B F W R) : JC τ := h.2.2.2.2.2.2.2.2.2.1.1
/-- what lasts beside the characters' cells doesn't matter to K -/
def KF (K : Int → List (List Int) → Sg → Prop) : Prop := ∀ D els σ τ, Fr (fun a _ => a < 34 ∨ (53 ≤ a ∧ a < 125) ∨ 152 ≤ a) (fun a => a < 34 ∨ (53 ≤ a ∧ a < 125) ∨ 152 ≤ a) σ τ → K D els σ → K D els τ
