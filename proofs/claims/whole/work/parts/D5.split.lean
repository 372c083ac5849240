/-! ===== spaces come apart by a class ===== -/
/-- spaces: where each starts, how many rows; whose it is -/
def BST (p r : Nat) (om : Nat → Nat → Int) (row : Nat → Nat → Int) (sp : Nat → Int) (own : Nat → Nat) : Prop :=
  (∀ i, i < r → own i < r ∧ 0 < sp (own i)) ∧ (∀ u, u < r → 0 ≤ sp u) ∧
  ∀ u, u < r → 0 < sp u → ∃ n : Nat, sp u = n ∧ u + n ≤ r ∧ n = cn (fun i => own i = u) r ∧ (∀ v, u < v → v < u + n → sp v = 0) ∧ ∃ col, ECH p r n (fun s j => row (u + s) j) col ∧ ANB p r n (fun s j => row (u + s) j) (fun i => own i = u) om
/-- how many of a space have less, just so much -/
noncomputable def offN (r : Nat) (om : Nat → Nat → Int) (cls : Nat) (B : Nat → Prop) (y : Int) : Nat := cn (fun i => B i ∧ om i cls < y) r
noncomputable def cntN (r : Nat) (om : Nat → Nat → Int) (cls : Nat) (B : Nat → Prop) (y : Int) : Nat := cn (fun i => B i ∧ om i cls = y) r
section SD5
variable {p r cls : Nat} {om ev : Nat → Nat → Int} {B : Nat → Prop}
theorem off_s (y : Int) : offN r om cls B (y + 1) = offN r om cls B y + cntN r om cls B y := by
  unfold offN cntN
  rw [← cn_or]
  · exact cn_ext r (fun k hk => ⟨fun h => by
      by_cases hy : om k cls = y
      · exact .inr ⟨h.1, hy⟩
      · exact .inl ⟨h.1, by omega⟩, fun h => by
      rcases h with h | h
      · exact ⟨h.1, by omega⟩
      · exact ⟨h.1, by omega⟩⟩)
  · rintro k hk ⟨h1, h2⟩
    omega
theorem cn_mono {P Q : Nat → Prop} : ∀ n, (∀ k, k < n → P k → Q k) → cn P n ≤ cn Q n := by
  intro n
  induction n with
  | zero => intro _; exact Nat.le_refl _
  | succ n ih =>
    intro h
    have := ih (fun k hk => h k (by omega))
    rw [cn_s, cn_s]
    by_cases hP : P n
    · rw [if_pos hP, if_pos (h n (by omega) hP)]; omega
    · rw [if_neg hP]; split <;> omega
theorem off_mono {x y : Int} (h : x ≤ y) : offN r om cls B x ≤ offN r om cls B y := cn_mono r (fun k _ hk => ⟨hk.1, by omega⟩)
theorem off_le (y : Int) : offN r om cls B y ≤ cn B r := cn_mono r (fun k _ hk => hk.1)
theorem off_cnt {x y : Int} (h : x < y) : offN r om cls B x + cntN r om cls B x ≤ offN r om cls B y := by
  rw [← off_s]; exact off_mono (by omega)
theorem off_cnt_le (x : Int) : offN r om cls B x + cntN r om cls B x ≤ cn B r := by
  rw [← off_s]; exact off_le _
theorem cnt_pos {i : Nat} (hi : i < r) (hB : B i) : 0 < cntN r om cls B (om i cls) := by
  have : cn (fun k => k = i) r ≤ cntN r om cls B (om i cls) := cn_mono r (fun k _ hk => by rw [hk]; exact ⟨hB, rfl⟩)
  have e1 : cn (fun k => k = i) r = 1 := cn_one (P := fun k => k = i) r i hi rfl (fun k _ hk => hk)
  omega
/-- which number lies at a place -/
theorem off_at {n : Nat} : ∀ (x : Nat) (v : Nat), v < offN r om cls B (x : Int) → (∀ i, i < r → B i → 0 ≤ om i cls) → n = offN r om cls B (x : Int) → ∃ y : Nat, y < x ∧ offN r om cls B (y : Int) ≤ v ∧ v < offN r om cls B (y : Int) + cntN r om cls B (y : Int) := by
  intro x
  induction x generalizing n with
  | zero =>
    intro v hv h0 _
    have : offN r om cls B ((0 : Nat) : Int) = 0 := cn_0 r (fun k hk h9 => by have := h0 k hk h9.1; omega)
    omega
  | succ x ih =>
    intro v hv h0 _
    have e := off_s (r := r) (om := om) (cls := cls) (B := B) (x : Int)
    rw [show ((x + 1 : Nat) : Int) = (x : Int) + 1 by omega] at hv
    by_cases hlt : v < offN r om cls B (x : Int)
    · obtain ⟨y, y1, y2, y3⟩ := ih (n := offN r om cls B (x : Int)) v hlt h0 rfl
      exact ⟨y, by omega, y2, y3⟩
    · exact ⟨x, by omega, by omega, by omega⟩
/-- where a row's space lies behind -/
noncomputable def ownN (r : Nat) (om : Nat → Nat → Int) (cls t : Nat) (own : Nat → Nat) (i : Nat) : Nat := if own i = t then t + offN r om cls (fun i => own i = t) (om i cls) else own i
theorem bst_split {row row' : Nat → Nat → Int} {sp sp' : Nat → Int} {own : Nat → Nat} {t n : Nat} (h : BST p r om row sp own) (hom : ∀ i a, i < r → a < r → 0 ≤ om i a ∧ om i a < (p : Int)) (hc : cls < r) (ht : t < r) (hn : sp t = n) (hn0 : 0 < n)
    (hrow : ∀ u j, u < r → (u < t ∨ t + n ≤ u) → row' u j = row u j) (hsp : ∀ u, u < r → (u < t ∨ t + n ≤ u) → sp' u = sp u)
    (hpl : ∀ y : Nat, y < p → 0 < cntN r om cls (fun i => own i = t) (y : Int) → sp' (t + offN r om cls (fun i => own i = t) (y : Int)) = cntN r om cls (fun i => own i = t) (y : Int) ∧ (∀ v, offN r om cls (fun i => own i = t) (y : Int) < v → v < offN r om cls (fun i => own i = t) (y : Int) + cntN r om cls (fun i => own i = t) (y : Int) → sp' (t + v) = 0) ∧ ∃ col, ECH p r (cntN r om cls (fun i => own i = t) (y : Int)) (fun s j => row' (t + (offN r om cls (fun i => own i = t) (y : Int) + s)) j) col ∧ ANB p r (cntN r om cls (fun i => own i = t) (y : Int)) (fun s j => row' (t + (offN r om cls (fun i => own i = t) (y : Int) + s)) j) (fun i => own i = t ∧ om i cls = y) om) :
    BST p r om row' sp' (ownN r om cls t own) := by
  obtain ⟨h1, h2, h3⟩ := h
  obtain ⟨n1, e1, e2, e3, e4, e5⟩ := h3 t ht (by omega)
  have hnn : n1 = n := by omega
  subst hnn
  generalize hB : (fun i => own i = t) = B at *
  have Bi : ∀ i, B i ↔ own i = t := fun i => by rw [← hB]
  have full : offN r om cls B (p : Int) = n1 := by
    rw [e3]
    exact cn_ext r (fun k hk => ⟨fun h9 => h9.1, fun h9 => ⟨h9, (hom k cls hk hc).2⟩⟩)
  have nat9 : ∀ i, i < r → ∃ y : Nat, om i cls = y ∧ y < p := fun i hi => ⟨(om i cls).toNat, by have := hom i cls hi hc; omega, by have := hom i cls hi hc; omega⟩
  have lt9 : ∀ i, i < r → B i → offN r om cls B (om i cls) + cntN r om cls B (om i cls) ≤ n1 ∧ 0 < cntN r om cls B (om i cls) := fun i hi hBi => ⟨by rw [e3]; exact off_cnt_le _, cnt_pos hi hBi⟩
  have own9 : ∀ i, own i = t → ownN r om cls t own i = t + offN r om cls B (om i cls) := fun i hi => by unfold ownN; rw [if_pos hi, hB]
  have own0 : ∀ i, own i ≠ t → ownN r om cls t own i = own i := fun i hi => if_neg hi
  -- a space beside this one
  have side : ∀ u, u < r → 0 < sp u → u ≠ t → u < t ∨ t + n1 ≤ u := fun u hu hsu hut => by
    by_cases h9 : u < t
    · exact .inl h9
    · by_cases h8 : t + n1 ≤ u
      · exact .inr h8
      · have := e4 u (by omega) (by omega)
        omega
  refine ⟨fun i hi => ?_, fun u hu => ?_, fun u hu hsu => ?_⟩
  · by_cases hi2 : own i = t
    · rw [own9 i hi2]
      obtain ⟨l1, l2⟩ := lt9 i hi ((Bi i).mpr hi2)
      obtain ⟨y, ey, yp⟩ := nat9 i hi
      rw [ey] at l1 l2 ⊢
      have := (hpl y yp l2).1
      exact ⟨by omega, by rw [this]; omega⟩
    · rw [own0 i hi2]
      have a := h1 i hi
      exact ⟨a.1, by rw [hsp _ a.1 (side _ a.1 a.2 hi2)]; exact a.2⟩
  · by_cases hu2 : u < t ∨ t + n1 ≤ u
    · rw [hsp u hu hu2]; exact h2 u hu
    · obtain ⟨y, y1, y2, y3⟩ := off_at (r := r) (om := om) (cls := cls) (B := B) (n := n1) p (u - t) (by omega) (fun i hi _ => (hom i cls hi hc).1) full.symm
      have hp := hpl y y1 (by omega)
      by_cases hv : u - t = offN r om cls B (y : Int)
      · rw [show u = t + offN r om cls B (y : Int) by omega, hp.1]; omega
      · have := hp.2.1 (u - t) (by omega) y3
        rw [show t + (u - t) = u by omega] at this
        omega
  · by_cases hu2 : u < t ∨ t + n1 ≤ u
    · rw [hsp u hu hu2] at hsu ⊢
      obtain ⟨n, f1, f2, f3, f4, col, f5, f6⟩ := h3 u hu hsu
      have hdis : ∀ s, s < n → u + s < r ∧ (u + s < t ∨ t + n1 ≤ u + s) := fun s hs => by
        refine ⟨by omega, ?_⟩
        rcases hu2 with h9 | h9
        · by_cases h8 : u + s < t
          · exact .inl h8
          · have := f4 t h9 (by omega)
            omega
        · exact .inr (by omega)
      have hown : ∀ i, i < r → (ownN r om cls t own i = u ↔ own i = u) := fun i hi => by
        by_cases hi2 : own i = t
        · rw [own9 i hi2]
          obtain ⟨l1, l2⟩ := lt9 i hi ((Bi i).mpr hi2)
          constructor
          · intro h9; omega
          · intro h9; omega
        · rw [own0 i hi2]
      have hr9 : ∀ s j, s < n → row' (u + s) j = row (u + s) j := fun s j hs => hrow _ j (hdis s hs).1 (hdis s hs).2
      refine ⟨n, f1, f2, by rw [f3]; exact cn_ext r (fun k hk => (hown k hk).symm), fun v hv1 hv2 => ?_, col, ⟨fun s j hs hj => ?_, fun s hs => ?_⟩, fun y => ?_⟩
      · have := hdis (v - u) (by omega)
        rw [show u + (v - u) = v by omega] at this
        rw [hsp v this.1 this.2]; exact f4 v hv1 hv2
      · show 0 ≤ row' (u + s) j ∧ row' (u + s) j < _
        rw [hr9 s j hs]; exact f5.1 s j hs hj
      · obtain ⟨g1, g2, g3, g4⟩ := f5.2 s hs
        refine ⟨g1, ?_, fun j hj => ?_, fun e he hes => ?_⟩
        · show row' (u + s) _ = 1
          rw [hr9 s _ hs]; exact g2
        · show row' (u + s) j = 0
          rw [hr9 s j hs]; exact g3 j hj
        · show row' (u + e) _ = 0
          rw [hr9 e _ he]; exact g4 e he hes
      · rw [SlR.cg (A' := fun s j => row (u + s) j) (fun s j hs _ => hr9 s j hs) y, f6 y]
        exact ⟨fun h9 i hi hi2 => h9 i hi ((hown i hi).mp hi2), fun h9 i hi hi2 => h9 i hi ((hown i hi).mpr hi2)⟩
    · obtain ⟨y, y1, y2, y3⟩ := off_at (r := r) (om := om) (cls := cls) (B := B) (n := n1) p (u - t) (by omega) (fun i hi _ => (hom i cls hi hc).1) full.symm
      obtain ⟨g1, g2, col, g3, g4⟩ := hpl y y1 (by omega)
      have hv : u - t = offN r om cls B (y : Int) := by
        apply Classical.byContradiction
        intro h9
        have := g2 (u - t) (by omega) y3
        rw [show t + (u - t) = u by omega] at this
        omega
      have hu3 : u = t + offN r om cls B (y : Int) := by omega
      have hcl := off_cnt_le (r := r) (om := om) (cls := cls) (B := B) (y : Int)
      rw [← e3] at hcl
      have hown : ∀ i, i < r → (ownN r om cls t own i = u ↔ (B i ∧ om i cls = y)) := fun i hi => by
        by_cases hi2 : own i = t
        · rw [own9 i hi2]
          constructor
          · intro h9
            refine ⟨(Bi i).mpr hi2, ?_⟩
            obtain ⟨l1, l2⟩ := lt9 i hi ((Bi i).mpr hi2)
            rcases Int.lt_trichotomy (om i cls) (y : Int) with h8 | h8 | h8
            · have := off_cnt (r := r) (om := om) (cls := cls) (B := B) h8
              omega
            · exact h8
            · have := off_cnt (r := r) (om := om) (cls := cls) (B := B) h8
              omega
          · rintro ⟨_, h9⟩
            rw [h9]; omega
        · rw [own0 i hi2]
          constructor
          · intro h9
            exfalso
            have a := h1 i hi
            rw [h9] at a
            have := side u hu a.2 (fun h8 => hi2 (h9.trans h8))
            exact hu2 this
          · rintro ⟨h9, _⟩
            exact absurd ((Bi i).mp h9) hi2
      subst hu3
      refine ⟨cntN r om cls B (y : Int), g1, by omega, cn_ext r (fun k hk => (hown k hk).symm), fun v hv1 hv2 => ?_, col, ?_, fun z => ?_⟩
      · have := g2 (v - t) (by omega) (by omega)
        rw [show t + (v - t) = v by omega] at this
        exact this
      · have e9 : (fun s j => row' (t + offN r om cls B (y : Int) + s) j) = (fun s j => row' (t + (offN r om cls B (y : Int) + s)) j) := by
          funext s j; rw [Nat.add_assoc]
        rw [e9]; exact g3
      · have e9 : (fun s j => row' (t + offN r om cls B (y : Int) + s) j) = (fun s j => row' (t + (offN r om cls B (y : Int) + s)) j) := by
          funext s j; rw [Nat.add_assoc]
        rw [e9, g4 z]
        exact ⟨fun h9 i hi hi2 => h9 i hi (by have := (hown i hi).mp hi2; exact ⟨by rw [← hB] at this; exact this.1, this.2⟩), fun h9 i hi hi2 => h9 i hi ((hown i hi).mpr ⟨by rw [← hB]; exact hi2.1, hi2.2⟩)⟩
/-- they agree on classes ahead -/
def AGR (r : Nat) (om : Nat → Nat → Int) (own : Nat → Nat) (t cls : Nat) : Prop := ∀ i j, i < r → j < r → own i = own j → (∀ a, a < cls → om i a = om j a) ∧ (t ≤ own i → om i cls = om j cls)
theorem agr_split {own : Nat → Nat} {t n : Nat} {row : Nat → Nat → Int} {sp : Nat → Int} (h : BST p r om row sp own) (hn : sp t = n) (hn0 : 0 < n) (ht : t < r) (hA : AGR r om own (t + 1) cls) : AGR r om (ownN r om cls t own) t cls := by
  obtain ⟨h1, h2, h3⟩ := h
  obtain ⟨n1, e1, e2, e3, e4, e5⟩ := h3 t ht (by omega)
  have hnn : n1 = n := by omega
  subst hnn
  generalize hB : (fun i => own i = t) = B at *
  have Bi : ∀ i, B i ↔ own i = t := fun i => by rw [← hB]
  have own9 : ∀ i, own i = t → ownN r om cls t own i = t + offN r om cls B (om i cls) := fun i hi => by unfold ownN; rw [if_pos hi, hB]
  have own0 : ∀ i, own i ≠ t → ownN r om cls t own i = own i := fun i hi => if_neg hi
  have in9 : ∀ i, i < r → own i = t → offN r om cls B (om i cls) < n1 := fun i hi hi2 => by
    have a := cnt_pos (om := om) (cls := cls) (B := B) hi ((Bi i).mpr hi2)
    have b := off_cnt_le (r := r) (om := om) (cls := cls) (B := B) (om i cls)
    omega
  have ne9 : ∀ i j, i < r → j < r → own i = t → own j ≠ t → ownN r om cls t own i ≠ ownN r om cls t own j := fun i j hi hj hi2 hj2 he => by
    rw [own9 i hi2, own0 j hj2] at he
    have a := h1 j hj
    have := in9 i hi hi2
    by_cases h9 : own j < t
    · omega
    · have := e4 (own j) (by omega) (by omega)
      omega
  intro i j hi hj he
  by_cases hi2 : own i = t
  · by_cases hj2 : own j = t
    · have ag := hA i j hi hj (hi2.trans hj2.symm)
      refine ⟨ag.1, fun _ => ?_⟩
      rw [own9 i hi2, own9 j hj2] at he
      have ci := cnt_pos (om := om) (cls := cls) (B := B) hi ((Bi i).mpr hi2)
      have cj := cnt_pos (om := om) (cls := cls) (B := B) hj ((Bi j).mpr hj2)
      rcases Int.lt_trichotomy (om i cls) (om j cls) with h8 | h8 | h8
      · have := off_cnt (r := r) (om := om) (cls := cls) (B := B) h8
        omega
      · exact h8
      · have := off_cnt (r := r) (om := om) (cls := cls) (B := B) h8
        omega
    · exact absurd he (ne9 i j hi hj hi2 hj2)
  · by_cases hj2 : own j = t
    · exact absurd he.symm (ne9 j i hj hi hj2 hi2)
    · rw [own0 i hi2, own0 j hj2] at he
      have ag := hA i j hi hj he
      rw [own0 i hi2]
      exact ⟨ag.1, fun h9 => ag.2 (by omega)⟩
/-- a space that isn't split agrees -/
theorem agr_skip {own : Nat → Nat} {t : Nat} {row : Nat → Nat → Int} {sp : Nat → Int} (h : BST p r om row sp own) (ht : t < r) (hs : sp t ≤ 1) (hA : AGR r om own (t + 1) cls) : AGR r om own t cls := by
  obtain ⟨h1, h2, h3⟩ := h
  intro i j hi hj he
  have ag := hA i j hi hj he
  refine ⟨ag.1, fun h9 => ?_⟩
  by_cases hit : own i = t
  · have a := h1 i hi
    rw [hit] at a
    obtain ⟨n1, e1, e2, e30, e40, e5⟩ := h3 t ht a.2
    have hn1 : n1 = 1 := by omega
    -- only one has this space
    have : i = j := by
      apply Classical.byContradiction
      intro hne
      have : cn (fun k => k = i ∨ k = j) r ≤ cn (fun k => own k = t) r := cn_mono r (fun k _ hk => by
        rcases hk with hk | hk
        · rw [hk]; exact hit
        · rw [hk, ← he]; exact hit)
      have e3 : cn (fun k => k = i) r = 1 := cn_one (P := fun k => k = i) r i hi rfl (fun k _ hk => hk)
      have e4 : cn (fun k => k = j) r = 1 := cn_one (P := fun k => k = j) r j hj rfl (fun k _ hk => hk)
      rw [cn_or (P := fun k => k = i) (Q := fun k => k = j) r (fun k _ hk => hne (hk.1.symm.trans hk.2))] at this
      omega
    rw [this]
  · exact ag.2 (by omega)
end SD5
