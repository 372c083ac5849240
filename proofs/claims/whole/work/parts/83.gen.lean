/-! ===== the group that two elements make ===== -/
theorem fold_lt {N : Nat} {m : Nat → Nat → Nat} (h : IsG N m) {k l : Nat} (hk : k < N) (hl : l < N) : ∀ (w : List Bool) (s : Nat), s < N → w.foldl (fun x b => m x (if b then k else l)) s < N := by
  intro w
  induction w with
  | nil => intro s hs; exact hs
  | cons b w ih => intro s hs; exact ih _ (h.2.1 _ _ hs (by split <;> assumption))
theorem inGen_lt {N : Nat} {m : Nat → Nat → Nat} (h : IsG N m) {k l e : Nat} (hk : k < N) (hl : l < N) (he : inGen m k l e) : e < N := by
  obtain ⟨w, rfl⟩ := he
  exact fold_lt h hk hl w 0 h.1
theorem inGen_0 (m : Nat → Nat → Nat) (k l : Nat) : inGen m k l 0 := ⟨[], rfl⟩
theorem inGen_k {m : Nat → Nat → Nat} {k l e : Nat} (h : inGen m k l e) : inGen m k l (m e k) := by
  obtain ⟨w, rfl⟩ := h
  exact ⟨w ++ [true], by rw [List.foldl_append]; rfl⟩
theorem inGen_l {m : Nat → Nat → Nat} {k l e : Nat} (h : inGen m k l e) : inGen m k l (m e l) := by
  obtain ⟨w, rfl⟩ := h
  exact ⟨w ++ [false], by rw [List.foldl_append]; rfl⟩
/-- what has 0 and goes on by the two has all -/
theorem inGen_in {m : Nat → Nat → Nat} {k l e : Nat} {p : Nat → Prop} (h0 : p 0) (h1 : ∀ x, p x → p (m x k) ∧ p (m x l)) (h : inGen m k l e) : p e := by
  obtain ⟨w, rfl⟩ := h
  have : ∀ (w : List Bool) (s : Nat), p s → p (w.foldl (fun x b => m x (if b then k else l)) s) := by
    intro w
    induction w with
    | nil => intro s hs; exact hs
    | cons b w ih =>
      intro s hs
      refine ih _ ?_
      cases b
      · exact (h1 s hs).2
      · exact (h1 s hs).1
  exact this w 0 h0
theorem inGen_sw {m : Nat → Nat → Nat} {k l e : Nat} (h : inGen m k l e) : inGen m l k e :=
  inGen_in (p := inGen m l k) (inGen_0 m l k) (fun _ hx => ⟨inGen_l hx, inGen_k hx⟩) h
theorem mkAll_sw {N : Nat} {m : Nat → Nat → Nat} {k l : Nat} (h : mkAll N m k l) : mkAll N m l k := fun e he => inGen_sw (h e he)
theorem inGen_mul {N : Nat} {m : Nat → Nat → Nat} (h : IsG N m) {k l a b : Nat} (hk : k < N) (hl : l < N) (ha : inGen m k l a) (hb : inGen m k l b) : inGen m k l (m a b) := by
  have haN := inGen_lt h hk hl ha
  refine (inGen_in (p := fun x => x < N ∧ inGen m k l (m a x)) ⟨h.1, by rw [(h.2.2.1 a haN).2]; exact ha⟩ (fun x hx => ⟨⟨h.2.1 _ _ hx.1 hk, ?_⟩, ⟨h.2.1 _ _ hx.1 hl, ?_⟩⟩) hb).2
  · rw [← h.2.2.2.1 _ _ _ haN hx.1 hk]; exact inGen_k hx.2
  · rw [← h.2.2.2.1 _ _ _ haN hx.1 hl]; exact inGen_l hx.2
theorem tn_mul {N : Nat} {m : Nat → Nat → Nat} (h : IsG N m) {a b x : Nat} (ha : a < N) (hb : b < N) (hx : x < N) : tn N m (m a b) x = m (tn N m a x) (tn N m b x) := by
  have hi := iv_lt h hx
  have h1 := h.2.1 _ _ hi ha
  have h2 := h.2.1 _ _ hi hb
  unfold tn
  rw [h.2.2.2.1 _ _ _ h1 hx (h.2.1 _ _ h2 hx), ← h.2.2.2.1 x _ x hx h2 hx, ← h.2.2.2.1 x _ b hx hi hb, iv_r h hx, (h.2.2.1 b hb).1, ← h.2.2.2.1 _ a b hi ha hb, h.2.2.2.1 _ b x h1 hb hx]
theorem tn_0 {N : Nat} {m : Nat → Nat → Nat} (h : IsG N m) {x : Nat} (hx : x < N) : tn N m 0 x = 0 := by
  unfold tn
  rw [(h.2.2.1 _ (iv_lt h hx)).2, iv_l h hx]
/-- the group has all that comes of it by turning -/
def kept (N : Nat) (m : Nat → Nat → Nat) (k l : Nat) : Prop := ∀ e h, e < N → h < N → inGen m k l e → inGen m k l (tn N m e h)
theorem kept_of {N : Nat} {m : Nat → Nat → Nat} (h : IsG N m) {k l : Nat} (hk : k < N) (hl : l < N) (h1 : ∀ x, x < N → inGen m k l (tn N m k x)) (h2 : ∀ x, x < N → inGen m k l (tn N m l x)) : kept N m k l := by
  intro e x he hx hg
  refine (inGen_in (p := fun e => e < N ∧ inGen m k l (tn N m e x)) ⟨h.1, by rw [tn_0 h hx]; exact inGen_0 m k l⟩ (fun y hy => ⟨⟨h.2.1 _ _ hy.1 hk, ?_⟩, ⟨h.2.1 _ _ hy.1 hl, ?_⟩⟩) hg).2
  · rw [tn_mul h hy.1 hk hx]; exact inGen_mul h hk hl hy.2 (h1 x hx)
  · rw [tn_mul h hy.1 hl hx]; exact inGen_mul h hk hl hy.2 (h2 x hx)
/-- a list of what is in it -/
def IsMem (N : Nat) (m : Nat → Nat → Nat) (k l : Nat) (mem : List Nat) : Prop := mem.Nodup ∧ ∀ e, e ∈ mem ↔ (e < N ∧ inGen m k l e)
theorem IsMem.len {N : Nat} {m : Nat → Nat → Nat} {k l : Nat} {a b : List Nat} (ha : IsMem N m k l a) (hb : IsMem N m k l b) : a.length = b.length :=
  Nat.le_antisymm (ha.1.length_le_of_subset (fun x hx => (hb.2 x).mpr ((ha.2 x).mp hx))) (hb.1.length_le_of_subset (fun x hx => (ha.2 x).mpr ((hb.2 x).mp hx)))
theorem nodup_le {N : Nat} {mem : List Nat} (hn : mem.Nodup) (h : ∀ e, e ∈ mem → e < N) : mem.length ≤ N := by
  have := hn.length_le_of_subset (l₂ := List.range N) (fun x hx => List.mem_range.mpr (h x hx))
  rwa [List.length_range] at this
theorem IsMem.all {N : Nat} {m : Nat → Nat → Nat} {k l : Nat} {mem : List Nat} (h : IsMem N m k l mem) : mem.length = N ↔ mkAll N m k l := by
  constructor
  · intro hl e he
    by_cases hm : e ∈ mem
    · exact ((h.2 e).mp hm).2
    · have hn : (e :: mem).Nodup := List.nodup_cons.mpr ⟨hm, h.1⟩
      have := nodup_le hn (N := N) (fun x hx => by
        rcases List.mem_cons.mp hx with rfl | hx
        · exact he
        · exact ((h.2 x).mp hx).1)
      rw [List.length_cons] at this
      omega
  · intro ha
    apply Nat.le_antisymm (nodup_le h.1 (fun e he => ((h.2 e).mp he).1))
    have := (List.nodup_range (n := N)).length_le_of_subset (l₂ := mem) (fun x hx => (h.2 x).mpr ⟨List.mem_range.mp hx, ha x (List.mem_range.mp hx)⟩)
    rwa [List.length_range] at this
/-- the least that is not in it -/
def IsLb (N : Nat) (m : Nat → Nat → Nat) (k l : Nat) (r : Int) : Prop := (∃ e : Nat, e < N ∧ r = e ∧ ¬ inGen m k l e ∧ ∀ j, j < e → inGen m k l j) ∨ (r = -1 ∧ mkAll N m k l)
theorem IsLb.un {N : Nat} {m : Nat → Nat → Nat} {k l : Nat} {r s : Int} (h1 : IsLb N m k l r) (h2 : IsLb N m k l s) : r = s := by
  rcases h1 with ⟨e, a1, a2, a3, a4⟩ | ⟨a1, a2⟩ <;> rcases h2 with ⟨f, b1, b2, b3, b4⟩ | ⟨b1, b2⟩
  · have : e = f := by
      apply Nat.le_antisymm
      · exact Nat.not_lt.mp (fun h => b3 (a4 f h))
      · exact Nat.not_lt.mp (fun h => a3 (b4 e h))
    omega
  · exact absurd (b2 e a1) a3
  · exact absurd (a2 f b1) b3
  · omega
theorem IsMk.un {N : Nat} {m : Nat → Nat → Nat} {a b a' b' : Int} (h1 : IsMk N m a b) (h2 : IsMk N m a' b') : a = a' ∧ b = b' := by
  rcases h1 with ⟨k, l, e1, e2, hk, hl, hm, hf⟩ | ⟨e1, e2, hn⟩ <;> rcases h2 with ⟨k', l', e1', e2', hk', hl', hm', hf'⟩ | ⟨e1', e2', hn'⟩
  · have q1 : ¬ (k' < k ∨ (k' = k ∧ l' < l)) := fun h => hf k' l' hk' hl' h hm'
    have q2 : ¬ (k < k' ∨ (k = k' ∧ l < l')) := fun h => hf' k l hk hl h hm
    omega
  · exact absurd hm (hn' k l hk hl)
  · exact absurd hm' (hn k' l' hk' hl')
  · omega
theorem IsLo.un {N : Nat} {m : Nat → Nat → Nat} {x r s : Int} (h1 : IsLo N m x r) (h2 : IsLo N m x s) : r = s := by
  rcases h1 with ⟨e, a1, a2, a3, a4⟩ | ⟨a1, a2⟩ <;> rcases h2 with ⟨f, b1, b2, b3, b4⟩ | ⟨b1, b2⟩
  · have : e = f := by
      apply Nat.le_antisymm
      · exact Nat.not_lt.mp (fun h => a4 f h b2)
      · exact Nat.not_lt.mp (fun h => b4 e h a2)
    omega
  · exact absurd a2 (b2 e a1)
  · exact absurd b2 (a2 f b1)
  · omega
