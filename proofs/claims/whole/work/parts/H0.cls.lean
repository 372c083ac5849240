/-! ===== classes by another numbering ===== -/
theorem sm_prm {r : Nat} {q : Nat → Nat} (h : Prm r q) (f : Nat → Int) : sm (fun a => f (q a)) r = sm f r := by
  have e1 : sm (fun a => f (q a)) r = sm (fun a => sm (fun y => if y = q a then f (q a) else 0) r) r := sm_ext r (fun a ha => by rw [sm_del, if_pos (h.1 a ha)])
  rw [e1, sm_swap]
  refine sm_ext r (fun y hy => ?_)
  obtain ⟨x, hx, e⟩ := h.2.2 y hy
  have e2 : sm (fun a => if y = q a then f (q a) else 0) r = sm (fun a => if a = x then f y else 0) r := sm_ext r (fun a ha => by
    by_cases ha2 : a = x
    · rw [ha2, e, if_pos rfl, if_pos rfl]
    · rw [if_neg (fun h9 => ha2 (h.2.1 a x ha hx (h9.symm.trans e.symm))), if_neg ha2])
  rw [e2, sm_del, if_pos hx]
/-- a numbering of the classes -/
def CLS (N : Nat) (m : Nat → Nat → Nat) (rr : Nat) (CL : Nat → Nat) : Prop := (∀ k, k < N → CL k < rr) ∧ (∀ k l, k < N → l < N → (CL k = CL l ↔ ∃ x, x < N ∧ l = tn N m k x)) ∧ ∀ c, c < rr → ∃ k, k < N ∧ CL k = c
noncomputable def pic (N : Nat) (m : Nat → Nat → Nat) (CL : Nat → Nat) (a : Nat) : Nat := CL (lsN N m a)
section SH0
variable {N rr : Nat} {m : Nat → Nat → Nat} {CL : Nat → Nat}
theorem CLS.cs (h : CLS N m rr CL) (hI : IsG N m) {k : Nat} (hk : k < N) : CL k = pic N m CL (csN N m k) := by
  have c := csN_s hI hk
  have l := lsN_s hI c.2
  exact (h.2.1 k _ hk l.2.1).mpr ((csN_tn hI hk l.2.1).mp l.2.2.1.symm)
theorem CLS.inj (h : CLS N m rr CL) (hI : IsG N m) {a b : Nat} (ha : a < rsN N m) (hb : b < rsN N m) (e : pic N m CL a = pic N m CL b) : a = b := by
  have l := lsN_s hI ha
  have l2 := lsN_s hI hb
  have := (csN_tn hI l.2.1 l2.2.1).mpr ((h.2.1 _ _ l.2.1 l2.2.1).mp e)
  rw [l.2.2.1, l2.2.2.1] at this
  exact this
theorem CLS.lt (h : CLS N m rr CL) (hI : IsG N m) {a : Nat} (ha : a < rsN N m) : pic N m CL a < rr := h.1 _ (lsN_s hI ha).2.1
theorem CLS.sur (h : CLS N m rr CL) (hI : IsG N m) {c : Nat} (hc : c < rr) : ∃ a, a < rsN N m ∧ pic N m CL a = c := by
  obtain ⟨k, hk, e⟩ := h.2.2 c hc
  exact ⟨csN N m k, (csN_s hI hk).2, by rw [← h.cs hI hk]; exact e⟩
theorem CLS.r (h : CLS N m rr CL) (hI : IsG N m) : rsN N m = rr := by
  apply Nat.le_antisymm
  · exact inj_le (s := pic N m CL) (fun a ha => h.lt hI ha) (fun a b ha hb e => h.inj hI ha hb e)
  · refine inj_le (s := fun c => theN (fun a => a < rsN N m ∧ pic N m CL a = c)) (fun c hc => (theN_of (h.sur hI hc)).1) (fun c d hc hd e => ?_)
    rw [← (theN_of (h.sur hI hc)).2, ← (theN_of (h.sur hI hd)).2]
    exact congrArg (pic N m CL) e
theorem CLS.prm (h : CLS N m rr CL) (hI : IsG N m) : Prm (rsN N m) (pic N m CL) := by
  have e := h.r hI
  refine ⟨fun a ha => by rw [e]; exact h.lt hI ha, fun a b ha hb => h.inj hI ha hb, fun y hy => ?_⟩
  obtain ⟨a, ha, e2⟩ := h.sur hI (show y < rr by omega)
  exact ⟨a, ha, e2⟩
theorem CLS.z (h : CLS N m rr CL) (hI : IsG N m) {a : Nat} (ha : a < rsN N m) : zsN N m a = cn (fun k => CL k = pic N m CL a) N := by
  unfold zsN
  rw [cntF_cn]
  refine cn_ext N (fun k hk => ?_)
  have c := csN_s hI hk
  rw [h.cs hI hk]
  constructor
  · intro e
    have : csN N m k = a := by have := c.1; omega
    rw [this]
  · intro e
    have := h.inj hI c.2 ha e
    rw [c.1, this]
theorem CLS.cpl (h : CLS N m rr CL) (hI : IsG N m) {a b c : Nat} (ha : a < rsN N m) (hb : b < rsN N m) (hc : c < rsN N m) : cplN N m a b c = cn (fun x => CL x = pic N m CL a ∧ CL (m (iv N m x) (lsN N m c)) = pic N m CL b) N := by
  unfold cplN
  refine cn_ext N (fun x hx => ?_)
  have l := lsN_s hI hc
  have hm := hI.2.1 _ _ (iv_lt hI hx) l.2.1
  unfold cplP
  rw [h.cs hI hx, h.cs hI hm]
  constructor
  · rintro ⟨e1, e2⟩
    rw [e1, e2]; exact ⟨rfl, rfl⟩
  · rintro ⟨e1, e2⟩
    exact ⟨h.inj hI (csN_s hI hx).2 ha e1, h.inj hI (csN_s hI hm).2 hb e2⟩
theorem CLS.iv (h : CLS N m rr CL) (hI : IsG N m) {a : Nat} (ha : a < rsN N m) : pic N m CL (ivc N m a) = CL (iv N m (lsN N m a)) := (h.cs hI (iv_lt hI (lsN_s hI ha).2.1)).symm
theorem CLS.p0 (h : CLS N m rr CL) (hI : IsG N m) : pic N m CL 0 = CL 0 := by
  rw [h.cs hI hI.1, csN_0 hI]
end SH0
