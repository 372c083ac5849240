/-! ===== couples by the list's table ===== -/
section SH3
variable {N rr : Nat} {m : Nat → Nat → Nat} {t : Nat → P2} {T : Nat → Nat → Nat} {tt : Nat → P2} {f q CL IV : Nat → Nat}
theorem iso_mulq (h : ISO2 N m t T tt f q) {a b : Nat} (ha : a < N) (hb : b < N) : q (m a b) = T (q a) (q b) := by
  obtain ⟨h0, h1, h2, h3⟩ := h
  have e := h2 _ _ (h1 a ha).2.1 (h1 b hb).2.1
  rw [(h1 a ha).2.2.2, (h1 b hb).2.2.2] at e
  rw [e.2, (h1 _ e.1).2.2.1]
theorem iso_ivq (h : ISO2 N m t T tt f q) (hI : IsG N m) (hv : ∀ k, k < N → IV k < N ∧ T k (IV k) = 0) {a : Nat} (ha : a < N) : q (iv N m a) = IV (q a) := by
  have h1 := h.2.1
  have v := hv _ (h1 a ha).2.1
  have e := h.iv hI (h1 a ha).2.1 v.1 v.2
  rw [(h1 a ha).2.2.2] at e
  rw [e, (h1 _ v.1).2.2.1]
theorem iso_cpl (h : ISO2 N m t T tt f q) (hI : IsG N m) (hv : ∀ k, k < N → IV k < N ∧ T k (IV k) = 0) (hc : CLS N m rr (fun z => CL (q z))) {CP : Nat → Nat → Nat → Nat} (ht : ∀ l A B, l < N → A < rr → B < rr → cn (fun x => CL x = A ∧ CL (T (IV x) l) = B) N = CP A B (CL l)) {a b c : Nat} (ha : a < rsN N m) (hb : b < rsN N m) (hc2 : c < rsN N m) : cplN N m a b c = CP (pic N m (fun z => CL (q z)) a) (pic N m (fun z => CL (q z)) b) (pic N m (fun z => CL (q z)) c) := by
  have h1 := h.2.1
  have l := lsN_s hI hc2
  rw [hc.cpl hI ha hb hc2]
  have e := h.cn (fun y => CL y = pic N m (fun z => CL (q z)) a ∧ CL (T (IV y) (q (lsN N m c))) = pic N m (fun z => CL (q z)) b)
  rw [ht _ _ _ (h1 _ l.2.1).2.1 (hc.lt hI ha) (hc.lt hI hb)] at e
  refine Eq.trans (cn_ext N (fun x hx => ?_)) e
  rw [iso_mulq h (iv_lt hI hx) l.2.1, iso_ivq h hI hv hx]
end SH3
