/-! ===== norms by the list's classes ===== -/
section SH4
variable {N rr : Nat} {m : Nat → Nat → Nat} {t : Nat → P2} {T : Nat → Nat → Nat} {tt : Nat → P2} {f q CL IV : Nat → Nat}
theorem iso_z (h : ISO2 N m t T tt f q) (hI : IsG N m) (hc : CLS N m rr (fun z => CL (q z))) {Z : Nat → Nat} (hz : ∀ A, A < rr → cn (fun x => CL x = A) N = Z A) {a : Nat} (ha : a < rsN N m) : zsN N m a = Z (pic N m (fun z => CL (q z)) a) := by
  rw [hc.z hI ha, ← hz _ (hc.lt hI ha)]
  exact h.cn (fun y => CL y = pic N m (fun z => CL (q z)) a)
theorem iso_ic (h : ISO2 N m t T tt f q) (hI : IsG N m) (hv : ∀ k, k < N → IV k < N ∧ T k (IV k) = 0) (hc : CLS N m rr (fun z => CL (q z))) {IC : Nat → Nat} (hi : ∀ k, k < N → CL (IV k) = IC (CL k)) {a : Nat} (ha : a < rsN N m) : pic N m (fun z => CL (q z)) (ivc N m a) = IC (pic N m (fun z => CL (q z)) a) := by
  have l := lsN_s hI ha
  rw [hc.iv hI ha]
  show CL (q (iv N m (lsN N m a))) = IC (CL (q (lsN N m a)))
  rw [iso_ivq h hI hv l.2.1, hi _ (h.2.1 _ l.2.1).2.1]
theorem iso_nrm (h : ISO2 N m t T tt f q) (hI : IsG N m) (hv : ∀ k, k < N → IV k < N ∧ T k (IV k) = 0) (hc : CLS N m rr (fun z => CL (q z))) {Z IC : Nat → Nat} (hz : ∀ A, A < rr → cn (fun x => CL x = A) N = Z A) (hi : ∀ k, k < N → CL (IV k) = IC (CL k)) (p : Nat) (v : Nat → Int) :
    nrmV p (rsN N m) (zsN N m) (ivc N m) (fun a => v (pic N m (fun z => CL (q z)) a)) (rsN N m) = sm (fun A => v A * ovV p (v (IC A)) (Z A)) rr := by
  have e := hc.r hI
  have e2 := sm_prm (hc.prm hI) (fun A => v A * ovV p (v (IC A)) (Z A))
  unfold nrmV
  rw [← e, ← e2]
  exact sm_ext _ (fun a ha => by
    dsimp only
    rw [iso_z h hI hc hz ha, iso_ic h hI hv hc hi ha])
end SH4
