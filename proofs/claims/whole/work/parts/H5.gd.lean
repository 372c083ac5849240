/-! ===== GD out of a list's data ===== -/
theorem gd_of {D : Int} {told els : List (List Int)} (hC : Clo D told els) {t : Nat → P2} {T : Nat → Nat → Nat} {tt : Nat → P2} {f q CL IV IC Z : Nat → Nat} {rr : Nat} {CP : Nat → Nat → Nat → Nat} {om ev : Nat → Nat → Int}
    (h : ISO2 els.length (gmt D els) t T tt f q) (hv : ∀ k, k < els.length → IV k < els.length ∧ T k (IV k) = 0) (hc : CLS els.length (gmt D els) rr (fun z => CL (q z))) (ht : ∀ l A B, l < els.length → A < rr → B < rr → cn (fun x => CL x = A ∧ CL (T (IV x) l) = B) els.length = CP A B (CL l))
    (hz : ∀ A, A < rr → cn (fun x => CL x = A) els.length = Z A) (hi : ∀ k, k < els.length → CL (IV k) = IC (CL k)) (h0 : CL (q 0) = 0) (r12 : rr ≤ 12) (hp : isPr (pN D els)) (h242 : pN D els < 242)
    (hS : SPEC (pN D els) rr (fun a b k => (CP a b k : Int)) om ev) (hd : ∀ i, i < rr → ∃ d, 1 ≤ d ∧ d ≤ 9 ∧ okDg (pN D els) els.length (sm (fun A => om i A * ovV (pN D els) (om i (IC A)) (Z A)) rr) d)
    (hl : ∃ T', ∀ i j, i < rr → j < rr → i ≠ j → sm (fun a => mxZ (pN D els) (lcI (rr * T') 1) a * om i (pic els.length (gmt D els) (fun z => CL (q z)) a)) rr % (pN D els : Int) ≠ sm (fun a => mxZ (pN D els) (lcI (rr * T') 1) a * om j (pic els.length (gmt D els) (fun z => CL (q z)) a)) rr % (pN D els : Int)) : GD D els := by
  have hI := hC.isG
  have er := hc.r hI
  have hq := hc.prm hI
  have q0 : pic els.length (gmt D els) (fun z => CL (q z)) 0 = 0 := by rw [hc.p0 hI]; exact h0
  have hcp : ∀ a b k, a < rG D els → b < rG D els → k < rG D els → cG D els a b k = (fun a b k => (CP a b k : Int)) (pic els.length (gmt D els) (fun z => CL (q z)) a) (pic els.length (gmt D els) (fun z => CL (q z)) b) (pic els.length (gmt D els) (fun z => CL (q z)) k) := fun a b k ha hb hk => by
    show (cplN els.length (gmt D els) a b k : Int) = _
    rw [iso_cpl h hI hv hc ht ha hb hk]
  rw [← er] at hS
  have hS2 := SPEC.prm hq q0 hcp hS
  have r0 : 0 < rG D els := rsN_pos hI
  refine ⟨by show rsN _ _ ≤ 12; omega, ⟨_, _, hS2⟩, fun v hv9 => ?_, ?_⟩
  · obtain ⟨i, hi9, e⟩ := hS2.all hp h242 r0 hv9
    obtain ⟨d, d1, d2, d3⟩ := hd i (by rw [← er]; exact hi9)
    refine ⟨d, d1, d2, ?_⟩
    have en : nmN D els v = sm (fun A => om i A * ovV (pN D els) (om i (IC A)) (Z A)) rr := by
      rw [← iso_nrm h hI hv hc hz hi (pN D els) (om i)]
      exact sm_ext _ (fun a ha => by
        dsimp only
        rw [e a ha, e _ (ivc_lt hI ha)])
    rw [en]; exact d3
  · rw [er] at hq
    obtain ⟨T', hT⟩ := hl
    refine ⟨T', fun v w hv9 hw9 ⟨a, ha, hne⟩ => ?_⟩
    obtain ⟨i, hi9, e⟩ := hS2.all hp h242 r0 hv9
    obtain ⟨j, hj9, e2⟩ := hS2.all hp h242 r0 hw9
    have hij : i ≠ j := fun h9 => hne (by rw [e a ha, e2 a ha, h9])
    have k := hT i j (by rw [← er]; exact hi9) (by rw [← er]; exact hj9) hij
    rw [← er] at k
    have a1 := sm_ext (f := fun a => mxZ (pN D els) (lcI (rG D els * T') 1) a * v a) (h := fun a => mxZ (pN D els) (lcI (rG D els * T') 1) a * om i (pic els.length (gmt D els) (fun z => CL (q z)) a)) (rG D els) (fun a ha => by rw [e a ha])
    have a2 := sm_ext (f := fun a => mxZ (pN D els) (lcI (rG D els * T') 1) a * w a) (h := fun a => mxZ (pN D els) (lcI (rG D els * T') 1) a * om j (pic els.length (gmt D els) (fun z => CL (q z)) a)) (rG D els) (fun a ha => by rw [e2 a ha])
    rw [a1, a2]
    exact k
