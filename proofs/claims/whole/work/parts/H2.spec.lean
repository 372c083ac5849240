/-! ===== central rows under another numbering ===== -/
theorem Cen.prm {p r : Nat} {CP cp : Nat → Nat → Nat → Int} {q : Nat → Nat} (hq : Prm r q) (h0 : q 0 = 0) (hc : ∀ a b k, a < r → b < r → k < r → cp a b k = CP (q a) (q b) (q k)) {v : Nat → Int} (hv : Cen p r CP v) : Cen p r cp (fun a => v (q a)) := by
  obtain ⟨v0, v1, v2⟩ := hv
  refine ⟨by show v (q 0) = 1; rw [h0]; exact v0, fun a ha => v1 _ (hq.1 a ha), fun a b ha hb => ?_⟩
  rw [v2 _ _ (hq.1 a ha) (hq.1 b hb), ← sm_prm hq (fun k => CP (q a) (q b) k * v k)]
  congr 1
  exact sm_ext r (fun k hk => by rw [hc a b k ha hb hk])
theorem SPEC.prm {p r : Nat} {CP cp : Nat → Nat → Nat → Int} {om ev : Nat → Nat → Int} {q : Nat → Nat} (hq : Prm r q) (h0 : q 0 = 0) (hc : ∀ a b k, a < r → b < r → k < r → cp a b k = CP (q a) (q b) (q k)) (hS : SPEC p r CP om ev) : SPEC p r cp (fun i a => om i (q a)) (fun i a => ev i (q a)) := by
  obtain ⟨s1, s2, s3⟩ := hS
  refine ⟨fun i hi => (s1 i hi).prm hq h0 hc, fun i j hi hj => ?_, fun b c hb hc2 => ?_⟩
  · rw [← s2 i j hi hj, ← sm_prm hq (fun b => ev i b * om j b)]
  · rw [s3 _ _ (hq.1 b hb) (hq.1 c hc2)]
    congr 1
    unfold dl
    by_cases e : b = c
    · rw [if_pos e, e, if_pos rfl]
    · rw [if_neg e, if_neg (fun h9 => e (hq.2.1 b c hb hc2 h9))]
