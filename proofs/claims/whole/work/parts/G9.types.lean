/-! ===== every closing is cyclic or one of 14 ===== -/
def isCy (D : Int) (els : List (List Int)) : Prop := ∃ g, g < els.length ∧ ISO els.length (gmt D els) (tra els) (od els.length (gmt D els) g) (fun k l => (k + l) % od els.length (gmt D els) g) (fun k => tra els (pwr (gmt D els) g k))
theorem Clo.ty2 {told els : List (List Int)} (hC : Clo 2 told els) : isCy 2 els ∨ isoS 2 els.length (gmt 2 els) (tra els) ((0, 0), (0, 0), (0, 0)) sg2_Q8 ss2_Q8 ∨ isoS 2 els.length (gmt 2 els) (tra els) ((2, 0), (0, 0), (0, 0)) sg2_Q12 ss2_Q12 ∨ isoS 2 els.length (gmt 2 els) (tra els) ((0, 2), (0, 0), (0, 0)) sg2_Q16 ss2_Q16 ∨ isoS 2 els.length (gmt 2 els) (tra els) ((2, 0), (2, 0), (0, 0)) sg2_2T ss2_2T ∨ isoS 2 els.length (gmt 2 els) (tra els) ((0, 2), (2, 0), (0, 0)) sg2_2O ss2_2O := by
  have h := hC.tgd (by decide)
  by_cases hcm : ∀ x y, x < els.length → y < els.length → gmt 2 els x y = gmt 2 els y x
  · obtain ⟨g, hg, hz⟩ := h.cyc (fun k hk => hC.od_tr (by decide) hk) cy2 hcm
    exact .inl ⟨g, hg, h.1.cyI hg hz⟩
  · right
    have hex : ∃ x y, x < els.length ∧ y < els.length ∧ gmt 2 els x y ≠ gmt 2 els y x := by
      apply Classical.byContradiction
      intro h9
      exact hcm (fun x y hx hy => Classical.byContradiction (fun h8 => h9 ⟨x, y, hx, hy, h8⟩))
    obtain ⟨x, y, hx, hy, hne⟩ := hex
    exact h.std2 hx hy hne
theorem Clo.ty3 {told els : List (List Int)} (hC : Clo 3 told els) : isCy 3 els ∨ isoS 3 els.length (gmt 3 els) (tra els) ((0, 0), (0, 0), (0, 0)) sg3_Q8 ss3_Q8 ∨ isoS 3 els.length (gmt 3 els) (tra els) ((2, 0), (0, 0), (0, 0)) sg3_Q12 ss3_Q12 ∨ isoS 3 els.length (gmt 3 els) (tra els) ((0, 2), (0, 0), (0, 0)) sg3_Q24 ss3_Q24 ∨ isoS 3 els.length (gmt 3 els) (tra els) ((2, 0), (2, 0), (0, 0)) sg3_2T ss3_2T := by
  have h := hC.tgd (by decide)
  by_cases hcm : ∀ x y, x < els.length → y < els.length → gmt 3 els x y = gmt 3 els y x
  · obtain ⟨g, hg, hz⟩ := h.cyc (fun k hk => hC.od_tr (by decide) hk) cy3 hcm
    exact .inl ⟨g, hg, h.1.cyI hg hz⟩
  · right
    have hex : ∃ x y, x < els.length ∧ y < els.length ∧ gmt 3 els x y ≠ gmt 3 els y x := by
      apply Classical.byContradiction
      intro h9
      exact hcm (fun x y hx hy => Classical.byContradiction (fun h8 => h9 ⟨x, y, hx, hy, h8⟩))
    obtain ⟨x, y, hx, hy, hne⟩ := hex
    exact h.std3 hx hy hne
theorem Clo.ty5 {told els : List (List Int)} (hC : Clo 5 told els) : isCy 5 els ∨ isoS 5 els.length (gmt 5 els) (tra els) ((0, 0), (0, 0), (0, 0)) sg5_Q8 ss5_Q8 ∨ isoS 5 els.length (gmt 5 els) (tra els) ((2, 0), (0, 0), (0, 0)) sg5_Q12 ss5_Q12 ∨ isoS 5 els.length (gmt 5 els) (tra els) ((1, 1), (0, 0), (0, 0)) sg5_Q20 ss5_Q20 ∨ isoS 5 els.length (gmt 5 els) (tra els) ((2, 0), (2, 0), (0, 0)) sg5_2T ss5_2T ∨ isoS 5 els.length (gmt 5 els) (tra els) ((1, 1), (2, 0), (0, 0)) sg5_2I ss5_2I := by
  have h := hC.tgd (by decide)
  by_cases hcm : ∀ x y, x < els.length → y < els.length → gmt 5 els x y = gmt 5 els y x
  · obtain ⟨g, hg, hz⟩ := h.cyc (fun k hk => hC.od_tr (by decide) hk) cy5 hcm
    exact .inl ⟨g, hg, h.1.cyI hg hz⟩
  · right
    have hex : ∃ x y, x < els.length ∧ y < els.length ∧ gmt 5 els x y ≠ gmt 5 els y x := by
      apply Classical.byContradiction
      intro h9
      exact hcm (fun x y hx hy => Classical.byContradiction (fun h8 => h9 ⟨x, y, hx, hy, h8⟩))
    obtain ⟨x, y, hx, hy, hne⟩ := hex
    exact h.std5 hx hy hne
