/-! ===== TYPES: every closing has what must be shown (printed by wip/whole/genI8.py) ===== -/
theorem cyt2 {told els : List (List Int)} (hC : Clo 2 told els) (hcl : clos 2 told = some (.inr els)) (ht : tolds 2 told) (h : isCy 2 els) : GD 2 els ∧ CONN 2 els := by
  obtain ⟨g, hg, hi⟩ := h
  have hm := (hC.tgd (by decide)).2 g hg
  have e : TRL 2 = [(4, 0), (-4, 0), (2, 0), (-2, 0), (0, 0), (0, 2), (0, -2)] := by decide
  rw [e] at hm
  simp only [List.mem_cons, List.not_mem_nil, or_false] at hm
  rcases hm with hm | hm | hm | hm | hm | hm | hm
  · exact cyc_types hC (by decide) hcl ht hg hi hm rfl zk2_c0 zc2_c0 zv2_c0 (fun t0 h0 => alJ_of zh2_n1 t0 h0)
  · exact cyc_types hC (by decide) hcl ht hg hi hm rfl zk2_c1 zc2_c1 zv2_c1 (fun t0 h0 => alJ_of zh2_n2 t0 h0)
  · exact cyc_types hC (by decide) hcl ht hg hi hm rfl zk2_c2 zc2_c2 zv2_c2 (fun t0 h0 => alJ_of zh2_n6 t0 h0)
  · exact cyc_types hC (by decide) hcl ht hg hi hm rfl zk2_c3 zc2_c3 zv2_c3 (fun t0 h0 => alJ_of zh2_n3 t0 h0)
  · exact cyc_types hC (by decide) hcl ht hg hi hm rfl zk2_c4 zc2_c4 zv2_c4 (fun t0 h0 => alJ_of zh2_n4 t0 h0)
  · exact cyc_types hC (by decide) hcl ht hg hi hm rfl zk2_c5 zc2_c5 zv2_c5 (fun t0 h0 => alJ_of zh2_n8 t0 h0)
  · exact cyc_types hC (by decide) hcl ht hg hi hm rfl zk2_c6 zc2_c6 zv2_c6 (fun t0 h0 => alJ_of zh2_n8 t0 h0)
theorem cyt3 {told els : List (List Int)} (hC : Clo 3 told els) (hcl : clos 3 told = some (.inr els)) (ht : tolds 3 told) (h : isCy 3 els) : GD 3 els ∧ CONN 3 els := by
  obtain ⟨g, hg, hi⟩ := h
  have hm := (hC.tgd (by decide)).2 g hg
  have e : TRL 3 = [(4, 0), (-4, 0), (2, 0), (-2, 0), (0, 0), (0, 2), (0, -2)] := by decide
  rw [e] at hm
  simp only [List.mem_cons, List.not_mem_nil, or_false] at hm
  rcases hm with hm | hm | hm | hm | hm | hm | hm
  · exact cyc_types hC (by decide) hcl ht hg hi hm rfl zk3_c0 zc3_c0 zv3_c0 (fun t0 h0 => alJ_of zh3_n1 t0 h0)
  · exact cyc_types hC (by decide) hcl ht hg hi hm rfl zk3_c1 zc3_c1 zv3_c1 (fun t0 h0 => alJ_of zh3_n2 t0 h0)
  · exact cyc_types hC (by decide) hcl ht hg hi hm rfl zk3_c2 zc3_c2 zv3_c2 (fun t0 h0 => alJ_of zh3_n6 t0 h0)
  · exact cyc_types hC (by decide) hcl ht hg hi hm rfl zk3_c3 zc3_c3 zv3_c3 (fun t0 h0 => alJ_of zh3_n3 t0 h0)
  · exact cyc_types hC (by decide) hcl ht hg hi hm rfl zk3_c4 zc3_c4 zv3_c4 (fun t0 h0 => alJ_of zh3_n4 t0 h0)
  · exact cyc_types hC (by decide) hcl ht hg hi hm rfl zk3_c5 zc3_c5 zv3_c5 (fun t0 h0 => alJ_of zh3_n12 t0 h0)
  · exact cyc_types hC (by decide) hcl ht hg hi hm rfl zk3_c6 zc3_c6 zv3_c6 (fun t0 h0 => alJ_of zh3_n12 t0 h0)
theorem cyt5 {told els : List (List Int)} (hC : Clo 5 told els) (hcl : clos 5 told = some (.inr els)) (ht : tolds 5 told) (h : isCy 5 els) : GD 5 els ∧ CONN 5 els := by
  obtain ⟨g, hg, hi⟩ := h
  have hm := (hC.tgd (by decide)).2 g hg
  have e : TRL 5 = [(4, 0), (-4, 0), (2, 0), (-2, 0), (0, 0), (1, 1), (1, -1), (-1, 1), (-1, -1)] := by decide
  rw [e] at hm
  simp only [List.mem_cons, List.not_mem_nil, or_false] at hm
  rcases hm with hm | hm | hm | hm | hm | hm | hm | hm | hm
  · exact cyc_types hC (by decide) hcl ht hg hi hm rfl zk5_c0 zc5_c0 zv5_c0 (fun t0 h0 => alJ_of zh5_n1 t0 h0)
  · exact cyc_types hC (by decide) hcl ht hg hi hm rfl zk5_c1 zc5_c1 zv5_c1 (fun t0 h0 => alJ_of zh5_n2 t0 h0)
  · exact cyc_types hC (by decide) hcl ht hg hi hm rfl zk5_c2 zc5_c2 zv5_c2 (fun t0 h0 => alJ_of zh5_n6 t0 h0)
  · exact cyc_types hC (by decide) hcl ht hg hi hm rfl zk5_c3 zc5_c3 zv5_c3 (fun t0 h0 => alJ_of zh5_n3 t0 h0)
  · exact cyc_types hC (by decide) hcl ht hg hi hm rfl zk5_c4 zc5_c4 zv5_c4 (fun t0 h0 => alJ_of zh5_n4 t0 h0)
  · exact cyc_types hC (by decide) hcl ht hg hi hm rfl zk5_c5 zc5_c5 zv5_c5 (fun t0 h0 => alJ_of zh5_n10 t0 h0)
  · exact cyc_types hC (by decide) hcl ht hg hi hm rfl zk5_c6 zc5_c6 zv5_c6 (fun t0 h0 => alJ_of zh5_n10 t0 h0)
  · exact cyc_types hC (by decide) hcl ht hg hi hm rfl zk5_c7 zc5_c7 zv5_c7 (fun t0 h0 => alJ_of zh5_n5 t0 h0)
  · exact cyc_types hC (by decide) hcl ht hg hi hm rfl zk5_c8 zc5_c8 zv5_c8 (fun t0 h0 => alJ_of zh5_n5 t0 h0)
theorem types_all : TYPES := by
  intro D told els ht hcl hD
  have hC := clos_Clo ht.2 hcl
  rcases hD with rfl | rfl | rfl
  · rcases hC.ty2 with h | h | h | h | h | h
    · exact cyt2 hC hcl ht h
    · exact zz2_Q8 hC h
    · exact zz2_Q12 hC h
    · exact zz2_Q16 hC h
    · exact zz2_2T hC h
    · exact zz2_2O hC h
  · rcases hC.ty3 with h | h | h | h | h
    · exact cyt3 hC hcl ht h
    · exact zz3_Q8 hC h
    · exact zz3_Q12 hC h
    · exact zz3_Q24 hC h
    · exact zz3_2T hC h
  · rcases hC.ty5 with h | h | h | h | h | h
    · exact cyt5 hC hcl ht h
    · exact zz5_Q8 hC h
    · exact zz5_Q12 hC h
    · exact zz5_Q20 hC h
    · exact zz5_2T hC h
    · exact zz5_2I hC h
