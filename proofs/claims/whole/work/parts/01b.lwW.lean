/-- the table's words that move -/
def lwW : List Cond := lw_tbl.filter goodWord
theorem lwW_in {w : Cond} (i : Nat) (h : lw_tbl[i]? = some w) (g : goodWord w = true) : w ∈ lwW := List.mem_filter.mpr ⟨List.mem_of_getElem? h, g⟩
theorem lwW_good : GoodIn lwW lwW := fun w h => ⟨h, good_of_word (List.mem_filter.mp h).2⟩
