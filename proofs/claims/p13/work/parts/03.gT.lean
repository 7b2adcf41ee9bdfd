/-! the words that every contract of ours carries: the good ones of the tables, in one list -/
def gT : List Cond := lw_tbl.filter goodWord
theorem gT_of {w : Cond} (h : w ∈ lw_tbl) (g : goodWord w = true) : w ∈ gT := List.mem_filter.mpr ⟨h, g⟩
theorem gT_tab {w : Cond} (h : w ∈ tables_1) (g : goodWord w = true) : w ∈ gT := gT_of (List.mem_append_right _ h) g
theorem gT_sel {w : Cond} (h : w ∈ k2_sels lw_privs) (g : goodWord w = true) : w ∈ gT := gT_of (List.mem_append_left _ h) g
theorem gT_good {w : Cond} (h : w ∈ gT) : w ∈ gT ∧ ((w.onTables && w.keeps) = true ∨ ∃ ty, w = .arrayClass ty) := ⟨h, good_of_word (List.mem_filter.mp h).2⟩
