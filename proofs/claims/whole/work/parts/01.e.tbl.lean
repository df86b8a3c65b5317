/-! the words that every method's contract asks for: those of the tables that hold from call to call -/
def tblG : List Cond := lw_tbl.filter goodWord
theorem tblG_in {w : Cond} (h : w ∈ lw_tbl) (hg : goodWord w = true) : w ∈ tblG := List.mem_filter.mpr ⟨h, hg⟩
theorem tblG_t {w : Cond} (h : w ∈ tables_1) (hg : goodWord w = true) : w ∈ tblG := tblG_in (List.mem_append_right _ h) hg
theorem tblG_ok {w : Cond} (h : w ∈ tblG) : (w.onTables && w.keeps) = true ∨ ∃ ty, w = .arrayClass ty := good_of_word (List.mem_filter.mp h).2
theorem tblG_good {Ts : List Cond} (h : ∀ w ∈ tblG, w ∈ Ts) {w0 : Cond} (hw : w0 ∈ tblG) : GoodIn Ts (w0 :: tblG) := by
  intro w hm
  rcases List.mem_cons.mp hm with rfl | hm
  · exact ⟨h _ hw, tblG_ok hw⟩
  · exact ⟨h _ hm, tblG_ok hm⟩
