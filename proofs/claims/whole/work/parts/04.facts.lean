/-! the words, and what the tables say of classes and calls -/
def am_ws : List Cond := lw_tbl.filter goodWord
theorem am_in {w : Cond} (h : w ∈ lw_tbl) (hg : goodWord w = true) : w ∈ am_ws := List.mem_filter.mpr ⟨h, hg⟩
theorem am_good {w : Cond} (h : w ∈ am_ws) : (w.onTables && w.keeps) = true ∨ ∃ ty, w = .arrayClass ty := good_of_word (List.mem_filter.mp h).2
theorem am_test0 : ((vx_at0 "SlidingHeap" 55 "java/lang/IllegalArgumentException" am_sup).all goodWord) = true := by decide +kernel
theorem am_test1 : (vx_at0 "SlidingHeap" 55 "java/lang/IllegalArgumentException" am_sup).all (fun w => decide (w ∈ lw_tbl)) = true := by decide +kernel
theorem am_test2 : (am_mlV.all (fun q => decide (Cond.methodLink (am_cC q.1) q.2.1 (am_y q.2.2) ∈ lw_tbl))) = true := by decide +kernel
