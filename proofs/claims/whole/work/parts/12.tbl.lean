set_option maxRecDepth 100000 in
theorem bw_tbl : ∀ w ∈ BW, w ∈ lw_tbl := by decide +kernel
