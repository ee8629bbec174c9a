/-! The words of all methods are among the tables: chunk by chunk (44 chunks; see NOTES). -/
theorem wl_0 : ∀ w ∈ wA_0, w ∈ lw_tbl := by decide +kernel
