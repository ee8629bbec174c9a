/-! The words of all methods are among the tables: chunks 16 to 23. -/
theorem wl_16 : ∀ w ∈ wA_16, w ∈ lw_tbl := by decide +kernel
theorem wl_17 : ∀ w ∈ wA_17, w ∈ lw_tbl := by decide +kernel
theorem wl_18 : ∀ w ∈ wA_18, w ∈ lw_tbl := by decide +kernel
theorem wl_19 : ∀ w ∈ wA_19, w ∈ lw_tbl := by decide +kernel
theorem wl_20 : ∀ w ∈ wA_20, w ∈ lw_tbl := by decide +kernel
theorem wl_21 : ∀ w ∈ wA_21, w ∈ lw_tbl := by decide +kernel
theorem wl_22 : ∀ w ∈ wA_22, w ∈ lw_tbl := by decide +kernel
theorem wl_23 : ∀ w ∈ wA_23, w ∈ lw_tbl := by decide +kernel
