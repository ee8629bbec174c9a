/-! The words of all methods are among the tables: chunks 32 to 37. -/
theorem wl_32 : ∀ w ∈ wA_32, w ∈ lw_tbl := by decide +kernel
theorem wl_33 : ∀ w ∈ wA_33, w ∈ lw_tbl := by decide +kernel
theorem wl_34 : ∀ w ∈ wA_34, w ∈ lw_tbl := by decide +kernel
theorem wl_35 : ∀ w ∈ wA_35, w ∈ lw_tbl := by decide +kernel
theorem wl_36 : ∀ w ∈ wA_36, w ∈ lw_tbl := by decide +kernel
theorem wl_37 : ∀ w ∈ wA_37, w ∈ lw_tbl := by decide +kernel
