/-! The words of all methods are among the tables: chunks 24 to 31. -/
theorem wl_24 : ∀ w ∈ wA_24, w ∈ lw_tbl := by decide +kernel
theorem wl_25 : ∀ w ∈ wA_25, w ∈ lw_tbl := by decide +kernel
theorem wl_26 : ∀ w ∈ wA_26, w ∈ lw_tbl := by decide +kernel
theorem wl_27 : ∀ w ∈ wA_27, w ∈ lw_tbl := by decide +kernel
theorem wl_28 : ∀ w ∈ wA_28, w ∈ lw_tbl := by decide +kernel
theorem wl_29 : ∀ w ∈ wA_29, w ∈ lw_tbl := by decide +kernel
theorem wl_30 : ∀ w ∈ wA_30, w ∈ lw_tbl := by decide +kernel
theorem wl_31 : ∀ w ∈ wA_31, w ∈ lw_tbl := by decide +kernel
