/-! The words of all methods are among the tables: chunks 38 to 43. -/
theorem wl_38 : ∀ w ∈ wA_38, w ∈ lw_tbl := by decide +kernel
theorem wl_39 : ∀ w ∈ wA_39, w ∈ lw_tbl := by decide +kernel
theorem wl_40 : ∀ w ∈ wA_40, w ∈ lw_tbl := by decide +kernel
theorem wl_41 : ∀ w ∈ wA_41, w ∈ lw_tbl := by decide +kernel
theorem wl_42 : ∀ w ∈ wA_42, w ∈ lw_tbl := by decide +kernel
theorem wl_43 : ∀ w ∈ wA_43, w ∈ lw_tbl := by decide +kernel
