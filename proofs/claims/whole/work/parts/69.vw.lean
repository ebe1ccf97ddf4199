theorem vnB : ∀ c, c < 128 → vp_nar .byte (nI c) = nI c := by decide +kernel
theorem vnZ0 : vp_nar .boolean 0 = 0 := by decide +kernel
theorem vnZ1 : vp_nar .boolean 1 = 1 := by decide +kernel
