/-! codes: the reference's are the class's -/
theorem gr_t : ∀ x, x < 64 → ∀ y, y < 64 → mGr (nI x) (nI y) 36 = cGr (nI x) (nI y) 6 := by decide +kernel
theorem gr_b : ∀ x, x < 64 → ∀ y, y < 64 → (cGr (nI x) (nI y) 6).toNatClampNeg < 64 ∧ nI (cGr (nI x) (nI y) 6).toNatClampNeg = cGr (nI x) (nI y) 6 := by decide +kernel
