set_option maxRecDepth 100000 in
theorem pm_ok1 : pm_chM 1 = true := by decide +kernel
