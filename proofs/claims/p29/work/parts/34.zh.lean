/-! contracts of the reference's methods: level, settle, hour, hours -/
theorem nI2_ne : ¬ nI 2 = 0 := by decide +kernel
