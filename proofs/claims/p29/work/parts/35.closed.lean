/-! the law's written runs -/
theorem texts_ok : p_L_texts = some (1 : Int32) := by decide +kernel
theorem halves_ok : p_L_halves = some (1 : Int32) := by decide +kernel
theorem same_ok : p_L_same = some (1 : Int32) := by decide +kernel
