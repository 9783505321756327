/-! refusals: each call with a wrong argument answers its number and changes nothing -/
theorem place_at (R : (Nat → UInt64) × Int32) : p_X4_hasPlace R R.2 = some (0 : Int32) := by
  unfold p_X4_hasPlace
  by_cases c : R.2 < 0
  · rw [if_pos c]
  · rw [if_neg c, if_pos (show R.2 ≤ R.2 from Int32.le_iff_toInt_le.mpr (Int.le_refl _))]
theorem place_m1 (R : (Nat → UInt64) × Int32) : p_X4_hasPlace R (-1 : Int32) = some (0 : Int32) := by
  unfold p_X4_hasPlace
  rw [if_pos (by decide +kernel)]
theorem rc1 (v_this_state : (((Nat → UInt64) × Int32) × ((Nat → UInt64) × Int32) × (Nat → UInt64) × Int32)) (v_this_grid_values : Nat → UInt64) (v_this_grid_kinds : Nat → Int32) (v_this_grid_table : Int32) (v_this_grid_guard : UInt64) (v_this_grid_ratio : UInt64) (v_this_grid_bridging : Int32) (v_this_grid_length : Int32) (v_this_grid_guessColumn : Int32) (v_this_grid_guessError : UInt64) (v_this_grid_guessValue : UInt64) : p_X8_best v_this_state v_this_grid_values v_this_grid_kinds v_this_grid_table v_this_grid_guard v_this_grid_ratio v_this_grid_bridging v_this_grid_length v_this_grid_guessColumn v_this_grid_guessError v_this_grid_guessValue (2 : Int32) = some ((-1 : Int32), v_this_grid_values, v_this_grid_kinds, v_this_grid_table, v_this_grid_guard, v_this_grid_ratio, v_this_grid_bridging, v_this_grid_length, v_this_grid_guessColumn, v_this_grid_guessError, v_this_grid_guessValue) := by
  unfold p_X8_best
  rw [show p_X8_isRow (2 : Int32) = some (0 : Int32) by decide +kernel, Option.bind_some]
  rw [if_pos (by decide +kernel)]
theorem rc2 (v_this_state : (((Nat → UInt64) × Int32) × ((Nat → UInt64) × Int32) × (Nat → UInt64) × Int32)) (v_this_grid_values : Nat → UInt64) (v_this_grid_kinds : Nat → Int32) (v_this_grid_table : Int32) (v_this_grid_guard : UInt64) (v_this_grid_ratio : UInt64) (v_this_grid_bridging : Int32) (v_this_grid_length : Int32) (v_this_grid_guessColumn : Int32) (v_this_grid_guessError : UInt64) (v_this_grid_guessValue : UInt64) : p_X8_needed v_this_state v_this_grid_values v_this_grid_kinds v_this_grid_table v_this_grid_guard v_this_grid_ratio v_this_grid_bridging v_this_grid_length v_this_grid_guessColumn v_this_grid_guessError v_this_grid_guessValue (2 : Int32) (0 : Int32) (9221120237041090560 : Int64) = some ((-1 : Int32), v_this_grid_values, v_this_grid_kinds, v_this_grid_table, v_this_grid_guard, v_this_grid_ratio, v_this_grid_bridging, v_this_grid_length, v_this_grid_guessColumn, v_this_grid_guessError, v_this_grid_guessValue) := by
  unfold p_X8_needed
  rw [show p_X8_isTable (2 : Int32) (0 : Int32) = some (0 : Int32) by decide +kernel, Option.bind_some]
  rw [if_pos (by decide +kernel)]
theorem rc3 (v_this_state : (((Nat → UInt64) × Int32) × ((Nat → UInt64) × Int32) × (Nat → UInt64) × Int32)) (v_this_grid_values : Nat → UInt64) (v_this_grid_kinds : Nat → Int32) (v_this_grid_table : Int32) (v_this_grid_guard : UInt64) (v_this_grid_ratio : UInt64) (v_this_grid_bridging : Int32) (v_this_grid_length : Int32) (v_this_grid_guessColumn : Int32) (v_this_grid_guessError : UInt64) (v_this_grid_guessValue : UInt64) : p_X8_needed v_this_state v_this_grid_values v_this_grid_kinds v_this_grid_table v_this_grid_guard v_this_grid_ratio v_this_grid_bridging v_this_grid_length v_this_grid_guessColumn v_this_grid_guessError v_this_grid_guessValue (0 : Int32) (4 : Int32) (9221120237041090560 : Int64) = some ((-1 : Int32), v_this_grid_values, v_this_grid_kinds, v_this_grid_table, v_this_grid_guard, v_this_grid_ratio, v_this_grid_bridging, v_this_grid_length, v_this_grid_guessColumn, v_this_grid_guessError, v_this_grid_guessValue) := by
  unfold p_X8_needed
  rw [show p_X8_isTable (0 : Int32) (4 : Int32) = some (0 : Int32) by decide +kernel, Option.bind_some]
  rw [if_pos (by decide +kernel)]
theorem rc4 (v_this_state : (((Nat → UInt64) × Int32) × ((Nat → UInt64) × Int32) × (Nat → UInt64) × Int32)) (v_this_grid_values : Nat → UInt64) (v_this_grid_kinds : Nat → Int32) (v_this_grid_table : Int32) (v_this_grid_guard : UInt64) (v_this_grid_ratio : UInt64) (v_this_grid_bridging : Int32) (v_this_grid_length : Int32) (v_this_grid_guessColumn : Int32) (v_this_grid_guessError : UInt64) (v_this_grid_guessValue : UInt64) : p_X8_needed v_this_state v_this_grid_values v_this_grid_kinds v_this_grid_table v_this_grid_guard v_this_grid_ratio v_this_grid_bridging v_this_grid_length v_this_grid_guessColumn v_this_grid_guessError v_this_grid_guessValue (0 : Int32) (0 : Int32) (9221120237041090560 : Int64) = some ((-2 : Int32), v_this_grid_values, v_this_grid_kinds, v_this_grid_table, v_this_grid_guard, v_this_grid_ratio, v_this_grid_bridging, v_this_grid_length, v_this_grid_guessColumn, v_this_grid_guessError, v_this_grid_guessValue) := by
  unfold p_X8_needed
  rw [show p_X8_isTable (0 : Int32) (0 : Int32) = some (1 : Int32) by decide +kernel, Option.bind_some]
  rw [if_neg (by decide +kernel)]
  rw [show p_X0_isNan (9221120237041090560 : Int64) = some (1 : Int32) by decide +kernel, Option.bind_some]
  rw [if_neg (by decide +kernel)]
theorem rc5 (v_this_state : (((Nat → UInt64) × Int32) × ((Nat → UInt64) × Int32) × (Nat → UInt64) × Int32)) (v_this_grid_values : Nat → UInt64) (v_this_grid_kinds : Nat → Int32) (v_this_grid_table : Int32) (v_this_grid_guard : UInt64) (v_this_grid_ratio : UInt64) (v_this_grid_bridging : Int32) (v_this_grid_length : Int32) (v_this_grid_guessColumn : Int32) (v_this_grid_guessError : UInt64) (v_this_grid_guessValue : UInt64) : p_X8_best v_this_state v_this_grid_values v_this_grid_kinds v_this_grid_table v_this_grid_guard v_this_grid_ratio v_this_grid_bridging v_this_grid_length v_this_grid_guessColumn v_this_grid_guessError v_this_grid_guessValue (-1 : Int32) = some ((-1 : Int32), v_this_grid_values, v_this_grid_kinds, v_this_grid_table, v_this_grid_guard, v_this_grid_ratio, v_this_grid_bridging, v_this_grid_length, v_this_grid_guessColumn, v_this_grid_guessError, v_this_grid_guessValue) := by
  unfold p_X8_best
  rw [show p_X8_isRow (-1 : Int32) = some (0 : Int32) by decide +kernel, Option.bind_some]
  rw [if_pos (by decide +kernel)]
theorem rc6 (v_this_state : (((Nat → UInt64) × Int32) × ((Nat → UInt64) × Int32) × (Nat → UInt64) × Int32)) (v_this_grid_values : Nat → UInt64) (v_this_grid_kinds : Nat → Int32) (v_this_grid_table : Int32) (v_this_grid_guard : UInt64) (v_this_grid_ratio : UInt64) (v_this_grid_bridging : Int32) (v_this_grid_length : Int32) (v_this_grid_guessColumn : Int32) (v_this_grid_guessError : UInt64) (v_this_grid_guessValue : UInt64) : p_X8_needed v_this_state v_this_grid_values v_this_grid_kinds v_this_grid_table v_this_grid_guard v_this_grid_ratio v_this_grid_bridging v_this_grid_length v_this_grid_guessColumn v_this_grid_guessError v_this_grid_guessValue (-1 : Int32) (0 : Int32) (9218868437227405312 : Int64) = some ((-1 : Int32), v_this_grid_values, v_this_grid_kinds, v_this_grid_table, v_this_grid_guard, v_this_grid_ratio, v_this_grid_bridging, v_this_grid_length, v_this_grid_guessColumn, v_this_grid_guessError, v_this_grid_guessValue) := by
  unfold p_X8_needed
  rw [show p_X8_isTable (-1 : Int32) (0 : Int32) = some (0 : Int32) by decide +kernel, Option.bind_some]
  rw [if_pos (by decide +kernel)]
theorem rc7 (v_this_state : (((Nat → UInt64) × Int32) × ((Nat → UInt64) × Int32) × (Nat → UInt64) × Int32)) (v_this_grid_values : Nat → UInt64) (v_this_grid_kinds : Nat → Int32) (v_this_grid_table : Int32) (v_this_grid_guard : UInt64) (v_this_grid_ratio : UInt64) (v_this_grid_bridging : Int32) (v_this_grid_length : Int32) (v_this_grid_guessColumn : Int32) (v_this_grid_guessError : UInt64) (v_this_grid_guessValue : UInt64) : p_X8_needed v_this_state v_this_grid_values v_this_grid_kinds v_this_grid_table v_this_grid_guard v_this_grid_ratio v_this_grid_bridging v_this_grid_length v_this_grid_guessColumn v_this_grid_guessError v_this_grid_guessValue (0 : Int32) (-1 : Int32) (9218868437227405312 : Int64) = some ((-1 : Int32), v_this_grid_values, v_this_grid_kinds, v_this_grid_table, v_this_grid_guard, v_this_grid_ratio, v_this_grid_bridging, v_this_grid_length, v_this_grid_guessColumn, v_this_grid_guessError, v_this_grid_guessValue) := by
  unfold p_X8_needed
  rw [show p_X8_isTable (0 : Int32) (-1 : Int32) = some (0 : Int32) by decide +kernel, Option.bind_some]
  rw [if_pos (by decide +kernel)]
theorem rc8 (v_this_state : (((Nat → UInt64) × Int32) × ((Nat → UInt64) × Int32) × (Nat → UInt64) × Int32)) (v_this_grid_values : Nat → UInt64) (v_this_grid_kinds : Nat → Int32) (v_this_grid_table : Int32) (v_this_grid_guard : UInt64) (v_this_grid_ratio : UInt64) (v_this_grid_bridging : Int32) (v_this_grid_length : Int32) (v_this_grid_guessColumn : Int32) (v_this_grid_guessError : UInt64) (v_this_grid_guessValue : UInt64) : p_X8_needed v_this_state v_this_grid_values v_this_grid_kinds v_this_grid_table v_this_grid_guard v_this_grid_ratio v_this_grid_bridging v_this_grid_length v_this_grid_guessColumn v_this_grid_guessError v_this_grid_guessValue (0 : Int32) (0 : Int32) (-4616189618054758400 : Int64) = some ((-2 : Int32), v_this_grid_values, v_this_grid_kinds, v_this_grid_table, v_this_grid_guard, v_this_grid_ratio, v_this_grid_bridging, v_this_grid_length, v_this_grid_guessColumn, v_this_grid_guessError, v_this_grid_guessValue) := by
  unfold p_X8_needed
  rw [show p_X8_isTable (0 : Int32) (0 : Int32) = some (1 : Int32) by decide +kernel, Option.bind_some]
  rw [if_neg (by decide +kernel)]
  rw [show p_X0_isNan (-4616189618054758400 : Int64) = some (0 : Int32) by decide +kernel, Option.bind_some]
  rw [if_pos (by decide +kernel)]
  rw [show p_X0_decoded (-4616189618054758400 : Int64) = some (13830554455654793216 : UInt64) by decide +kernel, Option.bind_some]
  rw [if_neg (by decide +kernel)]
theorem rc9 (v_this_state : (((Nat → UInt64) × Int32) × ((Nat → UInt64) × Int32) × (Nat → UInt64) × Int32)) (v_this_grid_values : Nat → UInt64) (v_this_grid_kinds : Nat → Int32) (v_this_grid_table : Int32) (v_this_grid_guard : UInt64) (v_this_grid_ratio : UInt64) (v_this_grid_bridging : Int32) (v_this_grid_length : Int32) (v_this_grid_guessColumn : Int32) (v_this_grid_guessError : UInt64) (v_this_grid_guessValue : UInt64) : p_X8_error v_this_state v_this_grid_values v_this_grid_kinds v_this_grid_table v_this_grid_guard v_this_grid_ratio v_this_grid_bridging v_this_grid_length v_this_grid_guessColumn v_this_grid_guessError v_this_grid_guessValue (2 : Int32) (0 : Int32) = some ((9221120237041090560 : UInt64), v_this_grid_values, v_this_grid_kinds, v_this_grid_table, v_this_grid_guard, v_this_grid_ratio, v_this_grid_bridging, v_this_grid_length, v_this_grid_guessColumn, v_this_grid_guessError, v_this_grid_guessValue) := by
  unfold p_X8_error
  rw [show p_X8_isTable (2 : Int32) (0 : Int32) = some (0 : Int32) by decide +kernel, Option.bind_some]
  rw [if_pos (by decide +kernel)]
  rw [show p_X8_noNumber = some (9221120237041090560 : UInt64) from rfl, Option.bind_some]
theorem rc10 (v_this_state : (((Nat → UInt64) × Int32) × ((Nat → UInt64) × Int32) × (Nat → UInt64) × Int32)) (v_this_grid_values : Nat → UInt64) (v_this_grid_kinds : Nat → Int32) (v_this_grid_table : Int32) (v_this_grid_guard : UInt64) (v_this_grid_ratio : UInt64) (v_this_grid_bridging : Int32) (v_this_grid_length : Int32) (v_this_grid_guessColumn : Int32) (v_this_grid_guessError : UInt64) (v_this_grid_guessValue : UInt64) : p_X8_error v_this_state v_this_grid_values v_this_grid_kinds v_this_grid_table v_this_grid_guard v_this_grid_ratio v_this_grid_bridging v_this_grid_length v_this_grid_guessColumn v_this_grid_guessError v_this_grid_guessValue (0 : Int32) (4 : Int32) = some ((9221120237041090560 : UInt64), v_this_grid_values, v_this_grid_kinds, v_this_grid_table, v_this_grid_guard, v_this_grid_ratio, v_this_grid_bridging, v_this_grid_length, v_this_grid_guessColumn, v_this_grid_guessError, v_this_grid_guessValue) := by
  unfold p_X8_error
  rw [show p_X8_isTable (0 : Int32) (4 : Int32) = some (0 : Int32) by decide +kernel, Option.bind_some]
  rw [if_pos (by decide +kernel)]
  rw [show p_X8_noNumber = some (9221120237041090560 : UInt64) from rfl, Option.bind_some]
theorem rc11 (v_this_state : (((Nat → UInt64) × Int32) × ((Nat → UInt64) × Int32) × (Nat → UInt64) × Int32)) (v_this_grid_values : Nat → UInt64) (v_this_grid_kinds : Nat → Int32) (v_this_grid_table : Int32) (v_this_grid_guard : UInt64) (v_this_grid_ratio : UInt64) (v_this_grid_bridging : Int32) (v_this_grid_length : Int32) (v_this_grid_guessColumn : Int32) (v_this_grid_guessError : UInt64) (v_this_grid_guessValue : UInt64) : p_X8_spread v_this_state v_this_grid_values v_this_grid_kinds v_this_grid_table v_this_grid_guard v_this_grid_ratio v_this_grid_bridging v_this_grid_length v_this_grid_guessColumn v_this_grid_guessError v_this_grid_guessValue (2 : Int32) = some ((9221120237041090560 : UInt64), v_this_grid_values, v_this_grid_kinds, v_this_grid_table, v_this_grid_guard, v_this_grid_ratio, v_this_grid_bridging, v_this_grid_length, v_this_grid_guessColumn, v_this_grid_guessError, v_this_grid_guessValue) := by
  unfold p_X8_spread
  rw [show p_X8_isRow (2 : Int32) = some (0 : Int32) by decide +kernel, Option.bind_some]
  rw [if_pos (by decide +kernel)]
  rw [show p_X8_noNumber = some (9221120237041090560 : UInt64) from rfl, Option.bind_some]
theorem rc12 (v_this_state : (((Nat → UInt64) × Int32) × ((Nat → UInt64) × Int32) × (Nat → UInt64) × Int32)) (v_this_grid_values : Nat → UInt64) (v_this_grid_kinds : Nat → Int32) (v_this_grid_table : Int32) (v_this_grid_guard : UInt64) (v_this_grid_ratio : UInt64) (v_this_grid_bridging : Int32) (v_this_grid_length : Int32) (v_this_grid_guessColumn : Int32) (v_this_grid_guessError : UInt64) (v_this_grid_guessValue : UInt64) : p_X8_error v_this_state v_this_grid_values v_this_grid_kinds v_this_grid_table v_this_grid_guard v_this_grid_ratio v_this_grid_bridging v_this_grid_length v_this_grid_guessColumn v_this_grid_guessError v_this_grid_guessValue (-1 : Int32) (0 : Int32) = some ((9221120237041090560 : UInt64), v_this_grid_values, v_this_grid_kinds, v_this_grid_table, v_this_grid_guard, v_this_grid_ratio, v_this_grid_bridging, v_this_grid_length, v_this_grid_guessColumn, v_this_grid_guessError, v_this_grid_guessValue) := by
  unfold p_X8_error
  rw [show p_X8_isTable (-1 : Int32) (0 : Int32) = some (0 : Int32) by decide +kernel, Option.bind_some]
  rw [if_pos (by decide +kernel)]
  rw [show p_X8_noNumber = some (9221120237041090560 : UInt64) from rfl, Option.bind_some]
theorem rc13 (v_this_state : (((Nat → UInt64) × Int32) × ((Nat → UInt64) × Int32) × (Nat → UInt64) × Int32)) (v_this_grid_values : Nat → UInt64) (v_this_grid_kinds : Nat → Int32) (v_this_grid_table : Int32) (v_this_grid_guard : UInt64) (v_this_grid_ratio : UInt64) (v_this_grid_bridging : Int32) (v_this_grid_length : Int32) (v_this_grid_guessColumn : Int32) (v_this_grid_guessError : UInt64) (v_this_grid_guessValue : UInt64) : p_X8_error v_this_state v_this_grid_values v_this_grid_kinds v_this_grid_table v_this_grid_guard v_this_grid_ratio v_this_grid_bridging v_this_grid_length v_this_grid_guessColumn v_this_grid_guessError v_this_grid_guessValue (0 : Int32) (-1 : Int32) = some ((9221120237041090560 : UInt64), v_this_grid_values, v_this_grid_kinds, v_this_grid_table, v_this_grid_guard, v_this_grid_ratio, v_this_grid_bridging, v_this_grid_length, v_this_grid_guessColumn, v_this_grid_guessError, v_this_grid_guessValue) := by
  unfold p_X8_error
  rw [show p_X8_isTable (0 : Int32) (-1 : Int32) = some (0 : Int32) by decide +kernel, Option.bind_some]
  rw [if_pos (by decide +kernel)]
  rw [show p_X8_noNumber = some (9221120237041090560 : UInt64) from rfl, Option.bind_some]
theorem rc14 (v_this_state : (((Nat → UInt64) × Int32) × ((Nat → UInt64) × Int32) × (Nat → UInt64) × Int32)) (v_this_grid_values : Nat → UInt64) (v_this_grid_kinds : Nat → Int32) (v_this_grid_table : Int32) (v_this_grid_guard : UInt64) (v_this_grid_ratio : UInt64) (v_this_grid_bridging : Int32) (v_this_grid_length : Int32) (v_this_grid_guessColumn : Int32) (v_this_grid_guessError : UInt64) (v_this_grid_guessValue : UInt64) : p_X8_spread v_this_state v_this_grid_values v_this_grid_kinds v_this_grid_table v_this_grid_guard v_this_grid_ratio v_this_grid_bridging v_this_grid_length v_this_grid_guessColumn v_this_grid_guessError v_this_grid_guessValue (-1 : Int32) = some ((9221120237041090560 : UInt64), v_this_grid_values, v_this_grid_kinds, v_this_grid_table, v_this_grid_guard, v_this_grid_ratio, v_this_grid_bridging, v_this_grid_length, v_this_grid_guessColumn, v_this_grid_guessError, v_this_grid_guessValue) := by
  unfold p_X8_spread
  rw [show p_X8_isRow (-1 : Int32) = some (0 : Int32) by decide +kernel, Option.bind_some]
  rw [if_pos (by decide +kernel)]
  rw [show p_X8_noNumber = some (9221120237041090560 : UInt64) from rfl, Option.bind_some]
theorem rc15 (v_this_state : (((Nat → UInt64) × Int32) × ((Nat → UInt64) × Int32) × (Nat → UInt64) × Int32)) (v_this_grid_values : Nat → UInt64) (v_this_grid_kinds : Nat → Int32) (v_this_grid_table : Int32) (v_this_grid_guard : UInt64) (v_this_grid_ratio : UInt64) (v_this_grid_bridging : Int32) (v_this_grid_length : Int32) (v_this_grid_guessColumn : Int32) (v_this_grid_guessError : UInt64) (v_this_grid_guessValue : UInt64) : p_X8_table v_this_state v_this_grid_values v_this_grid_kinds v_this_grid_table v_this_grid_guard v_this_grid_ratio v_this_grid_bridging v_this_grid_length v_this_grid_guessColumn v_this_grid_guessError v_this_grid_guessValue (0 : Int32) (4 : Int32) (9 : Int32) = some ((-1 : Int32), v_this_grid_values, v_this_grid_kinds, v_this_grid_table, v_this_grid_guard, v_this_grid_ratio, v_this_grid_bridging, v_this_grid_length, v_this_grid_guessColumn, v_this_grid_guessError, v_this_grid_guessValue) := by
  unfold p_X8_table
  rw [show p_X8_isTable (0 : Int32) (4 : Int32) = some (0 : Int32) by decide +kernel, Option.bind_some]
  rw [if_pos (by decide +kernel)]
theorem rc16 (v_this_state : (((Nat → UInt64) × Int32) × ((Nat → UInt64) × Int32) × (Nat → UInt64) × Int32)) (v_this_grid_values : Nat → UInt64) (v_this_grid_kinds : Nat → Int32) (v_this_grid_table : Int32) (v_this_grid_guard : UInt64) (v_this_grid_ratio : UInt64) (v_this_grid_bridging : Int32) (v_this_grid_length : Int32) (v_this_grid_guessColumn : Int32) (v_this_grid_guessError : UInt64) (v_this_grid_guessValue : UInt64) : p_X8_table v_this_state v_this_grid_values v_this_grid_kinds v_this_grid_table v_this_grid_guard v_this_grid_ratio v_this_grid_bridging v_this_grid_length v_this_grid_guessColumn v_this_grid_guessError v_this_grid_guessValue (0 : Int32) (0 : Int32) (5 : Int32) = some ((-2 : Int32), v_this_grid_values, v_this_grid_kinds, v_this_grid_table, v_this_grid_guard, v_this_grid_ratio, v_this_grid_bridging, v_this_grid_length, v_this_grid_guessColumn, v_this_grid_guessError, v_this_grid_guessValue) := by
  unfold p_X8_table
  rw [show p_X8_isTable (0 : Int32) (0 : Int32) = some (1 : Int32) by decide +kernel, Option.bind_some]
  rw [if_neg (by decide +kernel)]
  rw [if_neg (by decide +kernel)]
  rw [if_neg (by decide +kernel)]
theorem rc17 (v_this_state : (((Nat → UInt64) × Int32) × ((Nat → UInt64) × Int32) × (Nat → UInt64) × Int32)) (v_this_grid_values : Nat → UInt64) (v_this_grid_kinds : Nat → Int32) (v_this_grid_table : Int32) (v_this_grid_guard : UInt64) (v_this_grid_ratio : UInt64) (v_this_grid_bridging : Int32) (v_this_grid_length : Int32) (v_this_grid_guessColumn : Int32) (v_this_grid_guessError : UInt64) (v_this_grid_guessValue : UInt64) : p_X8_guess v_this_state v_this_grid_values v_this_grid_kinds v_this_grid_table v_this_grid_guard v_this_grid_ratio v_this_grid_bridging v_this_grid_length v_this_grid_guessColumn v_this_grid_guessError v_this_grid_guessValue (2 : Int32) (0 : Int32) = some ((9221120237041090560 : UInt64), v_this_grid_values, v_this_grid_kinds, v_this_grid_table, v_this_grid_guard, v_this_grid_ratio, v_this_grid_bridging, v_this_grid_length, v_this_grid_guessColumn, v_this_grid_guessError, v_this_grid_guessValue) := by
  unfold p_X8_guess
  rw [show p_X8_isTable (2 : Int32) (0 : Int32) = some (0 : Int32) by decide +kernel, Option.bind_some]
  rw [if_pos (by decide +kernel)]
  rw [show p_X8_noNumber = some (9221120237041090560 : UInt64) from rfl, Option.bind_some]
theorem rc18 (v_this_state : (((Nat → UInt64) × Int32) × ((Nat → UInt64) × Int32) × (Nat → UInt64) × Int32)) (v_this_grid_values : Nat → UInt64) (v_this_grid_kinds : Nat → Int32) (v_this_grid_table : Int32) (v_this_grid_guard : UInt64) (v_this_grid_ratio : UInt64) (v_this_grid_bridging : Int32) (v_this_grid_length : Int32) (v_this_grid_guessColumn : Int32) (v_this_grid_guessError : UInt64) (v_this_grid_guessValue : UInt64) : p_X8_guess v_this_state v_this_grid_values v_this_grid_kinds v_this_grid_table v_this_grid_guard v_this_grid_ratio v_this_grid_bridging v_this_grid_length v_this_grid_guessColumn v_this_grid_guessError v_this_grid_guessValue (0 : Int32) (4 : Int32) = some ((9221120237041090560 : UInt64), v_this_grid_values, v_this_grid_kinds, v_this_grid_table, v_this_grid_guard, v_this_grid_ratio, v_this_grid_bridging, v_this_grid_length, v_this_grid_guessColumn, v_this_grid_guessError, v_this_grid_guessValue) := by
  unfold p_X8_guess
  rw [show p_X8_isTable (0 : Int32) (4 : Int32) = some (0 : Int32) by decide +kernel, Option.bind_some]
  rw [if_pos (by decide +kernel)]
  rw [show p_X8_noNumber = some (9221120237041090560 : UInt64) from rfl, Option.bind_some]
theorem rc19 (v_this_state : (((Nat → UInt64) × Int32) × ((Nat → UInt64) × Int32) × (Nat → UInt64) × Int32)) (v_this_grid_values : Nat → UInt64) (v_this_grid_kinds : Nat → Int32) (v_this_grid_table : Int32) (v_this_grid_guard : UInt64) (v_this_grid_ratio : UInt64) (v_this_grid_bridging : Int32) (v_this_grid_length : Int32) (v_this_grid_guessColumn : Int32) (v_this_grid_guessError : UInt64) (v_this_grid_guessValue : UInt64) : p_X8_table v_this_state v_this_grid_values v_this_grid_kinds v_this_grid_table v_this_grid_guard v_this_grid_ratio v_this_grid_bridging v_this_grid_length v_this_grid_guessColumn v_this_grid_guessError v_this_grid_guessValue (0 : Int32) (-1 : Int32) (9 : Int32) = some ((-1 : Int32), v_this_grid_values, v_this_grid_kinds, v_this_grid_table, v_this_grid_guard, v_this_grid_ratio, v_this_grid_bridging, v_this_grid_length, v_this_grid_guessColumn, v_this_grid_guessError, v_this_grid_guessValue) := by
  unfold p_X8_table
  rw [show p_X8_isTable (0 : Int32) (-1 : Int32) = some (0 : Int32) by decide +kernel, Option.bind_some]
  rw [if_pos (by decide +kernel)]
theorem rc20 (v_this_state : (((Nat → UInt64) × Int32) × ((Nat → UInt64) × Int32) × (Nat → UInt64) × Int32)) (v_this_grid_values : Nat → UInt64) (v_this_grid_kinds : Nat → Int32) (v_this_grid_table : Int32) (v_this_grid_guard : UInt64) (v_this_grid_ratio : UInt64) (v_this_grid_bridging : Int32) (v_this_grid_length : Int32) (v_this_grid_guessColumn : Int32) (v_this_grid_guessError : UInt64) (v_this_grid_guessValue : UInt64) : p_X8_table v_this_state v_this_grid_values v_this_grid_kinds v_this_grid_table v_this_grid_guard v_this_grid_ratio v_this_grid_bridging v_this_grid_length v_this_grid_guessColumn v_this_grid_guessError v_this_grid_guessValue (0 : Int32) (0 : Int32) (-1 : Int32) = some ((-2 : Int32), v_this_grid_values, v_this_grid_kinds, v_this_grid_table, v_this_grid_guard, v_this_grid_ratio, v_this_grid_bridging, v_this_grid_length, v_this_grid_guessColumn, v_this_grid_guessError, v_this_grid_guessValue) := by
  unfold p_X8_table
  rw [show p_X8_isTable (0 : Int32) (0 : Int32) = some (1 : Int32) by decide +kernel, Option.bind_some]
  rw [if_neg (by decide +kernel)]
  rw [if_pos (by decide +kernel)]
theorem rc21 (v_this_state : (((Nat → UInt64) × Int32) × ((Nat → UInt64) × Int32) × (Nat → UInt64) × Int32)) (v_this_grid_values : Nat → UInt64) (v_this_grid_kinds : Nat → Int32) (v_this_grid_table : Int32) (v_this_grid_guard : UInt64) (v_this_grid_ratio : UInt64) (v_this_grid_bridging : Int32) (v_this_grid_length : Int32) (v_this_grid_guessColumn : Int32) (v_this_grid_guessError : UInt64) (v_this_grid_guessValue : UInt64) : p_X8_guess v_this_state v_this_grid_values v_this_grid_kinds v_this_grid_table v_this_grid_guard v_this_grid_ratio v_this_grid_bridging v_this_grid_length v_this_grid_guessColumn v_this_grid_guessError v_this_grid_guessValue (-1 : Int32) (0 : Int32) = some ((9221120237041090560 : UInt64), v_this_grid_values, v_this_grid_kinds, v_this_grid_table, v_this_grid_guard, v_this_grid_ratio, v_this_grid_bridging, v_this_grid_length, v_this_grid_guessColumn, v_this_grid_guessError, v_this_grid_guessValue) := by
  unfold p_X8_guess
  rw [show p_X8_isTable (-1 : Int32) (0 : Int32) = some (0 : Int32) by decide +kernel, Option.bind_some]
  rw [if_pos (by decide +kernel)]
  rw [show p_X8_noNumber = some (9221120237041090560 : UInt64) from rfl, Option.bind_some]
theorem rc22 (v_this_state : (((Nat → UInt64) × Int32) × ((Nat → UInt64) × Int32) × (Nat → UInt64) × Int32)) (v_this_grid_values : Nat → UInt64) (v_this_grid_kinds : Nat → Int32) (v_this_grid_table : Int32) (v_this_grid_guard : UInt64) (v_this_grid_ratio : UInt64) (v_this_grid_bridging : Int32) (v_this_grid_length : Int32) (v_this_grid_guessColumn : Int32) (v_this_grid_guessError : UInt64) (v_this_grid_guessValue : UInt64) : p_X8_guess v_this_state v_this_grid_values v_this_grid_kinds v_this_grid_table v_this_grid_guard v_this_grid_ratio v_this_grid_bridging v_this_grid_length v_this_grid_guessColumn v_this_grid_guessError v_this_grid_guessValue (0 : Int32) (-1 : Int32) = some ((9221120237041090560 : UInt64), v_this_grid_values, v_this_grid_kinds, v_this_grid_table, v_this_grid_guard, v_this_grid_ratio, v_this_grid_bridging, v_this_grid_length, v_this_grid_guessColumn, v_this_grid_guessError, v_this_grid_guessValue) := by
  unfold p_X8_guess
  rw [show p_X8_isTable (0 : Int32) (-1 : Int32) = some (0 : Int32) by decide +kernel, Option.bind_some]
  rw [if_pos (by decide +kernel)]
  rw [show p_X8_noNumber = some (9221120237041090560 : UInt64) from rfl, Option.bind_some]
theorem rc23 (v_this_state : (((Nat → UInt64) × Int32) × ((Nat → UInt64) × Int32) × (Nat → UInt64) × Int32)) (v_this_grid_values : Nat → UInt64) (v_this_grid_kinds : Nat → Int32) (v_this_grid_table : Int32) (v_this_grid_guard : UInt64) (v_this_grid_ratio : UInt64) (v_this_grid_bridging : Int32) (v_this_grid_length : Int32) : p_X8_entry v_this_state v_this_grid_values v_this_grid_kinds v_this_grid_table v_this_grid_guard v_this_grid_ratio v_this_grid_bridging v_this_grid_length (0 : Int32) (4 : Int32) (0 : Int32) (0 : Int32) = some ((9221120237041090560 : UInt64), v_this_grid_values, v_this_grid_kinds, v_this_grid_table, v_this_grid_guard, v_this_grid_ratio, v_this_grid_bridging, v_this_grid_length) := by
  unfold p_X8_entry
  rw [show p_X8_isTable (0 : Int32) (4 : Int32) = some (0 : Int32) by decide +kernel, Option.bind_some]
  rw [if_pos (by decide +kernel)]
  rw [show p_X8_noNumber = some (9221120237041090560 : UInt64) from rfl, Option.bind_some]
theorem rc24 (v_this_state : (((Nat → UInt64) × Int32) × ((Nat → UInt64) × Int32) × (Nat → UInt64) × Int32)) (v_this_grid_values : Nat → UInt64) (v_this_grid_kinds : Nat → Int32) (v_this_grid_table : Int32) (v_this_grid_guard : UInt64) (v_this_grid_ratio : UInt64) (v_this_grid_bridging : Int32) (v_this_grid_length : Int32) : p_X8_kind v_this_state v_this_grid_values v_this_grid_kinds v_this_grid_table v_this_grid_guard v_this_grid_ratio v_this_grid_bridging v_this_grid_length (2 : Int32) (0 : Int32) (0 : Int32) (0 : Int32) = some ((-1 : Int32), v_this_grid_values, v_this_grid_kinds, v_this_grid_table, v_this_grid_guard, v_this_grid_ratio, v_this_grid_bridging, v_this_grid_length) := by
  unfold p_X8_kind
  rw [show p_X8_isTable (2 : Int32) (0 : Int32) = some (0 : Int32) by decide +kernel, Option.bind_some]
  rw [if_pos (by decide +kernel)]
theorem rc25 (v_this_state : (((Nat → UInt64) × Int32) × ((Nat → UInt64) × Int32) × (Nat → UInt64) × Int32)) (v_this_grid_values : Nat → UInt64) (v_this_grid_kinds : Nat → Int32) (v_this_grid_table : Int32) (v_this_grid_guard : UInt64) (v_this_grid_ratio : UInt64) (v_this_grid_bridging : Int32) (v_this_grid_length : Int32) : p_X8_kind v_this_state v_this_grid_values v_this_grid_kinds v_this_grid_table v_this_grid_guard v_this_grid_ratio v_this_grid_bridging v_this_grid_length (0 : Int32) (4 : Int32) (0 : Int32) (0 : Int32) = some ((-1 : Int32), v_this_grid_values, v_this_grid_kinds, v_this_grid_table, v_this_grid_guard, v_this_grid_ratio, v_this_grid_bridging, v_this_grid_length) := by
  unfold p_X8_kind
  rw [show p_X8_isTable (0 : Int32) (4 : Int32) = some (0 : Int32) by decide +kernel, Option.bind_some]
  rw [if_pos (by decide +kernel)]
theorem rc26 (v_this_state : (((Nat → UInt64) × Int32) × ((Nat → UInt64) × Int32) × (Nat → UInt64) × Int32)) (v_this_grid_values : Nat → UInt64) (v_this_grid_kinds : Nat → Int32) (v_this_grid_table : Int32) (v_this_grid_guard : UInt64) (v_this_grid_ratio : UInt64) (v_this_grid_bridging : Int32) (v_this_grid_length : Int32) (v_this_grid_guessColumn : Int32) (v_this_grid_guessError : UInt64) (v_this_grid_guessValue : UInt64) : p_X8_table v_this_state v_this_grid_values v_this_grid_kinds v_this_grid_table v_this_grid_guard v_this_grid_ratio v_this_grid_bridging v_this_grid_length v_this_grid_guessColumn v_this_grid_guessError v_this_grid_guessValue (2 : Int32) (0 : Int32) (9 : Int32) = some ((-1 : Int32), v_this_grid_values, v_this_grid_kinds, v_this_grid_table, v_this_grid_guard, v_this_grid_ratio, v_this_grid_bridging, v_this_grid_length, v_this_grid_guessColumn, v_this_grid_guessError, v_this_grid_guessValue) := by
  unfold p_X8_table
  rw [show p_X8_isTable (2 : Int32) (0 : Int32) = some (0 : Int32) by decide +kernel, Option.bind_some]
  rw [if_pos (by decide +kernel)]
theorem rc27 (v_this_state : (((Nat → UInt64) × Int32) × ((Nat → UInt64) × Int32) × (Nat → UInt64) × Int32)) (v_this_grid_values : Nat → UInt64) (v_this_grid_kinds : Nat → Int32) (v_this_grid_table : Int32) (v_this_grid_guard : UInt64) (v_this_grid_ratio : UInt64) (v_this_grid_bridging : Int32) (v_this_grid_length : Int32) : p_X8_entry v_this_state v_this_grid_values v_this_grid_kinds v_this_grid_table v_this_grid_guard v_this_grid_ratio v_this_grid_bridging v_this_grid_length (0 : Int32) (-1 : Int32) (0 : Int32) (0 : Int32) = some ((9221120237041090560 : UInt64), v_this_grid_values, v_this_grid_kinds, v_this_grid_table, v_this_grid_guard, v_this_grid_ratio, v_this_grid_bridging, v_this_grid_length) := by
  unfold p_X8_entry
  rw [show p_X8_isTable (0 : Int32) (-1 : Int32) = some (0 : Int32) by decide +kernel, Option.bind_some]
  rw [if_pos (by decide +kernel)]
  rw [show p_X8_noNumber = some (9221120237041090560 : UInt64) from rfl, Option.bind_some]
theorem rc28 (v_this_state : (((Nat → UInt64) × Int32) × ((Nat → UInt64) × Int32) × (Nat → UInt64) × Int32)) (v_this_grid_values : Nat → UInt64) (v_this_grid_kinds : Nat → Int32) (v_this_grid_table : Int32) (v_this_grid_guard : UInt64) (v_this_grid_ratio : UInt64) (v_this_grid_bridging : Int32) (v_this_grid_length : Int32) : p_X8_kind v_this_state v_this_grid_values v_this_grid_kinds v_this_grid_table v_this_grid_guard v_this_grid_ratio v_this_grid_bridging v_this_grid_length (-1 : Int32) (0 : Int32) (0 : Int32) (0 : Int32) = some ((-1 : Int32), v_this_grid_values, v_this_grid_kinds, v_this_grid_table, v_this_grid_guard, v_this_grid_ratio, v_this_grid_bridging, v_this_grid_length) := by
  unfold p_X8_kind
  rw [show p_X8_isTable (-1 : Int32) (0 : Int32) = some (0 : Int32) by decide +kernel, Option.bind_some]
  rw [if_pos (by decide +kernel)]
theorem rc29 (v_this_state : (((Nat → UInt64) × Int32) × ((Nat → UInt64) × Int32) × (Nat → UInt64) × Int32)) (v_this_grid_values : Nat → UInt64) (v_this_grid_kinds : Nat → Int32) (v_this_grid_table : Int32) (v_this_grid_guard : UInt64) (v_this_grid_ratio : UInt64) (v_this_grid_bridging : Int32) (v_this_grid_length : Int32) : p_X8_kind v_this_state v_this_grid_values v_this_grid_kinds v_this_grid_table v_this_grid_guard v_this_grid_ratio v_this_grid_bridging v_this_grid_length (0 : Int32) (-1 : Int32) (0 : Int32) (0 : Int32) = some ((-1 : Int32), v_this_grid_values, v_this_grid_kinds, v_this_grid_table, v_this_grid_guard, v_this_grid_ratio, v_this_grid_bridging, v_this_grid_length) := by
  unfold p_X8_kind
  rw [show p_X8_isTable (0 : Int32) (-1 : Int32) = some (0 : Int32) by decide +kernel, Option.bind_some]
  rw [if_pos (by decide +kernel)]
theorem rc30 (v_this_state : (((Nat → UInt64) × Int32) × ((Nat → UInt64) × Int32) × (Nat → UInt64) × Int32)) (v_this_grid_values : Nat → UInt64) (v_this_grid_kinds : Nat → Int32) (v_this_grid_table : Int32) (v_this_grid_guard : UInt64) (v_this_grid_ratio : UInt64) (v_this_grid_bridging : Int32) (v_this_grid_length : Int32) (v_this_grid_guessColumn : Int32) (v_this_grid_guessError : UInt64) (v_this_grid_guessValue : UInt64) : p_X8_table v_this_state v_this_grid_values v_this_grid_kinds v_this_grid_table v_this_grid_guard v_this_grid_ratio v_this_grid_bridging v_this_grid_length v_this_grid_guessColumn v_this_grid_guessError v_this_grid_guessValue (-1 : Int32) (0 : Int32) (9 : Int32) = some ((-1 : Int32), v_this_grid_values, v_this_grid_kinds, v_this_grid_table, v_this_grid_guard, v_this_grid_ratio, v_this_grid_bridging, v_this_grid_length, v_this_grid_guessColumn, v_this_grid_guessError, v_this_grid_guessValue) := by
  unfold p_X8_table
  rw [show p_X8_isTable (-1 : Int32) (0 : Int32) = some (0 : Int32) by decide +kernel, Option.bind_some]
  rw [if_pos (by decide +kernel)]
theorem rc31 (v_this_state : (((Nat → UInt64) × Int32) × ((Nat → UInt64) × Int32) × (Nat → UInt64) × Int32)) (v_this_history_size : Int32) (v_this_text_length : Int32) (v_this_grid_values : Nat → UInt64) (v_this_grid_kinds : Nat → Int32) (v_this_grid_table : Int32) (v_this_grid_guard : UInt64) (v_this_grid_ratio : UInt64) (v_this_grid_bridging : Int32) (v_this_grid_length : Int32) : p_X8_count v_this_state v_this_history_size v_this_text_length v_this_grid_values v_this_grid_kinds v_this_grid_table v_this_grid_guard v_this_grid_ratio v_this_grid_bridging v_this_grid_length (6 : Int32) = some ((-2 : Int32), v_this_grid_values, v_this_grid_kinds, v_this_grid_table, v_this_grid_guard, v_this_grid_ratio, v_this_grid_bridging, v_this_grid_length) := by
  unfold p_X8_count
  rw [if_neg (by decide +kernel)]
  rw [if_neg (by decide +kernel)]
  rw [if_neg (by decide +kernel)]
  rw [if_neg (by decide +kernel)]
  rw [if_neg (by decide +kernel)]
  rw [if_neg (by decide +kernel)]
theorem rc32 (v_this_state : (((Nat → UInt64) × Int32) × ((Nat → UInt64) × Int32) × (Nat → UInt64) × Int32)) : p_X8_number v_this_state (2 : Int32) (0 : Int32) = some (9221120237041090560 : UInt64) := by
  unfold p_X8_number
  rw [show p_X8_isRow (2 : Int32) = some (0 : Int32) by decide +kernel, Option.bind_some]
  rw [if_pos (by decide +kernel)]
  rw [show p_X8_noNumber = some (9221120237041090560 : UInt64) from rfl, Option.bind_some]
theorem rc33 (v_this_state : (((Nat → UInt64) × Int32) × ((Nat → UInt64) × Int32) × (Nat → UInt64) × Int32)) : p_X8_number v_this_state (0 : Int32) v_this_state.1.2 = some (9221120237041090560 : UInt64) := by
  unfold p_X8_number
  rw [show p_X8_isRow (0 : Int32) = some (1 : Int32) by decide +kernel, Option.bind_some]
  rw [if_neg (by decide +kernel)]
  rw [if_pos (by decide +kernel)]
  rw [place_at, Option.bind_some]
  rw [if_pos (by decide +kernel)]
  rw [show p_X8_noNumber = some (9221120237041090560 : UInt64) from rfl, Option.bind_some]
theorem rc34 (v_this_state : (((Nat → UInt64) × Int32) × ((Nat → UInt64) × Int32) × (Nat → UInt64) × Int32)) (v_this_grid_values : Nat → UInt64) (v_this_grid_kinds : Nat → Int32) (v_this_grid_table : Int32) (v_this_grid_guard : UInt64) (v_this_grid_ratio : UInt64) (v_this_grid_bridging : Int32) (v_this_grid_length : Int32) : p_X8_entry v_this_state v_this_grid_values v_this_grid_kinds v_this_grid_table v_this_grid_guard v_this_grid_ratio v_this_grid_bridging v_this_grid_length (2 : Int32) (0 : Int32) (0 : Int32) (0 : Int32) = some ((9221120237041090560 : UInt64), v_this_grid_values, v_this_grid_kinds, v_this_grid_table, v_this_grid_guard, v_this_grid_ratio, v_this_grid_bridging, v_this_grid_length) := by
  unfold p_X8_entry
  rw [show p_X8_isTable (2 : Int32) (0 : Int32) = some (0 : Int32) by decide +kernel, Option.bind_some]
  rw [if_pos (by decide +kernel)]
  rw [show p_X8_noNumber = some (9221120237041090560 : UInt64) from rfl, Option.bind_some]
theorem rc35 (v_this_state : (((Nat → UInt64) × Int32) × ((Nat → UInt64) × Int32) × (Nat → UInt64) × Int32)) (v_this_history_size : Int32) (v_this_text_length : Int32) (v_this_grid_values : Nat → UInt64) (v_this_grid_kinds : Nat → Int32) (v_this_grid_table : Int32) (v_this_grid_guard : UInt64) (v_this_grid_ratio : UInt64) (v_this_grid_bridging : Int32) (v_this_grid_length : Int32) : p_X8_count v_this_state v_this_history_size v_this_text_length v_this_grid_values v_this_grid_kinds v_this_grid_table v_this_grid_guard v_this_grid_ratio v_this_grid_bridging v_this_grid_length (-1 : Int32) = some ((-2 : Int32), v_this_grid_values, v_this_grid_kinds, v_this_grid_table, v_this_grid_guard, v_this_grid_ratio, v_this_grid_bridging, v_this_grid_length) := by
  unfold p_X8_count
  rw [if_neg (by decide +kernel)]
  rw [if_neg (by decide +kernel)]
  rw [if_neg (by decide +kernel)]
  rw [if_neg (by decide +kernel)]
  rw [if_neg (by decide +kernel)]
  rw [if_neg (by decide +kernel)]
theorem rc36 (v_this_state : (((Nat → UInt64) × Int32) × ((Nat → UInt64) × Int32) × (Nat → UInt64) × Int32)) : p_X8_number v_this_state (-1 : Int32) (0 : Int32) = some (9221120237041090560 : UInt64) := by
  unfold p_X8_number
  rw [show p_X8_isRow (-1 : Int32) = some (0 : Int32) by decide +kernel, Option.bind_some]
  rw [if_pos (by decide +kernel)]
  rw [show p_X8_noNumber = some (9221120237041090560 : UInt64) from rfl, Option.bind_some]
theorem rc37 (v_this_state : (((Nat → UInt64) × Int32) × ((Nat → UInt64) × Int32) × (Nat → UInt64) × Int32)) : p_X8_number v_this_state (0 : Int32) (-1 : Int32) = some (9221120237041090560 : UInt64) := by
  unfold p_X8_number
  rw [show p_X8_isRow (0 : Int32) = some (1 : Int32) by decide +kernel, Option.bind_some]
  rw [if_neg (by decide +kernel)]
  rw [if_pos (by decide +kernel)]
  rw [place_m1, Option.bind_some]
  rw [if_pos (by decide +kernel)]
  rw [show p_X8_noNumber = some (9221120237041090560 : UInt64) from rfl, Option.bind_some]
theorem rc38 (v_this_state : (((Nat → UInt64) × Int32) × ((Nat → UInt64) × Int32) × (Nat → UInt64) × Int32)) (v_this_grid_values : Nat → UInt64) (v_this_grid_kinds : Nat → Int32) (v_this_grid_table : Int32) (v_this_grid_guard : UInt64) (v_this_grid_ratio : UInt64) (v_this_grid_bridging : Int32) (v_this_grid_length : Int32) : p_X8_entry v_this_state v_this_grid_values v_this_grid_kinds v_this_grid_table v_this_grid_guard v_this_grid_ratio v_this_grid_bridging v_this_grid_length (-1 : Int32) (0 : Int32) (0 : Int32) (0 : Int32) = some ((9221120237041090560 : UInt64), v_this_grid_values, v_this_grid_kinds, v_this_grid_table, v_this_grid_guard, v_this_grid_ratio, v_this_grid_bridging, v_this_grid_length) := by
  unfold p_X8_entry
  rw [show p_X8_isTable (-1 : Int32) (0 : Int32) = some (0 : Int32) by decide +kernel, Option.bind_some]
  rw [if_pos (by decide +kernel)]
  rw [show p_X8_noNumber = some (9221120237041090560 : UInt64) from rfl, Option.bind_some]
theorem rc39 (v_this_state : (((Nat → UInt64) × Int32) × ((Nat → UInt64) × Int32) × (Nat → UInt64) × Int32)) (v_this_history_ring_0 : (((Nat → UInt64) × Int32) × ((Nat → UInt64) × Int32) × (Nat → UInt64) × Int32)) (v_this_history_ring_1 : (((Nat → UInt64) × Int32) × ((Nat → UInt64) × Int32) × (Nat → UInt64) × Int32)) (v_this_history_ring_2 : (((Nat → UInt64) × Int32) × ((Nat → UInt64) × Int32) × (Nat → UInt64) × Int32)) (v_this_history_ring_3 : (((Nat → UInt64) × Int32) × ((Nat → UInt64) × Int32) × (Nat → UInt64) × Int32)) (v_this_history_oldest : Int32) (v_this_history_size : Int32) : p_X8_setting v_this_state v_this_history_ring_0 v_this_history_ring_1 v_this_history_ring_2 v_this_history_ring_3 v_this_history_oldest v_this_history_size (3 : Int32) (4607182418800017408 : Int64) = some ((-2 : Int32), v_this_state, v_this_history_ring_0, v_this_history_ring_1, v_this_history_ring_2, v_this_history_ring_3, v_this_history_oldest, v_this_history_size) := by
  unfold p_X8_setting
  rw [show p_X5_isSetting (3 : Int32) = some (0 : Int32) by decide +kernel, Option.bind_some]
  rw [if_pos (by decide +kernel)]
theorem rc40 (v_this_state : (((Nat → UInt64) × Int32) × ((Nat → UInt64) × Int32) × (Nat → UInt64) × Int32)) (v_this_history_ring_0 : (((Nat → UInt64) × Int32) × ((Nat → UInt64) × Int32) × (Nat → UInt64) × Int32)) (v_this_history_ring_1 : (((Nat → UInt64) × Int32) × ((Nat → UInt64) × Int32) × (Nat → UInt64) × Int32)) (v_this_history_ring_2 : (((Nat → UInt64) × Int32) × ((Nat → UInt64) × Int32) × (Nat → UInt64) × Int32)) (v_this_history_ring_3 : (((Nat → UInt64) × Int32) × ((Nat → UInt64) × Int32) × (Nat → UInt64) × Int32)) (v_this_history_oldest : Int32) (v_this_history_size : Int32) : p_X8_setting v_this_state v_this_history_ring_0 v_this_history_ring_1 v_this_history_ring_2 v_this_history_ring_3 v_this_history_oldest v_this_history_size (0 : Int32) (9221120237041090560 : Int64) = some ((-2 : Int32), v_this_state, v_this_history_ring_0, v_this_history_ring_1, v_this_history_ring_2, v_this_history_ring_3, v_this_history_oldest, v_this_history_size) := by
  unfold p_X8_setting
  rw [show p_X5_isSetting (0 : Int32) = some (1 : Int32) by decide +kernel, Option.bind_some]
  rw [if_neg (by decide +kernel)]
  rw [show p_X0_isNan (9221120237041090560 : Int64) = some (1 : Int32) by decide +kernel, Option.bind_some]
  rw [if_neg (by decide +kernel)]
theorem rc41 (v_this_state : (((Nat → UInt64) × Int32) × ((Nat → UInt64) × Int32) × (Nat → UInt64) × Int32)) (v_this_history_ring_0 : (((Nat → UInt64) × Int32) × ((Nat → UInt64) × Int32) × (Nat → UInt64) × Int32)) (v_this_history_ring_1 : (((Nat → UInt64) × Int32) × ((Nat → UInt64) × Int32) × (Nat → UInt64) × Int32)) (v_this_history_ring_2 : (((Nat → UInt64) × Int32) × ((Nat → UInt64) × Int32) × (Nat → UInt64) × Int32)) (v_this_history_ring_3 : (((Nat → UInt64) × Int32) × ((Nat → UInt64) × Int32) × (Nat → UInt64) × Int32)) (v_this_history_oldest : Int32) (v_this_history_size : Int32) : p_X8_setting v_this_state v_this_history_ring_0 v_this_history_ring_1 v_this_history_ring_2 v_this_history_ring_3 v_this_history_oldest v_this_history_size (0 : Int32) (-9223372036854775808 : Int64) = some ((-2 : Int32), v_this_state, v_this_history_ring_0, v_this_history_ring_1, v_this_history_ring_2, v_this_history_ring_3, v_this_history_oldest, v_this_history_size) := by
  unfold p_X8_setting
  rw [show p_X5_isSetting (0 : Int32) = some (1 : Int32) by decide +kernel, Option.bind_some]
  rw [if_neg (by decide +kernel)]
  rw [show p_X0_isNan (-9223372036854775808 : Int64) = some (0 : Int32) by decide +kernel, Option.bind_some]
  rw [if_pos (by decide +kernel)]
  rw [show p_X0_isMinusZero (-9223372036854775808 : Int64) = some (1 : Int32) by decide +kernel, Option.bind_some]
  rw [if_neg (by decide +kernel)]
theorem rc42 (v_this_state : (((Nat → UInt64) × Int32) × ((Nat → UInt64) × Int32) × (Nat → UInt64) × Int32)) (v_this_history_ring_0 : (((Nat → UInt64) × Int32) × ((Nat → UInt64) × Int32) × (Nat → UInt64) × Int32)) (v_this_history_ring_1 : (((Nat → UInt64) × Int32) × ((Nat → UInt64) × Int32) × (Nat → UInt64) × Int32)) (v_this_history_ring_2 : (((Nat → UInt64) × Int32) × ((Nat → UInt64) × Int32) × (Nat → UInt64) × Int32)) (v_this_history_ring_3 : (((Nat → UInt64) × Int32) × ((Nat → UInt64) × Int32) × (Nat → UInt64) × Int32)) (v_this_history_oldest : Int32) (v_this_history_size : Int32) : p_X8_setting v_this_state v_this_history_ring_0 v_this_history_ring_1 v_this_history_ring_2 v_this_history_ring_3 v_this_history_oldest v_this_history_size (1 : Int32) (4607182418800017408 : Int64) = some ((-2 : Int32), v_this_state, v_this_history_ring_0, v_this_history_ring_1, v_this_history_ring_2, v_this_history_ring_3, v_this_history_oldest, v_this_history_size) := by
  unfold p_X8_setting
  rw [show p_X5_isSetting (1 : Int32) = some (1 : Int32) by decide +kernel, Option.bind_some]
  rw [if_neg (by decide +kernel)]
  rw [show p_X0_isNan (4607182418800017408 : Int64) = some (0 : Int32) by decide +kernel, Option.bind_some]
  rw [if_pos (by decide +kernel)]
  rw [show p_X0_isMinusZero (4607182418800017408 : Int64) = some (0 : Int32) by decide +kernel, Option.bind_some]
  rw [if_pos (by decide +kernel)]
  rw [show p_X0_decoded (4607182418800017408 : Int64) = some (4607182418800017408 : UInt64) by decide +kernel, Option.bind_some]
  rw [show p_X5_inRange (1 : Int32) (4607182418800017408 : UInt64) = some (0 : Int32) by decide +kernel, Option.bind_some]
  rw [if_pos (by decide +kernel)]
theorem rc43 (v_this_state : (((Nat → UInt64) × Int32) × ((Nat → UInt64) × Int32) × (Nat → UInt64) × Int32)) (v_this_history_ring_0 : (((Nat → UInt64) × Int32) × ((Nat → UInt64) × Int32) × (Nat → UInt64) × Int32)) (v_this_history_ring_1 : (((Nat → UInt64) × Int32) × ((Nat → UInt64) × Int32) × (Nat → UInt64) × Int32)) (v_this_history_ring_2 : (((Nat → UInt64) × Int32) × ((Nat → UInt64) × Int32) × (Nat → UInt64) × Int32)) (v_this_history_ring_3 : (((Nat → UInt64) × Int32) × ((Nat → UInt64) × Int32) × (Nat → UInt64) × Int32)) (v_this_history_oldest : Int32) (v_this_history_size : Int32) : p_X8_setting v_this_state v_this_history_ring_0 v_this_history_ring_1 v_this_history_ring_2 v_this_history_ring_3 v_this_history_oldest v_this_history_size (2 : Int32) (-9223372036854775808 : Int64) = some ((-2 : Int32), v_this_state, v_this_history_ring_0, v_this_history_ring_1, v_this_history_ring_2, v_this_history_ring_3, v_this_history_oldest, v_this_history_size) := by
  unfold p_X8_setting
  rw [show p_X5_isSetting (2 : Int32) = some (1 : Int32) by decide +kernel, Option.bind_some]
  rw [if_neg (by decide +kernel)]
  rw [show p_X0_isNan (-9223372036854775808 : Int64) = some (0 : Int32) by decide +kernel, Option.bind_some]
  rw [if_pos (by decide +kernel)]
  rw [show p_X0_isMinusZero (-9223372036854775808 : Int64) = some (1 : Int32) by decide +kernel, Option.bind_some]
  rw [if_neg (by decide +kernel)]
theorem rc44 (v_this_state : (((Nat → UInt64) × Int32) × ((Nat → UInt64) × Int32) × (Nat → UInt64) × Int32)) : p_X8_told v_this_state (3 : Int32) = some (9221120237041090560 : UInt64) := by
  unfold p_X8_told
  rw [show p_X5_isSetting (3 : Int32) = some (0 : Int32) by decide +kernel, Option.bind_some]
  rw [if_pos (by decide +kernel)]
  rw [show p_X8_noNumber = some (9221120237041090560 : UInt64) from rfl, Option.bind_some]
theorem rc45 (v_this_state : (((Nat → UInt64) × Int32) × ((Nat → UInt64) × Int32) × (Nat → UInt64) × Int32)) (v_this_history_ring_0 : (((Nat → UInt64) × Int32) × ((Nat → UInt64) × Int32) × (Nat → UInt64) × Int32)) (v_this_history_ring_1 : (((Nat → UInt64) × Int32) × ((Nat → UInt64) × Int32) × (Nat → UInt64) × Int32)) (v_this_history_ring_2 : (((Nat → UInt64) × Int32) × ((Nat → UInt64) × Int32) × (Nat → UInt64) × Int32)) (v_this_history_ring_3 : (((Nat → UInt64) × Int32) × ((Nat → UInt64) × Int32) × (Nat → UInt64) × Int32)) (v_this_history_oldest : Int32) (v_this_history_size : Int32) : p_X8_setting v_this_state v_this_history_ring_0 v_this_history_ring_1 v_this_history_ring_2 v_this_history_ring_3 v_this_history_oldest v_this_history_size (-1 : Int32) (4607182418800017408 : Int64) = some ((-2 : Int32), v_this_state, v_this_history_ring_0, v_this_history_ring_1, v_this_history_ring_2, v_this_history_ring_3, v_this_history_oldest, v_this_history_size) := by
  unfold p_X8_setting
  rw [show p_X5_isSetting (-1 : Int32) = some (0 : Int32) by decide +kernel, Option.bind_some]
  rw [if_pos (by decide +kernel)]
theorem rc46 (v_this_state : (((Nat → UInt64) × Int32) × ((Nat → UInt64) × Int32) × (Nat → UInt64) × Int32)) (v_this_history_ring_0 : (((Nat → UInt64) × Int32) × ((Nat → UInt64) × Int32) × (Nat → UInt64) × Int32)) (v_this_history_ring_1 : (((Nat → UInt64) × Int32) × ((Nat → UInt64) × Int32) × (Nat → UInt64) × Int32)) (v_this_history_ring_2 : (((Nat → UInt64) × Int32) × ((Nat → UInt64) × Int32) × (Nat → UInt64) × Int32)) (v_this_history_ring_3 : (((Nat → UInt64) × Int32) × ((Nat → UInt64) × Int32) × (Nat → UInt64) × Int32)) (v_this_history_oldest : Int32) (v_this_history_size : Int32) : p_X8_setting v_this_state v_this_history_ring_0 v_this_history_ring_1 v_this_history_ring_2 v_this_history_ring_3 v_this_history_oldest v_this_history_size (1 : Int32) (9218868437227405312 : Int64) = some ((-2 : Int32), v_this_state, v_this_history_ring_0, v_this_history_ring_1, v_this_history_ring_2, v_this_history_ring_3, v_this_history_oldest, v_this_history_size) := by
  unfold p_X8_setting
  rw [show p_X5_isSetting (1 : Int32) = some (1 : Int32) by decide +kernel, Option.bind_some]
  rw [if_neg (by decide +kernel)]
  rw [show p_X0_isNan (9218868437227405312 : Int64) = some (0 : Int32) by decide +kernel, Option.bind_some]
  rw [if_pos (by decide +kernel)]
  rw [show p_X0_isMinusZero (9218868437227405312 : Int64) = some (0 : Int32) by decide +kernel, Option.bind_some]
  rw [if_pos (by decide +kernel)]
  rw [show p_X0_decoded (9218868437227405312 : Int64) = some (9218868437227405312 : UInt64) by decide +kernel, Option.bind_some]
  rw [show p_X5_inRange (1 : Int32) (9218868437227405312 : UInt64) = some (0 : Int32) by decide +kernel, Option.bind_some]
  rw [if_pos (by decide +kernel)]
theorem rc47 (v_this_state : (((Nat → UInt64) × Int32) × ((Nat → UInt64) × Int32) × (Nat → UInt64) × Int32)) (v_this_history_ring_0 : (((Nat → UInt64) × Int32) × ((Nat → UInt64) × Int32) × (Nat → UInt64) × Int32)) (v_this_history_ring_1 : (((Nat → UInt64) × Int32) × ((Nat → UInt64) × Int32) × (Nat → UInt64) × Int32)) (v_this_history_ring_2 : (((Nat → UInt64) × Int32) × ((Nat → UInt64) × Int32) × (Nat → UInt64) × Int32)) (v_this_history_ring_3 : (((Nat → UInt64) × Int32) × ((Nat → UInt64) × Int32) × (Nat → UInt64) × Int32)) (v_this_history_oldest : Int32) (v_this_history_size : Int32) : p_X8_setting v_this_state v_this_history_ring_0 v_this_history_ring_1 v_this_history_ring_2 v_this_history_ring_3 v_this_history_oldest v_this_history_size (0 : Int32) (4607182418800017409 : Int64) = some ((-2 : Int32), v_this_state, v_this_history_ring_0, v_this_history_ring_1, v_this_history_ring_2, v_this_history_ring_3, v_this_history_oldest, v_this_history_size) := by
  unfold p_X8_setting
  rw [show p_X5_isSetting (0 : Int32) = some (1 : Int32) by decide +kernel, Option.bind_some]
  rw [if_neg (by decide +kernel)]
  rw [show p_X0_isNan (4607182418800017409 : Int64) = some (0 : Int32) by decide +kernel, Option.bind_some]
  rw [if_pos (by decide +kernel)]
  rw [show p_X0_isMinusZero (4607182418800017409 : Int64) = some (0 : Int32) by decide +kernel, Option.bind_some]
  rw [if_pos (by decide +kernel)]
  rw [show p_X0_decoded (4607182418800017409 : Int64) = some (4607182418800017409 : UInt64) by decide +kernel, Option.bind_some]
  rw [show p_X5_inRange (0 : Int32) (4607182418800017409 : UInt64) = some (0 : Int32) by decide +kernel, Option.bind_some]
  rw [if_pos (by decide +kernel)]
theorem rc48 (v_this_state : (((Nat → UInt64) × Int32) × ((Nat → UInt64) × Int32) × (Nat → UInt64) × Int32)) (v_this_history_ring_0 : (((Nat → UInt64) × Int32) × ((Nat → UInt64) × Int32) × (Nat → UInt64) × Int32)) (v_this_history_ring_1 : (((Nat → UInt64) × Int32) × ((Nat → UInt64) × Int32) × (Nat → UInt64) × Int32)) (v_this_history_ring_2 : (((Nat → UInt64) × Int32) × ((Nat → UInt64) × Int32) × (Nat → UInt64) × Int32)) (v_this_history_ring_3 : (((Nat → UInt64) × Int32) × ((Nat → UInt64) × Int32) × (Nat → UInt64) × Int32)) (v_this_history_oldest : Int32) (v_this_history_size : Int32) : p_X8_setting v_this_state v_this_history_ring_0 v_this_history_ring_1 v_this_history_ring_2 v_this_history_ring_3 v_this_history_oldest v_this_history_size (1 : Int32) (4621819117588971521 : Int64) = some ((-2 : Int32), v_this_state, v_this_history_ring_0, v_this_history_ring_1, v_this_history_ring_2, v_this_history_ring_3, v_this_history_oldest, v_this_history_size) := by
  unfold p_X8_setting
  rw [show p_X5_isSetting (1 : Int32) = some (1 : Int32) by decide +kernel, Option.bind_some]
  rw [if_neg (by decide +kernel)]
  rw [show p_X0_isNan (4621819117588971521 : Int64) = some (0 : Int32) by decide +kernel, Option.bind_some]
  rw [if_pos (by decide +kernel)]
  rw [show p_X0_isMinusZero (4621819117588971521 : Int64) = some (0 : Int32) by decide +kernel, Option.bind_some]
  rw [if_pos (by decide +kernel)]
  rw [show p_X0_decoded (4621819117588971521 : Int64) = some (4621819117588971521 : UInt64) by decide +kernel, Option.bind_some]
  rw [show p_X5_inRange (1 : Int32) (4621819117588971521 : UInt64) = some (0 : Int32) by decide +kernel, Option.bind_some]
  rw [if_pos (by decide +kernel)]
theorem rc49 (v_this_state : (((Nat → UInt64) × Int32) × ((Nat → UInt64) × Int32) × (Nat → UInt64) × Int32)) (v_this_history_ring_0 : (((Nat → UInt64) × Int32) × ((Nat → UInt64) × Int32) × (Nat → UInt64) × Int32)) (v_this_history_ring_1 : (((Nat → UInt64) × Int32) × ((Nat → UInt64) × Int32) × (Nat → UInt64) × Int32)) (v_this_history_ring_2 : (((Nat → UInt64) × Int32) × ((Nat → UInt64) × Int32) × (Nat → UInt64) × Int32)) (v_this_history_ring_3 : (((Nat → UInt64) × Int32) × ((Nat → UInt64) × Int32) × (Nat → UInt64) × Int32)) (v_this_history_oldest : Int32) (v_this_history_size : Int32) : p_X8_setting v_this_state v_this_history_ring_0 v_this_history_ring_1 v_this_history_ring_2 v_this_history_ring_3 v_this_history_oldest v_this_history_size (2 : Int32) (4607182418800017408 : Int64) = some ((-2 : Int32), v_this_state, v_this_history_ring_0, v_this_history_ring_1, v_this_history_ring_2, v_this_history_ring_3, v_this_history_oldest, v_this_history_size) := by
  unfold p_X8_setting
  rw [show p_X5_isSetting (2 : Int32) = some (1 : Int32) by decide +kernel, Option.bind_some]
  rw [if_neg (by decide +kernel)]
  rw [show p_X0_isNan (4607182418800017408 : Int64) = some (0 : Int32) by decide +kernel, Option.bind_some]
  rw [if_pos (by decide +kernel)]
  rw [show p_X0_isMinusZero (4607182418800017408 : Int64) = some (0 : Int32) by decide +kernel, Option.bind_some]
  rw [if_pos (by decide +kernel)]
  rw [show p_X0_decoded (4607182418800017408 : Int64) = some (4607182418800017408 : UInt64) by decide +kernel, Option.bind_some]
  rw [show p_X5_inRange (2 : Int32) (4607182418800017408 : UInt64) = some (0 : Int32) by decide +kernel, Option.bind_some]
  rw [if_pos (by decide +kernel)]
theorem rc50 (v_this_state : (((Nat → UInt64) × Int32) × ((Nat → UInt64) × Int32) × (Nat → UInt64) × Int32)) : p_X8_told v_this_state (-1 : Int32) = some (9221120237041090560 : UInt64) := by
  unfold p_X8_told
  rw [show p_X5_isSetting (-1 : Int32) = some (0 : Int32) by decide +kernel, Option.bind_some]
  rw [if_pos (by decide +kernel)]
  rw [show p_X8_noNumber = some (9221120237041090560 : UInt64) from rfl, Option.bind_some]
theorem rc51 (v_this_state : (((Nat → UInt64) × Int32) × ((Nat → UInt64) × Int32) × (Nat → UInt64) × Int32)) (v_this_history_ring_0 : (((Nat → UInt64) × Int32) × ((Nat → UInt64) × Int32) × (Nat → UInt64) × Int32)) (v_this_history_ring_1 : (((Nat → UInt64) × Int32) × ((Nat → UInt64) × Int32) × (Nat → UInt64) × Int32)) (v_this_history_ring_2 : (((Nat → UInt64) × Int32) × ((Nat → UInt64) × Int32) × (Nat → UInt64) × Int32)) (v_this_history_ring_3 : (((Nat → UInt64) × Int32) × ((Nat → UInt64) × Int32) × (Nat → UInt64) × Int32)) (v_this_history_oldest : Int32) (v_this_history_size : Int32) (v_this_draft : ((Nat → UInt64) × Int32)) : p_X8_fill v_this_state v_this_history_ring_0 v_this_history_ring_1 v_this_history_ring_2 v_this_history_ring_3 v_this_history_oldest v_this_history_size v_this_draft (0 : Int32) (0 : Int32) (17 : Int32) = some ((-2 : Int32), v_this_state, v_this_history_ring_0, v_this_history_ring_1, v_this_history_ring_2, v_this_history_ring_3, v_this_history_oldest, v_this_history_size, v_this_draft) := by
  unfold p_X8_fill
  rw [show p_X8_isRow (0 : Int32) = some (1 : Int32) by decide +kernel, Option.bind_some]
  rw [if_neg (by decide +kernel)]
  rw [if_neg (by decide +kernel)]
  rw [if_neg (by decide +kernel)]
  rw [if_neg (by decide +kernel)]
  rw [if_neg (by decide +kernel)]
theorem rc52 (v_this_state : (((Nat → UInt64) × Int32) × ((Nat → UInt64) × Int32) × (Nat → UInt64) × Int32)) (v_this_history_ring_0 : (((Nat → UInt64) × Int32) × ((Nat → UInt64) × Int32) × (Nat → UInt64) × Int32)) (v_this_history_ring_1 : (((Nat → UInt64) × Int32) × ((Nat → UInt64) × Int32) × (Nat → UInt64) × Int32)) (v_this_history_ring_2 : (((Nat → UInt64) × Int32) × ((Nat → UInt64) × Int32) × (Nat → UInt64) × Int32)) (v_this_history_ring_3 : (((Nat → UInt64) × Int32) × ((Nat → UInt64) × Int32) × (Nat → UInt64) × Int32)) (v_this_history_oldest : Int32) (v_this_history_size : Int32) (v_this_draft : ((Nat → UInt64) × Int32)) : p_X8_sum v_this_state v_this_history_ring_0 v_this_history_ring_1 v_this_history_ring_2 v_this_history_ring_3 v_this_history_oldest v_this_history_size v_this_draft (2 : Int32) = some ((-1 : Int32), v_this_state, v_this_history_ring_0, v_this_history_ring_1, v_this_history_ring_2, v_this_history_ring_3, v_this_history_oldest, v_this_history_size, v_this_draft) := by
  unfold p_X8_sum
  rw [show p_X8_isRow (2 : Int32) = some (0 : Int32) by decide +kernel, Option.bind_some]
  rw [if_pos (by decide +kernel)]
theorem rc53 (v_this_state : (((Nat → UInt64) × Int32) × ((Nat → UInt64) × Int32) × (Nat → UInt64) × Int32)) (v_this_history_ring_0 : (((Nat → UInt64) × Int32) × ((Nat → UInt64) × Int32) × (Nat → UInt64) × Int32)) (v_this_history_ring_1 : (((Nat → UInt64) × Int32) × ((Nat → UInt64) × Int32) × (Nat → UInt64) × Int32)) (v_this_history_ring_2 : (((Nat → UInt64) × Int32) × ((Nat → UInt64) × Int32) × (Nat → UInt64) × Int32)) (v_this_history_ring_3 : (((Nat → UInt64) × Int32) × ((Nat → UInt64) × Int32) × (Nat → UInt64) × Int32)) (v_this_history_oldest : Int32) (v_this_history_size : Int32) (v_this_draft : ((Nat → UInt64) × Int32)) : p_X8_differences v_this_state v_this_history_ring_0 v_this_history_ring_1 v_this_history_ring_2 v_this_history_ring_3 v_this_history_oldest v_this_history_size v_this_draft (2 : Int32) = some ((-1 : Int32), v_this_state, v_this_history_ring_0, v_this_history_ring_1, v_this_history_ring_2, v_this_history_ring_3, v_this_history_oldest, v_this_history_size, v_this_draft) := by
  unfold p_X8_differences
  rw [show p_X8_isRow (2 : Int32) = some (0 : Int32) by decide +kernel, Option.bind_some]
  rw [if_pos (by decide +kernel)]
theorem rc54 (v_this_state : (((Nat → UInt64) × Int32) × ((Nat → UInt64) × Int32) × (Nat → UInt64) × Int32)) (v_this_history_ring_0 : (((Nat → UInt64) × Int32) × ((Nat → UInt64) × Int32) × (Nat → UInt64) × Int32)) (v_this_history_ring_1 : (((Nat → UInt64) × Int32) × ((Nat → UInt64) × Int32) × (Nat → UInt64) × Int32)) (v_this_history_ring_2 : (((Nat → UInt64) × Int32) × ((Nat → UInt64) × Int32) × (Nat → UInt64) × Int32)) (v_this_history_ring_3 : (((Nat → UInt64) × Int32) × ((Nat → UInt64) × Int32) × (Nat → UInt64) × Int32)) (v_this_history_oldest : Int32) (v_this_history_size : Int32) (v_this_grid_values : Nat → UInt64) (v_this_grid_kinds : Nat → Int32) (v_this_grid_table : Int32) (v_this_grid_guard : UInt64) (v_this_grid_ratio : UInt64) (v_this_grid_bridging : Int32) (v_this_grid_length : Int32) (v_this_draft : ((Nat → UInt64) × Int32)) : p_X8_take v_this_state v_this_history_ring_0 v_this_history_ring_1 v_this_history_ring_2 v_this_history_ring_3 v_this_history_oldest v_this_history_size v_this_grid_values v_this_grid_kinds v_this_grid_table v_this_grid_guard v_this_grid_ratio v_this_grid_bridging v_this_grid_length v_this_draft (2 : Int32) (0 : Int32) (99 : Int32) = some ((-1 : Int32), v_this_state, v_this_history_ring_0, v_this_history_ring_1, v_this_history_ring_2, v_this_history_ring_3, v_this_history_oldest, v_this_history_size, v_this_grid_values, v_this_grid_kinds, v_this_grid_table, v_this_grid_guard, v_this_grid_ratio, v_this_grid_bridging, v_this_grid_length, v_this_draft) := by
  unfold p_X8_take
  rw [show p_X8_isTable (2 : Int32) (0 : Int32) = some (0 : Int32) by decide +kernel, Option.bind_some]
  rw [if_pos (by decide +kernel)]
theorem rc55 (v_this_state : (((Nat → UInt64) × Int32) × ((Nat → UInt64) × Int32) × (Nat → UInt64) × Int32)) (v_this_history_ring_0 : (((Nat → UInt64) × Int32) × ((Nat → UInt64) × Int32) × (Nat → UInt64) × Int32)) (v_this_history_ring_1 : (((Nat → UInt64) × Int32) × ((Nat → UInt64) × Int32) × (Nat → UInt64) × Int32)) (v_this_history_ring_2 : (((Nat → UInt64) × Int32) × ((Nat → UInt64) × Int32) × (Nat → UInt64) × Int32)) (v_this_history_ring_3 : (((Nat → UInt64) × Int32) × ((Nat → UInt64) × Int32) × (Nat → UInt64) × Int32)) (v_this_history_oldest : Int32) (v_this_history_size : Int32) (v_this_grid_values : Nat → UInt64) (v_this_grid_kinds : Nat → Int32) (v_this_grid_table : Int32) (v_this_grid_guard : UInt64) (v_this_grid_ratio : UInt64) (v_this_grid_bridging : Int32) (v_this_grid_length : Int32) (v_this_draft : ((Nat → UInt64) × Int32)) : p_X8_take v_this_state v_this_history_ring_0 v_this_history_ring_1 v_this_history_ring_2 v_this_history_ring_3 v_this_history_oldest v_this_history_size v_this_grid_values v_this_grid_kinds v_this_grid_table v_this_grid_guard v_this_grid_ratio v_this_grid_bridging v_this_grid_length v_this_draft (0 : Int32) (4 : Int32) (99 : Int32) = some ((-1 : Int32), v_this_state, v_this_history_ring_0, v_this_history_ring_1, v_this_history_ring_2, v_this_history_ring_3, v_this_history_oldest, v_this_history_size, v_this_grid_values, v_this_grid_kinds, v_this_grid_table, v_this_grid_guard, v_this_grid_ratio, v_this_grid_bridging, v_this_grid_length, v_this_draft) := by
  unfold p_X8_take
  rw [show p_X8_isTable (0 : Int32) (4 : Int32) = some (0 : Int32) by decide +kernel, Option.bind_some]
  rw [if_pos (by decide +kernel)]
theorem rc56 (v_this_state : (((Nat → UInt64) × Int32) × ((Nat → UInt64) × Int32) × (Nat → UInt64) × Int32)) (v_this_history_ring_0 : (((Nat → UInt64) × Int32) × ((Nat → UInt64) × Int32) × (Nat → UInt64) × Int32)) (v_this_history_ring_1 : (((Nat → UInt64) × Int32) × ((Nat → UInt64) × Int32) × (Nat → UInt64) × Int32)) (v_this_history_ring_2 : (((Nat → UInt64) × Int32) × ((Nat → UInt64) × Int32) × (Nat → UInt64) × Int32)) (v_this_history_ring_3 : (((Nat → UInt64) × Int32) × ((Nat → UInt64) × Int32) × (Nat → UInt64) × Int32)) (v_this_history_oldest : Int32) (v_this_history_size : Int32) (v_this_grid_values : Nat → UInt64) (v_this_grid_kinds : Nat → Int32) (v_this_grid_table : Int32) (v_this_grid_guard : UInt64) (v_this_grid_ratio : UInt64) (v_this_grid_bridging : Int32) (v_this_grid_length : Int32) (v_this_draft : ((Nat → UInt64) × Int32)) : p_X8_take v_this_state v_this_history_ring_0 v_this_history_ring_1 v_this_history_ring_2 v_this_history_ring_3 v_this_history_oldest v_this_history_size v_this_grid_values v_this_grid_kinds v_this_grid_table v_this_grid_guard v_this_grid_ratio v_this_grid_bridging v_this_grid_length v_this_draft (0 : Int32) (0 : Int32) (16 : Int32) = some ((-2 : Int32), v_this_state, v_this_history_ring_0, v_this_history_ring_1, v_this_history_ring_2, v_this_history_ring_3, v_this_history_oldest, v_this_history_size, v_this_grid_values, v_this_grid_kinds, v_this_grid_table, v_this_grid_guard, v_this_grid_ratio, v_this_grid_bridging, v_this_grid_length, v_this_draft) := by
  unfold p_X8_take
  rw [show p_X8_isTable (0 : Int32) (0 : Int32) = some (1 : Int32) by decide +kernel, Option.bind_some]
  rw [if_neg (by decide +kernel)]
  rw [if_neg (by decide +kernel)]
  rw [if_neg (by decide +kernel)]
theorem rc57 (v_this_state : (((Nat → UInt64) × Int32) × ((Nat → UInt64) × Int32) × (Nat → UInt64) × Int32)) (v_this_history_ring_0 : (((Nat → UInt64) × Int32) × ((Nat → UInt64) × Int32) × (Nat → UInt64) × Int32)) (v_this_history_ring_1 : (((Nat → UInt64) × Int32) × ((Nat → UInt64) × Int32) × (Nat → UInt64) × Int32)) (v_this_history_ring_2 : (((Nat → UInt64) × Int32) × ((Nat → UInt64) × Int32) × (Nat → UInt64) × Int32)) (v_this_history_ring_3 : (((Nat → UInt64) × Int32) × ((Nat → UInt64) × Int32) × (Nat → UInt64) × Int32)) (v_this_history_oldest : Int32) (v_this_history_size : Int32) (v_this_draft : ((Nat → UInt64) × Int32)) : p_X8_fill v_this_state v_this_history_ring_0 v_this_history_ring_1 v_this_history_ring_2 v_this_history_ring_3 v_this_history_oldest v_this_history_size v_this_draft (0 : Int32) (0 : Int32) (0 : Int32) = some ((-2 : Int32), v_this_state, v_this_history_ring_0, v_this_history_ring_1, v_this_history_ring_2, v_this_history_ring_3, v_this_history_oldest, v_this_history_size, v_this_draft) := by
  unfold p_X8_fill
  rw [show p_X8_isRow (0 : Int32) = some (1 : Int32) by decide +kernel, Option.bind_some]
  rw [if_neg (by decide +kernel)]
  rw [if_neg (by decide +kernel)]
  rw [if_neg (by decide +kernel)]
  rw [if_pos (by decide +kernel)]
theorem rc58 (v_this_state : (((Nat → UInt64) × Int32) × ((Nat → UInt64) × Int32) × (Nat → UInt64) × Int32)) (v_this_history_ring_0 : (((Nat → UInt64) × Int32) × ((Nat → UInt64) × Int32) × (Nat → UInt64) × Int32)) (v_this_history_ring_1 : (((Nat → UInt64) × Int32) × ((Nat → UInt64) × Int32) × (Nat → UInt64) × Int32)) (v_this_history_ring_2 : (((Nat → UInt64) × Int32) × ((Nat → UInt64) × Int32) × (Nat → UInt64) × Int32)) (v_this_history_ring_3 : (((Nat → UInt64) × Int32) × ((Nat → UInt64) × Int32) × (Nat → UInt64) × Int32)) (v_this_history_oldest : Int32) (v_this_history_size : Int32) (v_this_draft : ((Nat → UInt64) × Int32)) : p_X8_sum v_this_state v_this_history_ring_0 v_this_history_ring_1 v_this_history_ring_2 v_this_history_ring_3 v_this_history_oldest v_this_history_size v_this_draft (-1 : Int32) = some ((-1 : Int32), v_this_state, v_this_history_ring_0, v_this_history_ring_1, v_this_history_ring_2, v_this_history_ring_3, v_this_history_oldest, v_this_history_size, v_this_draft) := by
  unfold p_X8_sum
  rw [show p_X8_isRow (-1 : Int32) = some (0 : Int32) by decide +kernel, Option.bind_some]
  rw [if_pos (by decide +kernel)]
theorem rc59 (v_this_state : (((Nat → UInt64) × Int32) × ((Nat → UInt64) × Int32) × (Nat → UInt64) × Int32)) (v_this_history_ring_0 : (((Nat → UInt64) × Int32) × ((Nat → UInt64) × Int32) × (Nat → UInt64) × Int32)) (v_this_history_ring_1 : (((Nat → UInt64) × Int32) × ((Nat → UInt64) × Int32) × (Nat → UInt64) × Int32)) (v_this_history_ring_2 : (((Nat → UInt64) × Int32) × ((Nat → UInt64) × Int32) × (Nat → UInt64) × Int32)) (v_this_history_ring_3 : (((Nat → UInt64) × Int32) × ((Nat → UInt64) × Int32) × (Nat → UInt64) × Int32)) (v_this_history_oldest : Int32) (v_this_history_size : Int32) (v_this_draft : ((Nat → UInt64) × Int32)) : p_X8_differences v_this_state v_this_history_ring_0 v_this_history_ring_1 v_this_history_ring_2 v_this_history_ring_3 v_this_history_oldest v_this_history_size v_this_draft (-1 : Int32) = some ((-1 : Int32), v_this_state, v_this_history_ring_0, v_this_history_ring_1, v_this_history_ring_2, v_this_history_ring_3, v_this_history_oldest, v_this_history_size, v_this_draft) := by
  unfold p_X8_differences
  rw [show p_X8_isRow (-1 : Int32) = some (0 : Int32) by decide +kernel, Option.bind_some]
  rw [if_pos (by decide +kernel)]
theorem rc60 (v_this_state : (((Nat → UInt64) × Int32) × ((Nat → UInt64) × Int32) × (Nat → UInt64) × Int32)) (v_this_history_ring_0 : (((Nat → UInt64) × Int32) × ((Nat → UInt64) × Int32) × (Nat → UInt64) × Int32)) (v_this_history_ring_1 : (((Nat → UInt64) × Int32) × ((Nat → UInt64) × Int32) × (Nat → UInt64) × Int32)) (v_this_history_ring_2 : (((Nat → UInt64) × Int32) × ((Nat → UInt64) × Int32) × (Nat → UInt64) × Int32)) (v_this_history_ring_3 : (((Nat → UInt64) × Int32) × ((Nat → UInt64) × Int32) × (Nat → UInt64) × Int32)) (v_this_history_oldest : Int32) (v_this_history_size : Int32) (v_this_grid_values : Nat → UInt64) (v_this_grid_kinds : Nat → Int32) (v_this_grid_table : Int32) (v_this_grid_guard : UInt64) (v_this_grid_ratio : UInt64) (v_this_grid_bridging : Int32) (v_this_grid_length : Int32) (v_this_draft : ((Nat → UInt64) × Int32)) : p_X8_take v_this_state v_this_history_ring_0 v_this_history_ring_1 v_this_history_ring_2 v_this_history_ring_3 v_this_history_oldest v_this_history_size v_this_grid_values v_this_grid_kinds v_this_grid_table v_this_grid_guard v_this_grid_ratio v_this_grid_bridging v_this_grid_length v_this_draft (-1 : Int32) (0 : Int32) (99 : Int32) = some ((-1 : Int32), v_this_state, v_this_history_ring_0, v_this_history_ring_1, v_this_history_ring_2, v_this_history_ring_3, v_this_history_oldest, v_this_history_size, v_this_grid_values, v_this_grid_kinds, v_this_grid_table, v_this_grid_guard, v_this_grid_ratio, v_this_grid_bridging, v_this_grid_length, v_this_draft) := by
  unfold p_X8_take
  rw [show p_X8_isTable (-1 : Int32) (0 : Int32) = some (0 : Int32) by decide +kernel, Option.bind_some]
  rw [if_pos (by decide +kernel)]
theorem rc61 (v_this_state : (((Nat → UInt64) × Int32) × ((Nat → UInt64) × Int32) × (Nat → UInt64) × Int32)) (v_this_history_ring_0 : (((Nat → UInt64) × Int32) × ((Nat → UInt64) × Int32) × (Nat → UInt64) × Int32)) (v_this_history_ring_1 : (((Nat → UInt64) × Int32) × ((Nat → UInt64) × Int32) × (Nat → UInt64) × Int32)) (v_this_history_ring_2 : (((Nat → UInt64) × Int32) × ((Nat → UInt64) × Int32) × (Nat → UInt64) × Int32)) (v_this_history_ring_3 : (((Nat → UInt64) × Int32) × ((Nat → UInt64) × Int32) × (Nat → UInt64) × Int32)) (v_this_history_oldest : Int32) (v_this_history_size : Int32) (v_this_grid_values : Nat → UInt64) (v_this_grid_kinds : Nat → Int32) (v_this_grid_table : Int32) (v_this_grid_guard : UInt64) (v_this_grid_ratio : UInt64) (v_this_grid_bridging : Int32) (v_this_grid_length : Int32) (v_this_draft : ((Nat → UInt64) × Int32)) : p_X8_take v_this_state v_this_history_ring_0 v_this_history_ring_1 v_this_history_ring_2 v_this_history_ring_3 v_this_history_oldest v_this_history_size v_this_grid_values v_this_grid_kinds v_this_grid_table v_this_grid_guard v_this_grid_ratio v_this_grid_bridging v_this_grid_length v_this_draft (0 : Int32) (-1 : Int32) (99 : Int32) = some ((-1 : Int32), v_this_state, v_this_history_ring_0, v_this_history_ring_1, v_this_history_ring_2, v_this_history_ring_3, v_this_history_oldest, v_this_history_size, v_this_grid_values, v_this_grid_kinds, v_this_grid_table, v_this_grid_guard, v_this_grid_ratio, v_this_grid_bridging, v_this_grid_length, v_this_draft) := by
  unfold p_X8_take
  rw [show p_X8_isTable (0 : Int32) (-1 : Int32) = some (0 : Int32) by decide +kernel, Option.bind_some]
  rw [if_pos (by decide +kernel)]
theorem rc62 (v_this_state : (((Nat → UInt64) × Int32) × ((Nat → UInt64) × Int32) × (Nat → UInt64) × Int32)) (v_this_history_ring_0 : (((Nat → UInt64) × Int32) × ((Nat → UInt64) × Int32) × (Nat → UInt64) × Int32)) (v_this_history_ring_1 : (((Nat → UInt64) × Int32) × ((Nat → UInt64) × Int32) × (Nat → UInt64) × Int32)) (v_this_history_ring_2 : (((Nat → UInt64) × Int32) × ((Nat → UInt64) × Int32) × (Nat → UInt64) × Int32)) (v_this_history_ring_3 : (((Nat → UInt64) × Int32) × ((Nat → UInt64) × Int32) × (Nat → UInt64) × Int32)) (v_this_history_oldest : Int32) (v_this_history_size : Int32) (v_this_grid_values : Nat → UInt64) (v_this_grid_kinds : Nat → Int32) (v_this_grid_table : Int32) (v_this_grid_guard : UInt64) (v_this_grid_ratio : UInt64) (v_this_grid_bridging : Int32) (v_this_grid_length : Int32) (v_this_draft : ((Nat → UInt64) × Int32)) : p_X8_take v_this_state v_this_history_ring_0 v_this_history_ring_1 v_this_history_ring_2 v_this_history_ring_3 v_this_history_oldest v_this_history_size v_this_grid_values v_this_grid_kinds v_this_grid_table v_this_grid_guard v_this_grid_ratio v_this_grid_bridging v_this_grid_length v_this_draft (0 : Int32) (0 : Int32) (-1 : Int32) = some ((-2 : Int32), v_this_state, v_this_history_ring_0, v_this_history_ring_1, v_this_history_ring_2, v_this_history_ring_3, v_this_history_oldest, v_this_history_size, v_this_grid_values, v_this_grid_kinds, v_this_grid_table, v_this_grid_guard, v_this_grid_ratio, v_this_grid_bridging, v_this_grid_length, v_this_draft) := by
  unfold p_X8_take
  rw [show p_X8_isTable (0 : Int32) (0 : Int32) = some (1 : Int32) by decide +kernel, Option.bind_some]
  rw [if_neg (by decide +kernel)]
  rw [if_pos (by decide +kernel)]
theorem rc63 (v_this_state : (((Nat → UInt64) × Int32) × ((Nat → UInt64) × Int32) × (Nat → UInt64) × Int32)) (v_this_history_ring_0 : (((Nat → UInt64) × Int32) × ((Nat → UInt64) × Int32) × (Nat → UInt64) × Int32)) (v_this_history_ring_1 : (((Nat → UInt64) × Int32) × ((Nat → UInt64) × Int32) × (Nat → UInt64) × Int32)) (v_this_history_ring_2 : (((Nat → UInt64) × Int32) × ((Nat → UInt64) × Int32) × (Nat → UInt64) × Int32)) (v_this_history_ring_3 : (((Nat → UInt64) × Int32) × ((Nat → UInt64) × Int32) × (Nat → UInt64) × Int32)) (v_this_history_oldest : Int32) (v_this_history_size : Int32) : p_X8_set v_this_state v_this_history_ring_0 v_this_history_ring_1 v_this_history_ring_2 v_this_history_ring_3 v_this_history_oldest v_this_history_size (2 : Int32) (0 : Int32) (9221120237041090560 : Int64) = some ((-1 : Int32), v_this_state, v_this_history_ring_0, v_this_history_ring_1, v_this_history_ring_2, v_this_history_ring_3, v_this_history_oldest, v_this_history_size) := by
  unfold p_X8_set
  rw [show p_X8_isRow (2 : Int32) = some (0 : Int32) by decide +kernel, Option.bind_some]
  rw [if_pos (by decide +kernel)]
theorem rc64 (v_this_state : (((Nat → UInt64) × Int32) × ((Nat → UInt64) × Int32) × (Nat → UInt64) × Int32)) (v_this_history_ring_0 : (((Nat → UInt64) × Int32) × ((Nat → UInt64) × Int32) × (Nat → UInt64) × Int32)) (v_this_history_ring_1 : (((Nat → UInt64) × Int32) × ((Nat → UInt64) × Int32) × (Nat → UInt64) × Int32)) (v_this_history_ring_2 : (((Nat → UInt64) × Int32) × ((Nat → UInt64) × Int32) × (Nat → UInt64) × Int32)) (v_this_history_ring_3 : (((Nat → UInt64) × Int32) × ((Nat → UInt64) × Int32) × (Nat → UInt64) × Int32)) (v_this_history_oldest : Int32) (v_this_history_size : Int32) : p_X8_set v_this_state v_this_history_ring_0 v_this_history_ring_1 v_this_history_ring_2 v_this_history_ring_3 v_this_history_oldest v_this_history_size (0 : Int32) v_this_state.1.2 (9221120237041090560 : Int64) = some ((-1 : Int32), v_this_state, v_this_history_ring_0, v_this_history_ring_1, v_this_history_ring_2, v_this_history_ring_3, v_this_history_oldest, v_this_history_size) := by
  unfold p_X8_set
  rw [show p_X8_isRow (0 : Int32) = some (1 : Int32) by decide +kernel, Option.bind_some]
  rw [if_neg (by decide +kernel)]
  rw [if_pos (by decide +kernel)]
  rw [place_at, Option.bind_some]
  rw [if_pos (by decide +kernel)]
theorem rc65 (v_this_state : (((Nat → UInt64) × Int32) × ((Nat → UInt64) × Int32) × (Nat → UInt64) × Int32)) (v_this_history_ring_0 : (((Nat → UInt64) × Int32) × ((Nat → UInt64) × Int32) × (Nat → UInt64) × Int32)) (v_this_history_ring_1 : (((Nat → UInt64) × Int32) × ((Nat → UInt64) × Int32) × (Nat → UInt64) × Int32)) (v_this_history_ring_2 : (((Nat → UInt64) × Int32) × ((Nat → UInt64) × Int32) × (Nat → UInt64) × Int32)) (v_this_history_ring_3 : (((Nat → UInt64) × Int32) × ((Nat → UInt64) × Int32) × (Nat → UInt64) × Int32)) (v_this_history_oldest : Int32) (v_this_history_size : Int32) (v_this_text_characters : Nat → Int32) (v_this_text_length : Int32) (v_this_text_at : Int32) (v_this_text_digits : Int64) (v_this_draft : ((Nat → UInt64) × Int32)) : p_X8_read v_this_state v_this_history_ring_0 v_this_history_ring_1 v_this_history_ring_2 v_this_history_ring_3 v_this_history_oldest v_this_history_size v_this_text_characters v_this_text_length v_this_text_at v_this_text_digits v_this_draft (2 : Int32) = some ((-1 : Int32), v_this_state, v_this_history_ring_0, v_this_history_ring_1, v_this_history_ring_2, v_this_history_ring_3, v_this_history_oldest, v_this_history_size, v_this_text_at, v_this_text_digits, v_this_draft) := by
  unfold p_X8_read
  rw [show p_X8_isRow (2 : Int32) = some (0 : Int32) by decide +kernel, Option.bind_some]
  rw [if_pos (by decide +kernel)]
theorem rc66 (v_this_state : (((Nat → UInt64) × Int32) × ((Nat → UInt64) × Int32) × (Nat → UInt64) × Int32)) (v_this_history_ring_0 : (((Nat → UInt64) × Int32) × ((Nat → UInt64) × Int32) × (Nat → UInt64) × Int32)) (v_this_history_ring_1 : (((Nat → UInt64) × Int32) × ((Nat → UInt64) × Int32) × (Nat → UInt64) × Int32)) (v_this_history_ring_2 : (((Nat → UInt64) × Int32) × ((Nat → UInt64) × Int32) × (Nat → UInt64) × Int32)) (v_this_history_ring_3 : (((Nat → UInt64) × Int32) × ((Nat → UInt64) × Int32) × (Nat → UInt64) × Int32)) (v_this_history_oldest : Int32) (v_this_history_size : Int32) (v_this_draft : ((Nat → UInt64) × Int32)) : p_X8_fill v_this_state v_this_history_ring_0 v_this_history_ring_1 v_this_history_ring_2 v_this_history_ring_3 v_this_history_oldest v_this_history_size v_this_draft (2 : Int32) (9 : Int32) (0 : Int32) = some ((-1 : Int32), v_this_state, v_this_history_ring_0, v_this_history_ring_1, v_this_history_ring_2, v_this_history_ring_3, v_this_history_oldest, v_this_history_size, v_this_draft) := by
  unfold p_X8_fill
  rw [show p_X8_isRow (2 : Int32) = some (0 : Int32) by decide +kernel, Option.bind_some]
  rw [if_pos (by decide +kernel)]
theorem rc67 (v_this_state : (((Nat → UInt64) × Int32) × ((Nat → UInt64) × Int32) × (Nat → UInt64) × Int32)) (v_this_history_ring_0 : (((Nat → UInt64) × Int32) × ((Nat → UInt64) × Int32) × (Nat → UInt64) × Int32)) (v_this_history_ring_1 : (((Nat → UInt64) × Int32) × ((Nat → UInt64) × Int32) × (Nat → UInt64) × Int32)) (v_this_history_ring_2 : (((Nat → UInt64) × Int32) × ((Nat → UInt64) × Int32) × (Nat → UInt64) × Int32)) (v_this_history_ring_3 : (((Nat → UInt64) × Int32) × ((Nat → UInt64) × Int32) × (Nat → UInt64) × Int32)) (v_this_history_oldest : Int32) (v_this_history_size : Int32) (v_this_draft : ((Nat → UInt64) × Int32)) : p_X8_fill v_this_state v_this_history_ring_0 v_this_history_ring_1 v_this_history_ring_2 v_this_history_ring_3 v_this_history_oldest v_this_history_size v_this_draft (0 : Int32) (5 : Int32) (1 : Int32) = some ((-2 : Int32), v_this_state, v_this_history_ring_0, v_this_history_ring_1, v_this_history_ring_2, v_this_history_ring_3, v_this_history_oldest, v_this_history_size, v_this_draft) := by
  unfold p_X8_fill
  rw [show p_X8_isRow (0 : Int32) = some (1 : Int32) by decide +kernel, Option.bind_some]
  rw [if_neg (by decide +kernel)]
  rw [if_neg (by decide +kernel)]
  rw [if_pos (by decide +kernel)]
theorem rc68 (v_this_state : (((Nat → UInt64) × Int32) × ((Nat → UInt64) × Int32) × (Nat → UInt64) × Int32)) (v_this_history_ring_0 : (((Nat → UInt64) × Int32) × ((Nat → UInt64) × Int32) × (Nat → UInt64) × Int32)) (v_this_history_ring_1 : (((Nat → UInt64) × Int32) × ((Nat → UInt64) × Int32) × (Nat → UInt64) × Int32)) (v_this_history_ring_2 : (((Nat → UInt64) × Int32) × ((Nat → UInt64) × Int32) × (Nat → UInt64) × Int32)) (v_this_history_ring_3 : (((Nat → UInt64) × Int32) × ((Nat → UInt64) × Int32) × (Nat → UInt64) × Int32)) (v_this_history_oldest : Int32) (v_this_history_size : Int32) : p_X8_set v_this_state v_this_history_ring_0 v_this_history_ring_1 v_this_history_ring_2 v_this_history_ring_3 v_this_history_oldest v_this_history_size (-1 : Int32) (0 : Int32) (9218868437227405312 : Int64) = some ((-1 : Int32), v_this_state, v_this_history_ring_0, v_this_history_ring_1, v_this_history_ring_2, v_this_history_ring_3, v_this_history_oldest, v_this_history_size) := by
  unfold p_X8_set
  rw [show p_X8_isRow (-1 : Int32) = some (0 : Int32) by decide +kernel, Option.bind_some]
  rw [if_pos (by decide +kernel)]
theorem rc69 (v_this_state : (((Nat → UInt64) × Int32) × ((Nat → UInt64) × Int32) × (Nat → UInt64) × Int32)) (v_this_history_ring_0 : (((Nat → UInt64) × Int32) × ((Nat → UInt64) × Int32) × (Nat → UInt64) × Int32)) (v_this_history_ring_1 : (((Nat → UInt64) × Int32) × ((Nat → UInt64) × Int32) × (Nat → UInt64) × Int32)) (v_this_history_ring_2 : (((Nat → UInt64) × Int32) × ((Nat → UInt64) × Int32) × (Nat → UInt64) × Int32)) (v_this_history_ring_3 : (((Nat → UInt64) × Int32) × ((Nat → UInt64) × Int32) × (Nat → UInt64) × Int32)) (v_this_history_oldest : Int32) (v_this_history_size : Int32) : p_X8_set v_this_state v_this_history_ring_0 v_this_history_ring_1 v_this_history_ring_2 v_this_history_ring_3 v_this_history_oldest v_this_history_size (0 : Int32) (-1 : Int32) (9218868437227405312 : Int64) = some ((-1 : Int32), v_this_state, v_this_history_ring_0, v_this_history_ring_1, v_this_history_ring_2, v_this_history_ring_3, v_this_history_oldest, v_this_history_size) := by
  unfold p_X8_set
  rw [show p_X8_isRow (0 : Int32) = some (1 : Int32) by decide +kernel, Option.bind_some]
  rw [if_neg (by decide +kernel)]
  rw [if_pos (by decide +kernel)]
  rw [place_m1, Option.bind_some]
  rw [if_pos (by decide +kernel)]
theorem rc70 (v_this_state : (((Nat → UInt64) × Int32) × ((Nat → UInt64) × Int32) × (Nat → UInt64) × Int32)) (v_this_history_ring_0 : (((Nat → UInt64) × Int32) × ((Nat → UInt64) × Int32) × (Nat → UInt64) × Int32)) (v_this_history_ring_1 : (((Nat → UInt64) × Int32) × ((Nat → UInt64) × Int32) × (Nat → UInt64) × Int32)) (v_this_history_ring_2 : (((Nat → UInt64) × Int32) × ((Nat → UInt64) × Int32) × (Nat → UInt64) × Int32)) (v_this_history_ring_3 : (((Nat → UInt64) × Int32) × ((Nat → UInt64) × Int32) × (Nat → UInt64) × Int32)) (v_this_history_oldest : Int32) (v_this_history_size : Int32) (v_this_text_characters : Nat → Int32) (v_this_text_length : Int32) (v_this_text_at : Int32) (v_this_text_digits : Int64) (v_this_draft : ((Nat → UInt64) × Int32)) : p_X8_read v_this_state v_this_history_ring_0 v_this_history_ring_1 v_this_history_ring_2 v_this_history_ring_3 v_this_history_oldest v_this_history_size v_this_text_characters v_this_text_length v_this_text_at v_this_text_digits v_this_draft (-1 : Int32) = some ((-1 : Int32), v_this_state, v_this_history_ring_0, v_this_history_ring_1, v_this_history_ring_2, v_this_history_ring_3, v_this_history_oldest, v_this_history_size, v_this_text_at, v_this_text_digits, v_this_draft) := by
  unfold p_X8_read
  rw [show p_X8_isRow (-1 : Int32) = some (0 : Int32) by decide +kernel, Option.bind_some]
  rw [if_pos (by decide +kernel)]
theorem rc71 (v_this_state : (((Nat → UInt64) × Int32) × ((Nat → UInt64) × Int32) × (Nat → UInt64) × Int32)) (v_this_history_ring_0 : (((Nat → UInt64) × Int32) × ((Nat → UInt64) × Int32) × (Nat → UInt64) × Int32)) (v_this_history_ring_1 : (((Nat → UInt64) × Int32) × ((Nat → UInt64) × Int32) × (Nat → UInt64) × Int32)) (v_this_history_ring_2 : (((Nat → UInt64) × Int32) × ((Nat → UInt64) × Int32) × (Nat → UInt64) × Int32)) (v_this_history_ring_3 : (((Nat → UInt64) × Int32) × ((Nat → UInt64) × Int32) × (Nat → UInt64) × Int32)) (v_this_history_oldest : Int32) (v_this_history_size : Int32) (v_this_draft : ((Nat → UInt64) × Int32)) : p_X8_fill v_this_state v_this_history_ring_0 v_this_history_ring_1 v_this_history_ring_2 v_this_history_ring_3 v_this_history_oldest v_this_history_size v_this_draft (-1 : Int32) (9 : Int32) (0 : Int32) = some ((-1 : Int32), v_this_state, v_this_history_ring_0, v_this_history_ring_1, v_this_history_ring_2, v_this_history_ring_3, v_this_history_oldest, v_this_history_size, v_this_draft) := by
  unfold p_X8_fill
  rw [show p_X8_isRow (-1 : Int32) = some (0 : Int32) by decide +kernel, Option.bind_some]
  rw [if_pos (by decide +kernel)]
theorem rc72 (v_this_state : (((Nat → UInt64) × Int32) × ((Nat → UInt64) × Int32) × (Nat → UInt64) × Int32)) (v_this_history_ring_0 : (((Nat → UInt64) × Int32) × ((Nat → UInt64) × Int32) × (Nat → UInt64) × Int32)) (v_this_history_ring_1 : (((Nat → UInt64) × Int32) × ((Nat → UInt64) × Int32) × (Nat → UInt64) × Int32)) (v_this_history_ring_2 : (((Nat → UInt64) × Int32) × ((Nat → UInt64) × Int32) × (Nat → UInt64) × Int32)) (v_this_history_ring_3 : (((Nat → UInt64) × Int32) × ((Nat → UInt64) × Int32) × (Nat → UInt64) × Int32)) (v_this_history_oldest : Int32) (v_this_history_size : Int32) (v_this_draft : ((Nat → UInt64) × Int32)) : p_X8_fill v_this_state v_this_history_ring_0 v_this_history_ring_1 v_this_history_ring_2 v_this_history_ring_3 v_this_history_oldest v_this_history_size v_this_draft (0 : Int32) (-1 : Int32) (1 : Int32) = some ((-2 : Int32), v_this_state, v_this_history_ring_0, v_this_history_ring_1, v_this_history_ring_2, v_this_history_ring_3, v_this_history_oldest, v_this_history_size, v_this_draft) := by
  unfold p_X8_fill
  rw [show p_X8_isRow (0 : Int32) = some (1 : Int32) by decide +kernel, Option.bind_some]
  rw [if_neg (by decide +kernel)]
  rw [if_pos (by decide +kernel)]
theorem rc73 (v_this_state : (((Nat → UInt64) × Int32) × ((Nat → UInt64) × Int32) × (Nat → UInt64) × Int32)) (v_this_history_ring_0 : (((Nat → UInt64) × Int32) × ((Nat → UInt64) × Int32) × (Nat → UInt64) × Int32)) (v_this_history_ring_1 : (((Nat → UInt64) × Int32) × ((Nat → UInt64) × Int32) × (Nat → UInt64) × Int32)) (v_this_history_ring_2 : (((Nat → UInt64) × Int32) × ((Nat → UInt64) × Int32) × (Nat → UInt64) × Int32)) (v_this_history_ring_3 : (((Nat → UInt64) × Int32) × ((Nat → UInt64) × Int32) × (Nat → UInt64) × Int32)) (v_this_history_oldest : Int32) (v_this_history_size : Int32) : p_X8_add v_this_state v_this_history_ring_0 v_this_history_ring_1 v_this_history_ring_2 v_this_history_ring_3 v_this_history_oldest v_this_history_size (2 : Int32) (9221120237041090560 : Int64) = some ((-1 : Int32), v_this_state, v_this_history_ring_0, v_this_history_ring_1, v_this_history_ring_2, v_this_history_ring_3, v_this_history_oldest, v_this_history_size) := by
  unfold p_X8_add
  rw [show p_X8_isRow (2 : Int32) = some (0 : Int32) by decide +kernel, Option.bind_some]
  rw [if_pos (by decide +kernel)]
theorem rc74 (v_this_state : (((Nat → UInt64) × Int32) × ((Nat → UInt64) × Int32) × (Nat → UInt64) × Int32)) (v_this_history_ring_0 : (((Nat → UInt64) × Int32) × ((Nat → UInt64) × Int32) × (Nat → UInt64) × Int32)) (v_this_history_ring_1 : (((Nat → UInt64) × Int32) × ((Nat → UInt64) × Int32) × (Nat → UInt64) × Int32)) (v_this_history_ring_2 : (((Nat → UInt64) × Int32) × ((Nat → UInt64) × Int32) × (Nat → UInt64) × Int32)) (v_this_history_ring_3 : (((Nat → UInt64) × Int32) × ((Nat → UInt64) × Int32) × (Nat → UInt64) × Int32)) (v_this_history_oldest : Int32) (v_this_history_size : Int32) : p_X8_add v_this_state v_this_history_ring_0 v_this_history_ring_1 v_this_history_ring_2 v_this_history_ring_3 v_this_history_oldest v_this_history_size (0 : Int32) (9221120237041090560 : Int64) = some ((-2 : Int32), v_this_state, v_this_history_ring_0, v_this_history_ring_1, v_this_history_ring_2, v_this_history_ring_3, v_this_history_oldest, v_this_history_size) := by
  unfold p_X8_add
  rw [show p_X8_isRow (0 : Int32) = some (1 : Int32) by decide +kernel, Option.bind_some]
  rw [if_neg (by decide +kernel)]
  rw [show p_X0_fitRow (9221120237041090560 : Int64) = some (0 : Int32) by decide +kernel, Option.bind_some]
  rw [if_pos (by decide +kernel)]
theorem rc75 (v_this_state : (((Nat → UInt64) × Int32) × ((Nat → UInt64) × Int32) × (Nat → UInt64) × Int32)) (v_this_history_ring_0 : (((Nat → UInt64) × Int32) × ((Nat → UInt64) × Int32) × (Nat → UInt64) × Int32)) (v_this_history_ring_1 : (((Nat → UInt64) × Int32) × ((Nat → UInt64) × Int32) × (Nat → UInt64) × Int32)) (v_this_history_ring_2 : (((Nat → UInt64) × Int32) × ((Nat → UInt64) × Int32) × (Nat → UInt64) × Int32)) (v_this_history_ring_3 : (((Nat → UInt64) × Int32) × ((Nat → UInt64) × Int32) × (Nat → UInt64) × Int32)) (v_this_history_oldest : Int32) (v_this_history_size : Int32) : p_X8_add v_this_state v_this_history_ring_0 v_this_history_ring_1 v_this_history_ring_2 v_this_history_ring_3 v_this_history_oldest v_this_history_size (1 : Int32) (4741671816366391297 : Int64) = some ((-2 : Int32), v_this_state, v_this_history_ring_0, v_this_history_ring_1, v_this_history_ring_2, v_this_history_ring_3, v_this_history_oldest, v_this_history_size) := by
  unfold p_X8_add
  rw [show p_X8_isRow (1 : Int32) = some (1 : Int32) by decide +kernel, Option.bind_some]
  rw [if_neg (by decide +kernel)]
  rw [show p_X0_fitRow (4741671816366391297 : Int64) = some (0 : Int32) by decide +kernel, Option.bind_some]
  rw [if_pos (by decide +kernel)]
theorem rc76 (v_this_state : (((Nat → UInt64) × Int32) × ((Nat → UInt64) × Int32) × (Nat → UInt64) × Int32)) (v_this_history_ring_0 : (((Nat → UInt64) × Int32) × ((Nat → UInt64) × Int32) × (Nat → UInt64) × Int32)) (v_this_history_ring_1 : (((Nat → UInt64) × Int32) × ((Nat → UInt64) × Int32) × (Nat → UInt64) × Int32)) (v_this_history_ring_2 : (((Nat → UInt64) × Int32) × ((Nat → UInt64) × Int32) × (Nat → UInt64) × Int32)) (v_this_history_ring_3 : (((Nat → UInt64) × Int32) × ((Nat → UInt64) × Int32) × (Nat → UInt64) × Int32)) (v_this_history_oldest : Int32) (v_this_history_size : Int32) : p_X8_cut v_this_state v_this_history_ring_0 v_this_history_ring_1 v_this_history_ring_2 v_this_history_ring_3 v_this_history_oldest v_this_history_size (2 : Int32) (0 : Int32) = some ((-1 : Int32), v_this_state, v_this_history_ring_0, v_this_history_ring_1, v_this_history_ring_2, v_this_history_ring_3, v_this_history_oldest, v_this_history_size) := by
  unfold p_X8_cut
  rw [show p_X8_isRow (2 : Int32) = some (0 : Int32) by decide +kernel, Option.bind_some]
  rw [if_pos (by decide +kernel)]
theorem rc77 (v_this_state : (((Nat → UInt64) × Int32) × ((Nat → UInt64) × Int32) × (Nat → UInt64) × Int32)) (v_this_history_ring_0 : (((Nat → UInt64) × Int32) × ((Nat → UInt64) × Int32) × (Nat → UInt64) × Int32)) (v_this_history_ring_1 : (((Nat → UInt64) × Int32) × ((Nat → UInt64) × Int32) × (Nat → UInt64) × Int32)) (v_this_history_ring_2 : (((Nat → UInt64) × Int32) × ((Nat → UInt64) × Int32) × (Nat → UInt64) × Int32)) (v_this_history_ring_3 : (((Nat → UInt64) × Int32) × ((Nat → UInt64) × Int32) × (Nat → UInt64) × Int32)) (v_this_history_oldest : Int32) (v_this_history_size : Int32) : p_X8_cut v_this_state v_this_history_ring_0 v_this_history_ring_1 v_this_history_ring_2 v_this_history_ring_3 v_this_history_oldest v_this_history_size (0 : Int32) (17 : Int32) = some ((-2 : Int32), v_this_state, v_this_history_ring_0, v_this_history_ring_1, v_this_history_ring_2, v_this_history_ring_3, v_this_history_oldest, v_this_history_size) := by
  unfold p_X8_cut
  rw [show p_X8_isRow (0 : Int32) = some (1 : Int32) by decide +kernel, Option.bind_some]
  rw [if_neg (by decide +kernel)]
  rw [if_neg (by decide +kernel)]
  rw [if_neg (by decide +kernel)]
theorem rc78 (v_this_state : (((Nat → UInt64) × Int32) × ((Nat → UInt64) × Int32) × (Nat → UInt64) × Int32)) (v_this_history_ring_0 : (((Nat → UInt64) × Int32) × ((Nat → UInt64) × Int32) × (Nat → UInt64) × Int32)) (v_this_history_ring_1 : (((Nat → UInt64) × Int32) × ((Nat → UInt64) × Int32) × (Nat → UInt64) × Int32)) (v_this_history_ring_2 : (((Nat → UInt64) × Int32) × ((Nat → UInt64) × Int32) × (Nat → UInt64) × Int32)) (v_this_history_ring_3 : (((Nat → UInt64) × Int32) × ((Nat → UInt64) × Int32) × (Nat → UInt64) × Int32)) (v_this_history_oldest : Int32) (v_this_history_size : Int32) : p_X8_add v_this_state v_this_history_ring_0 v_this_history_ring_1 v_this_history_ring_2 v_this_history_ring_3 v_this_history_oldest v_this_history_size (-1 : Int32) (9218868437227405312 : Int64) = some ((-1 : Int32), v_this_state, v_this_history_ring_0, v_this_history_ring_1, v_this_history_ring_2, v_this_history_ring_3, v_this_history_oldest, v_this_history_size) := by
  unfold p_X8_add
  rw [show p_X8_isRow (-1 : Int32) = some (0 : Int32) by decide +kernel, Option.bind_some]
  rw [if_pos (by decide +kernel)]
theorem rc79 (v_this_state : (((Nat → UInt64) × Int32) × ((Nat → UInt64) × Int32) × (Nat → UInt64) × Int32)) (v_this_history_ring_0 : (((Nat → UInt64) × Int32) × ((Nat → UInt64) × Int32) × (Nat → UInt64) × Int32)) (v_this_history_ring_1 : (((Nat → UInt64) × Int32) × ((Nat → UInt64) × Int32) × (Nat → UInt64) × Int32)) (v_this_history_ring_2 : (((Nat → UInt64) × Int32) × ((Nat → UInt64) × Int32) × (Nat → UInt64) × Int32)) (v_this_history_ring_3 : (((Nat → UInt64) × Int32) × ((Nat → UInt64) × Int32) × (Nat → UInt64) × Int32)) (v_this_history_oldest : Int32) (v_this_history_size : Int32) : p_X8_add v_this_state v_this_history_ring_0 v_this_history_ring_1 v_this_history_ring_2 v_this_history_ring_3 v_this_history_oldest v_this_history_size (0 : Int32) (9218868437227405312 : Int64) = some ((-2 : Int32), v_this_state, v_this_history_ring_0, v_this_history_ring_1, v_this_history_ring_2, v_this_history_ring_3, v_this_history_oldest, v_this_history_size) := by
  unfold p_X8_add
  rw [show p_X8_isRow (0 : Int32) = some (1 : Int32) by decide +kernel, Option.bind_some]
  rw [if_neg (by decide +kernel)]
  rw [show p_X0_fitRow (9218868437227405312 : Int64) = some (0 : Int32) by decide +kernel, Option.bind_some]
  rw [if_pos (by decide +kernel)]
theorem rc80 (v_this_state : (((Nat → UInt64) × Int32) × ((Nat → UInt64) × Int32) × (Nat → UInt64) × Int32)) (v_this_history_ring_0 : (((Nat → UInt64) × Int32) × ((Nat → UInt64) × Int32) × (Nat → UInt64) × Int32)) (v_this_history_ring_1 : (((Nat → UInt64) × Int32) × ((Nat → UInt64) × Int32) × (Nat → UInt64) × Int32)) (v_this_history_ring_2 : (((Nat → UInt64) × Int32) × ((Nat → UInt64) × Int32) × (Nat → UInt64) × Int32)) (v_this_history_ring_3 : (((Nat → UInt64) × Int32) × ((Nat → UInt64) × Int32) × (Nat → UInt64) × Int32)) (v_this_history_oldest : Int32) (v_this_history_size : Int32) : p_X8_add v_this_state v_this_history_ring_0 v_this_history_ring_1 v_this_history_ring_2 v_this_history_ring_3 v_this_history_oldest v_this_history_size (1 : Int32) (-4481700220488384511 : Int64) = some ((-2 : Int32), v_this_state, v_this_history_ring_0, v_this_history_ring_1, v_this_history_ring_2, v_this_history_ring_3, v_this_history_oldest, v_this_history_size) := by
  unfold p_X8_add
  rw [show p_X8_isRow (1 : Int32) = some (1 : Int32) by decide +kernel, Option.bind_some]
  rw [if_neg (by decide +kernel)]
  rw [show p_X0_fitRow (-4481700220488384511 : Int64) = some (0 : Int32) by decide +kernel, Option.bind_some]
  rw [if_pos (by decide +kernel)]
theorem rc81 (v_this_state : (((Nat → UInt64) × Int32) × ((Nat → UInt64) × Int32) × (Nat → UInt64) × Int32)) (v_this_history_ring_0 : (((Nat → UInt64) × Int32) × ((Nat → UInt64) × Int32) × (Nat → UInt64) × Int32)) (v_this_history_ring_1 : (((Nat → UInt64) × Int32) × ((Nat → UInt64) × Int32) × (Nat → UInt64) × Int32)) (v_this_history_ring_2 : (((Nat → UInt64) × Int32) × ((Nat → UInt64) × Int32) × (Nat → UInt64) × Int32)) (v_this_history_ring_3 : (((Nat → UInt64) × Int32) × ((Nat → UInt64) × Int32) × (Nat → UInt64) × Int32)) (v_this_history_oldest : Int32) (v_this_history_size : Int32) : p_X8_cut v_this_state v_this_history_ring_0 v_this_history_ring_1 v_this_history_ring_2 v_this_history_ring_3 v_this_history_oldest v_this_history_size (-1 : Int32) (0 : Int32) = some ((-1 : Int32), v_this_state, v_this_history_ring_0, v_this_history_ring_1, v_this_history_ring_2, v_this_history_ring_3, v_this_history_oldest, v_this_history_size) := by
  unfold p_X8_cut
  rw [show p_X8_isRow (-1 : Int32) = some (0 : Int32) by decide +kernel, Option.bind_some]
  rw [if_pos (by decide +kernel)]
theorem rc82 (v_this_state : (((Nat → UInt64) × Int32) × ((Nat → UInt64) × Int32) × (Nat → UInt64) × Int32)) (v_this_history_ring_0 : (((Nat → UInt64) × Int32) × ((Nat → UInt64) × Int32) × (Nat → UInt64) × Int32)) (v_this_history_ring_1 : (((Nat → UInt64) × Int32) × ((Nat → UInt64) × Int32) × (Nat → UInt64) × Int32)) (v_this_history_ring_2 : (((Nat → UInt64) × Int32) × ((Nat → UInt64) × Int32) × (Nat → UInt64) × Int32)) (v_this_history_ring_3 : (((Nat → UInt64) × Int32) × ((Nat → UInt64) × Int32) × (Nat → UInt64) × Int32)) (v_this_history_oldest : Int32) (v_this_history_size : Int32) : p_X8_cut v_this_state v_this_history_ring_0 v_this_history_ring_1 v_this_history_ring_2 v_this_history_ring_3 v_this_history_oldest v_this_history_size (0 : Int32) (0 : Int32) = some ((-2 : Int32), v_this_state, v_this_history_ring_0, v_this_history_ring_1, v_this_history_ring_2, v_this_history_ring_3, v_this_history_oldest, v_this_history_size) := by
  unfold p_X8_cut
  rw [show p_X8_isRow (0 : Int32) = some (1 : Int32) by decide +kernel, Option.bind_some]
  rw [if_neg (by decide +kernel)]
  rw [if_pos (by decide +kernel)]
theorem cut_np {v_this_state : STT} {a : Nat} (ha : v_this_state.1.2 = nI a) (h16 : a < 16) {r0 r1 r2 r3 : STT} {old size : Int32} : p_X8_cut v_this_state r0 r1 r2 r3 old size (0 : Int32) (16 : Int32) = some ((-4 : Int32), v_this_state, r0, r1, r2, r3, old, size) := by
  unfold p_X8_cut
  rw [show p_X8_isRow (0 : Int32) = some (1 : Int32) by decide +kernel, Option.bind_some, if_neg (by decide), if_neg (by decide), if_pos (by decide), if_pos (by decide), ha, if_neg (show ¬ (16 : Int32) ≤ nI a from nI_ge (b := 16) h16 (by decide))]
theorem ref_refusesAny_S691_0 {s : Nat → UInt64} {v_p1_state : STT} {a : Nat} (hS : RelS v_p1_state s) (ha : v_p1_state.1.2 = nI a) (h16 : a < 16) (v_p1_snapshot : (((Nat → UInt64) × Int32) × ((Nat → UInt64) × Int32) × (Nat → UInt64) × Int32)) (v_p1_snapshotTaken : Int32) (v_p1_history_ring_0 : (((Nat → UInt64) × Int32) × ((Nat → UInt64) × Int32) × (Nat → UInt64) × Int32)) (v_p1_history_ring_1 : (((Nat → UInt64) × Int32) × ((Nat → UInt64) × Int32) × (Nat → UInt64) × Int32)) (v_p1_history_ring_2 : (((Nat → UInt64) × Int32) × ((Nat → UInt64) × Int32) × (Nat → UInt64) × Int32)) (v_p1_history_ring_3 : (((Nat → UInt64) × Int32) × ((Nat → UInt64) × Int32) × (Nat → UInt64) × Int32)) (v_p1_history_oldest : Int32) (v_p1_history_size : Int32) (v_p1_text_characters : Nat → Int32) (v_p1_text_length : Int32) (v_p1_text_at : Int32) (v_p1_text_digits : Int64) (v_p1_grid_values : Nat → UInt64) (v_p1_grid_kinds : Nat → Int32) (v_p1_grid_table : Int32) (v_p1_grid_guard : UInt64) (v_p1_grid_ratio : UInt64) (v_p1_grid_bridging : Int32) (v_p1_grid_length : Int32) (v_p1_grid_guessColumn : Int32) (v_p1_grid_guessError : UInt64) (v_p1_grid_guessValue : UInt64) (v_p1_draft : ((Nat → UInt64) × Int32)) : ∃ v' k' tb' gu' ra' br' le' gc' gE' gV', p_L_refusesAny_S691 (0 : Int32) v_p1_snapshot v_p1_snapshotTaken v_p1_text_characters v_p1_text_length (2 : Int32) (4 : Int32) (9221120237041090560 : Int64) v_p1_state v_p1_history_ring_0 v_p1_history_ring_1 v_p1_history_ring_2 v_p1_history_ring_3 v_p1_history_oldest v_p1_history_size v_p1_text_at v_p1_text_digits v_p1_grid_values v_p1_grid_kinds v_p1_grid_table v_p1_grid_guard v_p1_grid_ratio v_p1_grid_bridging v_p1_grid_length v_p1_grid_guessColumn v_p1_grid_guessError v_p1_grid_guessValue v_p1_draft = some ((1 : Int32), v_p1_state, v_p1_history_ring_0, v_p1_history_ring_1, v_p1_history_ring_2, v_p1_history_ring_3, v_p1_history_oldest, v_p1_history_size, v_p1_text_at, v_p1_text_digits, v', k', tb', gu', ra', br', le', gc', gE', gV', v_p1_draft) := by
  unfold p_L_refusesAny_S691
  first | rw [rc1, Option.bind_some] | rw [Option.bind_some]
  try dsimp only
  rw [if_pos (by decide +kernel)]
  first | rw [rc2, Option.bind_some] | rw [Option.bind_some]
  try dsimp only
  rw [if_pos (by decide +kernel)]
  first | rw [rc3, Option.bind_some] | rw [Option.bind_some]
  try dsimp only
  rw [if_pos (by decide +kernel)]
  rw [if_pos (by decide +kernel)]
  first | rw [rc4, Option.bind_some] | rw [Option.bind_some]
  try dsimp only
  rw [if_pos (by decide +kernel)]
  exact ⟨_, _, _, _, _, _, _, _, _, _, rfl⟩
theorem ref_refusesAny_S691_1 {s : Nat → UInt64} {v_p1_state : STT} {a : Nat} (hS : RelS v_p1_state s) (ha : v_p1_state.1.2 = nI a) (h16 : a < 16) (v_p1_snapshot : (((Nat → UInt64) × Int32) × ((Nat → UInt64) × Int32) × (Nat → UInt64) × Int32)) (v_p1_snapshotTaken : Int32) (v_p1_history_ring_0 : (((Nat → UInt64) × Int32) × ((Nat → UInt64) × Int32) × (Nat → UInt64) × Int32)) (v_p1_history_ring_1 : (((Nat → UInt64) × Int32) × ((Nat → UInt64) × Int32) × (Nat → UInt64) × Int32)) (v_p1_history_ring_2 : (((Nat → UInt64) × Int32) × ((Nat → UInt64) × Int32) × (Nat → UInt64) × Int32)) (v_p1_history_ring_3 : (((Nat → UInt64) × Int32) × ((Nat → UInt64) × Int32) × (Nat → UInt64) × Int32)) (v_p1_history_oldest : Int32) (v_p1_history_size : Int32) (v_p1_text_characters : Nat → Int32) (v_p1_text_length : Int32) (v_p1_text_at : Int32) (v_p1_text_digits : Int64) (v_p1_grid_values : Nat → UInt64) (v_p1_grid_kinds : Nat → Int32) (v_p1_grid_table : Int32) (v_p1_grid_guard : UInt64) (v_p1_grid_ratio : UInt64) (v_p1_grid_bridging : Int32) (v_p1_grid_length : Int32) (v_p1_grid_guessColumn : Int32) (v_p1_grid_guessError : UInt64) (v_p1_grid_guessValue : UInt64) (v_p1_draft : ((Nat → UInt64) × Int32)) : ∃ v' k' tb' gu' ra' br' le' gc' gE' gV', p_L_refusesAny_S691 (1 : Int32) v_p1_snapshot v_p1_snapshotTaken v_p1_text_characters v_p1_text_length (-1 : Int32) (-1 : Int32) (9218868437227405312 : Int64) v_p1_state v_p1_history_ring_0 v_p1_history_ring_1 v_p1_history_ring_2 v_p1_history_ring_3 v_p1_history_oldest v_p1_history_size v_p1_text_at v_p1_text_digits v_p1_grid_values v_p1_grid_kinds v_p1_grid_table v_p1_grid_guard v_p1_grid_ratio v_p1_grid_bridging v_p1_grid_length v_p1_grid_guessColumn v_p1_grid_guessError v_p1_grid_guessValue v_p1_draft = some ((1 : Int32), v_p1_state, v_p1_history_ring_0, v_p1_history_ring_1, v_p1_history_ring_2, v_p1_history_ring_3, v_p1_history_oldest, v_p1_history_size, v_p1_text_at, v_p1_text_digits, v', k', tb', gu', ra', br', le', gc', gE', gV', v_p1_draft) := by
  unfold p_L_refusesAny_S691
  first | rw [rc5, Option.bind_some] | rw [Option.bind_some]
  try dsimp only
  rw [if_pos (by decide +kernel)]
  first | rw [rc6, Option.bind_some] | rw [Option.bind_some]
  try dsimp only
  rw [if_pos (by decide +kernel)]
  first | rw [rc7, Option.bind_some] | rw [Option.bind_some]
  try dsimp only
  rw [if_pos (by decide +kernel)]
  rw [if_neg (by decide +kernel)]
  first | rw [rc8, Option.bind_some] | rw [Option.bind_some]
  try dsimp only
  rw [if_pos (by decide +kernel)]
  exact ⟨_, _, _, _, _, _, _, _, _, _, rfl⟩
theorem ref_refusesAny_S645_0 {s : Nat → UInt64} {v_p1_state : STT} {a : Nat} (hS : RelS v_p1_state s) (ha : v_p1_state.1.2 = nI a) (h16 : a < 16) (v_p1_snapshot : (((Nat → UInt64) × Int32) × ((Nat → UInt64) × Int32) × (Nat → UInt64) × Int32)) (v_p1_snapshotTaken : Int32) (v_p1_history_ring_0 : (((Nat → UInt64) × Int32) × ((Nat → UInt64) × Int32) × (Nat → UInt64) × Int32)) (v_p1_history_ring_1 : (((Nat → UInt64) × Int32) × ((Nat → UInt64) × Int32) × (Nat → UInt64) × Int32)) (v_p1_history_ring_2 : (((Nat → UInt64) × Int32) × ((Nat → UInt64) × Int32) × (Nat → UInt64) × Int32)) (v_p1_history_ring_3 : (((Nat → UInt64) × Int32) × ((Nat → UInt64) × Int32) × (Nat → UInt64) × Int32)) (v_p1_history_oldest : Int32) (v_p1_history_size : Int32) (v_p1_text_characters : Nat → Int32) (v_p1_text_length : Int32) (v_p1_text_at : Int32) (v_p1_text_digits : Int64) (v_p1_grid_values : Nat → UInt64) (v_p1_grid_kinds : Nat → Int32) (v_p1_grid_table : Int32) (v_p1_grid_guard : UInt64) (v_p1_grid_ratio : UInt64) (v_p1_grid_bridging : Int32) (v_p1_grid_length : Int32) (v_p1_grid_guessColumn : Int32) (v_p1_grid_guessError : UInt64) (v_p1_grid_guessValue : UInt64) (v_p1_draft : ((Nat → UInt64) × Int32)) : ∃ v' k' tb' gu' ra' br' le' gc' gE' gV', p_L_refusesAny_S645 (0 : Int32) v_p1_snapshot v_p1_snapshotTaken v_p1_text_characters v_p1_text_length (2 : Int32) (4 : Int32) (9221120237041090560 : Int64) v_p1_state v_p1_history_ring_0 v_p1_history_ring_1 v_p1_history_ring_2 v_p1_history_ring_3 v_p1_history_oldest v_p1_history_size v_p1_text_at v_p1_text_digits v_p1_grid_values v_p1_grid_kinds v_p1_grid_table v_p1_grid_guard v_p1_grid_ratio v_p1_grid_bridging v_p1_grid_length v_p1_grid_guessColumn v_p1_grid_guessError v_p1_grid_guessValue v_p1_draft = some ((1 : Int32), v_p1_state, v_p1_history_ring_0, v_p1_history_ring_1, v_p1_history_ring_2, v_p1_history_ring_3, v_p1_history_oldest, v_p1_history_size, v_p1_text_at, v_p1_text_digits, v', k', tb', gu', ra', br', le', gc', gE', gV', v_p1_draft) := by
  unfold p_L_refusesAny_S645
  first | rw [rc9, Option.bind_some] | rw [Option.bind_some]
  try dsimp only
  first | rw [rc9, Option.bind_some] | rw [Option.bind_some]
  try dsimp only
  rw [if_neg (by decide +kernel)]
  first | rw [rc10, Option.bind_some] | rw [Option.bind_some]
  try dsimp only
  first | rw [rc10, Option.bind_some] | rw [Option.bind_some]
  try dsimp only
  rw [if_neg (by decide +kernel)]
  first | rw [rc11, Option.bind_some] | rw [Option.bind_some]
  try dsimp only
  first | rw [rc11, Option.bind_some] | rw [Option.bind_some]
  try dsimp only
  rw [if_neg (by decide +kernel)]
  exact ref_refusesAny_S691_0 hS ha h16 _ _ _ _ _ _ _ _ _ _ _ _ _ _ _ _ _ _ _ _ _ _ _
theorem ref_refusesAny_S645_1 {s : Nat → UInt64} {v_p1_state : STT} {a : Nat} (hS : RelS v_p1_state s) (ha : v_p1_state.1.2 = nI a) (h16 : a < 16) (v_p1_snapshot : (((Nat → UInt64) × Int32) × ((Nat → UInt64) × Int32) × (Nat → UInt64) × Int32)) (v_p1_snapshotTaken : Int32) (v_p1_history_ring_0 : (((Nat → UInt64) × Int32) × ((Nat → UInt64) × Int32) × (Nat → UInt64) × Int32)) (v_p1_history_ring_1 : (((Nat → UInt64) × Int32) × ((Nat → UInt64) × Int32) × (Nat → UInt64) × Int32)) (v_p1_history_ring_2 : (((Nat → UInt64) × Int32) × ((Nat → UInt64) × Int32) × (Nat → UInt64) × Int32)) (v_p1_history_ring_3 : (((Nat → UInt64) × Int32) × ((Nat → UInt64) × Int32) × (Nat → UInt64) × Int32)) (v_p1_history_oldest : Int32) (v_p1_history_size : Int32) (v_p1_text_characters : Nat → Int32) (v_p1_text_length : Int32) (v_p1_text_at : Int32) (v_p1_text_digits : Int64) (v_p1_grid_values : Nat → UInt64) (v_p1_grid_kinds : Nat → Int32) (v_p1_grid_table : Int32) (v_p1_grid_guard : UInt64) (v_p1_grid_ratio : UInt64) (v_p1_grid_bridging : Int32) (v_p1_grid_length : Int32) (v_p1_grid_guessColumn : Int32) (v_p1_grid_guessError : UInt64) (v_p1_grid_guessValue : UInt64) (v_p1_draft : ((Nat → UInt64) × Int32)) : ∃ v' k' tb' gu' ra' br' le' gc' gE' gV', p_L_refusesAny_S645 (1 : Int32) v_p1_snapshot v_p1_snapshotTaken v_p1_text_characters v_p1_text_length (-1 : Int32) (-1 : Int32) (9218868437227405312 : Int64) v_p1_state v_p1_history_ring_0 v_p1_history_ring_1 v_p1_history_ring_2 v_p1_history_ring_3 v_p1_history_oldest v_p1_history_size v_p1_text_at v_p1_text_digits v_p1_grid_values v_p1_grid_kinds v_p1_grid_table v_p1_grid_guard v_p1_grid_ratio v_p1_grid_bridging v_p1_grid_length v_p1_grid_guessColumn v_p1_grid_guessError v_p1_grid_guessValue v_p1_draft = some ((1 : Int32), v_p1_state, v_p1_history_ring_0, v_p1_history_ring_1, v_p1_history_ring_2, v_p1_history_ring_3, v_p1_history_oldest, v_p1_history_size, v_p1_text_at, v_p1_text_digits, v', k', tb', gu', ra', br', le', gc', gE', gV', v_p1_draft) := by
  unfold p_L_refusesAny_S645
  first | rw [rc12, Option.bind_some] | rw [Option.bind_some]
  try dsimp only
  first | rw [rc12, Option.bind_some] | rw [Option.bind_some]
  try dsimp only
  rw [if_neg (by decide +kernel)]
  first | rw [rc13, Option.bind_some] | rw [Option.bind_some]
  try dsimp only
  first | rw [rc13, Option.bind_some] | rw [Option.bind_some]
  try dsimp only
  rw [if_neg (by decide +kernel)]
  first | rw [rc14, Option.bind_some] | rw [Option.bind_some]
  try dsimp only
  first | rw [rc14, Option.bind_some] | rw [Option.bind_some]
  try dsimp only
  rw [if_neg (by decide +kernel)]
  exact ref_refusesAny_S691_1 hS ha h16 _ _ _ _ _ _ _ _ _ _ _ _ _ _ _ _ _ _ _ _ _ _ _
theorem ref_refusesAny_S579_0 {s : Nat → UInt64} {v_p1_state : STT} {a : Nat} (hS : RelS v_p1_state s) (ha : v_p1_state.1.2 = nI a) (h16 : a < 16) (v_p1_snapshot : (((Nat → UInt64) × Int32) × ((Nat → UInt64) × Int32) × (Nat → UInt64) × Int32)) (v_p1_snapshotTaken : Int32) (v_p1_history_ring_0 : (((Nat → UInt64) × Int32) × ((Nat → UInt64) × Int32) × (Nat → UInt64) × Int32)) (v_p1_history_ring_1 : (((Nat → UInt64) × Int32) × ((Nat → UInt64) × Int32) × (Nat → UInt64) × Int32)) (v_p1_history_ring_2 : (((Nat → UInt64) × Int32) × ((Nat → UInt64) × Int32) × (Nat → UInt64) × Int32)) (v_p1_history_ring_3 : (((Nat → UInt64) × Int32) × ((Nat → UInt64) × Int32) × (Nat → UInt64) × Int32)) (v_p1_history_oldest : Int32) (v_p1_history_size : Int32) (v_p1_text_characters : Nat → Int32) (v_p1_text_length : Int32) (v_p1_text_at : Int32) (v_p1_text_digits : Int64) (v_p1_grid_values : Nat → UInt64) (v_p1_grid_kinds : Nat → Int32) (v_p1_grid_table : Int32) (v_p1_grid_guard : UInt64) (v_p1_grid_ratio : UInt64) (v_p1_grid_bridging : Int32) (v_p1_grid_length : Int32) (v_p1_grid_guessColumn : Int32) (v_p1_grid_guessError : UInt64) (v_p1_grid_guessValue : UInt64) (v_p1_draft : ((Nat → UInt64) × Int32)) : ∃ v' k' tb' gu' ra' br' le' gc' gE' gV', p_L_refusesAny_S579 (0 : Int32) v_p1_snapshot v_p1_snapshotTaken v_p1_text_characters v_p1_text_length (2 : Int32) (4 : Int32) (9221120237041090560 : Int64) v_p1_state v_p1_history_ring_0 v_p1_history_ring_1 v_p1_history_ring_2 v_p1_history_ring_3 v_p1_history_oldest v_p1_history_size v_p1_text_at v_p1_text_digits v_p1_grid_values v_p1_grid_kinds v_p1_grid_table v_p1_grid_guard v_p1_grid_ratio v_p1_grid_bridging v_p1_grid_length v_p1_grid_guessColumn v_p1_grid_guessError v_p1_grid_guessValue v_p1_draft = some ((1 : Int32), v_p1_state, v_p1_history_ring_0, v_p1_history_ring_1, v_p1_history_ring_2, v_p1_history_ring_3, v_p1_history_oldest, v_p1_history_size, v_p1_text_at, v_p1_text_digits, v', k', tb', gu', ra', br', le', gc', gE', gV', v_p1_draft) := by
  unfold p_L_refusesAny_S579
  first | rw [rc15, Option.bind_some] | rw [Option.bind_some]
  try dsimp only
  rw [if_pos (by decide +kernel)]
  rw [if_pos (by decide +kernel)]
  first | rw [rc16, Option.bind_some] | rw [Option.bind_some]
  try dsimp only
  rw [if_pos (by decide +kernel)]
  first | rw [rc17, Option.bind_some] | rw [Option.bind_some]
  try dsimp only
  first | rw [rc17, Option.bind_some] | rw [Option.bind_some]
  try dsimp only
  rw [if_neg (by decide +kernel)]
  first | rw [rc18, Option.bind_some] | rw [Option.bind_some]
  try dsimp only
  first | rw [rc18, Option.bind_some] | rw [Option.bind_some]
  try dsimp only
  rw [if_neg (by decide +kernel)]
  exact ref_refusesAny_S645_0 hS ha h16 _ _ _ _ _ _ _ _ _ _ _ _ _ _ _ _ _ _ _ _ _ _ _
theorem ref_refusesAny_S579_1 {s : Nat → UInt64} {v_p1_state : STT} {a : Nat} (hS : RelS v_p1_state s) (ha : v_p1_state.1.2 = nI a) (h16 : a < 16) (v_p1_snapshot : (((Nat → UInt64) × Int32) × ((Nat → UInt64) × Int32) × (Nat → UInt64) × Int32)) (v_p1_snapshotTaken : Int32) (v_p1_history_ring_0 : (((Nat → UInt64) × Int32) × ((Nat → UInt64) × Int32) × (Nat → UInt64) × Int32)) (v_p1_history_ring_1 : (((Nat → UInt64) × Int32) × ((Nat → UInt64) × Int32) × (Nat → UInt64) × Int32)) (v_p1_history_ring_2 : (((Nat → UInt64) × Int32) × ((Nat → UInt64) × Int32) × (Nat → UInt64) × Int32)) (v_p1_history_ring_3 : (((Nat → UInt64) × Int32) × ((Nat → UInt64) × Int32) × (Nat → UInt64) × Int32)) (v_p1_history_oldest : Int32) (v_p1_history_size : Int32) (v_p1_text_characters : Nat → Int32) (v_p1_text_length : Int32) (v_p1_text_at : Int32) (v_p1_text_digits : Int64) (v_p1_grid_values : Nat → UInt64) (v_p1_grid_kinds : Nat → Int32) (v_p1_grid_table : Int32) (v_p1_grid_guard : UInt64) (v_p1_grid_ratio : UInt64) (v_p1_grid_bridging : Int32) (v_p1_grid_length : Int32) (v_p1_grid_guessColumn : Int32) (v_p1_grid_guessError : UInt64) (v_p1_grid_guessValue : UInt64) (v_p1_draft : ((Nat → UInt64) × Int32)) : ∃ v' k' tb' gu' ra' br' le' gc' gE' gV', p_L_refusesAny_S579 (1 : Int32) v_p1_snapshot v_p1_snapshotTaken v_p1_text_characters v_p1_text_length (-1 : Int32) (-1 : Int32) (9218868437227405312 : Int64) v_p1_state v_p1_history_ring_0 v_p1_history_ring_1 v_p1_history_ring_2 v_p1_history_ring_3 v_p1_history_oldest v_p1_history_size v_p1_text_at v_p1_text_digits v_p1_grid_values v_p1_grid_kinds v_p1_grid_table v_p1_grid_guard v_p1_grid_ratio v_p1_grid_bridging v_p1_grid_length v_p1_grid_guessColumn v_p1_grid_guessError v_p1_grid_guessValue v_p1_draft = some ((1 : Int32), v_p1_state, v_p1_history_ring_0, v_p1_history_ring_1, v_p1_history_ring_2, v_p1_history_ring_3, v_p1_history_oldest, v_p1_history_size, v_p1_text_at, v_p1_text_digits, v', k', tb', gu', ra', br', le', gc', gE', gV', v_p1_draft) := by
  unfold p_L_refusesAny_S579
  first | rw [rc19, Option.bind_some] | rw [Option.bind_some]
  try dsimp only
  rw [if_pos (by decide +kernel)]
  rw [if_neg (by decide +kernel)]
  first | rw [rc20, Option.bind_some] | rw [Option.bind_some]
  try dsimp only
  rw [if_pos (by decide +kernel)]
  first | rw [rc21, Option.bind_some] | rw [Option.bind_some]
  try dsimp only
  first | rw [rc21, Option.bind_some] | rw [Option.bind_some]
  try dsimp only
  rw [if_neg (by decide +kernel)]
  first | rw [rc22, Option.bind_some] | rw [Option.bind_some]
  try dsimp only
  first | rw [rc22, Option.bind_some] | rw [Option.bind_some]
  try dsimp only
  rw [if_neg (by decide +kernel)]
  exact ref_refusesAny_S645_1 hS ha h16 _ _ _ _ _ _ _ _ _ _ _ _ _ _ _ _ _ _ _ _ _ _ _
theorem ref_refusesAny_S509_0 {s : Nat → UInt64} {v_p1_state : STT} {a : Nat} (hS : RelS v_p1_state s) (ha : v_p1_state.1.2 = nI a) (h16 : a < 16) (v_p1_snapshot : (((Nat → UInt64) × Int32) × ((Nat → UInt64) × Int32) × (Nat → UInt64) × Int32)) (v_p1_snapshotTaken : Int32) (v_p1_history_ring_0 : (((Nat → UInt64) × Int32) × ((Nat → UInt64) × Int32) × (Nat → UInt64) × Int32)) (v_p1_history_ring_1 : (((Nat → UInt64) × Int32) × ((Nat → UInt64) × Int32) × (Nat → UInt64) × Int32)) (v_p1_history_ring_2 : (((Nat → UInt64) × Int32) × ((Nat → UInt64) × Int32) × (Nat → UInt64) × Int32)) (v_p1_history_ring_3 : (((Nat → UInt64) × Int32) × ((Nat → UInt64) × Int32) × (Nat → UInt64) × Int32)) (v_p1_history_oldest : Int32) (v_p1_history_size : Int32) (v_p1_text_characters : Nat → Int32) (v_p1_text_length : Int32) (v_p1_text_at : Int32) (v_p1_text_digits : Int64) (v_p1_grid_values : Nat → UInt64) (v_p1_grid_kinds : Nat → Int32) (v_p1_grid_table : Int32) (v_p1_grid_guard : UInt64) (v_p1_grid_ratio : UInt64) (v_p1_grid_bridging : Int32) (v_p1_grid_length : Int32) (v_p1_grid_guessColumn : Int32) (v_p1_grid_guessError : UInt64) (v_p1_grid_guessValue : UInt64) (v_p1_draft : ((Nat → UInt64) × Int32)) : ∃ v' k' tb' gu' ra' br' le' gc' gE' gV', p_L_refusesAny_S509 (0 : Int32) v_p1_snapshot v_p1_snapshotTaken v_p1_text_characters v_p1_text_length (2 : Int32) (4 : Int32) (9221120237041090560 : Int64) v_p1_state v_p1_history_ring_0 v_p1_history_ring_1 v_p1_history_ring_2 v_p1_history_ring_3 v_p1_history_oldest v_p1_history_size v_p1_text_at v_p1_text_digits v_p1_grid_values v_p1_grid_kinds v_p1_grid_table v_p1_grid_guard v_p1_grid_ratio v_p1_grid_bridging v_p1_grid_length v_p1_grid_guessColumn v_p1_grid_guessError v_p1_grid_guessValue v_p1_draft = some ((1 : Int32), v_p1_state, v_p1_history_ring_0, v_p1_history_ring_1, v_p1_history_ring_2, v_p1_history_ring_3, v_p1_history_oldest, v_p1_history_size, v_p1_text_at, v_p1_text_digits, v', k', tb', gu', ra', br', le', gc', gE', gV', v_p1_draft) := by
  unfold p_L_refusesAny_S509
  first | rw [rc23, Option.bind_some] | rw [Option.bind_some]
  try dsimp only
  first | rw [rc23, Option.bind_some] | rw [Option.bind_some]
  try dsimp only
  rw [if_neg (by decide +kernel)]
  first | rw [rc24, Option.bind_some] | rw [Option.bind_some]
  try dsimp only
  rw [if_pos (by decide +kernel)]
  first | rw [rc25, Option.bind_some] | rw [Option.bind_some]
  try dsimp only
  rw [if_pos (by decide +kernel)]
  obtain ⟨w, hw⟩ := hS.1
  obtain ⟨v1, k1, g1, q1, b1, z1, -⟩ := tab_ok hw hS.2 (row := 0) (t := 0) (by decide) (by decide) v_p1_grid_values v_p1_grid_kinds
  have hk : p_X8_kind v_p1_state v_p1_grid_values v_p1_grid_kinds v_p1_grid_table v_p1_grid_guard v_p1_grid_ratio v_p1_grid_bridging v_p1_grid_length (0 : Int32) (0 : Int32) (16 : Int32) (0 : Int32) = some ((-5 : Int32), v1, k1, nI 0, g1, q1, b1, nI (w 0)) := by
    unfold p_X8_kind p_X1_hasEntry
    rw [show p_X8_isTable (0 : Int32) (0 : Int32) = some (1 : Int32) by decide +kernel, Option.bind_some, if_neg (by decide), show p_X1_build v_p1_grid_values v_p1_grid_kinds v_p1_state (0 : Int32) (0 : Int32) = _ from z1, Option.bind_some, if_neg (by decide), if_pos (by decide), Option.bind_some, if_pos (by decide +kernel)]
  rw [hk, Option.bind_some]
  try dsimp only
  rw [if_pos (by decide +kernel)]
  first | rw [rc26, Option.bind_some] | rw [Option.bind_some]
  try dsimp only
  rw [if_pos (by decide +kernel)]
  exact ref_refusesAny_S579_0 hS ha h16 _ _ _ _ _ _ _ _ _ _ _ _ _ _ _ _ _ _ _ _ _ _ _
theorem ref_refusesAny_S509_1 {s : Nat → UInt64} {v_p1_state : STT} {a : Nat} (hS : RelS v_p1_state s) (ha : v_p1_state.1.2 = nI a) (h16 : a < 16) (v_p1_snapshot : (((Nat → UInt64) × Int32) × ((Nat → UInt64) × Int32) × (Nat → UInt64) × Int32)) (v_p1_snapshotTaken : Int32) (v_p1_history_ring_0 : (((Nat → UInt64) × Int32) × ((Nat → UInt64) × Int32) × (Nat → UInt64) × Int32)) (v_p1_history_ring_1 : (((Nat → UInt64) × Int32) × ((Nat → UInt64) × Int32) × (Nat → UInt64) × Int32)) (v_p1_history_ring_2 : (((Nat → UInt64) × Int32) × ((Nat → UInt64) × Int32) × (Nat → UInt64) × Int32)) (v_p1_history_ring_3 : (((Nat → UInt64) × Int32) × ((Nat → UInt64) × Int32) × (Nat → UInt64) × Int32)) (v_p1_history_oldest : Int32) (v_p1_history_size : Int32) (v_p1_text_characters : Nat → Int32) (v_p1_text_length : Int32) (v_p1_text_at : Int32) (v_p1_text_digits : Int64) (v_p1_grid_values : Nat → UInt64) (v_p1_grid_kinds : Nat → Int32) (v_p1_grid_table : Int32) (v_p1_grid_guard : UInt64) (v_p1_grid_ratio : UInt64) (v_p1_grid_bridging : Int32) (v_p1_grid_length : Int32) (v_p1_grid_guessColumn : Int32) (v_p1_grid_guessError : UInt64) (v_p1_grid_guessValue : UInt64) (v_p1_draft : ((Nat → UInt64) × Int32)) : ∃ v' k' tb' gu' ra' br' le' gc' gE' gV', p_L_refusesAny_S509 (1 : Int32) v_p1_snapshot v_p1_snapshotTaken v_p1_text_characters v_p1_text_length (-1 : Int32) (-1 : Int32) (9218868437227405312 : Int64) v_p1_state v_p1_history_ring_0 v_p1_history_ring_1 v_p1_history_ring_2 v_p1_history_ring_3 v_p1_history_oldest v_p1_history_size v_p1_text_at v_p1_text_digits v_p1_grid_values v_p1_grid_kinds v_p1_grid_table v_p1_grid_guard v_p1_grid_ratio v_p1_grid_bridging v_p1_grid_length v_p1_grid_guessColumn v_p1_grid_guessError v_p1_grid_guessValue v_p1_draft = some ((1 : Int32), v_p1_state, v_p1_history_ring_0, v_p1_history_ring_1, v_p1_history_ring_2, v_p1_history_ring_3, v_p1_history_oldest, v_p1_history_size, v_p1_text_at, v_p1_text_digits, v', k', tb', gu', ra', br', le', gc', gE', gV', v_p1_draft) := by
  unfold p_L_refusesAny_S509
  first | rw [rc27, Option.bind_some] | rw [Option.bind_some]
  try dsimp only
  first | rw [rc27, Option.bind_some] | rw [Option.bind_some]
  try dsimp only
  rw [if_neg (by decide +kernel)]
  first | rw [rc28, Option.bind_some] | rw [Option.bind_some]
  try dsimp only
  rw [if_pos (by decide +kernel)]
  first | rw [rc29, Option.bind_some] | rw [Option.bind_some]
  try dsimp only
  rw [if_pos (by decide +kernel)]
  obtain ⟨w, hw⟩ := hS.1
  obtain ⟨v1, k1, g1, q1, b1, z1, -⟩ := tab_ok hw hS.2 (row := 0) (t := 0) (by decide) (by decide) v_p1_grid_values v_p1_grid_kinds
  have hk : p_X8_kind v_p1_state v_p1_grid_values v_p1_grid_kinds v_p1_grid_table v_p1_grid_guard v_p1_grid_ratio v_p1_grid_bridging v_p1_grid_length (0 : Int32) (0 : Int32) (16 : Int32) (0 : Int32) = some ((-5 : Int32), v1, k1, nI 0, g1, q1, b1, nI (w 0)) := by
    unfold p_X8_kind p_X1_hasEntry
    rw [show p_X8_isTable (0 : Int32) (0 : Int32) = some (1 : Int32) by decide +kernel, Option.bind_some, if_neg (by decide), show p_X1_build v_p1_grid_values v_p1_grid_kinds v_p1_state (0 : Int32) (0 : Int32) = _ from z1, Option.bind_some, if_neg (by decide), if_pos (by decide), Option.bind_some, if_pos (by decide +kernel)]
  rw [hk, Option.bind_some]
  try dsimp only
  rw [if_pos (by decide +kernel)]
  first | rw [rc30, Option.bind_some] | rw [Option.bind_some]
  try dsimp only
  rw [if_pos (by decide +kernel)]
  exact ref_refusesAny_S579_1 hS ha h16 _ _ _ _ _ _ _ _ _ _ _ _ _ _ _ _ _ _ _ _ _ _ _
theorem ref_refusesAny_S438_0 {s : Nat → UInt64} {v_p1_state : STT} {a : Nat} (hS : RelS v_p1_state s) (ha : v_p1_state.1.2 = nI a) (h16 : a < 16) (v_p1_snapshot : (((Nat → UInt64) × Int32) × ((Nat → UInt64) × Int32) × (Nat → UInt64) × Int32)) (v_p1_snapshotTaken : Int32) (v_p1_history_ring_0 : (((Nat → UInt64) × Int32) × ((Nat → UInt64) × Int32) × (Nat → UInt64) × Int32)) (v_p1_history_ring_1 : (((Nat → UInt64) × Int32) × ((Nat → UInt64) × Int32) × (Nat → UInt64) × Int32)) (v_p1_history_ring_2 : (((Nat → UInt64) × Int32) × ((Nat → UInt64) × Int32) × (Nat → UInt64) × Int32)) (v_p1_history_ring_3 : (((Nat → UInt64) × Int32) × ((Nat → UInt64) × Int32) × (Nat → UInt64) × Int32)) (v_p1_history_oldest : Int32) (v_p1_history_size : Int32) (v_p1_text_characters : Nat → Int32) (v_p1_text_length : Int32) (v_p1_text_at : Int32) (v_p1_text_digits : Int64) (v_p1_grid_values : Nat → UInt64) (v_p1_grid_kinds : Nat → Int32) (v_p1_grid_table : Int32) (v_p1_grid_guard : UInt64) (v_p1_grid_ratio : UInt64) (v_p1_grid_bridging : Int32) (v_p1_grid_length : Int32) (v_p1_grid_guessColumn : Int32) (v_p1_grid_guessError : UInt64) (v_p1_grid_guessValue : UInt64) (v_p1_draft : ((Nat → UInt64) × Int32)) : ∃ v' k' tb' gu' ra' br' le' gc' gE' gV', p_L_refusesAny_S438 (0 : Int32) v_p1_snapshot v_p1_snapshotTaken v_p1_text_characters v_p1_text_length (2 : Int32) (4 : Int32) (9221120237041090560 : Int64) v_p1_state v_p1_history_ring_0 v_p1_history_ring_1 v_p1_history_ring_2 v_p1_history_ring_3 v_p1_history_oldest v_p1_history_size v_p1_text_at v_p1_text_digits v_p1_grid_values v_p1_grid_kinds v_p1_grid_table v_p1_grid_guard v_p1_grid_ratio v_p1_grid_bridging v_p1_grid_length v_p1_grid_guessColumn v_p1_grid_guessError v_p1_grid_guessValue v_p1_draft = some ((1 : Int32), v_p1_state, v_p1_history_ring_0, v_p1_history_ring_1, v_p1_history_ring_2, v_p1_history_ring_3, v_p1_history_oldest, v_p1_history_size, v_p1_text_at, v_p1_text_digits, v', k', tb', gu', ra', br', le', gc', gE', gV', v_p1_draft) := by
  unfold p_L_refusesAny_S438
  rw [if_pos (by decide +kernel)]
  rw [rc31, Option.bind_some]
  try dsimp only
  rw [if_pos (by decide +kernel)]
  rw [show p_L_isNumber v_p1_state (2 : Int32) (0 : Int32) = some (0 : Int32) by
      unfold p_L_isNumber
      rw [rc32, Option.bind_some, Option.bind_some, if_neg (by decide +kernel)], Option.bind_some]
  rw [if_pos (by decide +kernel)]
  rw [cnt0, Option.bind_some]
  try dsimp only
  rw [show p_L_isNumber v_p1_state (0 : Int32) v_p1_state.1.2 = some (0 : Int32) by
      unfold p_L_isNumber
      rw [rc33, Option.bind_some, Option.bind_some, if_neg (by decide +kernel)], Option.bind_some]
  rw [if_pos (by decide +kernel)]
  first | rw [rc34, Option.bind_some] | rw [Option.bind_some]
  try dsimp only
  first | rw [rc34, Option.bind_some] | rw [Option.bind_some]
  try dsimp only
  rw [if_neg (by decide +kernel)]
  exact ref_refusesAny_S509_0 hS ha h16 _ _ _ _ _ _ _ _ _ _ _ _ _ _ _ _ _ _ _ _ _ _ _
theorem ref_refusesAny_S438_1 {s : Nat → UInt64} {v_p1_state : STT} {a : Nat} (hS : RelS v_p1_state s) (ha : v_p1_state.1.2 = nI a) (h16 : a < 16) (v_p1_snapshot : (((Nat → UInt64) × Int32) × ((Nat → UInt64) × Int32) × (Nat → UInt64) × Int32)) (v_p1_snapshotTaken : Int32) (v_p1_history_ring_0 : (((Nat → UInt64) × Int32) × ((Nat → UInt64) × Int32) × (Nat → UInt64) × Int32)) (v_p1_history_ring_1 : (((Nat → UInt64) × Int32) × ((Nat → UInt64) × Int32) × (Nat → UInt64) × Int32)) (v_p1_history_ring_2 : (((Nat → UInt64) × Int32) × ((Nat → UInt64) × Int32) × (Nat → UInt64) × Int32)) (v_p1_history_ring_3 : (((Nat → UInt64) × Int32) × ((Nat → UInt64) × Int32) × (Nat → UInt64) × Int32)) (v_p1_history_oldest : Int32) (v_p1_history_size : Int32) (v_p1_text_characters : Nat → Int32) (v_p1_text_length : Int32) (v_p1_text_at : Int32) (v_p1_text_digits : Int64) (v_p1_grid_values : Nat → UInt64) (v_p1_grid_kinds : Nat → Int32) (v_p1_grid_table : Int32) (v_p1_grid_guard : UInt64) (v_p1_grid_ratio : UInt64) (v_p1_grid_bridging : Int32) (v_p1_grid_length : Int32) (v_p1_grid_guessColumn : Int32) (v_p1_grid_guessError : UInt64) (v_p1_grid_guessValue : UInt64) (v_p1_draft : ((Nat → UInt64) × Int32)) : ∃ v' k' tb' gu' ra' br' le' gc' gE' gV', p_L_refusesAny_S438 (1 : Int32) v_p1_snapshot v_p1_snapshotTaken v_p1_text_characters v_p1_text_length (-1 : Int32) (-1 : Int32) (9218868437227405312 : Int64) v_p1_state v_p1_history_ring_0 v_p1_history_ring_1 v_p1_history_ring_2 v_p1_history_ring_3 v_p1_history_oldest v_p1_history_size v_p1_text_at v_p1_text_digits v_p1_grid_values v_p1_grid_kinds v_p1_grid_table v_p1_grid_guard v_p1_grid_ratio v_p1_grid_bridging v_p1_grid_length v_p1_grid_guessColumn v_p1_grid_guessError v_p1_grid_guessValue v_p1_draft = some ((1 : Int32), v_p1_state, v_p1_history_ring_0, v_p1_history_ring_1, v_p1_history_ring_2, v_p1_history_ring_3, v_p1_history_oldest, v_p1_history_size, v_p1_text_at, v_p1_text_digits, v', k', tb', gu', ra', br', le', gc', gE', gV', v_p1_draft) := by
  unfold p_L_refusesAny_S438
  rw [if_neg (by decide +kernel)]
  rw [rc35, Option.bind_some]
  try dsimp only
  rw [if_pos (by decide +kernel)]
  rw [show p_L_isNumber v_p1_state (-1 : Int32) (0 : Int32) = some (0 : Int32) by
      unfold p_L_isNumber
      rw [rc36, Option.bind_some, Option.bind_some, if_neg (by decide +kernel)], Option.bind_some]
  rw [if_pos (by decide +kernel)]
  rw [show p_L_isNumber v_p1_state (0 : Int32) (-1 : Int32) = some (0 : Int32) by
      unfold p_L_isNumber
      rw [rc37, Option.bind_some, Option.bind_some, if_neg (by decide +kernel)], Option.bind_some]
  rw [if_pos (by decide +kernel)]
  first | rw [rc38, Option.bind_some] | rw [Option.bind_some]
  try dsimp only
  first | rw [rc38, Option.bind_some] | rw [Option.bind_some]
  try dsimp only
  rw [if_neg (by decide +kernel)]
  exact ref_refusesAny_S509_1 hS ha h16 _ _ _ _ _ _ _ _ _ _ _ _ _ _ _ _ _ _ _ _ _ _ _
theorem ref_refusesAny_S306_0 {s : Nat → UInt64} {v_p1_state : STT} {a : Nat} (hS : RelS v_p1_state s) (ha : v_p1_state.1.2 = nI a) (h16 : a < 16) (v_p1_snapshot : (((Nat → UInt64) × Int32) × ((Nat → UInt64) × Int32) × (Nat → UInt64) × Int32)) (v_p1_snapshotTaken : Int32) (v_p1_history_ring_0 : (((Nat → UInt64) × Int32) × ((Nat → UInt64) × Int32) × (Nat → UInt64) × Int32)) (v_p1_history_ring_1 : (((Nat → UInt64) × Int32) × ((Nat → UInt64) × Int32) × (Nat → UInt64) × Int32)) (v_p1_history_ring_2 : (((Nat → UInt64) × Int32) × ((Nat → UInt64) × Int32) × (Nat → UInt64) × Int32)) (v_p1_history_ring_3 : (((Nat → UInt64) × Int32) × ((Nat → UInt64) × Int32) × (Nat → UInt64) × Int32)) (v_p1_history_oldest : Int32) (v_p1_history_size : Int32) (v_p1_text_characters : Nat → Int32) (v_p1_text_length : Int32) (v_p1_text_at : Int32) (v_p1_text_digits : Int64) (v_p1_grid_values : Nat → UInt64) (v_p1_grid_kinds : Nat → Int32) (v_p1_grid_table : Int32) (v_p1_grid_guard : UInt64) (v_p1_grid_ratio : UInt64) (v_p1_grid_bridging : Int32) (v_p1_grid_length : Int32) (v_p1_grid_guessColumn : Int32) (v_p1_grid_guessError : UInt64) (v_p1_grid_guessValue : UInt64) (v_p1_draft : ((Nat → UInt64) × Int32)) : ∃ v' k' tb' gu' ra' br' le' gc' gE' gV', p_L_refusesAny_S306 (0 : Int32) v_p1_snapshot v_p1_snapshotTaken v_p1_text_characters v_p1_text_length (2 : Int32) (4 : Int32) (9221120237041090560 : Int64) v_p1_state v_p1_history_ring_0 v_p1_history_ring_1 v_p1_history_ring_2 v_p1_history_ring_3 v_p1_history_oldest v_p1_history_size v_p1_text_at v_p1_text_digits v_p1_grid_values v_p1_grid_kinds v_p1_grid_table v_p1_grid_guard v_p1_grid_ratio v_p1_grid_bridging v_p1_grid_length v_p1_grid_guessColumn v_p1_grid_guessError v_p1_grid_guessValue v_p1_draft = some ((1 : Int32), v_p1_state, v_p1_history_ring_0, v_p1_history_ring_1, v_p1_history_ring_2, v_p1_history_ring_3, v_p1_history_oldest, v_p1_history_size, v_p1_text_at, v_p1_text_digits, v', k', tb', gu', ra', br', le', gc', gE', gV', v_p1_draft) := by
  unfold p_L_refusesAny_S306
  rw [if_pos (by decide +kernel)]
  first | rw [rc39, Option.bind_some] | rw [Option.bind_some]
  try dsimp only
  rw [if_pos (by decide +kernel)]
  first | rw [rc40, Option.bind_some] | rw [Option.bind_some]
  try dsimp only
  rw [if_pos (by decide +kernel)]
  first | rw [rc41, Option.bind_some] | rw [Option.bind_some]
  try dsimp only
  rw [if_pos (by decide +kernel)]
  first | rw [rc42, Option.bind_some] | rw [Option.bind_some]
  try dsimp only
  rw [if_pos (by decide +kernel)]
  first | rw [rc43, Option.bind_some] | rw [Option.bind_some]
  try dsimp only
  rw [if_pos (by decide +kernel)]
  first | rw [rc44, Option.bind_some] | rw [Option.bind_some]
  try dsimp only
  first | rw [rc44, Option.bind_some] | rw [Option.bind_some]
  try dsimp only
  rw [if_neg (by decide +kernel)]
  exact ref_refusesAny_S438_0 hS ha h16 _ _ _ _ _ _ _ _ _ _ _ _ _ _ _ _ _ _ _ _ _ _ _
theorem ref_refusesAny_S306_1 {s : Nat → UInt64} {v_p1_state : STT} {a : Nat} (hS : RelS v_p1_state s) (ha : v_p1_state.1.2 = nI a) (h16 : a < 16) (v_p1_snapshot : (((Nat → UInt64) × Int32) × ((Nat → UInt64) × Int32) × (Nat → UInt64) × Int32)) (v_p1_snapshotTaken : Int32) (v_p1_history_ring_0 : (((Nat → UInt64) × Int32) × ((Nat → UInt64) × Int32) × (Nat → UInt64) × Int32)) (v_p1_history_ring_1 : (((Nat → UInt64) × Int32) × ((Nat → UInt64) × Int32) × (Nat → UInt64) × Int32)) (v_p1_history_ring_2 : (((Nat → UInt64) × Int32) × ((Nat → UInt64) × Int32) × (Nat → UInt64) × Int32)) (v_p1_history_ring_3 : (((Nat → UInt64) × Int32) × ((Nat → UInt64) × Int32) × (Nat → UInt64) × Int32)) (v_p1_history_oldest : Int32) (v_p1_history_size : Int32) (v_p1_text_characters : Nat → Int32) (v_p1_text_length : Int32) (v_p1_text_at : Int32) (v_p1_text_digits : Int64) (v_p1_grid_values : Nat → UInt64) (v_p1_grid_kinds : Nat → Int32) (v_p1_grid_table : Int32) (v_p1_grid_guard : UInt64) (v_p1_grid_ratio : UInt64) (v_p1_grid_bridging : Int32) (v_p1_grid_length : Int32) (v_p1_grid_guessColumn : Int32) (v_p1_grid_guessError : UInt64) (v_p1_grid_guessValue : UInt64) (v_p1_draft : ((Nat → UInt64) × Int32)) : ∃ v' k' tb' gu' ra' br' le' gc' gE' gV', p_L_refusesAny_S306 (1 : Int32) v_p1_snapshot v_p1_snapshotTaken v_p1_text_characters v_p1_text_length (-1 : Int32) (-1 : Int32) (9218868437227405312 : Int64) v_p1_state v_p1_history_ring_0 v_p1_history_ring_1 v_p1_history_ring_2 v_p1_history_ring_3 v_p1_history_oldest v_p1_history_size v_p1_text_at v_p1_text_digits v_p1_grid_values v_p1_grid_kinds v_p1_grid_table v_p1_grid_guard v_p1_grid_ratio v_p1_grid_bridging v_p1_grid_length v_p1_grid_guessColumn v_p1_grid_guessError v_p1_grid_guessValue v_p1_draft = some ((1 : Int32), v_p1_state, v_p1_history_ring_0, v_p1_history_ring_1, v_p1_history_ring_2, v_p1_history_ring_3, v_p1_history_oldest, v_p1_history_size, v_p1_text_at, v_p1_text_digits, v', k', tb', gu', ra', br', le', gc', gE', gV', v_p1_draft) := by
  unfold p_L_refusesAny_S306
  rw [if_neg (by decide +kernel)]
  first | rw [rc45, Option.bind_some] | rw [Option.bind_some]
  try dsimp only
  rw [if_pos (by decide +kernel)]
  first | rw [rc46, Option.bind_some] | rw [Option.bind_some]
  try dsimp only
  rw [if_pos (by decide +kernel)]
  first | rw [rc47, Option.bind_some] | rw [Option.bind_some]
  try dsimp only
  rw [if_pos (by decide +kernel)]
  first | rw [rc48, Option.bind_some] | rw [Option.bind_some]
  try dsimp only
  rw [if_pos (by decide +kernel)]
  first | rw [rc49, Option.bind_some] | rw [Option.bind_some]
  try dsimp only
  rw [if_pos (by decide +kernel)]
  first | rw [rc50, Option.bind_some] | rw [Option.bind_some]
  try dsimp only
  first | rw [rc50, Option.bind_some] | rw [Option.bind_some]
  try dsimp only
  rw [if_neg (by decide +kernel)]
  exact ref_refusesAny_S438_1 hS ha h16 _ _ _ _ _ _ _ _ _ _ _ _ _ _ _ _ _ _ _ _ _ _ _
theorem ref_refusesAny_S220_0 {s : Nat → UInt64} {v_p1_state : STT} {a : Nat} (hS : RelS v_p1_state s) (ha : v_p1_state.1.2 = nI a) (h16 : a < 16) (v_p1_snapshot : (((Nat → UInt64) × Int32) × ((Nat → UInt64) × Int32) × (Nat → UInt64) × Int32)) (v_p1_snapshotTaken : Int32) (v_p1_history_ring_0 : (((Nat → UInt64) × Int32) × ((Nat → UInt64) × Int32) × (Nat → UInt64) × Int32)) (v_p1_history_ring_1 : (((Nat → UInt64) × Int32) × ((Nat → UInt64) × Int32) × (Nat → UInt64) × Int32)) (v_p1_history_ring_2 : (((Nat → UInt64) × Int32) × ((Nat → UInt64) × Int32) × (Nat → UInt64) × Int32)) (v_p1_history_ring_3 : (((Nat → UInt64) × Int32) × ((Nat → UInt64) × Int32) × (Nat → UInt64) × Int32)) (v_p1_history_oldest : Int32) (v_p1_history_size : Int32) (v_p1_text_characters : Nat → Int32) (v_p1_text_length : Int32) (v_p1_text_at : Int32) (v_p1_text_digits : Int64) (v_p1_grid_values : Nat → UInt64) (v_p1_grid_kinds : Nat → Int32) (v_p1_grid_table : Int32) (v_p1_grid_guard : UInt64) (v_p1_grid_ratio : UInt64) (v_p1_grid_bridging : Int32) (v_p1_grid_length : Int32) (v_p1_grid_guessColumn : Int32) (v_p1_grid_guessError : UInt64) (v_p1_grid_guessValue : UInt64) (v_p1_draft : ((Nat → UInt64) × Int32)) : ∃ v' k' tb' gu' ra' br' le' gc' gE' gV', p_L_refusesAny_S220 (0 : Int32) v_p1_snapshot v_p1_snapshotTaken v_p1_text_characters v_p1_text_length (2 : Int32) (4 : Int32) (9221120237041090560 : Int64) v_p1_state v_p1_history_ring_0 v_p1_history_ring_1 v_p1_history_ring_2 v_p1_history_ring_3 v_p1_history_oldest v_p1_history_size v_p1_text_at v_p1_text_digits v_p1_grid_values v_p1_grid_kinds v_p1_grid_table v_p1_grid_guard v_p1_grid_ratio v_p1_grid_bridging v_p1_grid_length v_p1_grid_guessColumn v_p1_grid_guessError v_p1_grid_guessValue v_p1_draft = some ((1 : Int32), v_p1_state, v_p1_history_ring_0, v_p1_history_ring_1, v_p1_history_ring_2, v_p1_history_ring_3, v_p1_history_oldest, v_p1_history_size, v_p1_text_at, v_p1_text_digits, v', k', tb', gu', ra', br', le', gc', gE', gV', v_p1_draft) := by
  unfold p_L_refusesAny_S220
  rw [if_pos (by decide +kernel)]
  first | rw [rc51, Option.bind_some] | rw [Option.bind_some]
  try dsimp only
  rw [if_pos (by decide +kernel)]
  first | rw [rc52, Option.bind_some] | rw [Option.bind_some]
  try dsimp only
  rw [if_pos (by decide +kernel)]
  first | rw [rc53, Option.bind_some] | rw [Option.bind_some]
  try dsimp only
  rw [if_pos (by decide +kernel)]
  first | rw [rc54, Option.bind_some] | rw [Option.bind_some]
  try dsimp only
  rw [if_pos (by decide +kernel)]
  first | rw [rc55, Option.bind_some] | rw [Option.bind_some]
  try dsimp only
  rw [if_pos (by decide +kernel)]
  first | rw [rc56, Option.bind_some] | rw [Option.bind_some]
  try dsimp only
  rw [if_pos (by decide +kernel)]
  exact ref_refusesAny_S306_0 hS ha h16 _ _ _ _ _ _ _ _ _ _ _ _ _ _ _ _ _ _ _ _ _ _ _
theorem ref_refusesAny_S220_1 {s : Nat → UInt64} {v_p1_state : STT} {a : Nat} (hS : RelS v_p1_state s) (ha : v_p1_state.1.2 = nI a) (h16 : a < 16) (v_p1_snapshot : (((Nat → UInt64) × Int32) × ((Nat → UInt64) × Int32) × (Nat → UInt64) × Int32)) (v_p1_snapshotTaken : Int32) (v_p1_history_ring_0 : (((Nat → UInt64) × Int32) × ((Nat → UInt64) × Int32) × (Nat → UInt64) × Int32)) (v_p1_history_ring_1 : (((Nat → UInt64) × Int32) × ((Nat → UInt64) × Int32) × (Nat → UInt64) × Int32)) (v_p1_history_ring_2 : (((Nat → UInt64) × Int32) × ((Nat → UInt64) × Int32) × (Nat → UInt64) × Int32)) (v_p1_history_ring_3 : (((Nat → UInt64) × Int32) × ((Nat → UInt64) × Int32) × (Nat → UInt64) × Int32)) (v_p1_history_oldest : Int32) (v_p1_history_size : Int32) (v_p1_text_characters : Nat → Int32) (v_p1_text_length : Int32) (v_p1_text_at : Int32) (v_p1_text_digits : Int64) (v_p1_grid_values : Nat → UInt64) (v_p1_grid_kinds : Nat → Int32) (v_p1_grid_table : Int32) (v_p1_grid_guard : UInt64) (v_p1_grid_ratio : UInt64) (v_p1_grid_bridging : Int32) (v_p1_grid_length : Int32) (v_p1_grid_guessColumn : Int32) (v_p1_grid_guessError : UInt64) (v_p1_grid_guessValue : UInt64) (v_p1_draft : ((Nat → UInt64) × Int32)) : ∃ v' k' tb' gu' ra' br' le' gc' gE' gV', p_L_refusesAny_S220 (1 : Int32) v_p1_snapshot v_p1_snapshotTaken v_p1_text_characters v_p1_text_length (-1 : Int32) (-1 : Int32) (9218868437227405312 : Int64) v_p1_state v_p1_history_ring_0 v_p1_history_ring_1 v_p1_history_ring_2 v_p1_history_ring_3 v_p1_history_oldest v_p1_history_size v_p1_text_at v_p1_text_digits v_p1_grid_values v_p1_grid_kinds v_p1_grid_table v_p1_grid_guard v_p1_grid_ratio v_p1_grid_bridging v_p1_grid_length v_p1_grid_guessColumn v_p1_grid_guessError v_p1_grid_guessValue v_p1_draft = some ((1 : Int32), v_p1_state, v_p1_history_ring_0, v_p1_history_ring_1, v_p1_history_ring_2, v_p1_history_ring_3, v_p1_history_oldest, v_p1_history_size, v_p1_text_at, v_p1_text_digits, v', k', tb', gu', ra', br', le', gc', gE', gV', v_p1_draft) := by
  unfold p_L_refusesAny_S220
  rw [if_neg (by decide +kernel)]
  first | rw [rc57, Option.bind_some] | rw [Option.bind_some]
  try dsimp only
  rw [if_pos (by decide +kernel)]
  first | rw [rc58, Option.bind_some] | rw [Option.bind_some]
  try dsimp only
  rw [if_pos (by decide +kernel)]
  first | rw [rc59, Option.bind_some] | rw [Option.bind_some]
  try dsimp only
  rw [if_pos (by decide +kernel)]
  first | rw [rc60, Option.bind_some] | rw [Option.bind_some]
  try dsimp only
  rw [if_pos (by decide +kernel)]
  first | rw [rc61, Option.bind_some] | rw [Option.bind_some]
  try dsimp only
  rw [if_pos (by decide +kernel)]
  first | rw [rc62, Option.bind_some] | rw [Option.bind_some]
  try dsimp only
  rw [if_pos (by decide +kernel)]
  exact ref_refusesAny_S306_1 hS ha h16 _ _ _ _ _ _ _ _ _ _ _ _ _ _ _ _ _ _ _ _ _ _ _
theorem ref_refusesAny_S141_0 {s : Nat → UInt64} {v_p1_state : STT} {a : Nat} (hS : RelS v_p1_state s) (ha : v_p1_state.1.2 = nI a) (h16 : a < 16) (v_p1_snapshot : (((Nat → UInt64) × Int32) × ((Nat → UInt64) × Int32) × (Nat → UInt64) × Int32)) (v_p1_snapshotTaken : Int32) (v_p1_history_ring_0 : (((Nat → UInt64) × Int32) × ((Nat → UInt64) × Int32) × (Nat → UInt64) × Int32)) (v_p1_history_ring_1 : (((Nat → UInt64) × Int32) × ((Nat → UInt64) × Int32) × (Nat → UInt64) × Int32)) (v_p1_history_ring_2 : (((Nat → UInt64) × Int32) × ((Nat → UInt64) × Int32) × (Nat → UInt64) × Int32)) (v_p1_history_ring_3 : (((Nat → UInt64) × Int32) × ((Nat → UInt64) × Int32) × (Nat → UInt64) × Int32)) (v_p1_history_oldest : Int32) (v_p1_history_size : Int32) (v_p1_text_characters : Nat → Int32) (v_p1_text_length : Int32) (v_p1_text_at : Int32) (v_p1_text_digits : Int64) (v_p1_grid_values : Nat → UInt64) (v_p1_grid_kinds : Nat → Int32) (v_p1_grid_table : Int32) (v_p1_grid_guard : UInt64) (v_p1_grid_ratio : UInt64) (v_p1_grid_bridging : Int32) (v_p1_grid_length : Int32) (v_p1_grid_guessColumn : Int32) (v_p1_grid_guessError : UInt64) (v_p1_grid_guessValue : UInt64) (v_p1_draft : ((Nat → UInt64) × Int32)) : ∃ v' k' tb' gu' ra' br' le' gc' gE' gV', p_L_refusesAny_S141 (0 : Int32) v_p1_snapshot v_p1_snapshotTaken v_p1_text_characters v_p1_text_length (2 : Int32) (4 : Int32) (9221120237041090560 : Int64) v_p1_state v_p1_history_ring_0 v_p1_history_ring_1 v_p1_history_ring_2 v_p1_history_ring_3 v_p1_history_oldest v_p1_history_size v_p1_text_at v_p1_text_digits v_p1_grid_values v_p1_grid_kinds v_p1_grid_table v_p1_grid_guard v_p1_grid_ratio v_p1_grid_bridging v_p1_grid_length v_p1_grid_guessColumn v_p1_grid_guessError v_p1_grid_guessValue v_p1_draft = some ((1 : Int32), v_p1_state, v_p1_history_ring_0, v_p1_history_ring_1, v_p1_history_ring_2, v_p1_history_ring_3, v_p1_history_oldest, v_p1_history_size, v_p1_text_at, v_p1_text_digits, v', k', tb', gu', ra', br', le', gc', gE', gV', v_p1_draft) := by
  unfold p_L_refusesAny_S141
  first | rw [rc63, Option.bind_some] | rw [Option.bind_some]
  try dsimp only
  rw [if_pos (by decide +kernel)]
  rw [if_pos (by decide +kernel)]
  rw [cnt0, Option.bind_some]
  try dsimp only
  first | rw [rc64, Option.bind_some] | rw [Option.bind_some]
  try dsimp only
  rw [if_pos (by decide +kernel)]
  first | rw [rc65, Option.bind_some] | rw [Option.bind_some]
  try dsimp only
  rw [if_pos (by decide +kernel)]
  first | rw [rc66, Option.bind_some] | rw [Option.bind_some]
  try dsimp only
  rw [if_pos (by decide +kernel)]
  first | rw [rc67, Option.bind_some] | rw [Option.bind_some]
  try dsimp only
  rw [if_pos (by decide +kernel)]
  exact ref_refusesAny_S220_0 hS ha h16 _ _ _ _ _ _ _ _ _ _ _ _ _ _ _ _ _ _ _ _ _ _ _
theorem ref_refusesAny_S141_1 {s : Nat → UInt64} {v_p1_state : STT} {a : Nat} (hS : RelS v_p1_state s) (ha : v_p1_state.1.2 = nI a) (h16 : a < 16) (v_p1_snapshot : (((Nat → UInt64) × Int32) × ((Nat → UInt64) × Int32) × (Nat → UInt64) × Int32)) (v_p1_snapshotTaken : Int32) (v_p1_history_ring_0 : (((Nat → UInt64) × Int32) × ((Nat → UInt64) × Int32) × (Nat → UInt64) × Int32)) (v_p1_history_ring_1 : (((Nat → UInt64) × Int32) × ((Nat → UInt64) × Int32) × (Nat → UInt64) × Int32)) (v_p1_history_ring_2 : (((Nat → UInt64) × Int32) × ((Nat → UInt64) × Int32) × (Nat → UInt64) × Int32)) (v_p1_history_ring_3 : (((Nat → UInt64) × Int32) × ((Nat → UInt64) × Int32) × (Nat → UInt64) × Int32)) (v_p1_history_oldest : Int32) (v_p1_history_size : Int32) (v_p1_text_characters : Nat → Int32) (v_p1_text_length : Int32) (v_p1_text_at : Int32) (v_p1_text_digits : Int64) (v_p1_grid_values : Nat → UInt64) (v_p1_grid_kinds : Nat → Int32) (v_p1_grid_table : Int32) (v_p1_grid_guard : UInt64) (v_p1_grid_ratio : UInt64) (v_p1_grid_bridging : Int32) (v_p1_grid_length : Int32) (v_p1_grid_guessColumn : Int32) (v_p1_grid_guessError : UInt64) (v_p1_grid_guessValue : UInt64) (v_p1_draft : ((Nat → UInt64) × Int32)) : ∃ v' k' tb' gu' ra' br' le' gc' gE' gV', p_L_refusesAny_S141 (1 : Int32) v_p1_snapshot v_p1_snapshotTaken v_p1_text_characters v_p1_text_length (-1 : Int32) (-1 : Int32) (9218868437227405312 : Int64) v_p1_state v_p1_history_ring_0 v_p1_history_ring_1 v_p1_history_ring_2 v_p1_history_ring_3 v_p1_history_oldest v_p1_history_size v_p1_text_at v_p1_text_digits v_p1_grid_values v_p1_grid_kinds v_p1_grid_table v_p1_grid_guard v_p1_grid_ratio v_p1_grid_bridging v_p1_grid_length v_p1_grid_guessColumn v_p1_grid_guessError v_p1_grid_guessValue v_p1_draft = some ((1 : Int32), v_p1_state, v_p1_history_ring_0, v_p1_history_ring_1, v_p1_history_ring_2, v_p1_history_ring_3, v_p1_history_oldest, v_p1_history_size, v_p1_text_at, v_p1_text_digits, v', k', tb', gu', ra', br', le', gc', gE', gV', v_p1_draft) := by
  unfold p_L_refusesAny_S141
  first | rw [rc68, Option.bind_some] | rw [Option.bind_some]
  try dsimp only
  rw [if_pos (by decide +kernel)]
  rw [if_neg (by decide +kernel)]
  first | rw [rc69, Option.bind_some] | rw [Option.bind_some]
  try dsimp only
  rw [if_pos (by decide +kernel)]
  first | rw [rc70, Option.bind_some] | rw [Option.bind_some]
  try dsimp only
  rw [if_pos (by decide +kernel)]
  first | rw [rc71, Option.bind_some] | rw [Option.bind_some]
  try dsimp only
  rw [if_pos (by decide +kernel)]
  first | rw [rc72, Option.bind_some] | rw [Option.bind_some]
  try dsimp only
  rw [if_pos (by decide +kernel)]
  exact ref_refusesAny_S220_1 hS ha h16 _ _ _ _ _ _ _ _ _ _ _ _ _ _ _ _ _ _ _ _ _ _ _
theorem ref_refusesAny_0 {s : Nat → UInt64} {v_p1_state : STT} {a : Nat} (hS : RelS v_p1_state s) (ha : v_p1_state.1.2 = nI a) (h16 : a < 16) (v_p1_snapshot : (((Nat → UInt64) × Int32) × ((Nat → UInt64) × Int32) × (Nat → UInt64) × Int32)) (v_p1_snapshotTaken : Int32) (v_p1_history_ring_0 : (((Nat → UInt64) × Int32) × ((Nat → UInt64) × Int32) × (Nat → UInt64) × Int32)) (v_p1_history_ring_1 : (((Nat → UInt64) × Int32) × ((Nat → UInt64) × Int32) × (Nat → UInt64) × Int32)) (v_p1_history_ring_2 : (((Nat → UInt64) × Int32) × ((Nat → UInt64) × Int32) × (Nat → UInt64) × Int32)) (v_p1_history_ring_3 : (((Nat → UInt64) × Int32) × ((Nat → UInt64) × Int32) × (Nat → UInt64) × Int32)) (v_p1_history_oldest : Int32) (v_p1_history_size : Int32) (v_p1_text_characters : Nat → Int32) (v_p1_text_length : Int32) (v_p1_text_at : Int32) (v_p1_text_digits : Int64) (v_p1_grid_values : Nat → UInt64) (v_p1_grid_kinds : Nat → Int32) (v_p1_grid_table : Int32) (v_p1_grid_guard : UInt64) (v_p1_grid_ratio : UInt64) (v_p1_grid_bridging : Int32) (v_p1_grid_length : Int32) (v_p1_grid_guessColumn : Int32) (v_p1_grid_guessError : UInt64) (v_p1_grid_guessValue : UInt64) (v_p1_draft : ((Nat → UInt64) × Int32)) : ∃ v' k' tb' gu' ra' br' le' gc' gE' gV', p_L_refusesAny v_p1_state v_p1_snapshot v_p1_snapshotTaken v_p1_history_ring_0 v_p1_history_ring_1 v_p1_history_ring_2 v_p1_history_ring_3 v_p1_history_oldest v_p1_history_size v_p1_text_characters v_p1_text_length v_p1_text_at v_p1_text_digits v_p1_grid_values v_p1_grid_kinds v_p1_grid_table v_p1_grid_guard v_p1_grid_ratio v_p1_grid_bridging v_p1_grid_length v_p1_grid_guessColumn v_p1_grid_guessError v_p1_grid_guessValue v_p1_draft (0 : Int32) = some ((1 : Int32), v_p1_state, v_p1_history_ring_0, v_p1_history_ring_1, v_p1_history_ring_2, v_p1_history_ring_3, v_p1_history_oldest, v_p1_history_size, v_p1_text_at, v_p1_text_digits, v', k', tb', gu', ra', br', le', gc', gE', gV', v_p1_draft) := by
  unfold p_L_refusesAny
  rw [if_pos (by decide +kernel)]
  first | rw [rc73, Option.bind_some] | rw [Option.bind_some]
  try dsimp only
  rw [if_pos (by decide +kernel)]
  first | rw [rc74, Option.bind_some] | rw [Option.bind_some]
  try dsimp only
  rw [if_pos (by decide +kernel)]
  first | rw [rc75, Option.bind_some] | rw [Option.bind_some]
  try dsimp only
  rw [if_pos (by decide +kernel)]
  first | rw [rc76, Option.bind_some] | rw [Option.bind_some]
  try dsimp only
  rw [if_pos (by decide +kernel)]
  first | rw [rc77, Option.bind_some] | rw [Option.bind_some]
  try dsimp only
  rw [if_pos (by decide +kernel)]
  rw [cut_np ha h16, Option.bind_some]
  try dsimp only
  rw [cnt0, Option.bind_some]
  try dsimp only
  rw [ha, if_neg (show ¬ (16 : Int32) ≤ nI a from nI_ge (b := 16) h16 (by decide))]
  rw [if_pos (by decide +kernel)]
  exact ref_refusesAny_S141_0 hS ha h16 _ _ _ _ _ _ _ _ _ _ _ _ _ _ _ _ _ _ _ _ _ _ _
theorem ref_refusesAny_1 {s : Nat → UInt64} {v_p1_state : STT} {a : Nat} (hS : RelS v_p1_state s) (ha : v_p1_state.1.2 = nI a) (h16 : a < 16) (v_p1_snapshot : (((Nat → UInt64) × Int32) × ((Nat → UInt64) × Int32) × (Nat → UInt64) × Int32)) (v_p1_snapshotTaken : Int32) (v_p1_history_ring_0 : (((Nat → UInt64) × Int32) × ((Nat → UInt64) × Int32) × (Nat → UInt64) × Int32)) (v_p1_history_ring_1 : (((Nat → UInt64) × Int32) × ((Nat → UInt64) × Int32) × (Nat → UInt64) × Int32)) (v_p1_history_ring_2 : (((Nat → UInt64) × Int32) × ((Nat → UInt64) × Int32) × (Nat → UInt64) × Int32)) (v_p1_history_ring_3 : (((Nat → UInt64) × Int32) × ((Nat → UInt64) × Int32) × (Nat → UInt64) × Int32)) (v_p1_history_oldest : Int32) (v_p1_history_size : Int32) (v_p1_text_characters : Nat → Int32) (v_p1_text_length : Int32) (v_p1_text_at : Int32) (v_p1_text_digits : Int64) (v_p1_grid_values : Nat → UInt64) (v_p1_grid_kinds : Nat → Int32) (v_p1_grid_table : Int32) (v_p1_grid_guard : UInt64) (v_p1_grid_ratio : UInt64) (v_p1_grid_bridging : Int32) (v_p1_grid_length : Int32) (v_p1_grid_guessColumn : Int32) (v_p1_grid_guessError : UInt64) (v_p1_grid_guessValue : UInt64) (v_p1_draft : ((Nat → UInt64) × Int32)) : ∃ v' k' tb' gu' ra' br' le' gc' gE' gV', p_L_refusesAny v_p1_state v_p1_snapshot v_p1_snapshotTaken v_p1_history_ring_0 v_p1_history_ring_1 v_p1_history_ring_2 v_p1_history_ring_3 v_p1_history_oldest v_p1_history_size v_p1_text_characters v_p1_text_length v_p1_text_at v_p1_text_digits v_p1_grid_values v_p1_grid_kinds v_p1_grid_table v_p1_grid_guard v_p1_grid_ratio v_p1_grid_bridging v_p1_grid_length v_p1_grid_guessColumn v_p1_grid_guessError v_p1_grid_guessValue v_p1_draft (1 : Int32) = some ((1 : Int32), v_p1_state, v_p1_history_ring_0, v_p1_history_ring_1, v_p1_history_ring_2, v_p1_history_ring_3, v_p1_history_oldest, v_p1_history_size, v_p1_text_at, v_p1_text_digits, v', k', tb', gu', ra', br', le', gc', gE', gV', v_p1_draft) := by
  unfold p_L_refusesAny
  rw [if_neg (by decide +kernel)]
  first | rw [rc78, Option.bind_some] | rw [Option.bind_some]
  try dsimp only
  rw [if_pos (by decide +kernel)]
  first | rw [rc79, Option.bind_some] | rw [Option.bind_some]
  try dsimp only
  rw [if_pos (by decide +kernel)]
  first | rw [rc80, Option.bind_some] | rw [Option.bind_some]
  try dsimp only
  rw [if_pos (by decide +kernel)]
  first | rw [rc81, Option.bind_some] | rw [Option.bind_some]
  try dsimp only
  rw [if_pos (by decide +kernel)]
  first | rw [rc82, Option.bind_some] | rw [Option.bind_some]
  try dsimp only
  rw [if_pos (by decide +kernel)]
  rw [cut_np ha h16, Option.bind_some]
  try dsimp only
  rw [cnt0, Option.bind_some]
  try dsimp only
  rw [ha, if_neg (show ¬ (16 : Int32) ≤ nI a from nI_ge (b := 16) h16 (by decide))]
  rw [if_pos (by decide +kernel)]
  exact ref_refusesAny_S141_1 hS ha h16 _ _ _ _ _ _ _ _ _ _ _ _ _ _ _ _ _ _ _ _ _ _ _
