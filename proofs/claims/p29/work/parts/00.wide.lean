/-! a name that only the whole library has: the rounds go over the whole library from the first part on -/
theorem zz_wide : FP.Core.val64 = FP.Core.val64 := rfl
