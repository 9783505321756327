/-! floats, in the words of the mirrors -/
theorem fp_mask (r : UInt64) : (r &&& 0x7fffffffffffffff).toNat = r.toNat % 2 ^ 63 := by
  rw [UInt64.toNat_and]
  exact Nat.and_two_pow_sub_one_eq_mod r.toNat 63
theorem nn_bits (r : UInt64) : nn r = true ↔ r.toNat % 2 ^ 63 ≤ 9218868437227405312 := by
  have e : (0x7ff0000000000000 : UInt64).toNat = 9218868437227405312 := rfl
  rw [nn, decide_eq_true_iff, UInt64.le_iff_toNat_le, fp_mask, e]
theorem nn_iff (r : UInt64) : nn r = true ↔ FP.Core.val64 r ≠ .nan := (nn_bits r).trans (FP.Core.ne_nan r).symm
theorem nn_not (r : UInt64) : nn r = true ↔ FP.Core.dIsNaN r = false := (nn_iff r).trans (FP.Core.notNaN_iff r).symm
def dfin (v : UInt64) : Bool := decide (v.toNat % 2 ^ 63 < 9218868437227405312)
theorem dfin_bits (v : UInt64) : dfin v = true ↔ v.toNat % 2 ^ 63 < 9218868437227405312 := decide_eq_true_iff
theorem dfin_iff (v : UInt64) : dfin v = true ↔ FP.Core.DFin v := (dfin_bits v).trans (FP.Core.fin_bits v).symm
theorem dfin_nn {v : UInt64} (h : dfin v = true) : nn v = true := (nn_bits v).mpr (Nat.le_of_lt ((dfin_bits v).mp h))
theorem dop_t {α : Type} {r : UInt64} {k : UInt64 → Option α} (h : nn r = true) : dop r k = k r := gD_t _ h
abbrev ky (v : UInt64) : Int := FP.Core.dkey v
theorem ky_or (v : UInt64) : (v.toNat < 2 ^ 63 ∧ ky v = (v.toNat : Int)) ∨ (2 ^ 63 ≤ v.toNat ∧ v.toNat < 2 ^ 64 ∧ ky v = 9223372036854775808 - (v.toNat : Int)) := by
  have h := v.toNat_lt
  by_cases c : 2 ^ 63 ≤ v.toNat
  · refine Or.inr ⟨c, h, ?_⟩
    simp only [ky, FP.Core.dkey, if_pos c]
    rfl
  · refine Or.inl ⟨by omega, ?_⟩
    simp only [ky, FP.Core.dkey, if_neg c]
theorem fc_cases {x y : UInt64} (hx : nn x = true) (hy : nn y = true) (op : CmpOp) : (ky x < ky y ∧ Op.cmpValue (FP.dcmp x y) op = -1) ∨ (ky x = ky y ∧ Op.cmpValue (FP.dcmp x y) op = 0) ∨ (ky y < ky x ∧ Op.cmpValue (FP.dcmp x y) op = 1) := by
  have h1 := (nn_iff x).mp hx
  have h2 := (nn_iff y).mp hy
  rcases Int.lt_trichotomy (ky x) (ky y) with h | h | h
  · refine Or.inl ⟨h, ?_⟩
    rw [show FP.dcmp x y = some .lt from (FP.Core.dcmp_lt_key h1 h2).mpr h]
    cases op <;> rfl
  · refine Or.inr (Or.inl ⟨h, ?_⟩)
    rw [show FP.dcmp x y = some .eq from (FP.Core.dcmp_eq_key h1 h2).mpr h]
    cases op <;> rfl
  · refine Or.inr (Or.inr ⟨h, ?_⟩)
    rw [show FP.dcmp x y = some .gt from (FP.Core.dcmp_gt_key h1 h2).mpr h]
    cases op <;> rfl
theorem fc_lt {x y : UInt64} (hx : nn x = true) (hy : nn y = true) (op : CmpOp) : Op.cmpValue (FP.dcmp x y) op < 0 ↔ ky x < ky y := by
  rcases fc_cases hx hy op with ⟨a, b⟩ | ⟨a, b⟩ | ⟨a, b⟩ <;> rw [b]
  · exact ⟨fun _ => a, fun _ => by decide⟩
  · exact ⟨fun h => absurd h (by decide), fun h => by omega⟩
  · exact ⟨fun h => absurd h (by decide), fun h => by omega⟩
theorem fc_gt {x y : UInt64} (hx : nn x = true) (hy : nn y = true) (op : CmpOp) : 0 < Op.cmpValue (FP.dcmp x y) op ↔ ky y < ky x := by
  rcases fc_cases hx hy op with ⟨a, b⟩ | ⟨a, b⟩ | ⟨a, b⟩ <;> rw [b]
  · exact ⟨fun h => absurd h (by decide), fun h => by omega⟩
  · exact ⟨fun h => absurd h (by decide), fun h => by omega⟩
  · exact ⟨fun _ => a, fun _ => by decide⟩
theorem fc_eq {x y : UInt64} (hx : nn x = true) (hy : nn y = true) (op : CmpOp) : Op.cmpValue (FP.dcmp x y) op = 0 ↔ ky x = ky y := by
  rcases fc_cases hx hy op with ⟨a, b⟩ | ⟨a, b⟩ | ⟨a, b⟩ <;> rw [b]
  · exact ⟨fun h => absurd h (by decide), fun h => by omega⟩
  · exact ⟨fun _ => a, fun _ => rfl⟩
  · exact ⟨fun h => absurd h (by decide), fun h => by omega⟩
theorem fc_ge {x y : UInt64} (hx : nn x = true) (hy : nn y = true) (op : CmpOp) : 0 ≤ Op.cmpValue (FP.dcmp x y) op ↔ ky y ≤ ky x := by
  rcases fc_cases hx hy op with ⟨a, b⟩ | ⟨a, b⟩ | ⟨a, b⟩ <;> rw [b]
  · exact ⟨fun h => absurd h (by decide), fun h => by omega⟩
  · exact ⟨fun _ => by omega, fun _ => by decide⟩
  · exact ⟨fun _ => by omega, fun _ => by decide⟩
theorem fc_none {x y : UInt64} (h : ¬ nn x = true ∨ ¬ nn y = true) : FP.dcmp x y = none := by
  refine (FP.Core.dcmp_none x y).mpr ?_
  rcases h with h | h
  · exact Or.inl (Classical.byContradiction fun q => h ((nn_iff x).mpr q))
  · exact Or.inr (Classical.byContradiction fun q => h ((nn_iff y).mpr q))
theorem fc_nl {x y : UInt64} (h : ¬ nn x = true ∨ ¬ nn y = true) : Op.cmpValue (FP.dcmp x y) CmpOp.l = -1 := by rw [fc_none h]; rfl
theorem fc_ng {x y : UInt64} (h : ¬ nn x = true ∨ ¬ nn y = true) : Op.cmpValue (FP.dcmp x y) CmpOp.g = 1 := by rw [fc_none h]; rfl
theorem x3_fin (v : UInt64) : p_X3_isFinite v = some (if dfin v = true then 1 else 0) := by
  unfold p_X3_isFinite
  by_cases hv : nn v = true
  · have k1 : ky 18442240474082181119 = -9218868437227405311 := by decide +kernel
    have k2 : ky 9218868437227405311 = 9218868437227405311 := by decide +kernel
    have d := dfin_bits v
    by_cases c1 : ky v < -9218868437227405311
    · rw [if_pos ((fc_lt hv (by decide +kernel) .l).mpr (by rw [k1]; exact c1)), if_neg]
      rw [d]
      rcases ky_or v with q | q <;> omega
    · rw [if_neg (fun h => c1 (by have := (fc_lt hv (by decide +kernel) .l).mp h; rw [k1] at this; exact this))]
      by_cases c2 : 9218868437227405311 < ky v
      · rw [if_pos ((fc_gt hv (by decide +kernel) .g).mpr (by rw [k2]; exact c2)), if_neg]
        rw [d]
        rcases ky_or v with q | q <;> omega
      · rw [if_neg (fun h => c2 (by have := (fc_gt hv (by decide +kernel) .g).mp h; rw [k2] at this; exact this)), if_pos]
        rw [d]
        rcases ky_or v with q | q <;> omega
  · rw [fc_nl (Or.inl hv), if_pos (by decide), if_neg (fun h => hv (dfin_nn h))]
theorem x9_fin (v : UInt64) : p_X9_isFinite v = some (if dfin v = true then 1 else 0) := x3_fin v
def fitb (v : UInt64) : Bool := decide (v.toNat % 2 ^ 63 ≤ 4741671816366391296)
theorem fitb_bits (v : UInt64) : fitb v = true ↔ v.toNat % 2 ^ 63 ≤ 4741671816366391296 := decide_eq_true_iff
theorem fitb_fin {v : UInt64} (h : fitb v = true) : dfin v = true := by
  rw [dfin_bits]
  have := (fitb_bits v).mp h
  omega
theorem x3_fits (v : UInt64) : p_X3_fitsRow v = some (if fitb v = true then 1 else 0) := by
  unfold p_X3_fitsRow
  by_cases hv : nn v = true
  · have k1 : ky 13965043853221167104 = -4741671816366391296 := by decide +kernel
    have k2 : ky 4741671816366391296 = 4741671816366391296 := by decide +kernel
    have d := fitb_bits v
    by_cases c1 : ky v < -4741671816366391296
    · rw [if_pos ((fc_lt hv (by decide +kernel) .l).mpr (by rw [k1]; exact c1)), if_neg]
      rw [d]
      rcases ky_or v with q | q <;> omega
    · rw [if_neg (fun h => c1 (by have := (fc_lt hv (by decide +kernel) .l).mp h; rw [k1] at this; exact this))]
      by_cases c2 : 4741671816366391296 < ky v
      · rw [if_pos ((fc_gt hv (by decide +kernel) .g).mpr (by rw [k2]; exact c2)), if_neg]
        rw [d]
        rcases ky_or v with q | q <;> omega
      · rw [if_neg (fun h => c2 (by have := (fc_gt hv (by decide +kernel) .g).mp h; rw [k2] at this; exact this)), if_pos]
        rw [d]
        rcases ky_or v with q | q <;> omega
  · rw [fc_nl (Or.inl hv), if_pos (by decide), if_neg (fun h => hv (dfin_nn (fitb_fin h)))]
/-- the size of a number; of a NaN the NaN itself -/
def sz (v : UInt64) : UInt64 := if nn v = true then v &&& 0x7fffffffffffffff else v
theorem fp_neg0 {v : UInt64} (hv : nn v = true) (h : ¬ 0 < ky v) : FP.dsub FP.dconst0 v = v &&& 0x7fffffffffffffff := by
  rcases ky_or v with ⟨a, b⟩ | ⟨a, a2, b⟩
  · have : v = 0 := by
      apply UInt64.toNat_inj.mp
      have : v.toNat = 0 := by omega
      rw [this]; rfl
    subst this
    decide +kernel
  · have hb := (nn_bits v).mp hv
    have e1 : FP.dsub FP.dconst0 v = FP.Core.dadd FP.Core.dconst0 (FP.Core.dneg v) := FP.Core.dsub_eq _ _
    have e2 : FP.Core.dneg v = v ^^^ 0x8000000000000000 := (FP.dneg_core ((nn_not v).mp hv)).symm
    have e3 : (v ^^^ 0x8000000000000000).toNat = v.toNat - 2 ^ 63 := by
      rw [UInt64.toNat_xor]
      exact (FP.xor_top (k := 63) a2).2 a
    have e4 : v ^^^ 0x8000000000000000 = v &&& 0x7fffffffffffffff := by
      apply UInt64.toNat_inj.mp
      rw [e3, fp_mask]
      omega
    rw [e1, e2, FP.Core.dadd_comm, FP.Core.dadd_zero, e4]
    · rw [FP.Core.ne_nan, e3]
      omega
    · intro q
      have := congrArg UInt64.toNat q
      rw [e3] at this
      have z : FP.Core.dzeroNeg.toNat = 2 ^ 63 := rfl
      omega
theorem nn_mask {v : UInt64} (hv : nn v = true) : nn (v &&& 0x7fffffffffffffff) = true := by
  rw [nn_bits, fp_mask]
  have := (nn_bits v).mp hv
  omega
theorem ky_mask (v : UInt64) : ky (v &&& 0x7fffffffffffffff) = ((v.toNat % 2 ^ 63 : Nat) : Int) := by
  have h := fp_mask v
  rcases ky_or (v &&& 0x7fffffffffffffff) with q | q <;> omega
theorem x3_size (v : UInt64) : p_X3_sizeOf v = some (sz v) := by
  unfold p_X3_sizeOf sz
  have k0 : ky FP.dconst0 = 0 := by decide +kernel
  by_cases hv : nn v = true
  · rw [if_pos hv]
    by_cases c : 0 < ky v
    · rw [if_pos ((fc_gt hv (by decide +kernel) .g).mpr (by rw [k0]; exact c))]
      congr 1
      apply UInt64.toNat_inj.mp
      rw [fp_mask]
      rcases ky_or v with q | q <;> omega
    · rw [if_neg (fun h => c (by have := (fc_gt hv (by decide +kernel) .g).mp h; rw [k0] at this; exact this)), fp_neg0 hv c, dop_t (nn_mask hv)]
  · rw [fc_ng (Or.inl hv), if_pos (by decide), if_neg hv]
theorem x9_size (v : UInt64) : p_X9_size v = some (sz v) := x3_size v
theorem sz_nn {v : UInt64} (h : nn v = true) : nn (sz v) = true := by rw [sz, if_pos h]; exact nn_mask h
theorem sz_nan {v : UInt64} (h : ¬ nn v = true) : sz v = v := if_neg h
theorem sz_ky {v : UInt64} (h : nn v = true) : ky (sz v) = ((v.toNat % 2 ^ 63 : Nat) : Int) := by rw [sz, if_pos h]; exact ky_mask v
theorem x9_good (v : UInt64) : p_X9_isGood v = some (if fitb v = true then 1 else 0) := by
  unfold p_X9_isGood
  rw [x9_fin, Option.bind_some]
  have k2 : ky 4741671816366391296 = 4741671816366391296 := by decide +kernel
  by_cases c : dfin v = true
  · rw [if_pos c, if_neg (by decide), x9_size, Option.bind_some]
    have hv := dfin_nn c
    by_cases c2 : fitb v = true
    · rw [if_pos c2, if_neg]
      rw [fc_gt (sz_nn hv) (by decide +kernel) .g, k2, sz_ky hv]
      have := (fitb_bits v).mp c2
      omega
    · rw [if_neg c2, if_pos]
      rw [fc_gt (sz_nn hv) (by decide +kernel) .g, k2, sz_ky hv]
      have : ¬ v.toNat % 2 ^ 63 ≤ 4741671816366391296 := fun h => c2 ((fitb_bits v).mpr h)
      omega
  · rw [if_neg c, if_pos rfl, if_neg (fun h => c (fitb_fin h))]
theorem nn_add {a b : UInt64} (ha : nn a = true) (hb : dfin b = true) : nn (FP.dadd a b) = true := (nn_not _).mpr (FP.Core.dadd_out ((nn_not a).mp ha) ((dfin_iff b).mp hb))
theorem nn_add' {a b : UInt64} (ha : dfin a = true) (hb : nn b = true) : nn (FP.dadd a b) = true := (nn_not _).mpr (FP.Core.dadd_out' ((dfin_iff a).mp ha) ((nn_not b).mp hb))
theorem nn_sub {a b : UInt64} (ha : nn a = true) (hb : dfin b = true) : nn (FP.dsub a b) = true := (nn_not _).mpr (FP.Core.dsub_out ((nn_not a).mp ha) ((dfin_iff b).mp hb))
theorem nn_sub' {a b : UInt64} (ha : dfin a = true) (hb : nn b = true) : nn (FP.dsub a b) = true := (nn_not _).mpr (FP.Core.dsub_out' ((dfin_iff a).mp ha) ((nn_not b).mp hb))
theorem nn_mul {a b : UInt64} (ha : dfin a = true) (hb : dfin b = true) : nn (FP.dmul a b) = true := (nn_not _).mpr (FP.Core.dmul_out ((dfin_iff a).mp ha) ((dfin_iff b).mp hb))
theorem nz_of {b : UInt64} (h : b.toNat % 2 ^ 63 ≠ 0) : ¬ FP.Core.DZero b := fun q => h ((FP.Core.zero_bits2 b).mp q)
theorem nn_div {a b : UInt64} (ha : nn a = true) (hb : dfin b = true) (hz : b.toNat % 2 ^ 63 ≠ 0) : nn (FP.ddiv a b) = true := (nn_not _).mpr (FP.Core.ddiv_out ((nn_not a).mp ha) ((dfin_iff b).mp hb) (nz_of hz))
theorem nn_div' {a b : UInt64} (ha : dfin a = true) (hz : a.toNat % 2 ^ 63 ≠ 0) (hb : nn b = true) : nn (FP.ddiv a b) = true := (nn_not _).mpr (FP.Core.ddiv_out' ((dfin_iff a).mp ha) (nz_of hz) ((nn_not b).mp hb))
theorem fin_add0 {a : UInt64} (ha : dfin a = true) : dfin (FP.dadd a FP.dconst0) = true := by
  by_cases c : a = FP.Core.dzeroNeg
  · subst c; decide +kernel
  · rw [show FP.dadd a FP.dconst0 = a from FP.Core.dadd_zero ((nn_iff a).mp (dfin_nn ha)) c]; exact ha
theorem fin_sub0 {a : UInt64} (ha : dfin a = true) : dfin (FP.dsub a FP.dconst0) = true := by
  have e : FP.dsub a FP.dconst0 = a := by
    rw [show FP.dsub a FP.dconst0 = FP.Core.dadd a (FP.Core.dneg FP.Core.dconst0) from FP.Core.dsub_eq _ _, show FP.Core.dneg FP.Core.dconst0 = FP.Core.dzeroNeg by decide +kernel]
    exact FP.Core.dadd_zeroNeg ((nn_iff a).mp (dfin_nn ha))
  rw [e]; exact ha
/-- the same bits, as the class asks: equal, and zeros of one sign -/
theorem x3_same {a b : UInt64} (ha : nn a = true) (hb : nn b = true) : p_X3_sameBits a b = some (if a = b then 1 else 0) := by
  unfold p_X3_sameBits
  have k0 : ky FP.dconst0 = 0 := by decide +kernel
  have n0 : nn FP.dconst0 = true := by decide +kernel
  by_cases c : ky a = ky b
  · rw [if_pos ((fc_eq ha hb .l).mpr c)]
    by_cases z : ky a = 0
    · rw [if_pos ((fc_eq ha n0 .l).mpr (by rw [k0]; exact z))]
      have za : a = 0 ∨ a = 0x8000000000000000 := by
        rcases ky_or a with q | q
        · left; apply UInt64.toNat_inj.mp; show a.toNat = 0; omega
        · right; apply UInt64.toNat_inj.mp; show a.toNat = 9223372036854775808; omega
      have zb : b = 0 ∨ b = 0x8000000000000000 := by
        rcases ky_or b with q | q
        · left; apply UInt64.toNat_inj.mp; show b.toNat = 0; omega
        · right; apply UInt64.toNat_inj.mp; show b.toNat = 9223372036854775808; omega
      rcases za with rfl | rfl <;> rcases zb with rfl | rfl <;> decide +kernel
    · rw [if_neg (fun h => z (by have := (fc_eq ha n0 .l).mp h; rw [k0] at this; exact this)), if_pos]
      have := (FP.Core.dcmp_eq_key ((nn_iff a).mp ha) ((nn_iff b).mp hb)).mpr c
      exact FP.Core.eq_bits (nz_of (by rcases ky_or b with q | q <;> omega)) this
  · rw [if_neg (fun h => c ((fc_eq ha hb .l).mp h)), if_neg (fun h => c (by rw [h]))]
