/-! doubles out of their bits: the class's multiplications give just the number of the bits -/
theorem i64_int (x : Int64) : x.toInt = if 2 * x.toUInt64.toNat < 2 ^ 64 then (x.toUInt64.toNat : Int) else (x.toUInt64.toNat : Int) - ((2 ^ 64 : Nat) : Int) := by
  show x.toBitVec.toInt = _
  rw [BitVec.toInt_eq_toNat_cond]
  rfl
theorem lc_le (x y : Int64) : lg_cmp x y ≤ 0 ↔ x.toInt ≤ y.toInt := by
  unfold lg_cmp
  by_cases c : x > y
  · rw [if_pos c]
    have : y.toInt < x.toInt := Int64.lt_iff_toInt_lt.mp c
    exact ⟨fun h => absurd h (by decide), fun h => by omega⟩
  · have h9 : ¬ y.toInt < x.toInt := fun h => c (Int64.lt_iff_toInt_lt.mpr h)
    rw [if_neg c]
    by_cases e : x = y
    · rw [if_pos e]; exact ⟨fun _ => by omega, fun _ => by decide⟩
    · rw [if_neg e]; exact ⟨fun _ => by omega, fun _ => by decide⟩
theorem lc_ge (x y : Int64) : 0 ≤ lg_cmp x y ↔ y.toInt ≤ x.toInt := by
  unfold lg_cmp
  by_cases c : x > y
  · rw [if_pos c]
    have : y.toInt < x.toInt := Int64.lt_iff_toInt_lt.mp c
    exact ⟨fun _ => by omega, fun _ => by decide⟩
  · have h9 : ¬ y.toInt < x.toInt := fun h => c (Int64.lt_iff_toInt_lt.mpr h)
    rw [if_neg c]
    by_cases e : x = y
    · rw [if_pos e, e]; exact ⟨fun _ => by omega, fun _ => by decide⟩
    · rw [if_neg e]
      refine ⟨fun h => absurd h (by decide), fun h => absurd (Int64.toInt_inj.mp (by omega)) e⟩
theorem lc_eq (x y : Int64) : lg_cmp x y = 0 ↔ x = y := by
  unfold lg_cmp
  by_cases c : x > y
  · rw [if_pos c]
    have : y.toInt < x.toInt := Int64.lt_iff_toInt_lt.mp c
    exact ⟨fun h => absurd h (by decide), fun h => by rw [h] at this; omega⟩
  · rw [if_neg c]
    by_cases e : x = y
    · rw [if_pos e]; exact ⟨fun _ => e, fun _ => rfl⟩
    · rw [if_neg e]; exact ⟨fun h => absurd h (by decide), fun h => absurd h e⟩
theorem l_mask (b : Int64) : (b &&& 9223372036854775807).toUInt64.toNat = b.toUInt64.toNat % 2 ^ 63 := fp_mask b.toUInt64
theorem l_frac (b : Int64) : (b &&& 4503599627370495).toUInt64.toNat = b.toUInt64.toNat % 2 ^ 52 := by
  show (b.toUInt64 &&& 4503599627370495).toNat = _
  rw [UInt64.toNat_and]
  exact Nat.and_two_pow_sub_one_eq_mod b.toUInt64.toNat 52
theorem l_fracI (b : Int64) : (b &&& 4503599627370495).toInt = ((b.toUInt64.toNat % 2 ^ 52 : Nat) : Int) := by
  rw [i64_int, l_frac, if_pos (by omega)]
theorem x9_none (b : Int64) : p_X9_areOfNone b = some (if nn b.toUInt64 = true then 0 else 1) := by
  unfold p_X9_areOfNone
  have e : (b &&& 9223372036854775807).toInt = ((b.toUInt64.toNat % 2 ^ 63 : Nat) : Int) := by
    rw [i64_int, l_mask, if_pos (by omega)]
  have k : (9218868437227405312 : Int64).toInt = 9218868437227405312 := by decide
  have hn := nn_bits b.toUInt64
  by_cases c : nn b.toUInt64 = true
  · rw [if_pos c, if_pos]
    rw [lc_le, e, k]
    have := hn.mp c
    omega
  · rw [if_neg c, if_neg]
    rw [lc_le, e, k]
    intro h
    exact c (hn.mpr (by omega))
theorem x0_exp (b : Int64) : p_X0_exponentOf b = some (nI (b.toUInt64.toNat / 2 ^ 52 % 2048)) := by
  unfold p_X0_exponentOf
  congr 1
  have s : ((52 : Int32).toInt64.toUInt64 &&& Int64.toUInt64 63) = 52 := by decide
  rw [s]
  have e1 : ((b.toUInt64 >>> 52).toInt64 &&& 2047).toUInt64.toNat = b.toUInt64.toNat / 2 ^ 52 % 2048 := by
    show ((b.toUInt64 >>> 52) &&& 2047).toNat = _
    rw [UInt64.toNat_and, UInt64.toNat_shiftRight]
    show (b.toUInt64.toNat >>> 52) &&& (2 ^ 11 - 1) = _
    rw [Nat.and_two_pow_sub_one_eq_mod, Nat.shiftRight_eq_div_pow]
  have e2 : ((b.toUInt64 >>> 52).toInt64 &&& 2047).toInt = ((b.toUInt64.toNat / 2 ^ 52 % 2048 : Nat) : Int) := by
    rw [i64_int, e1, if_pos (by omega)]
  apply Int32.toInt_inj.mp
  rw [FP.Core.int64_toInt32 (by rw [e2]; omega) (by rw [e2]; omega), e2, nI_toInt (by omega)]
theorem x0_nan (b : Int64) : p_X0_isNan b = some (if nn b.toUInt64 = true then 0 else 1) := by
  unfold p_X0_isNan
  rw [x0_exp, Option.bind_some]
  have hU := b.toUInt64.toNat_lt
  have fr := l_fracI b
  have z0 : (0 : Int64).toInt = 0 := rfl
  have fz : lg_cmp (b &&& 4503599627370495) 0 = 0 ↔ b.toUInt64.toNat % 2 ^ 52 = 0 := by
    rw [lc_eq]
    constructor
    · intro h
      rw [h, z0] at fr
      omega
    · intro h
      apply Int64.toInt_inj.mp
      rw [fr, h, z0]
      rfl
  have hn := nn_bits b.toUInt64
  by_cases e : b.toUInt64.toNat / 2 ^ 52 % 2048 = 2047
  · rw [e, if_pos (show nI 2047 = 2047 from rfl)]
    by_cases z : b.toUInt64.toNat % 2 ^ 52 = 0
    · rw [if_pos (fz.mpr z), if_pos (hn.mpr (by omega))]
    · rw [if_neg (fun h => z (fz.mp h)), if_neg (fun h => by have := hn.mp h; omega)]
  · rw [if_neg, if_pos (hn.mpr (by omega))]
    intro h
    apply e
    have := congrArg Int32.toInt h
    rw [nI_toInt (by omega)] at this
    have k : (2047 : Int32).toInt = 2047 := by decide
    omega
theorem snl_t {b : Int64} (h : nn b.toUInt64 = true) : (!(vn_snl2d b)) = true := by
  have h2 : ¬ (b.toUInt64 &&& 0x7fffffffffffffff > 0x7ff0000000000000) := UInt64.not_lt.mpr (nn_n h)
  have : vn_snl2d b = false := by
    unfold vn_snl2d
    rw [decide_eq_false h2]
    rfl
  rw [this]
  rfl
def VV (x : UInt64) (c : Nat) (q : Int) : Prop := FP.Core.val64 x = FP.Core.round FP.Core.b64 (.fin false c q)
theorem vv_l2d (a : Int64) (c : Nat) (h : a.toInt = (c : Int)) : VV (FP.l2d a) c 0 := by
  unfold VV
  rw [show FP.l2d a = FP.Core.l2d a from rfl, FP.Core.val64_l2d, h]
  congr 1
theorem pw_eq {c c' a b j : Nat} (h : c' * 2 ^ a = c * 2 ^ b) : c' * 2 ^ j * 2 ^ ((a : Int) - b - j).toNat = c * 2 ^ ((b : Int) + j - a).toNat := by
  by_cases hab : b + j ≤ a
  · obtain ⟨d, rfl⟩ := Nat.exists_eq_add_of_le hab
    rw [show (((b + j + d : Nat) : Int) - b - j).toNat = d by omega, show ((b : Int) + j - ((b + j + d : Nat) : Int)).toNat = 0 by omega, Nat.pow_zero, Nat.mul_one]
    apply Nat.eq_of_mul_eq_mul_right (Nat.two_pow_pos b)
    rw [← h, Nat.mul_assoc, Nat.mul_assoc, ← Nat.pow_add, ← Nat.pow_add]
    congr 2
    omega
  · obtain ⟨d, hd⟩ := Nat.exists_eq_add_of_le (show a ≤ b + j by omega)
    rw [show ((a : Int) - b - j).toNat = 0 by omega, show ((b : Int) + j - a).toNat = d by omega, Nat.pow_zero, Nat.mul_one]
    apply Nat.eq_of_mul_eq_mul_right (Nat.two_pow_pos a)
    rw [Nat.mul_assoc, Nat.mul_comm (2 ^ j) (2 ^ a), ← Nat.mul_assoc, h, Nat.mul_assoc, Nat.mul_assoc, ← Nat.pow_add, ← Nat.pow_add, hd, Nat.add_comm]
theorem vv_mul {x f : UInt64} {c : Nat} {q r : Int} {j : Nat} (hx : VV x c q) (hc : c < 2 ^ 53) (h1 : -1074 ≤ q) (h2 : q ≤ 971) (hf : FP.Core.val64 f = .fin false (2 ^ j) r) : VV (FP.dmul x f) c (q + (r + j)) := by
  unfold VV at hx ⊢
  have m0 : FP.Core.b64.qmin = -1074 := FP.Core.qmin_b64
  have m1 : FP.Core.b64.qmax = 971 := by decide
  obtain ⟨c', q', e1, e2⟩ := FP.Core.round_exact FP.Core.good_b64 false (c := c) (q := q) hc (by rw [m0]; exact h1) (by rw [m1]; exact h2)
  have fit := FP.Core.val64_fits x
  rw [hx, e1] at fit
  have f1 : FP.Core.b64.qmin ≤ q' := fit.2.1
  rw [m0] at f1
  rw [show FP.dmul x f = FP.Core.dmul x f from rfl, FP.Core.val64_dmul, hx, e1, hf]
  show FP.Core.roundRatio FP.Core.b64 false (c' * 2 ^ j) 1 (q' + r) = FP.Core.roundRatio FP.Core.b64 false c 1 (q + (r + j))
  refine FP.Core.roundRatio_congr (by decide) (by decide) ?_
  unfold FP.Core.inUnits at e2
  rw [m0] at e2
  rw [Nat.mul_one, Nat.mul_one]
  have := pw_eq (j := j) e2
  rw [show q' + r - (q + (r + (j : Int))) = (((q' - -1074).toNat : Nat) : Int) - ((q - -1074).toNat : Nat) - j by omega, show q + (r + (j : Int)) - (q' + r) = (((q - -1074).toNat : Nat) : Int) + j - ((q' - -1074).toNat : Nat) by omega]
  exact this
def fk2 (d : Nat) : UInt64 := [4611686018427387904, 4616189618054758400, 4625196817309499392, 4643211215818981376, 4679240012837945344, 4751297606875873280, 4895412794951729152, 5183643171103440896, 5760103923406864384, 6913025428013711360, 9218868437227405312, 9218868437227405312].getD d 0
def fkh (d : Nat) : UInt64 := [4602678819172646912, 4598175219545276416, 4589168020290535424, 4571153621781053440, 4535124824762089472, 4463067230724161536, 4318952042648305664, 4030721666496593920, 3454260914193170432, 2301339409586323456, 1125899906842624, 0].getD d 0
theorem fk2_sq : ∀ d, d < 11 → FP.dmul (fk2 d) (fk2 d) = fk2 (d + 1) ∧ nn (fk2 (d + 1)) = true := by decide +kernel
theorem fkh_sq : ∀ d, d < 11 → FP.dmul (fkh d) (fkh d) = fkh (d + 1) ∧ nn (fkh (d + 1)) = true := by decide +kernel
theorem fk2_v : ∀ d, d < 10 → FP.Core.val64 (fk2 d) = .fin false (2 ^ 52) ((2 : Int) ^ d - 52) := by decide +kernel
theorem fkh_v : ∀ d, d < 10 → FP.Core.val64 (fkh d) = .fin false (2 ^ 52) (-(2 : Int) ^ d - 52) := by decide +kernel
theorem fkh_v10 : FP.Core.val64 (fkh 10) = .fin false (2 ^ 50) (-1074) := by decide +kernel
theorem sc_bit : ∀ S, S < 2048 → ∀ d, d < 11 → (((nI S >>> (nI d &&& 31)) &&& 1) = 1 ↔ S / 2 ^ d % 2 = 1) := by decide +kernel
theorem sc_loop (fk : Nat → UInt64) (sg : Int) (S c : Nat) (hS : S < 2048) (hc : c < 2 ^ 53) (hsq : ∀ d, d < 11 → FP.dmul (fk d) (fk d) = fk (d + 1) ∧ nn (fk (d + 1)) = true)
    (hv : ∀ d, d < 11 → S / 2 ^ d % 2 = 1 → ∃ (j : Nat) (r : Int), FP.Core.val64 (fk d) = .fin false (2 ^ j) r ∧ r + j = sg * (2 : Int) ^ d)
    (hq : ∀ d, d < 11 → S / 2 ^ d % 2 = 1 → -1074 ≤ sg * ((S % 2 ^ d : Nat) : Int) ∧ sg * ((S % 2 ^ d : Nat) : Int) ≤ 971) :
    ∀ (k d n : Nat) (out : UInt64), d + k = 11 → VV out c (sg * ((S % 2 ^ d : Nat) : Int)) → nn out = true → ∃ out', p_X0_scaled_L32 (n + k + 1) (nI S) (fk d) out (nI d) = some out' ∧ VV out' c (sg * (S : Int)) := by
  intro k
  induction k with
  | zero =>
    intro d n out hd hV _
    have : d = 11 := by omega
    subst this
    refine ⟨out, ?_, ?_⟩
    · rw [p_X0_scaled_L32, if_pos (by decide)]
    · rw [Nat.mod_eq_of_lt (show S < 2 ^ 11 from hS)] at hV
      exact hV
  | succ k ih =>
    intro d n out hd hV hN
    have hd11 : d < 11 := by omega
    have hm : S % 2 ^ (d + 1) = S % 2 ^ d + 2 ^ d * (S / 2 ^ d % 2) := by
      rw [Nat.pow_succ, Nat.mod_mul]
    rw [show n + (k + 1) + 1 = (n + k + 1) + 1 by omega, p_X0_scaled_L32, if_neg (by rw [show (11 : Int32) = nI 11 from rfl, nI_leI (by decide) (by omega)]; omega)]
    obtain ⟨s1, s2⟩ := hsq d hd11
    by_cases bt : S / 2 ^ d % 2 = 1
    · rw [if_pos ((sc_bit S hS d hd11).mpr bt)]
      obtain ⟨j, r, v1, v2⟩ := hv d hd11 bt
      obtain ⟨q1, q2⟩ := hq d hd11 bt
      have hV2 := vv_mul hV hc q1 q2 v1
      have hn2 : nn (FP.dmul out (fk d)) = true := by
        rw [nn_iff]
        unfold VV at hV2
        rw [hV2]
        exact fun h => by have := FP.Core.round_nan.mp h; cases this
      rw [dop_t hn2, s1, dop_t s2, nI_1]
      refine ih (d + 1) n _ (by omega) ?_ hn2
      have e : sg * ((S % 2 ^ (d + 1) : Nat) : Int) = sg * ((S % 2 ^ d : Nat) : Int) + (r + j) := by
        rw [hm, bt, v2, Nat.mul_one, Int.natCast_add, Int.mul_add]
        congr 2
      rw [e]
      exact hV2
    · rw [if_neg (fun h => bt ((sc_bit S hS d hd11).mp h)), s1, dop_t s2, nI_1]
      refine ih (d + 1) n _ (by omega) ?_ hN
      have : S / 2 ^ d % 2 = 0 := by omega
      rw [hm, this, Nat.mul_zero, Nat.add_zero]
      exact hV
theorem vv_nn {x : UInt64} {c : Nat} {q : Int} (h : VV x c q) : nn x = true := by
  rw [nn_iff]
  unfold VV at h
  rw [h]
  exact fun h => by have := FP.Core.round_nan.mp h; cases this
theorem sc_up {S c : Nat} {w : UInt64} (hS : S ≤ 972) (hc : c < 2 ^ 53) (hw : VV w c 0) : ∃ out, p_X0_scaled w (nI S) = some out ∧ VV out c (S : Int) := by
  unfold p_X0_scaled
  rw [if_pos (nI_pos' (by omega))]
  have b10 : ∀ d, d < 11 → S / 2 ^ d % 2 = 1 → d < 10 := by
    intro d hd hb
    by_cases e : d = 10
    · subst e
      omega
    · omega
  have hdiv : ∀ d, d < 10 → S / 2 ^ d % 2 = 1 → S % 2 ^ d ≤ 971 := by
    intro d hd hb
    have h1 := Nat.mod_lt S (Nat.two_pow_pos d)
    have h2 := Nat.pow_le_pow_right (show 1 ≤ 2 by decide) (show d ≤ 9 by omega)
    omega
  obtain ⟨out, h1, h2⟩ := sc_loop fk2 1 S c (by omega) hc fk2_sq (fun d hd hb => ⟨52, _, fk2_v d (b10 d hd hb), by omega⟩) (fun d hd hb => by have := hdiv d (b10 d hd hb) hb; omega) 11 0 288 w rfl (by simpa using (show VV w c ((1 : Int) * ((S % 2 ^ 0 : Nat) : Int)) by rw [Nat.pow_zero, Nat.mod_one]; exact hw)) (vv_nn hw)
  refine ⟨out, ?_, by rw [Int.one_mul] at h2; exact h2⟩
  have h1 : p_X0_scaled_L32 300 (nI S) 4611686018427387904 w 0 = some out := h1
  rw [h1]
  rfl
theorem sc_down {S c : Nat} {w : UInt64} {p : Int32} (hp : ¬ 0 ≤ p) (he : -p = nI S) (hS : S ≤ 1074) (hc : c < 2 ^ 53) (hw : VV w c 0) : ∃ out, p_X0_scaled w p = some out ∧ VV out c (-(S : Int)) := by
  unfold p_X0_scaled
  rw [if_neg hp, he]
  have hdiv : ∀ d, d < 11 → S % 2 ^ d ≤ 1074 := by
    intro d hd
    have h1 := Nat.mod_le S (2 ^ d)
    omega
  obtain ⟨out, h1, h2⟩ := sc_loop fkh (-1) S c (by omega) hc fkh_sq (fun d hd hb => by
      by_cases e : d = 10
      · subst e
        exact ⟨50, _, fkh_v10, by decide⟩
      · exact ⟨52, _, fkh_v d (by omega), by omega⟩) (fun d hd hb => by have := hdiv d hd; omega) 11 0 288 w rfl (by rw [Nat.pow_zero, Nat.mod_one]; exact hw) (vv_nn hw)
  refine ⟨out, ?_, by rw [Int.neg_mul, Int.one_mul] at h2; exact h2⟩
  have h1 : p_X0_scaled_L32 300 (nI S) 4602678819172646912 w 0 = some out := h1
  rw [h1]
  rfl
theorem e_low : ∀ E, E < 1075 → -(nI E - 1075) = nI (1075 - E) ∧ ¬ 0 ≤ nI E - 1075 := by decide +kernel
theorem e_high : ∀ E, E < 2048 → 1075 ≤ E → nI E - 1075 = nI (E - 1075) := by decide +kernel
/-- what the bits without their sign stand for -/
theorem v_bits (u : UInt64) (hu : u.toNat < 2 ^ 63) (hn : nn u = true) : FP.Core.val64 u = FP.Core.round FP.Core.b64 (if u.toNat / 2 ^ 52 = 0 then .fin false (u.toNat % 2 ^ 52) (-1074) else .fin false (2 ^ 52 + u.toNat % 2 ^ 52) ((u.toNat / 2 ^ 52 : Nat) - 1075)) := by
  have hb := (nn_bits u).mp hn
  have ft := FP.Core.val64_fits u
  have t : FP.Core.b64.tails = 2 ^ 52 := FP.Core.tails_b64
  have x : FP.Core.b64.exps = 2048 := by decide
  have m0 : FP.Core.b64.qmin = -1074 := FP.Core.qmin_b64
  have eT : FP.Core.fieldT FP.Core.b64 u.toNat = u.toNat % 2 ^ 52 := by unfold FP.Core.fieldT; rw [t]
  have eE : FP.Core.fieldE FP.Core.b64 u.toNat = u.toNat / 2 ^ 52 := by unfold FP.Core.fieldE; rw [t, x]; omega
  have eS : FP.Core.fieldS FP.Core.b64 u.toNat = false := by
    unfold FP.Core.fieldS
    rw [t, x, show u.toNat / 2 ^ 52 / 2048 = 0 by omega]
    rfl
  have ed : FP.Core.val64 u = FP.Core.decode FP.Core.b64 u.toNat := rfl
  unfold FP.Core.decode at ed
  rw [eT, eE, eS, x, m0, t] at ed
  by_cases c1 : u.toNat / 2 ^ 52 = 2047
  · rw [if_pos (by omega), if_pos (by omega)] at ed
    rw [ed, if_neg (by omega), c1, show u.toNat % 2 ^ 52 = 0 by omega]
    decide +kernel
  · rw [if_neg (by omega)] at ed
    by_cases c0 : u.toNat / 2 ^ 52 = 0
    · rw [if_pos c0] at ed
      rw [if_pos c0]
      rw [ed] at ft
      rw [ed, FP.Core.round_of_fits FP.Core.good_b64 ft]
    · rw [if_neg c0] at ed
      rw [if_neg c0]
      rw [show (-1074 : Int) + (((u.toNat / 2 ^ 52 : Nat) : Int) - 1) = ((u.toNat / 2 ^ 52 : Nat) : Int) - 1075 by omega] at ed
      rw [ed] at ft
      rw [ed, FP.Core.round_of_fits FP.Core.good_b64 ft]
theorem vv_eq {x u : UInt64} {c : Nat} {q : Int} (h : VV x c q) (hu : FP.Core.val64 u = FP.Core.round FP.Core.b64 (.fin false c q)) : x = u := FP.Core.val64_inj ((nn_iff x).mp (vv_nn h)) (h.trans hu.symm)
theorem l_or (b : Int64) : ((b &&& 4503599627370495) ||| 4503599627370496).toInt = ((2 ^ 52 + b.toUInt64.toNat % 2 ^ 52 : Nat) : Int) := by
  have e : ((b &&& 4503599627370495) ||| 4503599627370496).toUInt64.toNat = 2 ^ 52 + b.toUInt64.toNat % 2 ^ 52 := by
    show ((b &&& 4503599627370495).toUInt64 ||| 4503599627370496).toNat = _
    rw [UInt64.toNat_or, l_frac]
    show b.toUInt64.toNat % 2 ^ 52 ||| 2 ^ 52 = _
    rw [Nat.or_comm]
    have w := Nat.two_pow_add_eq_or_of_lt (Nat.mod_lt b.toUInt64.toNat (Nat.two_pow_pos 52)) 1
    rw [Nat.mul_one] at w
    exact w.symm
  rw [i64_int, e, if_pos (by omega)]
theorem x0_decoded (b : Int64) (h : nn b.toUInt64 = true) : p_X0_decoded b = some b.toUInt64 := by
  have hU := b.toUInt64.toNat_lt
  have hb := (nn_bits _).mp h
  obtain ⟨u, hu⟩ : ∃ u, u = b.toUInt64 &&& 0x7fffffffffffffff := ⟨_, rfl⟩
  have un : u.toNat = b.toUInt64.toNat % 2 ^ 63 := by rw [hu, fp_mask]
  have unn : nn u = true := by rw [hu]; exact nn_mask h
  have vb := v_bits u (by omega) unn
  have eE : b.toUInt64.toNat / 2 ^ 52 % 2048 = u.toNat / 2 ^ 52 := by omega
  have eF : b.toUInt64.toNat % 2 ^ 52 = u.toNat % 2 ^ 52 := by omega
  have fin : ∀ x : UInt64, x = u → (if 0 ≤ lg_cmp b 0 then some x else some (FP.dneg x)) = some b.toUInt64 := by
    intro x hx
    subst hx
    have z0 : (0 : Int64).toInt = 0 := rfl
    have bi := i64_int b
    by_cases c : 0 ≤ lg_cmp b 0
    · rw [if_pos c]
      rw [lc_ge, z0] at c
      congr 1
      apply UInt64.toNat_inj.mp
      rw [un]
      split at bi <;> omega
    · rw [if_neg c]
      rw [lc_ge, z0] at c
      congr 1
      apply UInt64.toNat_inj.mp
      show (x ^^^ 0x8000000000000000).toNat = _
      rw [UInt64.toNat_xor]
      have := (FP.xor_top (a := x.toNat) (k := 63) (by omega)).1 (by omega)
      have k : (0x8000000000000000 : UInt64).toNat = 2 ^ 63 := rfl
      rw [k, this]
      split at bi <;> omega
  unfold p_X0_decoded
  rw [x0_exp, Option.bind_some, eE]
  by_cases c0 : u.toNat / 2 ^ 52 = 0
  · rw [c0, if_pos (show nI 0 = 0 from rfl)]
    rw [if_pos c0] at vb
    obtain ⟨out, h1, h2⟩ := sc_down (S := 1074) (p := -1074) (by decide) (by decide) (by decide) (show u.toNat % 2 ^ 52 < 2 ^ 53 by omega) (vv_l2d (b &&& 4503599627370495) (u.toNat % 2 ^ 52) (by rw [l_fracI, eF]))
    rw [h1, Option.bind_some]
    exact fin out (vv_eq h2 vb)
  · rw [if_neg (by intro q; have := congrArg Int32.toInt q; rw [nI_toInt (by omega)] at this; have k : (0 : Int32).toInt = 0 := rfl; omega)]
    rw [if_neg c0] at vb
    have hw := vv_l2d ((b &&& 4503599627370495) ||| 4503599627370496) (2 ^ 52 + u.toNat % 2 ^ 52) (by rw [l_or, eF])
    have hc : 2 ^ 52 + u.toNat % 2 ^ 52 < 2 ^ 53 := by omega
    by_cases lo : u.toNat / 2 ^ 52 < 1075
    · obtain ⟨e1, e2⟩ := e_low _ lo
      obtain ⟨out, h1, h2⟩ := sc_down (S := 1075 - u.toNat / 2 ^ 52) e2 e1 (by omega) hc hw
      rw [h1, Option.bind_some]
      refine fin out (vv_eq h2 ?_)
      rw [vb]
      exact congrArg (fun q => FP.Core.round FP.Core.b64 (.fin false (2 ^ 52 + u.toNat % 2 ^ 52) q)) (by omega)
    · rw [e_high _ (by omega) (by omega)]
      obtain ⟨out, h1, h2⟩ := sc_up (S := u.toNat / 2 ^ 52 - 1075) (by omega) hc hw
      rw [h1, Option.bind_some]
      refine fin out (vv_eq h2 ?_)
      rw [vb]
      exact congrArg (fun q => FP.Core.round FP.Core.b64 (.fin false (2 ^ 52 + u.toNat % 2 ^ 52) q)) (by omega)
