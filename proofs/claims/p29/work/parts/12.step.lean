/-! one entry: what the class and the reference make of the entries before it -/
theorem n16 : (16 : Int32) = nI 16 := rfl
theorem ixC (c n : Nat) : nI c * 16 + nI n = nI (16 * c + n) := by rw [n16, pk_mul, nI_add, Nat.mul_comm]
theorem ixM (c n : Nat) : (16 : Int32) * nI c + nI n = nI (16 * c + n) := by rw [n16, pk_mul, nI_add]
theorem inb_nI {i N : Nat} (h : i < N) (hN : N ≤ 5000) : inb (nI i) N = true := by
  unfold inb
  rw [nI_clamp (by omega), decide_eq_true (nI_pos' (by omega)), decide_eq_true h]
  rfl
theorem x1_put (values : Nat → UInt64) (kinds : Nat → Int32) {i : Nat} (v : UInt64) (kd : Int32) (hi : i < 256) : p_X1_put values kinds (nI i) v kd = some (vf_upd values i v, upd kinds i kd) := by
  unfold p_X1_put
  rw [gD_t _ (inb_nI hi (by decide)), gD_t _ (inb_nI hi (by decide)), nI_clamp (by omega)]
def pfV (v : UInt64) : UInt64 × Int32 := if dfin v = true then (v, 0) else (FP.dconst0, 2)
def puV (b : Int32) (v : UInt64) : UInt64 × Int32 := if b = 0 then (FP.dconst0, 2) else (v, 1)
theorem x1_pf (values : Nat → UInt64) (kinds : Nat → Int32) {i : Nat} (v : UInt64) (hi : i < 256) : p_X1_putIfFinite values kinds (nI i) v = some (vf_upd values i (pfV v).1, upd kinds i (pfV v).2) := by
  unfold p_X1_putIfFinite pfV
  rw [x3_fin, Option.bind_some]
  by_cases c : dfin v = true
  · rw [if_pos c, if_pos c, if_neg (by decide), x1_put _ _ _ _ hi]
    rfl
  · rw [if_neg c, if_neg c, if_pos rfl, x1_put _ _ _ _ hi]
    rfl
theorem x1_pu (values : Nat → UInt64) (kinds : Nat → Int32) (b : Int32) {i : Nat} (v : UInt64) (hi : i < 256) : p_X1_putUndivided values kinds b (nI i) v = some (vf_upd values i (puV b v).1, upd kinds i (puV b v).2) := by
  unfold p_X1_putUndivided puV
  by_cases c : b = 0
  · rw [if_pos c, if_pos c, x1_put _ _ _ _ hi]
    rfl
  · rw [if_neg c, if_neg c, x1_put _ _ _ _ hi]
    rfl
def smallV (g d : UInt64) : Bool := !(decide (ky g < ky (sz d)))
theorem x1_small {g d : UInt64} (hg : nn g = true) (hd : nn d = true) : p_X1_isTooSmall g d = some (if smallV g d = true then 1 else 0) := by
  unfold p_X1_isTooSmall smallV
  rw [x3_size, Option.bind_some]
  by_cases c : ky g < ky (sz d)
  · rw [if_pos ((fc_gt (sz_nn hd) hg .l).mpr c), decide_eq_true c]
    rfl
  · rw [if_neg (fun h => c ((fc_gt (sz_nn hd) hg .l).mp h)), decide_eq_false c]
    rfl
theorem small_lt {g d : UInt64} (h : ¬ smallV g d = true) : ky g < ky (sz d) := by
  by_cases c : ky g < ky (sz d)
  · exact c
  · exact absurd (by unfold smallV; rw [decide_eq_false c]; rfl) h
theorem small_nz {g d : UInt64} (h0 : 0 ≤ ky g) (hd : nn d = true) (h : ¬ smallV g d = true) : d.toNat % 2 ^ 63 ≠ 0 := by
  have h1 := small_lt h
  rw [sz_ky hd] at h1
  omega
def powV (q : UInt64) : Nat → UInt64
  | 0 => q
  | k + 1 => FP.dmul (powV q k) q
def invV (g : UInt64) (b : Int32) (t c : Nat) (x y base : UInt64) : UInt64 × Int32 :=
  if smallV g (FP.dsub y x) = true then puV b (FP.dadd base FP.dconst0) else pfV (FP.dadd base (FP.ddiv (if t = 0 then FP.dconst1 else FP.i2d (nI c)) (FP.dsub y x)))
def triW (g : UInt64) (b : Int32) (x a bb : UInt64) : UInt64 × Int32 :=
  if smallV g (FP.dsub bb a) = true then puV b (FP.dsub x FP.dconst0)
  else if ¬ dfin (FP.dmul a a) = true ∧ ¬ dfin (FP.dsub bb a) = true then (FP.dconst0, 2)
  else pfV (FP.dsub x (FP.ddiv (FP.dmul a a) (FP.dsub bb a)))
def triV (g : UInt64) (b : Int32) (x y z : UInt64) : UInt64 × Int32 :=
  if ¬ dfin (FP.dsub y x) = true ∧ ky (FP.dsub y x) = ky (FP.dsub z y) then puV b (FP.dsub x FP.dconst0) else triW g b x (FP.dsub y x) (FP.dsub z y)
def ratV (g q : UInt64) (b : Int32) (c : Nat) (x y : UInt64) : UInt64 × Int32 :=
  if smallV g (FP.dsub (powV q (c - 1)) FP.dconst1) = true then puV b (FP.dadd y FP.dconst0) else pfV (FP.dadd y (FP.ddiv (FP.dsub y x) (FP.dsub (powV q (c - 1)) FP.dconst1)))
def brkV (t c : Nat) (ka kb kc kp : Int32) : Bool := decide (2 ≤ ka) || decide (2 ≤ kb) || (decide (t = 2) && decide (2 ≤ kc)) || (decide (t < 2) && decide (2 ≤ c) && decide (2 ≤ kp))
def stepV (g q : UInt64) (b : Int32) (t c : Nat) (A B C P : UInt64 × Int32) : UInt64 × Int32 :=
  if brkV t c A.2 B.2 C.2 P.2 = true then (FP.dconst0, 3) else if t = 2 then triV g b A.1 B.1 C.1 else if t = 3 then ratV g q b c A.1 B.1 else invV g b t c A.1 B.1 (if 2 ≤ c then P.1 else FP.dconst0)
theorem one_fin : dfin FP.dconst1 = true := by decide +kernel
theorem one_nz : FP.dconst1.toNat % 2 ^ 63 ≠ 0 := by decide +kernel
theorem zero_fin : dfin FP.dconst0 = true := by decide +kernel
theorem i2d_ok : ∀ c, c < 17 → 1 ≤ c → dfin (FP.i2d (nI c)) = true ∧ (FP.i2d (nI c)).toNat % 2 ^ 63 ≠ 0 := by decide +kernel
theorem nI_sub16 {k : Nat} (h : 16 ≤ k) : nI k - 16 = nI (k - 16) := by rw [n16, pk_sub h]
theorem nI_a16 (k : Nat) : nI (k + 16) - 16 = nI k := by rw [nI_sub16 (by omega), Nat.add_sub_cancel]
theorem x1_inv (values : Nat → UInt64) (kinds : Nat → Int32) {g : UInt64} {b : Int32} {t c k : Nat} (hg : nn g = true) (h0 : 0 ≤ ky g) (ht : t < 2) (hc1 : 1 ≤ c) (hc : c < 16) (hk : k + 16 < 256) (hk1 : 2 ≤ c → 16 ≤ k) (fx : dfin (values k) = true) (fy : dfin (values (k + 1)) = true) (fp : 2 ≤ c → dfin (values (k - 16 + 1)) = true) :
    p_X1_makeByInverse values kinds (nI t) g b (nI c) (nI (k + 16)) = some (vf_upd values (k + 16) (invV g b t c (values k) (values (k + 1)) (if 2 ≤ c then values (k - 16 + 1) else FP.dconst0)).1, upd kinds (k + 16) (invV g b t c (values k) (values (k + 1)) (if 2 ≤ c then values (k - 16 + 1) else FP.dconst0)).2) := by
  unfold p_X1_makeByInverse
  have nnd := nn_sub (dfin_nn fy) fx
  obtain ⟨ic, inz⟩ := i2d_ok c (by omega) hc1
  rw [nI_a16, nI_1 k]
  by_cases c2 : 2 ≤ c
  · have hk16 := hk1 c2
    have fp := fp c2
    rw [if_neg (show ¬ nI c < 2 from nI_nlt (b := 2) c2 (by omega)), nI_sub16 hk16, nI_1, gD_t _ (inb_nI (by omega) (by decide)), gD_t _ (inb_nI (by omega) (by decide)), gD_t _ (inb_nI (by omega) (by decide)), nI_clamp (show k + 1 < 2 ^ 31 by omega), nI_clamp (show k < 2 ^ 31 by omega), nI_clamp (show k - 16 + 1 < 2 ^ 31 by omega), dop_t nnd, x1_small hg nnd, Option.bind_some, if_pos c2]
    by_cases s : smallV g (FP.dsub (values (k + 1)) (values k)) = true
    · have hS : invV g b t c (values k) (values (k + 1)) (values (k - 16 + 1)) = puV b (FP.dadd (values (k - 16 + 1)) FP.dconst0) := by unfold invV; rw [if_pos s]
      rw [if_pos s, if_neg (by decide), dop_t (dfin_nn (fin_add0 fp)), x1_pu _ _ _ _ hk, hS]
      rfl
    · have nz := small_nz h0 nnd s
      rw [if_neg s, if_pos rfl]
      by_cases t0 : t = 0
      · subst t0
        have hq := nn_div' one_fin one_nz nnd
        have hS : invV g b 0 c (values k) (values (k + 1)) (values (k - 16 + 1)) = pfV (FP.dadd (values (k - 16 + 1)) (FP.ddiv FP.dconst1 (FP.dsub (values (k + 1)) (values k)))) := by unfold invV; rw [if_neg s, if_pos rfl]
        rw [if_pos (show nI 0 = 0 from rfl), dop_t hq, dop_t (nn_add' fp hq), x1_pf _ _ _ hk, hS]
        rfl
      · have hq := nn_div' ic inz nnd
        have hS : invV g b t c (values k) (values (k + 1)) (values (k - 16 + 1)) = pfV (FP.dadd (values (k - 16 + 1)) (FP.ddiv (FP.i2d (nI c)) (FP.dsub (values (k + 1)) (values k)))) := by unfold invV; rw [if_neg s, if_neg t0]
        rw [if_neg (nI_ne0 (by omega) (by omega)), dop_t hq, dop_t (nn_add' fp hq), x1_pf _ _ _ hk, hS]
        rfl
  · rw [if_pos (show nI c < 2 from nI_lt (b := 2) (by omega) (by omega)), gD_t _ (inb_nI (by omega) (by decide)), gD_t _ (inb_nI (by omega) (by decide)), nI_clamp (show k + 1 < 2 ^ 31 by omega), nI_clamp (show k < 2 ^ 31 by omega), dop_t nnd, x1_small hg nnd, Option.bind_some, if_neg c2]
    by_cases s : smallV g (FP.dsub (values (k + 1)) (values k)) = true
    · have hS : invV g b t c (values k) (values (k + 1)) FP.dconst0 = puV b (FP.dadd FP.dconst0 FP.dconst0) := by unfold invV; rw [if_pos s]
      rw [if_pos s, if_neg (by decide), dop_t (dfin_nn (fin_add0 zero_fin)), x1_pu _ _ _ _ hk, hS]
      rfl
    · rw [if_neg s, if_pos rfl]
      by_cases t0 : t = 0
      · subst t0
        have hq := nn_div' one_fin one_nz nnd
        have hS : invV g b 0 c (values k) (values (k + 1)) FP.dconst0 = pfV (FP.dadd FP.dconst0 (FP.ddiv FP.dconst1 (FP.dsub (values (k + 1)) (values k)))) := by unfold invV; rw [if_neg s, if_pos rfl]
        rw [if_pos (show nI 0 = 0 from rfl), dop_t hq, dop_t (nn_add' zero_fin hq), x1_pf _ _ _ hk, hS]
        rfl
      · have hq := nn_div' ic inz nnd
        have hS : invV g b t c (values k) (values (k + 1)) FP.dconst0 = pfV (FP.dadd FP.dconst0 (FP.ddiv (FP.i2d (nI c)) (FP.dsub (values (k + 1)) (values k)))) := by unfold invV; rw [if_neg s, if_neg t0]
        rw [if_neg (nI_ne0 (by omega) (by omega)), dop_t hq, dop_t (nn_add' zero_fin hq), x1_pf _ _ _ hk, hS]
        rfl
theorem nn_sq {a : UInt64} (h : nn a = true) : nn (FP.dmul a a) = true := by
  rw [nn_not, ← Bool.not_eq_true]
  intro q
  rcases (FP.Core.dmul_nan_iff a a).mp q with q | q | ⟨s, q1, s2, q2, q3⟩ | ⟨s, ⟨s2, q2, q3⟩, q1⟩
  · exact (nn_iff a).mp h q
  · exact (nn_iff a).mp h q
  · rw [q1] at q3; cases q3
  · rw [q1] at q3; cases q3
theorem nn_div2 {a b : UInt64} (ha : nn a = true) (hb : nn b = true) (hz : b.toNat % 2 ^ 63 ≠ 0) (hf : dfin a = true ∨ dfin b = true) : nn (FP.ddiv a b) = true := by
  rw [nn_not, ← Bool.not_eq_true]
  intro q
  rcases (FP.Core.ddiv_nan_iff a b).mp q with q | q | ⟨s, t, q1, q2⟩ | ⟨q1, q2⟩
  · exact (nn_iff a).mp ha q
  · exact (nn_iff b).mp hb q
  · rcases hf with hf | hf
    · obtain ⟨s', c, e, h⟩ := (dfin_iff a).mp hf
      rw [q1] at h; cases h
    · obtain ⟨s', c, e, h⟩ := (dfin_iff b).mp hf
      rw [q2] at h; cases h
  · exact nz_of hz q2
theorem nn_sub2 {a b : UInt64} (ha : nn a = true) (hb : nn b = true) (h : ¬ ky b = ky a) : nn (FP.dsub a b) = true := by
  rw [nn_not, ← Bool.not_eq_true]
  intro q
  rcases (FP.Core.dsub_nan_iff a b).mp q with q | q | ⟨s, q1, q2⟩
  · exact (nn_iff a).mp ha q
  · exact (nn_iff b).mp hb q
  · have : a = b := FP.Core.val64_inj ((nn_iff a).mp ha) (q1.trans q2.symm)
    exact h (by rw [this])
/-- the part of makeOfThree behind its first question -/
def triT (values : Nat → UInt64) (kinds : Nat → Int32) (g : UInt64) (b : Int32) (p1 : Int32) (x a bb : UInt64) : Option ((Nat → UInt64) × (Nat → Int32)) :=
  dop (FP.dsub bb a) fun d10 => (p_X1_isTooSmall g d10).bind fun x11 => (if x11 = 0 then dop (FP.dmul a a) fun d13 => dop (FP.dsub bb a) fun d14 => (p_X3_isFinite d13).bind fun x15 => (if x15 = 0 then (p_X3_isFinite d14).bind fun x20 => (if x20 = 0 then (p_X1_put values kinds p1 FP.dconst0 2).bind fun x25 => some (x25.1, x25.2) else dop (FP.ddiv d13 d14) fun d22 => dop (FP.dsub x d22) fun d23 => (p_X1_putIfFinite values kinds p1 d23).bind fun x24 => some (x24.1, x24.2)) else dop (FP.ddiv d13 d14) fun d17 => dop (FP.dsub x d17) fun d18 => (p_X1_putIfFinite values kinds p1 d18).bind fun x19 => some (x19.1, x19.2)) else dop (FP.dsub x FP.dconst0) fun d26 => (p_X1_putUndivided values kinds b p1 d26).bind fun x27 => some (x27.1, x27.2))
theorem triT_eq (values : Nat → UInt64) (kinds : Nat → Int32) {g : UInt64} {b : Int32} {k : Nat} {x a bb : UInt64} (hk : k < 256) (hg : nn g = true) (h0 : 0 ≤ ky g) (fx : dfin x = true) (ha : nn a = true) (hba : nn (FP.dsub bb a) = true) :
    triT values kinds g b (nI k) x a bb = some (vf_upd values k (triW g b x a bb).1, upd kinds k (triW g b x a bb).2) := by
  unfold triT triW
  have hsq := nn_sq ha
  rw [dop_t hba, x1_small hg hba, Option.bind_some]
  by_cases s : smallV g (FP.dsub bb a) = true
  · rw [if_pos s, if_pos s, if_neg (by decide), dop_t (dfin_nn (fin_sub0 fx)), x1_pu _ _ _ _ hk]
    rfl
  · have nz := small_nz h0 hba s
    rw [if_neg s, if_neg s, if_pos rfl, dop_t hsq, dop_t hba, x3_fin, Option.bind_some]
    by_cases f1 : dfin (FP.dmul a a) = true
    · have hq := nn_div2 hsq hba nz (Or.inl f1)
      rw [if_pos f1, if_neg (by decide), dop_t hq, dop_t (nn_sub' fx hq), x1_pf _ _ _ hk, if_neg (fun h => h.1 f1)]
      rfl
    · rw [if_neg f1, if_pos rfl, x3_fin, Option.bind_some]
      by_cases f2 : dfin (FP.dsub bb a) = true
      · have hq := nn_div2 hsq hba nz (Or.inr f2)
        rw [if_pos f2, if_neg (by decide), dop_t hq, dop_t (nn_sub' fx hq), x1_pf _ _ _ hk, if_neg (fun h => h.2 f2)]
        rfl
      · rw [if_neg f2, if_pos rfl, x1_put _ _ _ _ hk, if_pos ⟨f1, f2⟩]
        rfl
theorem x1_tri (values : Nat → UInt64) (kinds : Nat → Int32) {g : UInt64} {b : Int32} {k : Nat} (hg : nn g = true) (h0 : 0 ≤ ky g) (hk : k + 16 < 256) (fx : dfin (values k) = true) (fy : dfin (values (k + 1)) = true) (fz : dfin (values (k + 2)) = true) :
    p_X1_makeOfThree values kinds g b (nI (k + 16)) = some (vf_upd values (k + 16) (triV g b (values k) (values (k + 1)) (values (k + 2))).1, upd kinds (k + 16) (triV g b (values k) (values (k + 1)) (values (k + 2))).2) := by
  unfold p_X1_makeOfThree
  have nna := nn_sub (dfin_nn fy) fx
  have nnb := nn_sub (dfin_nn fz) fy
  have i0 : inb (nI k) 256 = true := inb_nI (by omega) (by decide)
  have i1 : inb (nI (k + 1)) 256 = true := inb_nI (by omega) (by decide)
  have i2 : inb (nI (k + 2)) 256 = true := inb_nI (by omega) (by decide)
  rw [nI_a16, nI_1 k, show nI k + 2 = nI (k + 2) from nI_add k 2, gD_t _ i0, gD_t _ i1, gD_t _ i0, nI_clamp (show k < 2 ^ 31 by omega), nI_clamp (show k + 1 < 2 ^ 31 by omega), nI_clamp (show k + 2 < 2 ^ 31 by omega), dop_t nna, gD_t _ i2, gD_t _ i1, dop_t nnb, x3_fin, Option.bind_some]
  by_cases fa : dfin (FP.dsub (values (k + 1)) (values k)) = true
  · have hba := nn_sub nnb fa
    rw [if_pos fa, if_neg (by decide), show triV g b (values k) (values (k + 1)) (values (k + 2)) = triW g b (values k) (FP.dsub (values (k + 1)) (values k)) (FP.dsub (values (k + 2)) (values (k + 1))) from if_neg (fun h => h.1 fa)]
    exact triT_eq values kinds hk hg h0 fx nna hba
  · rw [if_neg fa, if_pos rfl]
    by_cases e : ky (FP.dsub (values (k + 1)) (values k)) = ky (FP.dsub (values (k + 2)) (values (k + 1)))
    · rw [if_pos ((fc_eq nna nnb .l).mpr e), dop_t (dfin_nn (fin_sub0 fx)), x1_pu _ _ _ _ hk, show triV g b (values k) (values (k + 1)) (values (k + 2)) = puV b (FP.dsub (values k) FP.dconst0) from if_pos ⟨fa, e⟩]
      rfl
    · have hba := nn_sub2 nnb nna e
      rw [if_neg (fun h => e ((fc_eq nna nnb .l).mp h)), show triV g b (values k) (values (k + 1)) (values (k + 2)) = triW g b (values k) (FP.dsub (values (k + 1)) (values k)) (FP.dsub (values (k + 2)) (values (k + 1))) from if_neg (fun h => e h.2)]
      exact triT_eq values kinds hk hg h0 fx nna hba
theorem x1_pow {q : UInt64} {c : Nat} (hc : c < 16) (hq : ∀ j, j < 15 → nn (powV q j) = true) : ∀ (m i n : Nat) (x3 : Int32) (x4 : UInt64), i + 1 + m = c → p_X1_makeByRatio_L24 q (nI c) (n + m + 1) x3 x4 (powV q i) (nI (i + 1)) = some (x3, x4, powV q (c - 1)) := by
  intro m
  induction m with
  | zero =>
    intro i n x3 x4 h
    rw [p_X1_makeByRatio_L24, if_pos (nI_le (by omega) (by omega)), show c - 1 = i by omega]
  | succ m ih =>
    intro i n x3 x4 h
    have hn : nn (FP.dmul (powV q i) q) = true := hq (i + 1) (by omega)
    rw [show n + (m + 1) + 1 = (n + m + 1) + 1 by omega, p_X1_makeByRatio_L24, if_neg (nI_ge (by omega) (by omega)), dop_t hn, nI_1]
    exact ih (i + 1) n x3 x4 (by omega)
/-- what is asked of a ratio: its powers are small, and so finite -/
def qOK (q : UInt64) : Prop := ∀ j, j < 15 → (powV q j).toNat % 2 ^ 63 < 1200 * 2 ^ 52
theorem qOK.fin {q : UInt64} (h : qOK q) {j : Nat} (hj : j < 15) : dfin (powV q j) = true := by
  rw [dfin_bits]
  have := h j hj
  omega
theorem qOK.sub {q : UInt64} (h : qOK q) {j : Nat} (hj : j < 15) : dfin (FP.dsub (powV q j) FP.dconst1) = true := by
  rw [dfin_bits]
  have h1 := h j hj
  have := FP.Core.dsub_mag (a := powV q j) (b := FP.dconst1) (K := 1200) h1 (by decide +kernel) (by decide)
  have e : FP.dsub (powV q j) FP.dconst1 = FP.Core.dsub (powV q j) FP.dconst1 := rfl
  rw [e]
  omega
theorem x1_rat (values : Nat → UInt64) (kinds : Nat → Int32) {g q : UInt64} {b : Int32} {c k : Nat} (hg : nn g = true) (h0 : 0 ≤ ky g) (hq : qOK q) (hc1 : 1 ≤ c) (hc : c < 16) (hk : k + 16 < 256) (fx : dfin (values k) = true) (fy : dfin (values (k + 1)) = true) :
    p_X1_makeByRatio values kinds g q b (nI c) (nI (k + 16)) = some (vf_upd values (k + 16) (ratV g q b c (values k) (values (k + 1))).1, upd kinds (k + 16) (ratV g q b c (values k) (values (k + 1))).2) := by
  unfold p_X1_makeByRatio ratV
  have hl := x1_pow (q := q) hc (fun j hj => dfin_nn (hq.fin hj)) (c - 1) 0 (300 - (c - 1) - 1) (nI k) (values (k + 1)) (by omega)
  rw [show 300 - (c - 1) - 1 + (c - 1) + 1 = 300 by omega] at hl
  have fp := hq.fin (j := c - 1) (by omega)
  have fd := hq.sub (j := c - 1) (by omega)
  have nd := dfin_nn fd
  have i0 : inb (nI k) 256 = true := inb_nI (by omega) (by decide)
  have i1 : inb (nI (k + 1)) 256 = true := inb_nI (by omega) (by decide)
  rw [nI_a16, nI_1 k, gD_t _ i1, nI_clamp (show k + 1 < 2 ^ 31 by omega), show p_X1_makeByRatio_L24 q (nI c) 300 (nI k) (values (k + 1)) q 1 = some (nI k, values (k + 1), powV q (c - 1)) from hl, Option.bind_some]
  dsimp only
  rw [dop_t nd, x1_small hg nd, Option.bind_some]
  by_cases s : smallV g (FP.dsub (powV q (c - 1)) FP.dconst1) = true
  · rw [if_pos s, if_pos s, if_neg (by decide), dop_t (dfin_nn (fin_add0 fy)), x1_pu _ _ _ _ hk]
    rfl
  · have nz := small_nz h0 nd s
    have nt := nn_sub (dfin_nn fy) fx
    have hq2 := nn_div2 nt nd nz (Or.inr fd)
    rw [if_neg s, if_neg s, if_pos rfl, gD_t _ i0, nI_clamp (show k < 2 ^ 31 by omega), dop_t nt, dop_t hq2, dop_t (nn_add' fy hq2), x1_pf _ _ _ hk]
    rfl
theorem x1_rests (kinds : Nat → Int32) {t c k : Nat} (ht : t < 4) (hc1 : 1 ≤ c) (hc : c < 16) (hk : k + 16 < 256) (hk1 : 2 ≤ c → 16 ≤ k) :
    p_X1_restsOnBroken kinds (nI t) (nI c) (nI k) = some (if brkV t c (kinds k) (kinds (k + 1)) (kinds (k + 2)) (kinds (k - 16 + 1)) = true then 1 else 0) := by
  unfold p_X1_restsOnBroken
  have i0 : inb (nI k) 256 = true := inb_nI (by omega) (by decide)
  have i1 : inb (nI (k + 1)) 256 = true := inb_nI (by omega) (by decide)
  have i2 : inb (nI (k + 2)) 256 = true := inb_nI (by omega) (by decide)
  rw [nI_1 k, show nI k + 2 = nI (k + 2) from nI_add k 2, gD_t _ i0, nI_clamp (show k < 2 ^ 31 by omega), nI_clamp (show k + 1 < 2 ^ 31 by omega), nI_clamp (show k + 2 < 2 ^ 31 by omega)]
  by_cases ka : 2 ≤ kinds k
  · rw [if_pos ka, if_pos (by simp [brkV, ka])]
  · rw [if_neg ka, gD_t _ i1]
    by_cases kb : kinds (k + 1) < 2
    · have kb' : ¬ 2 ≤ kinds (k + 1) := Int32.not_le.mpr kb
      rw [if_pos kb]
      by_cases t2 : t = 2
      · subst t2
        rw [if_pos (show nI 2 = 2 from rfl), gD_t _ i2]
        by_cases kc : kinds (k + 2) < 2
        · have kc' : ¬ 2 ≤ kinds (k + 2) := Int32.not_le.mpr kc
          rw [if_pos kc, if_neg (by simp [brkV, ka, kb', kc'])]
        · have kc' : 2 ≤ kinds (k + 2) := Int32.not_lt.mp kc
          rw [if_neg kc, if_pos (by simp [brkV, kc'])]
      · rw [if_neg (show ¬ nI t = 2 from fun h => t2 ((nI_eq (b := 2) (by omega) (by decide)).mp h))]
        by_cases t3 : t < 2
        · rw [if_neg (show ¬ 2 ≤ nI t from nI_ge (b := 2) t3 (by decide))]
          by_cases c2 : 2 ≤ c
          · have hk16 := hk1 c2
            rw [if_neg (show ¬ nI c < 2 from nI_nlt (b := 2) c2 (by omega)), nI_sub16 hk16, nI_1, gD_t _ (inb_nI (by omega) (by decide)), nI_clamp (show k - 16 + 1 < 2 ^ 31 by omega)]
            by_cases kp : kinds (k - 16 + 1) < 2
            · have kp' : ¬ 2 ≤ kinds (k - 16 + 1) := Int32.not_le.mpr kp
              rw [if_pos kp, if_neg (by simp [brkV, ka, kb', t2, kp'])]
            · have kp' : 2 ≤ kinds (k - 16 + 1) := Int32.not_lt.mp kp
              rw [if_neg kp, if_pos (by simp [brkV, t3, c2, kp'])]
          · rw [if_pos (show nI c < 2 from nI_lt (b := 2) (by omega) (by omega)), if_neg (by simp [brkV, ka, kb', t2, c2])]
        · rw [if_pos (show 2 ≤ nI t from nI_le (a := 2) (by omega) (by omega)), if_neg (by simp [brkV, ka, kb', t2, t3])]
    · have kb' : 2 ≤ kinds (k + 1) := Int32.not_lt.mp kb
      rw [if_neg kb, if_pos (by simp [brkV, kb'])]
/-- the class makes the entry (c, n): k = 16 * (c - 1) + n is the place of the first entry of which it is made -/
theorem x1_entry (values : Nat → UInt64) (kinds : Nat → Int32) {g q : UInt64} {b : Int32} {t c n k : Nat} (hg : nn g = true) (h0 : 0 ≤ ky g) (hq : qOK q) (ht : t < 4) (hc1 : 1 ≤ c) (hc : c < 16) (hkn : 16 * c + n = k + 16) (hk : k + 16 < 256)
    (fx : ¬ 2 ≤ kinds k → dfin (values k) = true) (fy : ¬ 2 ≤ kinds (k + 1) → dfin (values (k + 1)) = true) (fz : t = 2 → ¬ 2 ≤ kinds (k + 2) → dfin (values (k + 2)) = true) (fp : t < 2 → 2 ≤ c → ¬ 2 ≤ kinds (k - 16 + 1) → dfin (values (k - 16 + 1)) = true) (S : UInt64 × Int32)
    (hS : S = stepV g q b t c (values k, kinds k) (values (k + 1), kinds (k + 1)) (values (k + 2), kinds (k + 2)) (values (k - 16 + 1), kinds (k - 16 + 1))) :
    p_X1_makeEntry values kinds (nI t) g q b (nI c) (nI n) = some (vf_upd values (k + 16) S.1, upd kinds (k + 16) S.2) := by
  subst hS
  unfold p_X1_makeEntry stepV
  have hk1 : 2 ≤ c → 16 ≤ k := fun h => by omega
  rw [ixC, hkn, nI_a16, x1_rests kinds ht hc1 hc hk hk1, Option.bind_some]
  dsimp only
  by_cases br : brkV t c (kinds k) (kinds (k + 1)) (kinds (k + 2)) (kinds (k - 16 + 1)) = true
  · rw [if_pos br, if_pos br, if_neg (by decide), x1_put _ _ _ _ hk]
    rfl
  · rw [if_neg br, if_neg br, if_pos rfl]
    have ka : ¬ 2 ≤ kinds k := fun h => br (by simp [brkV, h])
    have kb : ¬ 2 ≤ kinds (k + 1) := fun h => br (by simp [brkV, h])
    by_cases t2 : t = 2
    · subst t2
      have kc : ¬ 2 ≤ kinds (k + 2) := fun h => br (by simp [brkV, h])
      rw [if_pos (show nI 2 = 2 from rfl), if_pos rfl, x1_tri values kinds hg h0 hk (fx ka) (fy kb) (fz rfl kc)]
      rfl
    · rw [if_neg (show ¬ nI t = 2 from fun h => t2 ((nI_eq (b := 2) (by omega) (by decide)).mp h)), if_neg t2]
      by_cases t3 : t = 3
      · subst t3
        rw [if_pos (show nI 3 = 3 from rfl), if_pos rfl, x1_rat values kinds hg h0 hq hc1 hc hk (fx ka) (fy kb)]
        rfl
      · have tl : t < 2 := by omega
        have kp : 2 ≤ c → ¬ 2 ≤ kinds (k - 16 + 1) := fun c2 h => br (by simp [brkV, tl, c2, h])
        rw [if_neg (show ¬ nI t = 3 from fun h => t3 ((nI_eq (b := 3) (by omega) (by decide)).mp h)), if_neg t3, x1_inv values kinds hg h0 tl hc1 hc hk hk1 (fx ka) (fy kb) (fun c2 => fp tl c2 (kp c2))]
        rfl
