/-! one entry: what the reference makes of the entries before it -/
theorem nI_s1 {c : Nat} (h : 1 ≤ c) : nI c - 1 = nI (c - 1) := pk_sub (b := 1) h
theorem nI_s2 {c : Nat} (h : 2 ≤ c) : nI c - 2 = nI (c - 2) := pk_sub (b := 2) h
theorem nI_a2 (n : Nat) : nI n + 2 = nI (n + 2) := nI_add n 2
theorem x9_br (kinds : Nat → Int32) {c n : Nat} (h : 16 * c + n < 256) : p_X9_isBroken kinds (nI c) (nI n) = some (if kinds (16 * c + n) < 2 then 0 else 1) := by
  unfold p_X9_isBroken
  rw [if_neg (nI_pos (by omega)), ixM, gD_t _ (inb_nI h (by decide)), nI_clamp (by omega)]
  split <;> rfl
theorem x9_brn (kinds : Nat → Int32) (m : Int32) : p_X9_isBroken kinds (-1) m = some 0 := by
  unfold p_X9_isBroken
  rw [if_pos (by decide)]
theorem x9_x (e : Nat → UInt64) {c n : Nat} (h : 16 * c + n < 256) : p_X9_x e (nI c) (nI n) = some (e (16 * c + n)) := by
  unfold p_X9_x
  rw [if_pos (nI_pos' (by omega)), ixM, gD_t _ (inb_nI h (by decide)), nI_clamp (by omega)]
theorem x9_xn (e : Nat → UInt64) (m : Int32) : p_X9_x e (-1) m = some FP.dconst0 := by
  unfold p_X9_x
  rw [if_neg (by decide)]
theorem c_one (c : Nat) (h1 : 1 ≤ c) (h2 : ¬ 2 ≤ c) : nI c - 2 = -1 := by
  have : c = 1 := by omega
  subst this
  rfl
theorem x9_has (kinds : Nat → Int32) {t c n k : Nat} (ht : t < 4) (hc1 : 1 ≤ c) (hc : c < 16) (hkn : 16 * c + n = k + 16) (hk : k + 16 < 256) :
    p_X9_hasBroken kinds (nI t) (nI c) (nI n) = some (if brkV t c (kinds k) (kinds (k + 1)) (kinds (k + 2)) (kinds (k - 16 + 1)) = true then 1 else 0) := by
  unfold p_X9_hasBroken
  rw [nI_s1 hc1, nI_1 n, nI_a2 n, x9_br kinds (c := c - 1) (n := n) (by omega), x9_br kinds (c := c - 1) (n := n + 1) (by omega), x9_br kinds (c := c - 1) (n := n + 2) (by omega), show 16 * (c - 1) + n = k by omega, show 16 * (c - 1) + (n + 1) = k + 1 by omega, show 16 * (c - 1) + (n + 2) = k + 2 by omega]
  rw [Option.bind_some]
  by_cases ka : kinds k < 2
  · have ka' : ¬ 2 ≤ kinds k := Int32.not_le.mpr ka
    rw [if_pos ka, if_pos rfl, Option.bind_some]
    by_cases kb : kinds (k + 1) < 2
    · have kb' : ¬ 2 ≤ kinds (k + 1) := Int32.not_le.mpr kb
      rw [if_pos kb, if_pos rfl]
      by_cases t2 : t = 2
      · subst t2
        rw [if_pos (show nI 2 = 2 from rfl), Option.bind_some]
        by_cases kc : kinds (k + 2) < 2
        · have kc' : ¬ 2 ≤ kinds (k + 2) := Int32.not_le.mpr kc
          rw [if_pos kc, if_pos rfl, if_neg (by simp [brkV, ka', kb', kc'])]
        · have kc' : 2 ≤ kinds (k + 2) := Int32.not_lt.mp kc
          rw [if_neg kc, if_neg (by decide), if_pos (by simp [brkV, kc'])]
      · rw [if_neg (show ¬ nI t = 2 from fun h => t2 ((nI_eq (b := 2) (by omega) (by decide)).mp h))]
        by_cases t3 : t < 2
        · rw [if_neg (show ¬ 2 ≤ nI t from nI_ge (b := 2) t3 (by decide))]
          by_cases c2 : 2 ≤ c
          · rw [nI_s2 c2, x9_br kinds (c := c - 2) (n := n + 1) (by omega), show 16 * (c - 2) + (n + 1) = k - 16 + 1 by omega, Option.bind_some]
            by_cases kp : kinds (k - 16 + 1) < 2
            · have kp' : ¬ 2 ≤ kinds (k - 16 + 1) := Int32.not_le.mpr kp
              rw [if_pos kp, if_pos rfl, if_neg (by simp [brkV, ka', kb', t2, kp'])]
            · have kp' : 2 ≤ kinds (k - 16 + 1) := Int32.not_lt.mp kp
              rw [if_neg kp, if_neg (by decide), if_pos (by simp [brkV, t3, c2, kp'])]
          · rw [c_one c hc1 c2, x9_brn, Option.bind_some, if_pos rfl, if_neg (by simp [brkV, ka', kb', t2, c2])]
        · rw [if_pos (show 2 ≤ nI t from nI_le (a := 2) (by omega) (by omega)), if_neg (by simp [brkV, ka', kb', t2, t3])]
    · have kb' : 2 ≤ kinds (k + 1) := Int32.not_lt.mp kb
      rw [if_neg kb, if_neg (by decide), if_pos (by simp [brkV, kb'])]
  · have ka' : 2 ≤ kinds k := Int32.not_lt.mp ka
    rw [if_neg ka, if_neg (by decide), if_pos (by simp [brkV, ka'])]
theorem x9_pow (s : Nat → UInt64) {c : Nat} (hc : c < 16) (hq : ∀ j, j < 15 → nn (powV (s 35) j) = true) : ∀ (m i n : Nat), i + 1 + m = c → p_X9_divisor_L98 s (nI c) (n + m + 1) (powV (s 35) i) (nI (i + 1)) = some (powV (s 35) (c - 1)) := by
  intro m
  induction m with
  | zero =>
    intro i n h
    rw [p_X9_divisor_L98, if_pos (nI_le (by omega) (by omega)), show c - 1 = i by omega]
  | succ m ih =>
    intro i n h
    have hn : nn (FP.dmul (powV (s 35) i) (s 35)) = true := hq (i + 1) (by omega)
    rw [show n + (m + 1) + 1 = (n + m + 1) + 1 by omega, p_X9_divisor_L98, if_neg (nI_ge (by omega) (by omega)), show (35 : Int32).toNatClampNeg = 35 from rfl, dop_t hn, nI_1]
    exact ih (i + 1) n (by omega)
theorem x9_div2 (s e : Nat → UInt64) {t c n k : Nat} (ht : t < 2) (hc1 : 1 ≤ c) (hc : c < 16) (hkn : 16 * c + n = k + 16) (hk : k + 16 < 256) (fx : dfin (e k) = true) (fy : dfin (e (k + 1)) = true) :
    p_X9_divisor s e (nI t) (nI c) (nI n) = some (FP.dsub (e (k + 1)) (e k)) := by
  unfold p_X9_divisor
  rw [nI_s1 hc1, nI_1 n, x9_x e (c := c - 1) (n := n) (by omega), x9_x e (c := c - 1) (n := n + 1) (by omega), show 16 * (c - 1) + n = k by omega, show 16 * (c - 1) + (n + 1) = k + 1 by omega, Option.bind_some, Option.bind_some, dop_t (nn_sub (dfin_nn fy) fx), if_neg (show ¬ 2 ≤ nI t from nI_ge (b := 2) ht (by decide))]
theorem x9_div3 (s e : Nat → UInt64) {c n k : Nat} (hq : qOK (s 35)) (hc1 : 1 ≤ c) (hc : c < 16) (hkn : 16 * c + n = k + 16) (hk : k + 16 < 256) (fx : dfin (e k) = true) (fy : dfin (e (k + 1)) = true) :
    p_X9_divisor s e (nI 3) (nI c) (nI n) = some (FP.dsub (powV (s 35) (c - 1)) FP.dconst1) := by
  unfold p_X9_divisor
  have hl := x9_pow s hc (fun j hj => dfin_nn (hq.fin hj)) (c - 1) 0 (300 - (c - 1) - 1) (by omega)
  rw [show 300 - (c - 1) - 1 + (c - 1) + 1 = 300 by omega] at hl
  rw [nI_s1 hc1, nI_1 n, x9_x e (c := c - 1) (n := n) (by omega), x9_x e (c := c - 1) (n := n + 1) (by omega), show 16 * (c - 1) + n = k by omega, show 16 * (c - 1) + (n + 1) = k + 1 by omega, Option.bind_some, Option.bind_some, dop_t (nn_sub (dfin_nn fy) fx), if_pos (by decide), if_neg (by decide), show (35 : Int32).toNatClampNeg = 35 from rfl, show p_X9_divisor_L98 s (nI c) 300 (s 35) 1 = some (powV (s 35) (c - 1)) from hl, Option.bind_some, dop_t (dfin_nn (hq.sub (by omega)))]
def nanC : UInt64 := 9221120237041090560
theorem nanC_nn : ¬ nn nanC = true := by decide +kernel
theorem nanC_fin : ¬ dfin nanC = true := by decide +kernel
def tdV (a bb : UInt64) : UInt64 := if ¬ dfin a = true ∧ ky a = ky bb then nanC else FP.dsub bb a
theorem x9_div1 (s e : Nat → UInt64) {c n k : Nat} (hc1 : 1 ≤ c) (hc : c < 16) (hkn : 16 * c + n = k + 16) (hk : k + 16 < 256) (fx : dfin (e k) = true) (fy : dfin (e (k + 1)) = true) (fz : dfin (e (k + 2)) = true) :
    p_X9_divisor s e (nI 2) (nI c) (nI n) = some (tdV (FP.dsub (e (k + 1)) (e k)) (FP.dsub (e (k + 2)) (e (k + 1)))) := by
  unfold p_X9_divisor tdV
  have nna := nn_sub (dfin_nn fy) fx
  have nnb := nn_sub (dfin_nn fz) fy
  rw [nI_s1 hc1, nI_1 n, nI_a2 n, x9_x e (c := c - 1) (n := n) (by omega), x9_x e (c := c - 1) (n := n + 1) (by omega), x9_x e (c := c - 1) (n := n + 2) (by omega), show 16 * (c - 1) + n = k by omega, show 16 * (c - 1) + (n + 1) = k + 1 by omega, show 16 * (c - 1) + (n + 2) = k + 2 by omega, Option.bind_some, Option.bind_some, dop_t nna, if_pos (by decide), if_pos (by decide), Option.bind_some, Option.bind_some, dop_t nnb, x9_fin, Option.bind_some]
  by_cases fa : dfin (FP.dsub (e (k + 1)) (e k)) = true
  · rw [if_pos fa, if_neg (by decide), dop_t (nn_sub nnb fa), if_neg (fun h => h.1 fa)]
  · rw [if_neg fa, if_pos rfl]
    by_cases q : ky (FP.dsub (e (k + 1)) (e k)) = ky (FP.dsub (e (k + 2)) (e (k + 1)))
    · rw [if_pos ((fc_eq nnb nna .l).mpr q.symm), if_pos ⟨fa, q⟩]
      rfl
    · rw [if_neg (fun h => q ((fc_eq nnb nna .l).mp h).symm), dop_t (nn_sub2 nnb nna q), if_neg (fun h => q h.2)]
/-- one place of both rows is written -/
def putOK (e : Nat → UInt64) (k : Nat → Int32) (e' : Nat → UInt64) (k' : Nat → Int32) (i : Nat) (S : UInt64 × Int32) : Prop := e' i = S.1 ∧ k' i = S.2 ∧ ∀ j, j ≠ i → e' j = e j ∧ k' j = k j
theorem put_2 (e : Nat → UInt64) (k : Nat → Int32) (i : Nat) : putOK e k (vf_upd e i FP.dconst0) (upd (upd k i 3) i 2) i (FP.dconst0, 2) := by
  refine ⟨by simp [vf_upd], by simp [upd], fun j hj => ⟨by simp [vf_upd, hj], by simp [upd, hj]⟩⟩
theorem put_3 (e : Nat → UInt64) (k : Nat → Int32) (i : Nat) : putOK e k (vf_upd e i FP.dconst0) (upd k i 3) i (FP.dconst0, 3) := by
  refine ⟨by simp [vf_upd], by simp [upd], fun j hj => ⟨by simp [vf_upd, hj], by simp [upd, hj]⟩⟩
theorem put_v (e : Nat → UInt64) (k : Nat → Int32) (i : Nat) (v : UInt64) (kd : Int32) : putOK e k (vf_upd (vf_upd e i FP.dconst0) i v) (upd (upd (upd k i 3) i 2) i kd) i (v, kd) := by
  refine ⟨by simp [vf_upd], by simp [upd], fun j hj => ⟨by simp [vf_upd, hj], by simp [upd, hj]⟩⟩
def finT (e0 : Nat → UInt64) (k3 : Nat → Int32) (t p1 p2 AT : Int32) (i : Nat) (Q : UInt64) (kd : Int32) : Option ((Nat → UInt64) × (Nat → Int32)) :=
  (p_X9_isFinite Q).bind fun x10 => (if x10 = 0 then (p_X9_isFinite (9221120237041090560 : UInt64)).bind fun x12 => (if x12 = 0 then some (e0, (upd k3 i (2 : Int32))) else gD (inb AT 256) (gD (inb AT 256) (some ((vf_upd e0 i (9221120237041090560 : UInt64)), (upd (upd k3 i (2 : Int32)) i kd))))) else (p_X9_made e0 t p1 p2 Q).bind fun x16 => (p_X9_isFinite x16).bind fun x17 => (if x17 = 0 then some (e0, (upd k3 i (2 : Int32))) else gD (inb AT 256) (gD (inb AT 256) (some ((vf_upd e0 i x16), (upd (upd k3 i (2 : Int32)) i kd))))))
def finV (Q mv : UInt64) (kd : Int32) : UInt64 × Int32 := if dfin Q = true ∧ dfin mv = true then (mv, kd) else (FP.dconst0, 2)
theorem finT_eq (e : Nat → UInt64) (k : Nat → Int32) {i : Nat} (hi : i < 256) (t p1 p2 : Int32) (Q mv : UInt64) (kd : Int32) (hm : dfin Q = true → p_X9_made (vf_upd e i FP.dconst0) t p1 p2 Q = some mv) :
    ∃ e' k', finT (vf_upd e i FP.dconst0) (upd k i 3) t p1 p2 (nI i) i Q kd = some (e', k') ∧ putOK e k e' k' i (finV Q mv kd) := by
  unfold finT finV
  rw [x9_fin, Option.bind_some]
  by_cases f : dfin Q = true
  · rw [if_pos f, if_neg (by decide), hm f, Option.bind_some, x9_fin, Option.bind_some]
    by_cases f2 : dfin mv = true
    · rw [if_pos f2, if_neg (by decide), gD_t _ (inb_nI hi (by decide)), gD_t _ (inb_nI hi (by decide)), if_pos ⟨f, f2⟩]
      exact ⟨_, _, rfl, put_v e k i mv kd⟩
    · rw [if_neg f2, if_pos rfl, if_neg (fun h => f2 h.2)]
      exact ⟨_, _, rfl, put_2 e k i⟩
  · rw [if_neg f, if_pos rfl, x9_fin, Option.bind_some, if_neg (show ¬ dfin 9221120237041090560 = true from nanC_fin), if_pos rfl, if_neg (fun h => f h.1)]
    exact ⟨_, _, rfl, put_2 e k i⟩
theorem x9_made2 (e : Nat → UInt64) {t c n k : Nat} {Q : UInt64} (ht : t < 2) (hc1 : 1 ≤ c) (hc : c < 16) (hkn : 16 * c + n = k + 16) (hk : k + 16 < 256) (fp : 2 ≤ c → dfin (e (k - 16 + 1)) = true) (fq : dfin Q = true) :
    p_X9_made e (nI t) (nI c) (nI n) Q = some (FP.dadd (if 2 ≤ c then e (k - 16 + 1) else FP.dconst0) Q) := by
  unfold p_X9_made
  rw [if_neg (show ¬ nI t = 2 from fun h => absurd ((nI_eq (b := 2) (by omega) (by decide)).mp h) (by omega)), if_neg (show ¬ nI t = 3 from fun h => absurd ((nI_eq (b := 3) (by omega) (by decide)).mp h) (by omega)), nI_1 n]
  by_cases c2 : 2 ≤ c
  · rw [nI_s2 c2, x9_x e (c := c - 2) (n := n + 1) (by omega), show 16 * (c - 2) + (n + 1) = k - 16 + 1 by omega, Option.bind_some, if_pos c2, dop_t (nn_add (dfin_nn (fp c2)) fq)]
  · rw [c_one c hc1 c2, x9_xn, Option.bind_some, if_neg c2, dop_t (nn_add (dfin_nn zero_fin) fq)]
theorem x9_made1 (e : Nat → UInt64) {c n k : Nat} {Q : UInt64} (hc1 : 1 ≤ c) (hc : c < 16) (hkn : 16 * c + n = k + 16) (hk : k + 16 < 256) (fx : dfin (e k) = true) (fq : dfin Q = true) :
    p_X9_made e (nI 2) (nI c) (nI n) Q = some (FP.dsub (e k) Q) := by
  unfold p_X9_made
  rw [if_pos (by decide), nI_s1 hc1, x9_x e (c := c - 1) (n := n) (by omega), show 16 * (c - 1) + n = k by omega, Option.bind_some, dop_t (nn_sub (dfin_nn fx) fq)]
theorem x9_made3 (e : Nat → UInt64) {c n k : Nat} {Q : UInt64} (hc1 : 1 ≤ c) (hc : c < 16) (hkn : 16 * c + n = k + 16) (hk : k + 16 < 256) (fy : dfin (e (k + 1)) = true) (fq : dfin Q = true) :
    p_X9_made e (nI 3) (nI c) (nI n) Q = some (FP.dadd (e (k + 1)) Q) := by
  unfold p_X9_made
  rw [if_neg (by decide), if_pos (by decide), nI_s1 hc1, nI_1 n, x9_x e (c := c - 1) (n := n + 1) (by omega), show 16 * (c - 1) + (n + 1) = k + 1 by omega, Option.bind_some, dop_t (nn_add (dfin_nn fy) fq)]
theorem x9_quo2 (e : Nat → UInt64) {t c n : Nat} {d : UInt64} (ht : t < 2) (hc1 : 1 ≤ c) (hc : c < 16) (nd : nn d = true) (nz : d.toNat % 2 ^ 63 ≠ 0) :
    p_X9_quotient e (nI t) (nI c) (nI n) d = some (FP.ddiv (if t = 0 then FP.dconst1 else FP.i2d (nI c)) d) := by
  unfold p_X9_quotient
  obtain ⟨ic, inz⟩ := i2d_ok c (by omega) hc1
  rw [if_neg (show ¬ 2 ≤ nI t from nI_ge (b := 2) ht (by decide))]
  by_cases t0 : t = 0
  · subst t0
    rw [if_pos (show nI 0 = 0 from rfl), dop_t (nn_div2 (dfin_nn one_fin) nd nz (Or.inl one_fin)), if_pos rfl]
  · rw [if_neg (nI_ne0 (by omega) (by omega)), dop_t (nn_div2 (dfin_nn ic) nd nz (Or.inl ic)), if_neg t0]
theorem x9_quo1 (e : Nat → UInt64) {c n k : Nat} {d : UInt64} (hc1 : 1 ≤ c) (hc : c < 16) (hkn : 16 * c + n = k + 16) (hk : k + 16 < 256) (fx : dfin (e k) = true) (fy : dfin (e (k + 1)) = true) (nd : nn d = true) (nz : d.toNat % 2 ^ 63 ≠ 0) :
    p_X9_quotient e (nI 2) (nI c) (nI n) d = some (if ¬ dfin (FP.dmul (FP.dsub (e (k + 1)) (e k)) (FP.dsub (e (k + 1)) (e k))) = true ∧ ¬ dfin d = true then nanC else FP.ddiv (FP.dmul (FP.dsub (e (k + 1)) (e k)) (FP.dsub (e (k + 1)) (e k))) d) := by
  unfold p_X9_quotient
  have nna := nn_sub (dfin_nn fy) fx
  have nns := nn_sq nna
  rw [if_pos (by decide), nI_s1 hc1, nI_1 n, x9_x e (c := c - 1) (n := n) (by omega), x9_x e (c := c - 1) (n := n + 1) (by omega), show 16 * (c - 1) + n = k by omega, show 16 * (c - 1) + (n + 1) = k + 1 by omega, Option.bind_some, Option.bind_some, dop_t nna, if_pos (by decide), dop_t nns, x9_fin, Option.bind_some]
  by_cases f1 : dfin (FP.dmul (FP.dsub (e (k + 1)) (e k)) (FP.dsub (e (k + 1)) (e k))) = true
  · rw [if_pos f1, if_neg (by decide), dop_t (nn_div2 nns nd nz (Or.inl f1)), if_neg (fun h => h.1 f1)]
  · rw [if_neg f1, if_pos rfl, x9_fin, Option.bind_some]
    by_cases f2 : dfin d = true
    · rw [if_pos f2, if_neg (by decide), dop_t (nn_div2 nns nd nz (Or.inr f2)), if_neg (fun h => h.2 f2)]
    · rw [if_neg f2, if_pos rfl, if_pos ⟨f1, f2⟩]
      rfl
theorem x9_quo3 (e : Nat → UInt64) {c n k : Nat} {d : UInt64} (hc1 : 1 ≤ c) (hc : c < 16) (hkn : 16 * c + n = k + 16) (hk : k + 16 < 256) (fx : dfin (e k) = true) (fy : dfin (e (k + 1)) = true) (fd : dfin d = true) (nz : d.toNat % 2 ^ 63 ≠ 0) :
    p_X9_quotient e (nI 3) (nI c) (nI n) d = some (FP.ddiv (FP.dsub (e (k + 1)) (e k)) d) := by
  unfold p_X9_quotient
  have nna := nn_sub (dfin_nn fy) fx
  have nd := dfin_nn fd
  rw [if_pos (by decide), nI_s1 hc1, nI_1 n, x9_x e (c := c - 1) (n := n) (by omega), x9_x e (c := c - 1) (n := n + 1) (by omega), show 16 * (c - 1) + n = k by omega, show 16 * (c - 1) + (n + 1) = k + 1 by omega, Option.bind_some, Option.bind_some, dop_t nna, if_neg (by decide), x9_fin, Option.bind_some]
  by_cases f1 : dfin (FP.dsub (e (k + 1)) (e k)) = true
  · rw [if_pos f1, if_neg (by decide), dop_t (nn_div2 nna nd nz (Or.inl f1))]
  · rw [if_neg f1, if_pos rfl, x9_fin, Option.bind_some, if_pos fd, if_neg (by decide), dop_t (nn_div2 nna nd nz (Or.inr fd))]
/-- what is infinite stays so, added to a finite number or taken away from one -/
theorem ninf_add {a x : UInt64} (ha : dfin a = true) (hx : ¬ dfin x = true) : ¬ dfin (FP.dadd a x) = true := by
  intro h
  obtain ⟨s, c, q, e1⟩ := (dfin_iff a).mp ha
  obtain ⟨s2, c2, q2, e2⟩ := (dfin_iff _).mp h
  rw [show FP.dadd a x = FP.Core.dadd a x from rfl, FP.Core.val64_dadd, e1] at e2
  cases hv : FP.Core.val64 x with
  | nan => rw [hv] at e2; cases e2
  | inf s3 => rw [hv] at e2; cases e2
  | fin s3 c3 q3 => exact hx ((dfin_iff x).mpr ⟨s3, c3, q3, hv⟩)
theorem ninf_sub {a x : UInt64} (ha : dfin a = true) (hx : ¬ dfin x = true) : ¬ dfin (FP.dsub a x) = true := by
  intro h
  obtain ⟨s, c, q, e1⟩ := (dfin_iff a).mp ha
  obtain ⟨s2, c2, q2, e2⟩ := (dfin_iff _).mp h
  rw [show FP.dsub a x = FP.Core.dsub a x from rfl, FP.Core.val64_dsub, e1] at e2
  cases hv : FP.Core.val64 x with
  | nan => rw [hv] at e2; cases e2
  | inf s3 => rw [hv] at e2; cases e2
  | fin s3 c3 q3 => exact hx ((dfin_iff x).mpr ⟨s3, c3, q3, hv⟩)
theorem finV_add {a Q : UInt64} (ha : dfin a = true) : finV Q (FP.dadd a Q) 0 = pfV (FP.dadd a Q) := by
  unfold finV pfV
  by_cases f : dfin Q = true
  · by_cases f2 : dfin (FP.dadd a Q) = true
    · rw [if_pos ⟨f, f2⟩, if_pos f2]
    · rw [if_neg (fun h => f2 h.2), if_neg f2]
  · rw [if_neg (fun h => f h.1), if_neg (ninf_add ha f)]
theorem finV_sub {a Q : UInt64} (ha : dfin a = true) : finV Q (FP.dsub a Q) 0 = pfV (FP.dsub a Q) := by
  unfold finV pfV
  by_cases f : dfin Q = true
  · by_cases f2 : dfin (FP.dsub a Q) = true
    · rw [if_pos ⟨f, f2⟩, if_pos f2]
    · rw [if_neg (fun h => f2 h.2), if_neg f2]
  · rw [if_neg (fun h => f h.1), if_neg (ninf_sub ha f)]
theorem finV_0 {v : UInt64} (h : dfin v = true) : finV FP.dconst0 v 1 = (v, 1) := if_pos ⟨zero_fin, h⟩
theorem smallP (s e : Nat → UInt64) (k : Nat → Int32) {b : Int32} {i : Nat} (hi : i < 256) (hb : (s 37 = FP.dconst0 ∧ b = 0) ∨ (s 37 = FP.dconst1 ∧ b = 1)) (t p1 p2 : Int32) (mv : UInt64) (fm : dfin mv = true) (hm : p_X9_made (vf_upd e i FP.dconst0) t p1 p2 FP.dconst0 = some mv) :
    ∃ e' k', (if (Op.cmpValue (FP.dcmp (s 37) FP.dconst0) CmpOp.l) = 0 then some ((vf_upd e i FP.dconst0), (upd (upd k i (3 : Int32)) i (2 : Int32))) else finT (vf_upd e i FP.dconst0) (upd k i 3) t p1 p2 (nI i) i FP.dconst0 1) = some (e', k') ∧ putOK e k e' k' i (puV b mv) := by
  rcases hb with ⟨h1, rfl⟩ | ⟨h1, rfl⟩
  · rw [h1, if_pos (by decide +kernel)]
    exact ⟨_, _, rfl, put_2 e k i⟩
  · rw [h1, if_neg (by decide +kernel)]
    obtain ⟨e', k', q1, q2⟩ := finT_eq e k hi t p1 p2 FP.dconst0 mv 1 (fun _ => hm)
    refine ⟨e', k', q1, ?_⟩
    rw [finV_0 fm] at q2
    exact q2
/-- the reference makes the entry (c, n) -/
theorem x9_makes (s entries : Nat → UInt64) (kinds : Nat → Int32) {g q : UInt64} {b : Int32} {t c n k : Nat} (hsg : s 34 = g) (hsq : s 35 = q) (hb : (s 37 = FP.dconst0 ∧ b = 0) ∨ (s 37 = FP.dconst1 ∧ b = 1)) (hg : nn g = true) (h0 : 0 ≤ ky g) (hq : qOK q) (ht : t < 4) (hc1 : 1 ≤ c) (hc : c < 16) (hkn : 16 * c + n = k + 16) (hk : k + 16 < 256)
    (fx : ¬ 2 ≤ kinds k → dfin (entries k) = true) (fy : ¬ 2 ≤ kinds (k + 1) → dfin (entries (k + 1)) = true) (fz : t = 2 → ¬ 2 ≤ kinds (k + 2) → dfin (entries (k + 2)) = true) (fp : t < 2 → 2 ≤ c → ¬ 2 ≤ kinds (k - 16 + 1) → dfin (entries (k - 16 + 1)) = true) (S : UInt64 × Int32)
    (hS : S = stepV g q b t c (entries k, kinds k) (entries (k + 1), kinds (k + 1)) (entries (k + 2), kinds (k + 2)) (entries (k - 16 + 1), kinds (k - 16 + 1))) :
    ∃ e' k', p_X9_makes s entries kinds (nI t) (nI c) (nI n) = some (e', k') ∧ putOK entries kinds e' k' (k + 16) S := by
  subst hsg hsq hS
  unfold p_X9_makes stepV
  have i9 : inb (nI (k + 16)) 256 = true := inb_nI hk (by decide)
  have u0 : upd kinds (k + 16) 3 k = kinds k := by simp [upd]
  have u1 : upd kinds (k + 16) 3 (k + 1) = kinds (k + 1) := by simp [upd]
  have u2 : upd kinds (k + 16) 3 (k + 2) = kinds (k + 2) := by simp [upd]
  have up : upd kinds (k + 16) 3 (k - 16 + 1) = kinds (k - 16 + 1) := by
    unfold upd
    rw [if_neg (by omega)]
  have v0 : vf_upd entries (k + 16) FP.dconst0 k = entries k := by simp [vf_upd]
  have v1 : vf_upd entries (k + 16) FP.dconst0 (k + 1) = entries (k + 1) := by simp [vf_upd]
  have v2 : vf_upd entries (k + 16) FP.dconst0 (k + 2) = entries (k + 2) := by simp [vf_upd]
  have vp : vf_upd entries (k + 16) FP.dconst0 (k - 16 + 1) = entries (k - 16 + 1) := by
    unfold vf_upd
    rw [if_neg (by omega)]
  rw [ixM, hkn, gD_t _ i9, gD_t _ i9, nI_clamp (show k + 16 < 2 ^ 31 by omega), x9_has _ ht hc1 hc hkn hk, Option.bind_some, u0, u1, u2, up, show (34 : Int32).toNatClampNeg = 34 from rfl, show (37 : Int32).toNatClampNeg = 37 from rfl]
  dsimp only
  by_cases br : brkV t c (kinds k) (kinds (k + 1)) (kinds (k + 2)) (kinds (k - 16 + 1)) = true
  · rw [if_pos br, if_pos br, if_neg (by decide)]
    exact ⟨_, _, rfl, put_3 entries kinds _⟩
  · rw [if_neg br, if_neg br, if_pos rfl]
    have ka : ¬ 2 ≤ kinds k := fun h => br (by simp [brkV, h])
    have kb : ¬ 2 ≤ kinds (k + 1) := fun h => br (by simp [brkV, h])
    have fx := fx ka
    have fy := fy kb
    have gx : dfin (vf_upd entries (k + 16) FP.dconst0 k) = true := by rw [v0]; exact fx
    have gy : dfin (vf_upd entries (k + 16) FP.dconst0 (k + 1)) = true := by rw [v1]; exact fy
    by_cases t2 : t = 2
    · subst t2
      have kc : ¬ 2 ≤ kinds (k + 2) := fun h => br (by simp [brkV, h])
      have fz := fz rfl kc
      have gz : dfin (vf_upd entries (k + 16) FP.dconst0 (k + 2)) = true := by rw [v2]; exact fz
      have nna := nn_sub (dfin_nn fy) fx
      have nnb := nn_sub (dfin_nn fz) fy
      rw [if_pos rfl, x9_div1 s _ hc1 hc hkn hk gx gy gz, v0, v1, v2, Option.bind_some, x9_size, Option.bind_some]
      by_cases sp : ¬ dfin (FP.dsub (entries (k + 1)) (entries k)) = true ∧ ky (FP.dsub (entries (k + 1)) (entries k)) = ky (FP.dsub (entries (k + 2)) (entries (k + 1)))
      · rw [show tdV (FP.dsub (entries (k + 1)) (entries k)) (FP.dsub (entries (k + 2)) (entries (k + 1))) = nanC from if_pos sp, show triV (s 34) b (entries k) (entries (k + 1)) (entries (k + 2)) = puV b (FP.dsub (entries k) FP.dconst0) from if_pos sp, sz_nan nanC_nn, fc_nl (Or.inl nanC_nn), if_neg (by decide), gD_t _ i9]
        exact smallP s entries kinds hk hb _ _ _ _ (fin_sub0 fx) (by rw [x9_made1 _ hc1 hc hkn hk gx zero_fin, v0])
      · have nd : nn (FP.dsub (FP.dsub (entries (k + 2)) (entries (k + 1))) (FP.dsub (entries (k + 1)) (entries k))) = true := by
          by_cases fa : dfin (FP.dsub (entries (k + 1)) (entries k)) = true
          · exact nn_sub nnb fa
          · exact nn_sub2 nnb nna (fun h => sp ⟨fa, h⟩)
        rw [show tdV (FP.dsub (entries (k + 1)) (entries k)) (FP.dsub (entries (k + 2)) (entries (k + 1))) = FP.dsub (FP.dsub (entries (k + 2)) (entries (k + 1))) (FP.dsub (entries (k + 1)) (entries k)) from if_neg sp, show triV (s 34) b (entries k) (entries (k + 1)) (entries (k + 2)) = triW (s 34) b (entries k) (FP.dsub (entries (k + 1)) (entries k)) (FP.dsub (entries (k + 2)) (entries (k + 1))) from if_neg sp]
        by_cases sm : smallV (s 34) (FP.dsub (FP.dsub (entries (k + 2)) (entries (k + 1))) (FP.dsub (entries (k + 1)) (entries k))) = true
        · rw [show triW (s 34) b (entries k) (FP.dsub (entries (k + 1)) (entries k)) (FP.dsub (entries (k + 2)) (entries (k + 1))) = puV b (FP.dsub (entries k) FP.dconst0) from if_pos sm, if_neg (fun h => by
            have := (fc_gt (sz_nn nd) hg .l).mp h
            unfold smallV at sm
            rw [decide_eq_true this] at sm
            cases sm), gD_t _ i9]
          exact smallP s entries kinds hk hb _ _ _ _ (fin_sub0 fx) (by rw [x9_made1 _ hc1 hc hkn hk gx zero_fin, v0])
        · have nz := small_nz h0 nd sm
          rw [if_pos ((fc_gt (sz_nn nd) hg .l).mpr (small_lt sm)), gD_t _ i9, x9_quo1 _ hc1 hc hkn hk gx gy nd nz, v0, v1, Option.bind_some]
          by_cases both : ¬ dfin (FP.dmul (FP.dsub (entries (k + 1)) (entries k)) (FP.dsub (entries (k + 1)) (entries k))) = true ∧ ¬ dfin (FP.dsub (FP.dsub (entries (k + 2)) (entries (k + 1))) (FP.dsub (entries (k + 1)) (entries k))) = true
          · obtain ⟨e', k', q1, q2⟩ := finT_eq entries kinds hk (nI 2) (nI c) (nI n) nanC 0 0 (fun h => absurd h nanC_fin)
            rw [if_pos both]
            refine ⟨e', k', q1, ?_⟩
            unfold triW
            rw [if_neg sm, if_pos both]
            rw [show finV nanC 0 0 = (FP.dconst0, 2) from if_neg (fun h => nanC_fin h.1)] at q2
            exact q2
          · rw [if_neg both]
            obtain ⟨e', k', q1, q2⟩ := finT_eq entries kinds hk (nI 2) (nI c) (nI n) (FP.ddiv (FP.dmul (FP.dsub (entries (k + 1)) (entries k)) (FP.dsub (entries (k + 1)) (entries k))) (FP.dsub (FP.dsub (entries (k + 2)) (entries (k + 1))) (FP.dsub (entries (k + 1)) (entries k)))) _ 0 (fun h => by rw [x9_made1 _ hc1 hc hkn hk gx h, v0])
            refine ⟨e', k', q1, ?_⟩
            unfold triW
            rw [if_neg sm, if_neg both]
            rw [finV_sub fx] at q2
            exact q2
    · rw [if_neg t2]
      by_cases t3 : t = 3
      · subst t3
        have fd := hq.sub (j := c - 1) (by omega)
        have nd := dfin_nn fd
        rw [if_pos rfl, x9_div3 s _ hq hc1 hc hkn hk gx gy, Option.bind_some, x9_size, Option.bind_some]
        by_cases sm : smallV (s 34) (FP.dsub (powV (s 35) (c - 1)) FP.dconst1) = true
        · rw [show ratV (s 34) (s 35) b c (entries k) (entries (k + 1)) = puV b (FP.dadd (entries (k + 1)) FP.dconst0) from if_pos sm, if_neg (fun h => by
            have := (fc_gt (sz_nn nd) hg .l).mp h
            unfold smallV at sm
            rw [decide_eq_true this] at sm
            cases sm), gD_t _ i9]
          exact smallP s entries kinds hk hb _ _ _ _ (fin_add0 fy) (by rw [x9_made3 _ hc1 hc hkn hk gy zero_fin, v1])
        · have nz := small_nz h0 nd sm
          rw [if_pos ((fc_gt (sz_nn nd) hg .l).mpr (small_lt sm)), gD_t _ i9, x9_quo3 _ hc1 hc hkn hk gx gy fd nz, v0, v1, Option.bind_some]
          obtain ⟨e', k', q1, q2⟩ := finT_eq entries kinds hk (nI 3) (nI c) (nI n) (FP.ddiv (FP.dsub (entries (k + 1)) (entries k)) (FP.dsub (powV (s 35) (c - 1)) FP.dconst1)) _ 0 (fun h => by rw [x9_made3 _ hc1 hc hkn hk gy h, v1])
          refine ⟨e', k', q1, ?_⟩
          unfold ratV
          rw [if_neg sm]
          rw [finV_add fy] at q2
          exact q2
      · have tl : t < 2 := by omega
        have kp : 2 ≤ c → ¬ 2 ≤ kinds (k - 16 + 1) := fun c2 h => br (by simp [brkV, tl, c2, h])
        have gp : 2 ≤ c → dfin (vf_upd entries (k + 16) FP.dconst0 (k - 16 + 1)) = true := fun c2 => by rw [vp]; exact fp tl c2 (kp c2)
        have fb : dfin (if 2 ≤ c then entries (k - 16 + 1) else FP.dconst0) = true := by
          by_cases c2 : 2 ≤ c
          · rw [if_pos c2]; exact fp tl c2 (kp c2)
          · rw [if_neg c2]; exact zero_fin
        have nd := nn_sub (dfin_nn fy) fx
        rw [if_neg t3, x9_div2 s _ tl hc1 hc hkn hk gx gy, v0, v1, Option.bind_some, x9_size, Option.bind_some]
        by_cases sm : smallV (s 34) (FP.dsub (entries (k + 1)) (entries k)) = true
        · rw [show invV (s 34) b t c (entries k) (entries (k + 1)) (if 2 ≤ c then entries (k - 16 + 1) else FP.dconst0) = puV b (FP.dadd (if 2 ≤ c then entries (k - 16 + 1) else FP.dconst0) FP.dconst0) from if_pos sm, if_neg (fun h => by
            have := (fc_gt (sz_nn nd) hg .l).mp h
            unfold smallV at sm
            rw [decide_eq_true this] at sm
            cases sm), gD_t _ i9]
          exact smallP s entries kinds hk hb _ _ _ _ (fin_add0 fb) (by rw [x9_made2 _ tl hc1 hc hkn hk gp zero_fin, vp])
        · have nz := small_nz h0 nd sm
          rw [if_pos ((fc_gt (sz_nn nd) hg .l).mpr (small_lt sm)), gD_t _ i9, x9_quo2 _ tl hc1 hc nd nz, Option.bind_some]
          obtain ⟨e', k', q1, q2⟩ := finT_eq entries kinds hk (nI t) (nI c) (nI n) (FP.ddiv (if t = 0 then FP.dconst1 else FP.i2d (nI c)) (FP.dsub (entries (k + 1)) (entries k))) _ 0 (fun h => by rw [x9_made2 _ tl hc1 hc hkn hk gp h, vp])
          refine ⟨e', k', q1, ?_⟩
          unfold invV
          rw [if_neg sm]
          rw [finV_add fb] at q2
          exact q2
