/-! series filled in -/
def powP (f : UInt64) : Nat → UInt64
  | 0 => FP.dconst1
  | n + 1 => FP.dmul (powP f n) f
theorem powP_m {f : UInt64} (h : fOK f) : ∀ n, n ≤ 16 → (powP f n).toNat % 2 ^ 63 < (1024 + n) * 2 ^ 52 := by
  intro n
  induction n with
  | zero => exact fun _ => show FP.dconst1.toNat % 2 ^ 63 < 1024 * 2 ^ 52 by decide
  | succ n ih =>
    intro hn
    have := FP.Core.dmul_mag (ih (by omega)) h (show 1024 + n ≤ 2047 by omega) (show 1023 ≤ 2047 by decide)
    rw [show 1024 + n + 1023 - 1025 + 3 = 1024 + (n + 1) by omega] at this
    exact this
theorem m_fin {v : UInt64} {K : Nat} (h : v.toNat % 2 ^ 63 < K * 2 ^ 52) (hK : K ≤ 2047) : dfin v = true := by
  rw [dfin_bits]
  have : K * 2 ^ 52 ≤ 2047 * 2 ^ 52 := Nat.mul_le_mul_right _ hK
  omega
theorem ser_c : ∀ i, i < 17 → 1 ≤ i → FP.dmul (FP.i2d (nI i)) (FP.i2d (nI i)) = FP.i2d (nI (i * i)) ∧ nn (FP.i2d (nI (i * i))) = true ∧ nn (FP.ddiv FP.dconst1 (FP.i2d (nI (i * i)))) = true ∧ (FP.ddiv FP.dconst1 (FP.i2d (nI (i * i)))).toNat % 2 ^ 63 < 1042 * 2 ^ 52 ∧ nn (FP.ddiv FP.dconst1 (FP.i2d (nI i))) = true ∧ (FP.ddiv FP.dconst1 (FP.i2d (nI i))).toNat % 2 ^ 63 < 1042 * 2 ^ 52 := by decide +kernel
theorem ser_d : ∀ i, i < 17 → 1 ≤ i → nn (FP.dmul 4611686018427387904 (FP.i2d (nI i))) = true ∧ FP.dsub (FP.dmul 4611686018427387904 (FP.i2d (nI i))) FP.dconst1 = FP.i2d (nI (2 * i) - 1) ∧ nn (FP.i2d (nI (2 * i) - 1)) = true ∧ nn (FP.ddiv FP.dconst1 (FP.i2d (nI (2 * i) - 1))) = true ∧ (FP.ddiv FP.dconst1 (FP.i2d (nI (2 * i) - 1))).toNat % 2 ^ 63 < 1042 * 2 ^ 52 := by decide +kernel
theorem ser_e : ∀ i, i < 17 → 1 ≤ i → 1023 * 2 ^ 52 ≤ (FP.i2d (nI i)).toNat % 2 ^ 63 ∧ (FP.i2d (nI i)).toNat % 2 ^ 63 < 2047 * 2 ^ 52 := by decide +kernel
theorem pow_l {s : Nat → UInt64} (hf : fOK (s 36)) {i : Nat} (hi : i ≤ 17) (hi1 : 1 ≤ i) : ∀ (d j f : Nat), j + d = i → 1 ≤ j → p_X9_term_L42 s (nI i) (f + d + 1) (powP (s 36) (j - 1)) (nI j) = some (powP (s 36) (i - 1)) := by
  intro d
  induction d with
  | zero =>
    intro j f h h1
    have : j = i := by omega
    subst this
    rw [p_X9_term_L42, if_pos (nI_le (by omega) (by omega))]
  | succ d ih =>
    intro j f h h1
    rw [show f + (d + 1) + 1 = (f + d + 1) + 1 by omega, p_X9_term_L42, if_neg (nI_ge (by omega) (by omega)), show (36 : Int32).toNatClampNeg = 36 from rfl, show FP.dmul (powP (s 36) (j - 1)) (s 36) = powP (s 36) (j - 1 + 1) from rfl, dop_t (dfin_nn (m_fin (powP_m hf (j - 1 + 1) (by omega)) (by omega))), nI_1, show j - 1 + 1 = j + 1 - 1 by omega]
    exact ih (j + 1) f (by omega) (by omega)
/-- the term of a series that both sides take -/
theorem term_ok {s : Nat → UInt64} (hf : fOK (s 36)) {kd i : Nat} (hk : kd < 5) (hi : i ≤ 16) (hi1 : 1 ≤ i) : ∃ v, p_X6_termOf (nI kd) (nI i) (powP (s 36) (i - 1)) = some v ∧ p_X9_term s (nI kd) (nI i) = some v ∧ v.toNat % 2 ^ 63 < 1042 * 2 ^ 52 := by
  obtain ⟨c1, c2, c3, c4, c5, c6⟩ := ser_c i (by omega) hi1
  obtain ⟨d1, d2, d3, d4, d5⟩ := ser_d i (by omega) hi1
  obtain ⟨e1, e2⟩ := ser_e i (by omega) hi1
  have hp := powP_m hf (i - 1) (by omega)
  have hp2 : (powP (s 36) (i - 1)).toNat % 2 ^ 63 < 1040 * 2 ^ 52 := Nat.lt_of_lt_of_le hp (Nat.mul_le_mul_right _ (by omega))
  have hpf := m_fin hp2 (by decide)
  have hl := pow_l hf (i := i) (by omega) hi1 (i - 1) 1 (299 - (i - 1)) (by omega) (by decide)
  rw [show 299 - (i - 1) + (i - 1) + 1 = 300 by omega] at hl
  have hl : p_X9_term_L42 s (nI i) 300 FP.dconst1 1 = some (powP (s 36) (i - 1)) := hl
  unfold p_X6_termOf p_X9_term
  rcases (show kd = 0 ∨ kd = 1 ∨ kd = 2 ∨ kd = 3 ∨ kd = 4 by omega) with rfl | rfl | rfl | rfl | rfl
  · rw [if_pos (show nI 0 = 0 from rfl), if_pos (show nI 0 = 0 from rfl), c1, dop_t c2, dop_t c3, pk_mul, dop_t c3]
    exact ⟨_, rfl, rfl, c4⟩
  · rw [if_neg n10, if_neg n10, if_pos (show nI 1 = 1 from rfl), if_neg (show ¬ (3 : Int32) ≤ nI 1 by decide), if_pos (show nI 1 = 1 from rfl), dop_t c5]
    exact ⟨_, rfl, rfl, c6⟩
  · rw [if_neg (show ¬ nI 2 = 0 by decide), if_neg (show ¬ nI 2 = 0 by decide), if_neg (show ¬ nI 2 = 1 by decide), if_pos (show nI 2 = 2 from rfl), if_neg (show ¬ (3 : Int32) ≤ nI 2 by decide), if_neg (show ¬ nI 2 = 1 by decide), dop_t d1, d2, dop_t d3, dop_t d4, show (2 : Int32) * nI i = nI (2 * i) from pk_mul 2 i, dop_t d4]
    exact ⟨_, rfl, rfl, d5⟩
  · rw [if_neg (show ¬ nI 3 = 0 by decide), if_neg (show ¬ nI 3 = 0 by decide), if_neg (show ¬ nI 3 = 1 by decide), if_neg (show ¬ nI 3 = 2 by decide), if_pos (show nI 3 = 3 from rfl), if_pos (show (3 : Int32) ≤ nI 3 by decide), hl, Option.bind_some, if_pos (show nI 3 = 3 from rfl)]
    exact ⟨_, rfl, rfl, Nat.lt_of_lt_of_le hp2 (by decide)⟩
  · have q1 := FP.Core.ddiv_mag hp2 e1 e2 (by decide) (by decide)
    have q2 : (FP.ddiv (powP (s 36) (i - 1)) (FP.i2d (nI i))).toNat % 2 ^ 63 < 1042 * 2 ^ 52 := Nat.lt_of_lt_of_le q1 (by decide)
    rw [if_neg (show ¬ nI 4 = 0 by decide), if_neg (show ¬ nI 4 = 0 by decide), if_neg (show ¬ nI 4 = 1 by decide), if_neg (show ¬ nI 4 = 2 by decide), if_neg (show ¬ nI 4 = 3 by decide), if_pos (show (3 : Int32) ≤ nI 4 by decide), hl, Option.bind_some, if_neg (show ¬ nI 4 = 3 by decide), dop_t (dfin_nn (m_fin q2 (by decide)))]
    exact ⟨_, rfl, rfl, q2⟩
theorem m_le {v : UInt64} {K L : Nat} (h : v.toNat % 2 ^ 63 < K * 2 ^ 52) (hK : K ≤ L) : v.toNat % 2 ^ 63 < L * 2 ^ 52 := Nat.lt_of_lt_of_le h (Nat.mul_le_mul_right _ hK)
theorem fill_l {s : Nat → UInt64} (hf : fOK (s 36)) {kd n : Nat} (hk : kd < 5) (hn : n ≤ 16) : ∀ (d i f f' : Nat) (acc : UInt64) (R : (Nat → UInt64) × Int32) (nx : Nat → UInt64), i + d = n → acc.toNat % 2 ^ 63 < (1042 + 2 * i) * 2 ^ 52 → R.2 = nI i → (∀ j, j < i → R.1 j = nx j ∧ dfin (nx j) = true) →
    ∃ R' nx', p_X6_fillSeries_L14 (nI kd) (nI n) (s 36) (f + d + 1) acc (powP (s 36) i) (nI (i + 1)) R = some R' ∧ p_X9_fill_L42 s (nI kd) (nI n) (f' + d + 1) acc (nI (i + 1)) nx (nI i) = some (nx', nI n) ∧ R'.2 = nI n ∧ ∀ j, j < n → R'.1 j = nx' j ∧ dfin (nx' j) = true := by
  intro d
  induction d with
  | zero =>
    intro i f f' acc R nx h ha hR hv
    have : i = n := by omega
    subst this
    exact ⟨R, nx, by rw [p_X6_fillSeries_L14, if_pos (nI_lt (by omega) (by omega))], by rw [p_X9_fill_L42, if_pos (nI_lt (by omega) (by omega))], hR, hv⟩
  | succ d ih =>
    intro i f f' acc R nx h ha hR hv
    obtain ⟨v, t1, t2, t3⟩ := term_ok hf hk (show i + 1 ≤ 16 by omega) (by omega)
    rw [show i + 1 - 1 = i by omega] at t1
    have t4 : v.toNat % 2 ^ 63 < (1042 + 2 * i) * 2 ^ 52 := m_le t3 (by omega)
    have pn : nn (FP.dmul (powP (s 36) i) (s 36)) = true := dfin_nn (m_fin (powP_m hf (i + 1) (by omega)) (by omega))
    have go : ∀ x : UInt64, x.toNat % 2 ^ 63 < (1042 + 2 * (i + 1)) * 2 ^ 52 → ∃ R' nx', p_X6_fillSeries_L14 (nI kd) (nI n) (s 36) (f + d + 1) x (FP.dmul (powP (s 36) i) (s 36)) (nI (i + 2)) (vf_upd R.1 i x, nI (i + 1)) = some R' ∧ p_X9_fill_L42 s (nI kd) (nI n) (f' + d + 1) x (nI (i + 2)) (vf_upd nx i x) (nI (i + 1)) = some (nx', nI n) ∧ R'.2 = nI n ∧ ∀ j, j < n → R'.1 j = nx' j ∧ dfin (nx' j) = true := by
      intro x hx
      refine ih (i + 1) f f' x (vf_upd R.1 i x, nI (i + 1)) (vf_upd nx i x) (by omega) hx rfl (fun j hj => ?_)
      by_cases e : j = i
      · rw [vu_s e]
        exact ⟨vu_s e, m_fin hx (by omega)⟩
      · rw [vu_n e]
        exact ⟨(vu_n e).trans (hv j (by omega)).1, (hv j (by omega)).2⟩
    have ma : (FP.dadd acc v).toNat % 2 ^ 63 < (1042 + 2 * (i + 1)) * 2 ^ 52 := m_le (FP.Core.dadd_mag ha t4 (by omega)) (by omega)
    have ms : (FP.dsub acc v).toNat % 2 ^ 63 < (1042 + 2 * (i + 1)) * 2 ^ 52 := m_le (FP.Core.dsub_mag ha t4 (by omega)) (by omega)
    have na := dfin_nn (m_fin ma (by omega))
    have ns := dfin_nn (m_fin ms (by omega))
    rw [show f + (d + 1) + 1 = (f + d + 1) + 1 by omega, show f' + (d + 1) + 1 = (f' + d + 1) + 1 by omega, p_X6_fillSeries_L14, p_X9_fill_L42, if_neg (nI_nlt (by omega) (by omega)), if_neg (nI_nlt (by omega) (by omega)), t1, t2, x9_in, Option.bind_some, Option.bind_some]
    rcases (show kd = 0 ∨ kd = 1 ∨ kd = 2 ∨ kd = 3 ∨ kd = 4 by omega) with rfl | rfl | rfl | rfl | rfl
    · rw [if_neg (show ¬ nI 0 = 1 by decide), if_neg (show ¬ nI 0 = 2 by decide), if_pos (show nI 0 < 1 by decide), if_pos rfl, Option.bind_some, dop_t na, dop_t na, x4_app hR (by omega), x9_lay1 nx (by omega), Option.bind_some, Option.bind_some, dop_t pn, nI_1]
      exact go _ ma
    · rw [if_pos (show nI 1 = 1 from rfl), if_neg (show ¬ nI 1 < 1 by decide), if_neg (show ¬ 2 < nI 1 by decide), if_neg one0]
      by_cases e : nI (i + 1) - nI (i + 1) / 2 * 2 = 0
      · rw [if_pos e, if_pos e, Option.bind_some, dop_t ns, dop_t ns, x4_app hR (by omega), x9_lay1 nx (by omega), Option.bind_some, Option.bind_some, dop_t pn, nI_1]
        exact go _ ms
      · rw [if_neg e, if_neg e, Option.bind_some, dop_t na, dop_t na, x4_app hR (by omega), x9_lay1 nx (by omega), Option.bind_some, Option.bind_some, dop_t pn, nI_1]
        exact go _ ma
    · rw [if_neg (show ¬ nI 2 = 1 by decide), if_pos (show nI 2 = 2 from rfl), if_neg (show ¬ nI 2 < 1 by decide), if_neg (show ¬ 2 < nI 2 by decide), if_neg one0]
      by_cases e : nI (i + 1) - nI (i + 1) / 2 * 2 = 0
      · rw [if_pos e, if_pos e, Option.bind_some, dop_t ns, dop_t ns, x4_app hR (by omega), x9_lay1 nx (by omega), Option.bind_some, Option.bind_some, dop_t pn, nI_1]
        exact go _ ms
      · rw [if_neg e, if_neg e, Option.bind_some, dop_t na, dop_t na, x4_app hR (by omega), x9_lay1 nx (by omega), Option.bind_some, Option.bind_some, dop_t pn, nI_1]
        exact go _ ma
    · rw [if_neg (show ¬ nI 3 = 1 by decide), if_neg (show ¬ nI 3 = 2 by decide), if_neg (show ¬ nI 3 < 1 by decide), if_pos (show 2 < nI 3 by decide), if_pos rfl, Option.bind_some, dop_t na, dop_t na, x4_app hR (by omega), x9_lay1 nx (by omega), Option.bind_some, Option.bind_some, dop_t pn, nI_1]
      exact go _ ma
    · rw [if_neg (show ¬ nI 4 = 1 by decide), if_neg (show ¬ nI 4 = 2 by decide), if_neg (show ¬ nI 4 < 1 by decide), if_pos (show 2 < nI 4 by decide), if_pos rfl, Option.bind_some, dop_t na, dop_t na, x4_app hR (by omega), x9_lay1 nx (by omega), Option.bind_some, Option.bind_some, dop_t pn, nI_1]
      exact go _ ma
theorem fill_ok {r0 r1 r2 r3 st : STT} {old size states : Int32} {was s : Nat → UInt64} (hH : RelH r0 r1 r2 r3 old size was states) (hS : RelS st s) (dr : (Nat → UInt64) × Int32) (nx : Nat → UInt64) (nm p k n : Int32) : BothD (p_X8_fill st r0 r1 r2 r3 old size dr p k n) (p_X9_fill s was states nx nm p k n) := by
  unfold p_X8_fill p_X9_fill
  rcases row_or p with ⟨row, hr, rfl, h1, h2⟩ | ⟨h1, h2⟩
  · rw [h1, h2, Option.bind_some, Option.bind_some, if_neg one0, if_neg one0, x9_in, Option.bind_some]
    by_cases k0 : k < 0
    · rw [if_pos k0, if_pos k0, if_pos rfl]
      exact BothD.same _ _ _ _ ⟨hS, hH⟩
    · rw [if_neg k0, if_neg k0]
      obtain ⟨kd, hk, rfl⟩ := nI_of k0
      by_cases k5 : kd < 5
      · rw [if_neg (show ¬ (5 : Int32) ≤ nI kd from nI_ge (b := 5) k5 (by decide)), if_neg (show ¬ (4 : Int32) < nI kd from nI_nlt (a := 4) (by omega) (by decide)), if_neg one0, x9_in, Option.bind_some]
        by_cases c1 : n < 1
        · rw [if_pos c1, if_pos c1, if_pos rfl]
          exact BothD.same _ _ _ _ ⟨hS, hH⟩
        · rw [if_neg c1, if_neg c1]
          by_cases c2 : n ≤ 16
          · obtain ⟨m, hm, rfl⟩ := nI_of (x := n) (fun q => c1 (Int32.lt_of_lt_of_le q (by decide)))
            have b2 := Int32.le_iff_toInt_le.mp c2
            rw [nI_toInt hm, show (16 : Int32).toInt = 16 from rfl] at b2
            have e2 : st.2.2.1 2 = s 36 := hS.2.2.2.1
            have hf : fOK (s 36) := hS.2.2.2.2.2.2.2.2.1
            obtain ⟨R', nx', f1, f2, f3, f4⟩ := fill_l hf k5 (show m ≤ 16 by omega) m 0 (299 - m) (299 - m) FP.dconst0 (dr.1, nI 0) nx (by omega) (by decide) rfl (fun j hj => absurd hj (Nat.not_lt_zero _))
            rw [show 299 - m + m + 1 = 300 by omega] at f1 f2
            obtain ⟨a, st', q0, q1, q2, q3, o', z', s', w', t', g1, g2, g3⟩ := put_ok hH hS hr (show m ≤ 16 by omega) f3 f4
            unfold p_X6_fillSeries
            rw [if_pos c2, if_neg (show ¬ (16 : Int32) < nI m from Int32.not_lt.mpr c2), if_neg one0, show (2 : Int32).toNatClampNeg = 2 from rfl, e2, show p_X6_fillSeries_L14 (nI kd) (nI m) (s 36) 300 FP.dconst0 FP.dconst1 1 (dr.1, 0) = some R' from f1, show p_X9_fill_L42 s (nI kd) (nI m) 300 FP.dconst0 1 nx 0 = some (nx', nI m) from f2, Option.bind_some, Option.bind_some, g1, g2, Option.bind_some, Option.bind_some]
            exact BothD.same _ _ _ _ g3
          · rw [if_neg c2, if_pos (show (16 : Int32) < n from Int32.not_le.mp c2), if_pos rfl]
            exact BothD.same _ _ _ _ ⟨hS, hH⟩
      · rw [if_pos (show (5 : Int32) ≤ nI kd from nI_le (a := 5) (by omega) hk), if_pos (show (4 : Int32) < nI kd from nI_lt (a := 4) (by omega) hk), if_pos rfl]
        exact BothD.same _ _ _ _ ⟨hS, hH⟩
  · rw [h1, h2, Option.bind_some, Option.bind_some, if_pos rfl, if_pos rfl]
    exact BothD.same _ _ _ _ ⟨hS, hH⟩
