/-! reading the text -/
def lM (n : Nat) : Int64 := Int64.ofNat n
theorem lM_add (a b : Nat) : lM a + lM b = lM (a + b) := (Int64.ofNat_add a b).symm
theorem lM_mul (a b : Nat) : lM a * lM b = lM (a * b) := (Int64.ofNat_mul a b).symm
theorem lM_toInt {n : Nat} (h : n < 2 ^ 62) : (lM n).toInt = (n : Int) := by
  unfold lM
  rw [Int64.toInt_ofNat_of_lt (by omega)]
theorem dg_c : ∀ k, k < 10 → (nI (48 + k) - 48).toInt64 = lM k ∧ (nI (48 + k)).toInt64 = lM (48 + k) ∧ ¬ nI (48 + k) < 48 ∧ ¬ 57 < nI (48 + k) := by decide +kernel
theorem dg_cl (D : Nat) {k : Nat} (hk : k < 10) : lM D * 10 + (nI (48 + k) - 48).toInt64 = lM (10 * D + k) := by
  rw [(dg_c k hk).1, show (10 : Int64) = lM 10 from rfl, lM_mul, lM_add, Nat.mul_comm]
theorem dg_mo (D : Nat) {k : Nat} (hk : k < 10) : 10 * lM D + (nI (48 + k)).toInt64 - 48 = lM (10 * D + k) := by
  rw [(dg_c k hk).2.1, show (10 : Int64) = lM 10 from rfl, lM_mul, lM_add, show 10 * D + (48 + k) = 10 * D + k + 48 by omega, ← lM_add (10 * D + k) 48, show (48 : Int64) = lM 48 from rfl, Int64.add_sub_cancel]
theorem dg_of {x : Int32} (h1 : ¬ x < 48) (h2 : ¬ 57 < x) : ∃ k, k < 10 ∧ x = nI (48 + k) := by
  obtain ⟨n, hn, rfl⟩ := nI_of (x := x) (fun q => h1 (Int32.lt_trans q (by decide)))
  have a1 : ¬ n < 48 := fun q => h1 (nI_lt (b := 48) q (by decide))
  have a2 : ¬ 57 < n := fun q => h2 (nI_lt (a := 57) q hn)
  exact ⟨n - 48, by omega, by rw [show 48 + (n - 48) = n by omega]⟩
theorem nI_a00 (a : Nat) : nI a + 0 = nI a := nI_a0 a
theorem here_or (T : Nat → Int32) {len a : Nat} (hl : len ≤ 60) (ha : a ≤ len) (c : Int32) : (a < len ∧ T a = c ∧ p_X7_isHere T (nI len) (nI a) c = some 1 ∧ p_X9_takes T (nI len) (nI a) c c = some (1, nI (a + 1))) ∨ ((a < len → ¬ T a = c) ∧ p_X7_isHere T (nI len) (nI a) c = some 0 ∧ p_X9_takes T (nI len) (nI a) c c = some (0, nI a)) := by
  unfold p_X7_isHere p_X9_takes
  by_cases h : len ≤ a
  · rw [if_pos (nI_le h (by omega)), if_pos (nI_le h (by omega)), nI_a00]
    exact Or.inr ⟨fun q => absurd q (by omega), rfl, rfl⟩
  · rw [if_neg (nI_ge (by omega) (by omega)), if_neg (nI_ge (by omega) (by omega)), gD_t _ (inb_nI (show a < 60 by omega) (by decide)), gD_t _ (inb_nI (show a < 60 by omega) (by decide)), nI_clamp (show a < 2 ^ 31 by omega), x9_in, Option.bind_some, nI_1, nI_a00]
    by_cases e : T a = c
    · rw [e, if_pos rfl, if_neg (Int32.lt_irrefl), if_neg (Int32.lt_irrefl), if_neg one0]
      exact Or.inl ⟨by omega, rfl, rfl, rfl⟩
    · rw [if_neg e]
      right
      refine ⟨fun _ => e, rfl, ?_⟩
      by_cases l1 : T a < c
      · rw [if_pos l1, if_pos rfl]
      · have l2 : c < T a := by
          rw [Int32.lt_iff_toInt_lt] at l1 ⊢
          have : ¬ (T a).toInt = c.toInt := fun q => e (Int32.toInt_inj.mp q)
          omega
        rw [if_neg l1, if_pos l2, if_pos rfl]
theorem digit_or (T : Nat → Int32) {len a : Nat} (hl : len ≤ 60) (ha : a ≤ len) : (∃ k, k < 10 ∧ a < len ∧ T a = nI (48 + k) ∧ p_X7_isDigitHere T (nI len) (nI a) = some 1 ∧ p_X9_takes T (nI len) (nI a) 48 57 = some (1, nI (a + 1))) ∨ (p_X7_isDigitHere T (nI len) (nI a) = some 0 ∧ p_X9_takes T (nI len) (nI a) 48 57 = some (0, nI a)) := by
  unfold p_X7_isDigitHere p_X9_takes
  by_cases h : len ≤ a
  · rw [if_pos (nI_le h (by omega)), if_pos (nI_le h (by omega)), nI_a00]
    exact Or.inr ⟨rfl, rfl⟩
  · rw [if_neg (nI_ge (by omega) (by omega)), if_neg (nI_ge (by omega) (by omega)), gD_t _ (inb_nI (show a < 60 by omega) (by decide)), gD_t _ (inb_nI (show a < 60 by omega) (by decide)), gD_t _ (inb_nI (show a < 60 by omega) (by decide)), nI_clamp (show a < 2 ^ 31 by omega), x9_in, Option.bind_some, nI_1, nI_a00]
    by_cases l1 : T a < 48
    · rw [if_pos l1, if_pos l1, if_pos rfl]
      exact Or.inr ⟨rfl, rfl⟩
    · rw [if_neg l1, if_neg l1]
      by_cases l2 : 57 < T a
      · rw [if_pos l2, if_pos l2, if_pos rfl]
        exact Or.inr ⟨rfl, rfl⟩
      · rw [if_neg l2, if_neg l2, if_neg one0]
        obtain ⟨k, hk, e⟩ := dg_of l1 l2
        exact Or.inl ⟨k, hk, by omega, e, rfl, rfl⟩
theorem pow_step {D D1 D' i : Nat} (h1 : D1 + 1 ≤ (D + 1) * 10) (h2 : D' < (D1 + 1) * 10 ^ i) : D' < (D + 1) * 10 ^ (i + 1) := by
  refine Nat.lt_of_lt_of_le h2 ?_
  rw [Nat.pow_succ, Nat.mul_comm (10 ^ i) 10, ← Nat.mul_assoc]
  exact Nat.mul_le_mul_right _ h1
theorem digs_l (T : Nat → Int32) {len mx : Nat} (hl : len ≤ 60) (hmx : mx ≤ 6) (st : Int32) (p2 : Int32) : ∀ (d i f f' a D E : Nat), i + d = mx → a ≤ len → ∃ n D', i + n ≤ mx ∧ a + n ≤ len ∧ D' < (D + 1) * 10 ^ n ∧ p_X7_parseDigits_L7 T (nI len) (nI mx) (f + d + 1) st (nI i) (nI a) (lM D) = some (st, nI (a + n), lM D') ∧ p_X9_takesDigits_L2 T (nI len) (nI mx) p2 (f' + d + 1) (nI i) (nI a) (lM D) (lM E) = some (nI (i + n), nI (a + n), lM D', lM (if p2 = 0 then E else E * 10 ^ n)) := by
  intro d
  induction d with
  | zero =>
    intro i f f' a D E h ha
    have : i = mx := by omega
    subst this
    refine ⟨0, D, by omega, by omega, by omega, by rw [p_X7_parseDigits_L7, if_pos (nI_le (by omega) (by omega))]; rfl, ?_⟩
    rw [p_X9_takesDigits_L2, if_pos (nI_le (by omega) (by omega)), Nat.pow_zero, Nat.mul_one, ite_self]
    rfl
  | succ d ih =>
    intro i f f' a D E h ha
    rw [show f + (d + 1) + 1 = (f + d + 1) + 1 by omega, show f' + (d + 1) + 1 = (f' + d + 1) + 1 by omega, p_X7_parseDigits_L7, p_X9_takesDigits_L2, if_neg (nI_ge (by omega) (by omega)), if_neg (nI_ge (by omega) (by omega))]
    rcases digit_or T hl ha with ⟨k, hk, hal, e, h1, h2⟩ | ⟨h1, h2⟩
    · rw [h1, h2, Option.bind_some, Option.bind_some, if_neg one0]
      dsimp only
      rw [if_neg one0, gD_t _ (inb_nI (show a < 60 by omega) (by decide)), nI_pred, gD_t _ (inb_nI (show a < 60 by omega) (by decide)), nI_clamp (show a < 2 ^ 31 by omega), e, dg_cl D hk, dg_mo D hk, nI_1, nI_1]
      have step : 10 * D + k + 1 ≤ (D + 1) * 10 := by omega
      by_cases c : p2 = 0
      · obtain ⟨n, D', g1, g2, g3, g4, g5⟩ := ih (i + 1) f f' (a + 1) (10 * D + k) E (by omega) (by omega)
        refine ⟨n + 1, D', by omega, by omega, pow_step step g3, ?_, ?_⟩
        · rw [show a + (n + 1) = a + 1 + n by omega]
          exact g4
        · rw [if_pos c] at g5
          rw [if_pos c, if_pos c, show a + (n + 1) = a + 1 + n by omega, show i + (n + 1) = i + 1 + n by omega]
          exact g5
      · obtain ⟨n, D', g1, g2, g3, g4, g5⟩ := ih (i + 1) f f' (a + 1) (10 * D + k) (10 * E) (by omega) (by omega)
        refine ⟨n + 1, D', by omega, by omega, pow_step step g3, ?_, ?_⟩
        · rw [show a + (n + 1) = a + 1 + n by omega]
          exact g4
        · rw [if_neg c, show 10 * E * 10 ^ n = E * 10 ^ (n + 1) by rw [Nat.pow_succ, Nat.mul_comm 10 E, Nat.mul_assoc, Nat.mul_comm 10 (10 ^ n)]] at g5
          rw [if_neg c, if_neg c, show a + (n + 1) = a + 1 + n by omega, show i + (n + 1) = i + 1 + n by omega, show (10 : Int64) = lM 10 from rfl, lM_mul]
          exact g5
    · rw [h1, h2, Option.bind_some, Option.bind_some, if_pos rfl]
      dsimp only
      rw [if_pos rfl]
      refine ⟨0, D, by omega, by omega, by omega, rfl, ?_⟩
      rw [Nat.pow_zero, Nat.mul_one, ite_self]
      rfl
theorem digs (T : Nat → Int32) {len mx a : Nat} (hl : len ≤ 60) (hmx : mx ≤ 6) (ha : a ≤ len) (p2 : Int32) (D E : Nat) : ∃ n D', n ≤ mx ∧ a + n ≤ len ∧ D' < (D + 1) * 10 ^ n ∧ p_X7_parseDigits T (nI len) (nI a) (lM D) (nI mx) = some (if n = 0 then 0 else 1, nI (a + n), lM D') ∧ p_X9_takesDigits T (nI len) (nI a) (lM D) (lM E) (nI mx) p2 = some (nI n, nI (a + n), lM D', lM (if p2 = 0 then E else E * 10 ^ n)) := by
  obtain ⟨n, D', g1, g2, g3, g4, g5⟩ := digs_l T hl hmx (nI a) p2 mx 0 (299 - mx) (299 - mx) a D E (by omega) ha
  rw [show 299 - mx + mx + 1 = 300 by omega] at g4 g5
  refine ⟨n, D', by omega, g2, g3, ?_, ?_⟩
  · unfold p_X7_parseDigits
    rw [show p_X7_parseDigits_L7 T (nI len) (nI mx) 300 (nI a) 0 (nI a) (lM D) = some (nI a, nI (a + n), lM D') from g4, Option.bind_some]
    dsimp only
    by_cases c : n = 0
    · rw [if_pos c, if_pos (nI_le (by omega) (by omega))]
    · rw [if_neg c, if_neg (nI_ge (by omega) (by omega))]
  · unfold p_X9_takesDigits
    rw [show p_X9_takesDigits_L2 T (nI len) (nI mx) p2 300 0 (nI a) (lM D) (lM E) = some (nI (0 + n), nI (a + n), lM D', lM (if p2 = 0 then E else E * 10 ^ n)) from g5, Option.bind_some, Nat.zero_add]
theorem zero_d (T : Nat → Int32) {len a : Nat} (hl : len ≤ 60) (ha : a < len) (e : T a = 48) : p_X7_parseDigits T (nI len) (nI a) 0 1 = some (1, nI (a + 1), lM 0) := by
  have hd : p_X7_isDigitHere T (nI len) (nI a) = some 1 := by
    unfold p_X7_isDigitHere
    rw [if_neg (nI_ge (by omega) (by omega)), gD_t _ (inb_nI (show a < 60 by omega) (by decide)), gD_t _ (inb_nI (show a < 60 by omega) (by decide)), nI_clamp (show a < 2 ^ 31 by omega), e, if_neg (by decide), if_neg (by decide)]
  unfold p_X7_parseDigits
  rw [p_X7_parseDigits_L7, if_neg (show ¬ (1 : Int32) ≤ 0 by decide), hd, Option.bind_some, if_neg one0, gD_t _ (inb_nI (show a < 60 by omega) (by decide)), nI_clamp (show a < 2 ^ 31 by omega), e, nI_1, p_X7_parseDigits_L7, if_pos (show (1 : Int32) ≤ 0 + 1 by decide), Option.bind_some]
  dsimp only
  rw [if_neg (nI_ge (by omega) (by omega))]
  rfl
theorem ten_ok : ∀ j, j < 7 → p_X7_tenToThe (nI j) = some (lM (10 ^ j)) := by decide +kernel
-- the numbers read
theorem ten_d : ∀ j, j < 7 → dfin (FP.l2d (lM (10 ^ j))) = true ∧ (FP.l2d (lM (10 ^ j))).toNat % 2 ^ 63 ≠ 0 := by decide +kernel
def tenL (j : Nat) : Nat := if j = 0 then 1023 else if j = 1 then 1026 else if j = 2 then 1029 else if j = 3 then 1032 else if j = 4 then 1036 else if j = 5 then 1039 else 1042
def tenK (j : Nat) : Nat := if j = 0 then 20 else if j = 1 then 24 else if j = 2 then 27 else if j = 3 then 30 else if j = 4 then 34 else if j = 5 then 37 else 40
theorem ten_m : ∀ j, j < 7 → tenL j * 2 ^ 52 ≤ (FP.l2d (lM (10 ^ j))).toNat % 2 ^ 63 ∧ (FP.l2d (lM (10 ^ j))).toNat % 2 ^ 63 < 2047 * 2 ^ 52 ∧ 10 ^ (6 + j) ≤ 2 ^ tenK j ∧ 1 ≤ tenL j ∧ tenK j ≤ 40 ∧ tenK j + 1024 + 1021 ≤ 1047 - 3 + tenL j := by decide +kernel
theorem l2d_dfin (a : Int64) : dfin (FP.l2d a) = true := (dfin_iff _).mpr (FP.Core.l2d_fin a)
def numV (neg : Bool) (D j : Nat) : UInt64 := if neg = true then FP.dsub FP.dconst0 (FP.ddiv (FP.l2d (lM D)) (FP.l2d (lM (10 ^ j)))) else FP.ddiv (FP.l2d (lM D)) (FP.l2d (lM (10 ^ j)))
theorem num_nn (D : Nat) {j : Nat} (hj : j < 7) : nn (FP.ddiv (FP.l2d (lM D)) (FP.l2d (lM (10 ^ j)))) = true := nn_div (dfin_nn (l2d_dfin _)) (ten_d j hj).1 (ten_d j hj).2
theorem num_mag {D j : Nat} (hj : j < 7) (hD : D < 10 ^ (6 + j)) : (FP.ddiv (FP.l2d (lM D)) (FP.l2d (lM (10 ^ j)))).toNat % 2 ^ 63 < 1047 * 2 ^ 52 := by
  obtain ⟨m1, m2, m3, m4, m5, m6⟩ := ten_m j hj
  have hD2 : D ≤ 2 ^ tenK j := by omega
  have h40 : 2 ^ tenK j ≤ 2 ^ 40 := Nat.pow_le_pow_right (by decide) m5
  have hi : (lM D).toInt.natAbs ≤ 2 ^ tenK j := by
    rw [lM_toInt (by omega)]
    exact hD2
  have a1 := FP.Core.fromInt_mag (FP.Core.toNat_l2d (lM D)) hi (K := tenK j + 1023) (by omega) (by omega)
  have a2 : (FP.l2d (lM D)).toNat % 2 ^ 63 < (tenK j + 1024) * 2 ^ 52 := by
    refine Nat.lt_of_le_of_lt a1 ?_
    exact Nat.mul_lt_mul_of_pos_right (by omega) (by decide)
  have a3 := FP.Core.ddiv_mag a2 m1 m2 (by omega) m4
  refine Nat.lt_of_lt_of_le a3 (Nat.mul_le_mul_right _ (by omega))
theorem num_fit (neg : Bool) {D j : Nat} (hj : j < 7) (hD : D < 10 ^ (6 + j)) : fitb (numV neg D j) = true := by
  have h := num_mag hj hD
  rw [fitb_bits]
  unfold numV
  by_cases c : neg = true
  · rw [if_pos c]
    have := FP.Core.dsub_mag (a := FP.dconst0) (K := 1047) (show FP.dconst0.toNat % 2 ^ 63 < 1047 * 2 ^ 52 by decide) h (by decide)
    have e : FP.Core.dsub FP.dconst0 (FP.ddiv (FP.l2d (lM D)) (FP.l2d (lM (10 ^ j)))) = FP.dsub FP.dconst0 (FP.ddiv (FP.l2d (lM D)) (FP.l2d (lM (10 ^ j)))) := rfl
    rw [e] at this
    omega
  · rw [if_neg c]
    omega
theorem num_nn2 (D : Nat) {j : Nat} (hj : j < 7) (hD : D < 10 ^ (6 + j)) : nn (FP.dsub FP.dconst0 (FP.ddiv (FP.l2d (lM D)) (FP.l2d (lM (10 ^ j))))) = true := fitb_nn (num_fit true hj hD)
/-- the class's draft holds the first 16 of the reference's next numbers -/
def DR (R : (Nat → UInt64) × Int32) (nx : Nat → UInt64) (m : Nat) : Prop := R.2 = nI (min m 16) ∧ (∀ j, j < min m 16 → R.1 j = nx j) ∧ ∀ j, j < m → fitb (nx j) = true
theorem DR.app {R : (Nat → UInt64) × Int32} {nx : Nat → UInt64} {m : Nat} (h : DR R nx m) {v : UInt64} (hv : fitb v = true) : ∃ R', p_X4_append R v = some R' ∧ DR R' (vf_upd nx m v) (m + 1) := by
  obtain ⟨h1, h2, h3⟩ := h
  have f : ∀ j, j < m + 1 → fitb (vf_upd nx m v j) = true := fun j hj => by
    by_cases e : j = m
    · rw [vu_s e]; exact hv
    · rw [vu_n e]; exact h3 j (by omega)
  by_cases c : m < 16
  · rw [show min m 16 = m by omega] at h1 h2
    refine ⟨(vf_upd R.1 m v, nI (m + 1)), x4_app h1 c v, by rw [show min (m + 1) 16 = m + 1 by omega], fun j hj => ?_, f⟩
    by_cases e : j = m
    · exact (vu_s e).trans (vu_s e).symm
    · exact (vu_n e).trans ((h2 j (by omega)).trans (vu_n e).symm)
  · rw [show min m 16 = 16 by omega] at h1 h2
    refine ⟨R, x4_full h1 (by decide) (by decide) v, by rw [show min (m + 1) 16 = 16 by omega]; exact h1, fun j hj => ?_, f⟩
    rw [vu_n (by omega)]
    exact h2 j (by omega)
def NumR (T : Nat → Int32) (len a m : Nat) (R : (Nat → UInt64) × Int32) (nx : Nat → UInt64) (cl : Option (Int32 × Int32 × Int64 × ((Nat → UInt64) × Int32))) (mo : Option (Int32 × (Nat → UInt64) × Int32 × Int32 × Int64 × Int64)) : Prop :=
  (∃ a' dg R' nx' tg tn, a < a' ∧ a' ≤ len ∧ cl = some (1, nI a', dg, R') ∧ mo = some (1, nx', nI (m + 1), nI a', tg, tn) ∧ DR R' nx' (m + 1)) ∨ (∃ a' dg tg tn, a' ≤ len ∧ cl = some (0, nI a', dg, R) ∧ mo = some (0, nx, nI m, nI a', tg, tn))
theorem num_ok (T : Nat → Int32) {len a m : Nat} (hl : len ≤ 60) (ha : a ≤ len) (hm : m < 31) {R : (Nat → UInt64) × Int32} {nx : Nat → UInt64} (hD : DR R nx m) : NumR T len a m R nx (p_X7_parseNumber T (nI len) (nI a) R) (p_X9_takesNumber T (nI len) nx (nI m) (nI a)) := by
  unfold p_X7_parseNumber p_X9_takesNumber
  rcases here_or T hl ha 45 with ⟨l0, _, h1, h2⟩ | ⟨_, h1, h2⟩
  · rw [h1, h2, Option.bind_some, Option.bind_some, if_neg one0, nI_1]
    dsimp only
    rcases here_or T hl (show a + 1 ≤ len by omega) 48 with ⟨l1, e1, h3, h4⟩ | ⟨_, h3, h4⟩
    · rw [h3, h4, Option.bind_some, Option.bind_some, if_neg one0]
      dsimp only
      rw [if_neg one0, zero_d T hl l1 e1, Option.bind_some]
      dsimp only
      rw [if_neg one0]
      have hA : a + 1 + 1 ≤ len := by omega
      rcases here_or T hl hA 46 with ⟨_, _, i1, i2⟩ | ⟨_, i1, i2⟩
      · rw [i1, i2, Option.bind_some, Option.bind_some, if_neg one0]
        dsimp only
        rw [if_neg one0, nI_1]
        obtain ⟨n2, D2, b1, b2, b3, b4, b5⟩ := digs T (len := len) (mx := 6) (a := a + 1 + 1 + 1) hl (by decide) (by omega) 1 (0) 1
        rw [show p_X7_parseDigits T (nI len) (nI (a + 1 + 1 + 1)) (lM 0) 6 = _ from b4, show p_X9_takesDigits T (nI len) (nI (a + 1 + 1 + 1)) 0 1 6 1 = _ from b5, Option.bind_some, Option.bind_some]
        dsimp only
        by_cases z : n2 = 0
        · rw [if_pos z, if_pos rfl, if_pos (show nI n2 = 0 by rw [z]; rfl)]
          exact Or.inr ⟨_, _, _, _, b2, rfl, rfl⟩
        · have hD2 : D2 < 10 ^ (6 + n2) := by
            refine Nat.lt_of_lt_of_le b3 ?_
            rw [Nat.pow_add]
            exact Nat.mul_le_mul_right _ (by decide)
          obtain ⟨R2, r1, r2⟩ := hD.app (num_fit true (show n2 < 7 by omega) hD2)
          unfold numV at r1 r2
          rw [if_neg (show ¬ (if n2 = 0 then (0 : Int32) else 1) = 0 by rw [if_neg z]; decide), if_neg (nI_ne0 (n := n2) (by omega) (by omega)), pk_sub (show a + 1 + 1 + 1 ≤ a + 1 + 1 + 1 + n2 by omega), show a + 1 + 1 + 1 + n2 - (a + 1 + 1 + 1) = n2 by omega, ten_ok n2 (by omega), Option.bind_some, if_neg (show ¬ (1 : Int32) = 0 by decide), Nat.one_mul, dop_t (num_nn D2 (by omega)), dop_t (num_nn D2 (by omega))]
          rw [if_pos rfl] at r1 r2
          rw [dop_t (num_nn2 D2 (by omega) hD2), if_neg one0, dop_t (num_nn2 D2 (by omega) hD2), r1, Option.bind_some, x9_lay1 nx (show m < 32 by omega), Option.bind_some]
          exact Or.inl ⟨_, _, _, _, _, _, by omega, b2, rfl, rfl, r2⟩
      · rw [i1, i2, Option.bind_some, Option.bind_some, if_pos rfl]
        dsimp only
        have hD2 : 0 < 10 ^ (6 + 0) := by decide
        obtain ⟨R2, r1, r2⟩ := hD.app (num_fit true (show 0 < 7 by omega) hD2)
        unfold numV at r1 r2
        rw [if_pos rfl, pk_sub (Nat.le_refl _), Nat.sub_self, ten_ok 0 (by decide), Option.bind_some, dop_t (num_nn (0) (by decide)), show FP.ddiv (FP.l2d 0) (FP.l2d 1) = FP.ddiv (FP.l2d (lM (0))) (FP.l2d (lM (10 ^ 0))) from rfl, dop_t (num_nn (0) (by decide))]
        rw [if_pos rfl] at r1 r2
        rw [dop_t (num_nn2 (0) (by decide) hD2), if_neg one0, dop_t (num_nn2 (0) (by decide) hD2), r1, Option.bind_some, x9_lay1 nx (show m < 32 by omega), Option.bind_some]
        exact Or.inl ⟨_, _, _, _, _, _, by omega, hA, rfl, rfl, r2⟩
    · rw [h3, h4, Option.bind_some, Option.bind_some, if_pos rfl]
      dsimp only
      rw [if_pos rfl]
      obtain ⟨n1, D1, c1, c2, c3, c4, c5⟩ := digs T (len := len) (mx := 6) (a := a + 1) hl (by decide) (by omega) 0 0 1
      rw [if_pos rfl] at c5
      rw [show p_X7_parseDigits T (nI len) (nI (a + 1)) 0 6 = _ from c4, show p_X9_takesDigits T (nI len) (nI (a + 1)) 0 1 6 0 = _ from c5, Option.bind_some, Option.bind_some]
      dsimp only
      by_cases zz : n1 = 0
      · rw [if_pos zz, if_pos rfl, if_pos (show nI n1 = 0 by rw [zz]; rfl)]
        exact Or.inr ⟨_, _, _, _, c2, rfl, rfl⟩
      · have hDb : D1 + 1 ≤ 10 ^ 6 := by
          have : 10 ^ n1 ≤ 10 ^ 6 := Nat.pow_le_pow_right (by decide) c1
          omega
        rw [if_neg (show ¬ (if n1 = 0 then (0 : Int32) else 1) = 0 by rw [if_neg zz]; decide), if_neg (nI_ne0 (n := n1) (by omega) (by omega))]
        have hA : (a + 1 + n1) ≤ len := by omega
        rcases here_or T hl hA 46 with ⟨_, _, i1, i2⟩ | ⟨_, i1, i2⟩
        · rw [i1, i2, Option.bind_some, Option.bind_some, if_neg one0]
          dsimp only
          rw [if_neg one0, nI_1]
          obtain ⟨n2, D2, b1, b2, b3, b4, b5⟩ := digs T (len := len) (mx := 6) (a := (a + 1 + n1) + 1) hl (by decide) (by omega) 1 (D1) 1
          rw [show p_X7_parseDigits T (nI len) (nI ((a + 1 + n1) + 1)) (lM (D1)) 6 = _ from b4, show p_X9_takesDigits T (nI len) (nI ((a + 1 + n1) + 1)) (lM (D1)) (lM 1) 6 1 = _ from b5, Option.bind_some, Option.bind_some]
          dsimp only
          by_cases z : n2 = 0
          · rw [if_pos z, if_pos rfl, if_pos (show nI n2 = 0 by rw [z]; rfl)]
            exact Or.inr ⟨_, _, _, _, b2, rfl, rfl⟩
          · have hD2 : D2 < 10 ^ (6 + n2) := by
              refine Nat.lt_of_lt_of_le b3 ?_
              rw [Nat.pow_add]
              exact Nat.mul_le_mul_right _ (by omega)
            obtain ⟨R2, r1, r2⟩ := hD.app (num_fit true (show n2 < 7 by omega) hD2)
            unfold numV at r1 r2
            rw [if_neg (show ¬ (if n2 = 0 then (0 : Int32) else 1) = 0 by rw [if_neg z]; decide), if_neg (nI_ne0 (n := n2) (by omega) (by omega)), pk_sub (show (a + 1 + n1) + 1 ≤ (a + 1 + n1) + 1 + n2 by omega), show (a + 1 + n1) + 1 + n2 - ((a + 1 + n1) + 1) = n2 by omega, ten_ok n2 (by omega), Option.bind_some, if_neg (show ¬ (1 : Int32) = 0 by decide), Nat.one_mul, dop_t (num_nn D2 (by omega)), dop_t (num_nn D2 (by omega))]
            rw [if_pos rfl] at r1 r2
            rw [dop_t (num_nn2 D2 (by omega) hD2), if_neg one0, dop_t (num_nn2 D2 (by omega) hD2), r1, Option.bind_some, x9_lay1 nx (show m < 32 by omega), Option.bind_some]
            exact Or.inl ⟨_, _, _, _, _, _, by omega, b2, rfl, rfl, r2⟩
        · rw [i1, i2, Option.bind_some, Option.bind_some, if_pos rfl]
          dsimp only
          have hD2 : D1 < 10 ^ (6 + 0) := by omega
          obtain ⟨R2, r1, r2⟩ := hD.app (num_fit true (show 0 < 7 by omega) hD2)
          unfold numV at r1 r2
          rw [if_pos rfl, pk_sub (Nat.le_refl _), Nat.sub_self, ten_ok 0 (by decide), Option.bind_some, dop_t (num_nn (D1) (by decide)), show FP.ddiv (FP.l2d (lM (D1))) (FP.l2d (lM 1)) = FP.ddiv (FP.l2d (lM (D1))) (FP.l2d (lM (10 ^ 0))) from rfl, dop_t (num_nn (D1) (by decide))]
          rw [if_pos rfl] at r1 r2
          rw [dop_t (num_nn2 (D1) (by decide) hD2), if_neg one0, dop_t (num_nn2 (D1) (by decide) hD2), r1, Option.bind_some, x9_lay1 nx (show m < 32 by omega), Option.bind_some]
          exact Or.inl ⟨_, _, _, _, _, _, by omega, hA, rfl, rfl, r2⟩
  · rw [h1, h2, Option.bind_some, Option.bind_some, if_pos rfl]
    dsimp only
    rcases here_or T hl (show a ≤ len by omega) 48 with ⟨l1, e1, h3, h4⟩ | ⟨_, h3, h4⟩
    · rw [h3, h4, Option.bind_some, Option.bind_some, if_neg one0]
      dsimp only
      rw [if_neg one0, zero_d T hl l1 e1, Option.bind_some]
      dsimp only
      rw [if_neg one0]
      have hA : a + 1 ≤ len := by omega
      rcases here_or T hl hA 46 with ⟨_, _, i1, i2⟩ | ⟨_, i1, i2⟩
      · rw [i1, i2, Option.bind_some, Option.bind_some, if_neg one0]
        dsimp only
        rw [if_neg one0, nI_1]
        obtain ⟨n2, D2, b1, b2, b3, b4, b5⟩ := digs T (len := len) (mx := 6) (a := a + 1 + 1) hl (by decide) (by omega) 1 (0) 1
        rw [show p_X7_parseDigits T (nI len) (nI (a + 1 + 1)) (lM 0) 6 = _ from b4, show p_X9_takesDigits T (nI len) (nI (a + 1 + 1)) 0 1 6 1 = _ from b5, Option.bind_some, Option.bind_some]
        dsimp only
        by_cases z : n2 = 0
        · rw [if_pos z, if_pos rfl, if_pos (show nI n2 = 0 by rw [z]; rfl)]
          exact Or.inr ⟨_, _, _, _, b2, rfl, rfl⟩
        · have hD2 : D2 < 10 ^ (6 + n2) := by
            refine Nat.lt_of_lt_of_le b3 ?_
            rw [Nat.pow_add]
            exact Nat.mul_le_mul_right _ (by decide)
          obtain ⟨R2, r1, r2⟩ := hD.app (num_fit false (show n2 < 7 by omega) hD2)
          unfold numV at r1 r2
          rw [if_neg (show ¬ (if n2 = 0 then (0 : Int32) else 1) = 0 by rw [if_neg z]; decide), if_neg (nI_ne0 (n := n2) (by omega) (by omega)), pk_sub (show a + 1 + 1 ≤ a + 1 + 1 + n2 by omega), show a + 1 + 1 + n2 - (a + 1 + 1) = n2 by omega, ten_ok n2 (by omega), Option.bind_some, if_neg (show ¬ (1 : Int32) = 0 by decide), Nat.one_mul, dop_t (num_nn D2 (by omega)), dop_t (num_nn D2 (by omega))]
          rw [if_neg (by decide)] at r1 r2
          rw [if_pos rfl, r1, Option.bind_some, x9_lay1 nx (show m < 32 by omega), Option.bind_some]
          exact Or.inl ⟨_, _, _, _, _, _, by omega, b2, rfl, rfl, r2⟩
      · rw [i1, i2, Option.bind_some, Option.bind_some, if_pos rfl]
        dsimp only
        have hD2 : 0 < 10 ^ (6 + 0) := by decide
        obtain ⟨R2, r1, r2⟩ := hD.app (num_fit false (show 0 < 7 by omega) hD2)
        unfold numV at r1 r2
        rw [if_pos rfl, pk_sub (Nat.le_refl _), Nat.sub_self, ten_ok 0 (by decide), Option.bind_some, dop_t (num_nn (0) (by decide)), show FP.ddiv (FP.l2d 0) (FP.l2d 1) = FP.ddiv (FP.l2d (lM (0))) (FP.l2d (lM (10 ^ 0))) from rfl, dop_t (num_nn (0) (by decide))]
        rw [if_neg (by decide)] at r1 r2
        rw [if_pos rfl, r1, Option.bind_some, x9_lay1 nx (show m < 32 by omega), Option.bind_some]
        exact Or.inl ⟨_, _, _, _, _, _, by omega, hA, rfl, rfl, r2⟩
    · rw [h3, h4, Option.bind_some, Option.bind_some, if_pos rfl]
      dsimp only
      rw [if_pos rfl]
      obtain ⟨n1, D1, c1, c2, c3, c4, c5⟩ := digs T (len := len) (mx := 6) (a := a) hl (by decide) (by omega) 0 0 1
      rw [if_pos rfl] at c5
      rw [show p_X7_parseDigits T (nI len) (nI (a)) 0 6 = _ from c4, show p_X9_takesDigits T (nI len) (nI (a)) 0 1 6 0 = _ from c5, Option.bind_some, Option.bind_some]
      dsimp only
      by_cases zz : n1 = 0
      · rw [if_pos zz, if_pos rfl, if_pos (show nI n1 = 0 by rw [zz]; rfl)]
        exact Or.inr ⟨_, _, _, _, c2, rfl, rfl⟩
      · have hDb : D1 + 1 ≤ 10 ^ 6 := by
          have : 10 ^ n1 ≤ 10 ^ 6 := Nat.pow_le_pow_right (by decide) c1
          omega
        rw [if_neg (show ¬ (if n1 = 0 then (0 : Int32) else 1) = 0 by rw [if_neg zz]; decide), if_neg (nI_ne0 (n := n1) (by omega) (by omega))]
        have hA : (a + n1) ≤ len := by omega
        rcases here_or T hl hA 46 with ⟨_, _, i1, i2⟩ | ⟨_, i1, i2⟩
        · rw [i1, i2, Option.bind_some, Option.bind_some, if_neg one0]
          dsimp only
          rw [if_neg one0, nI_1]
          obtain ⟨n2, D2, b1, b2, b3, b4, b5⟩ := digs T (len := len) (mx := 6) (a := (a + n1) + 1) hl (by decide) (by omega) 1 (D1) 1
          rw [show p_X7_parseDigits T (nI len) (nI ((a + n1) + 1)) (lM (D1)) 6 = _ from b4, show p_X9_takesDigits T (nI len) (nI ((a + n1) + 1)) (lM (D1)) (lM 1) 6 1 = _ from b5, Option.bind_some, Option.bind_some]
          dsimp only
          by_cases z : n2 = 0
          · rw [if_pos z, if_pos rfl, if_pos (show nI n2 = 0 by rw [z]; rfl)]
            exact Or.inr ⟨_, _, _, _, b2, rfl, rfl⟩
          · have hD2 : D2 < 10 ^ (6 + n2) := by
              refine Nat.lt_of_lt_of_le b3 ?_
              rw [Nat.pow_add]
              exact Nat.mul_le_mul_right _ (by omega)
            obtain ⟨R2, r1, r2⟩ := hD.app (num_fit false (show n2 < 7 by omega) hD2)
            unfold numV at r1 r2
            rw [if_neg (show ¬ (if n2 = 0 then (0 : Int32) else 1) = 0 by rw [if_neg z]; decide), if_neg (nI_ne0 (n := n2) (by omega) (by omega)), pk_sub (show (a + n1) + 1 ≤ (a + n1) + 1 + n2 by omega), show (a + n1) + 1 + n2 - ((a + n1) + 1) = n2 by omega, ten_ok n2 (by omega), Option.bind_some, if_neg (show ¬ (1 : Int32) = 0 by decide), Nat.one_mul, dop_t (num_nn D2 (by omega)), dop_t (num_nn D2 (by omega))]
            rw [if_neg (by decide)] at r1 r2
            rw [if_pos rfl, r1, Option.bind_some, x9_lay1 nx (show m < 32 by omega), Option.bind_some]
            exact Or.inl ⟨_, _, _, _, _, _, by omega, b2, rfl, rfl, r2⟩
        · rw [i1, i2, Option.bind_some, Option.bind_some, if_pos rfl]
          dsimp only
          have hD2 : D1 < 10 ^ (6 + 0) := by omega
          obtain ⟨R2, r1, r2⟩ := hD.app (num_fit false (show 0 < 7 by omega) hD2)
          unfold numV at r1 r2
          rw [if_pos rfl, pk_sub (Nat.le_refl _), Nat.sub_self, ten_ok 0 (by decide), Option.bind_some, dop_t (num_nn (D1) (by decide)), show FP.ddiv (FP.l2d (lM (D1))) (FP.l2d (lM 1)) = FP.ddiv (FP.l2d (lM (D1))) (FP.l2d (lM (10 ^ 0))) from rfl, dop_t (num_nn (D1) (by decide))]
          rw [if_neg (by decide)] at r1 r2
          rw [if_pos rfl, r1, Option.bind_some, x9_lay1 nx (show m < 32 by omega), Option.bind_some]
          exact Or.inl ⟨_, _, _, _, _, _, by omega, hA, rfl, rfl, r2⟩
/-- both read the whole text, or both fail at the same place -/
theorem texts_l (T : Nat → Int32) {len : Nat} (hl : len ≤ 60) : ∀ (d a m f f' : Nat) (dg dg' tn : Int64) (R : (Nat → UInt64) × Int32) (nx : Nat → UInt64), len + 1 ≤ a + d → a ≤ len → 2 * m ≤ a + 1 → DR R nx m →
    (∃ a' x R' nx' m' tg tt, m' ≤ 31 ∧ 1 ≤ m' ∧ DR R' nx' m' ∧ p_X7_parseInto_L12 T (nI len) (f + d + 1) (nI (m + 1)) (nI a) dg R = some (nI m', nI a', x, R') ∧ p_X9_readsText_L12 T (nI len) (f' + d + 2) 1 nx (nI m) (nI a) dg' tn = some (1, nx', nI m', nI a', tg, tt)) ∨
    (∃ a' x R' nx' nm tg tt, a' ≤ 60 ∧ p_X7_parseInto_L12 T (nI len) (f + d + 1) (nI (m + 1)) (nI a) dg R = some (-100 - nI a', nI a', x, R') ∧ p_X9_readsText_L12 T (nI len) (f' + d + 2) 1 nx (nI m) (nI a) dg' tn = some (0, nx', nm, nI a', tg, tt)) := by
  intro d
  induction d with
  | zero => intro a m f f' dg dg' tn R nx h1 h2; omega
  | succ d ih =>
    intro a m f f' dg dg' tn R nx h1 h2 h3 hD
    rw [show f + (d + 1) + 1 = (f + d + 1) + 1 by omega, show f' + (d + 1) + 2 = (f' + d + 2) + 1 by omega, p_X7_parseInto_L12, p_X9_readsText_L12, if_neg (show ¬ (60 : Int32) < nI (m + 1) from nI_nlt (a := 60) (by omega) (by decide)), if_neg one0]
    rcases num_ok T hl h2 (show m < 31 by omega) hD with ⟨a1, x, R1, nx1, tg, tt, b1, b2, b3, b4, b5⟩ | ⟨a1, x, tg, tt, b1, b2, b3⟩
    · rw [b3, b4, Option.bind_some, Option.bind_some]
      dsimp only
      rw [if_neg one0, if_neg one0]
      by_cases e : a1 = len
      · rcases here_or T hl b2 44 with ⟨q, _⟩ | ⟨_, i1, i2⟩
        · omega
        · rw [if_pos (show nI a1 = nI len by rw [e]), i2, Option.bind_some]
          dsimp only
          rw [show f' + d + 2 = (f' + d + 1) + 1 by omega, p_X9_readsText_L12, if_pos rfl, if_pos (show nI a1 = nI len by rw [e])]
          exact Or.inl ⟨_, _, _, _, _, _, _, by omega, by omega, b5, rfl, rfl⟩
      · rw [if_neg (fun q => e ((nI_inj (by omega) (by omega)).mp q))]
        rcases here_or T hl b2 44 with ⟨q, _, i1, i2⟩ | ⟨_, i1, i2⟩
        · rw [i1, i2, Option.bind_some, Option.bind_some, if_neg one0, nI_1, nI_1]
          dsimp only
          exact ih (a1 + 1) (m + 1) f f' _ _ _ _ _ (by omega) (by omega) (by omega) b5
        · rw [i1, i2, Option.bind_some, Option.bind_some, if_pos rfl]
          dsimp only
          rw [show f' + d + 2 = (f' + d + 1) + 1 by omega, p_X9_readsText_L12, if_pos rfl, if_neg (fun q => e ((nI_inj (by omega) (by omega)).mp q))]
          exact Or.inr ⟨_, _, _, _, _, _, _, by omega, rfl, rfl⟩
    · rw [b2, b3, Option.bind_some, Option.bind_some]
      dsimp only
      rw [if_pos rfl, if_pos rfl]
      exact Or.inr ⟨_, _, _, _, _, _, _, by omega, rfl, rfl⟩
theorem m100 : ∀ a, a < 61 → ¬ 0 ≤ (-100 : Int32) - nI a := by decide
theorem read_ok {r0 r1 r2 r3 st : STT} {old size states : Int32} {was s : Nat → UInt64} (hH : RelH r0 r1 r2 r3 old size was states) (hS : RelS st s) (T : Nat → Int32) {len : Nat} (hl : len ≤ 60) (ta : Int32) (td : Int64) (dr : (Nat → UInt64) × Int32) (nx : Nat → UInt64) (nm at' : Int32) (dg tn : Int64) (p : Int32) : ∃ a st' q0 q1 q2 q3 old' size' x s' was' states' y, p_X8_read st r0 r1 r2 r3 old size T (nI len) ta td dr p = some (a, st', q0, q1, q2, q3, old', size', x) ∧ p_X9_read s was states T (nI len) nx nm at' dg tn p = some (a, s', was', states', y) ∧ MutR st' q0 q1 q2 q3 old' size' s' was' states' := by
  unfold p_X8_read p_X9_read
  rcases row_or p with ⟨row, hr, rfl, h1, h2⟩ | ⟨h1, h2⟩
  · rw [h1, h2, Option.bind_some, Option.bind_some, if_neg one0, if_neg one0]
    unfold p_X7_parseInto p_X9_readsText
    have h0 : DR (dr.1, nI 0) nx 0 := ⟨rfl, fun j hj => absurd hj (by omega), fun j hj => absurd hj (by omega)⟩
    rcases texts_l T hl (len + 1) 0 0 (299 - (len + 1)) (298 - (len + 1)) td dg tn (dr.1, nI 0) nx (by omega) (by omega) (by omega) h0 with ⟨a1, x, R1, nx1, m1, tg, tt, b0, b00, b1, b2, b3⟩ | ⟨a1, x, R1, nx1, nm1, tg, tt, b1, b2, b3⟩
    · rw [show 299 - (len + 1) + (len + 1) + 1 = 300 by omega] at b2
      rw [show 298 - (len + 1) + (len + 1) + 2 = 300 by omega] at b3
      rw [show p_X7_parseInto_L12 T (nI len) 300 1 0 td (dr.1, 0) = _ from b2, show p_X9_readsText_L12 T (nI len) 300 1 nx 0 0 dg tn = _ from b3, Option.bind_some, Option.bind_some]
      dsimp only
      rw [if_neg one0, if_pos (nI_pos' (by omega))]
      by_cases c : m1 ≤ 16
      · rw [if_pos (show nI m1 ≤ (16 : Int32) from nI_le (b := 16) c (by decide)), if_pos (show nI m1 ≤ (16 : Int32) from nI_le (b := 16) c (by decide))]
        obtain ⟨d1, d2, d3⟩ := b1
        rw [show min m1 16 = m1 by omega] at d1 d2
        obtain ⟨a, st', q0, q1, q2, q3, o', z', s', w', t', f1, f2, f3⟩ := put_ok hH hS hr c d1 (fun j hj => ⟨d2 j hj, fitb_fin (d3 j hj)⟩)
        rw [f1, f2, Option.bind_some, Option.bind_some]
        exact ⟨_, _, _, _, _, _, _, _, _, _, _, _, _, rfl, rfl, f3⟩
      · rw [if_neg (show ¬ nI m1 ≤ (16 : Int32) from nI_ge (a := 16) (by omega) (by omega)), if_neg (show ¬ nI m1 ≤ (16 : Int32) from nI_ge (a := 16) (by omega) (by omega))]
        exact ⟨_, _, _, _, _, _, _, _, _, _, _, _, _, rfl, rfl, hS, hH⟩
    · rw [show 299 - (len + 1) + (len + 1) + 1 = 300 by omega] at b2
      rw [show 298 - (len + 1) + (len + 1) + 2 = 300 by omega] at b3
      rw [show p_X7_parseInto_L12 T (nI len) 300 1 0 td (dr.1, 0) = _ from b2, show p_X9_readsText_L12 T (nI len) 300 1 nx 0 0 dg tn = _ from b3, Option.bind_some, Option.bind_some]
      dsimp only
      rw [if_pos rfl, if_neg (m100 a1 (by omega))]
      exact ⟨_, _, _, _, _, _, _, _, _, _, _, _, _, rfl, rfl, hS, hH⟩
  · rw [h1, h2, Option.bind_some, Option.bind_some, if_pos rfl, if_pos rfl]
    exact ⟨_, _, _, _, _, _, _, _, _, _, _, _, _, rfl, rfl, hS, hH⟩
