/-! columns, the lowest broken one, ends and guesses -/
theorem cols_l {t w : Nat} (ht : t < 4) (hw : w ≤ 16) : ∀ (d c f f' : Nat) (a : Int32), c + d = 16 → ∃ o, p_X1_manyColumns_L4 (nI t) (nI w) (f + d + 1) a (nI c) = some o ∧ p_X9_columns_L4 (nI t) (nI w) (f' + d + 1) a (nI c) = some o := by
  intro d
  induction d with
  | zero =>
    intro c f f' a h
    have : c = 16 := by omega
    subst this
    exact ⟨a, by rw [p_X1_manyColumns_L4, if_pos (by decide)], by rw [p_X9_columns_L4, if_pos (by decide)]⟩
  | succ d ih =>
    intro c f f' a h
    have e0 : p_X9_isThere (nI t) (nI w) (nI c) 0 = some (if c < 16 ∧ 0 + reach t c < w then 1 else 0) := x9_there (n := 0) ht (by omega) (by decide) (by omega)
    rw [show f + (d + 1) + 1 = (f + d + 1) + 1 by omega, show f' + (d + 1) + 1 = (f' + d + 1) + 1 by omega, p_X1_manyColumns_L4, p_X9_columns_L4, n16, if_neg (nI_ge (by omega) (by omega)), if_neg (nI_ge (by omega) (by omega)), x1_many ht (by omega) (by omega), e0, Option.bind_some, Option.bind_some, nI_1]
    by_cases h1 : reach t c < w
    · rw [if_neg (nI_nle (by omega) (by omega)), if_pos (show c < 16 ∧ 0 + reach t c < w by omega), if_neg (by decide)]
      exact ih (c + 1) f f' _ (by omega)
    · rw [show w - reach t c = 0 by omega, if_pos (show nI 0 ≤ 0 from by decide), if_neg (show ¬ (c < 16 ∧ 0 + reach t c < w) by omega), if_pos rfl]
      exact ih (c + 1) f f' _ (by omega)
theorem cols {t w : Nat} (ht : t < 4) (hw : w ≤ 16) : ∃ o, p_X1_manyColumns (nI t) (nI w) = some o ∧ p_X9_columns (nI t) (nI w) = some o := by
  obtain ⟨o, h1, h2⟩ := cols_l ht hw 16 0 283 283 0 rfl
  refine ⟨o, ?_, ?_⟩
  · unfold p_X1_manyColumns
    rw [show p_X1_manyColumns_L4 (nI t) (nI w) 300 0 0 = some o from h1]
    rfl
  · unfold p_X9_columns
    rw [show p_X9_columns_L4 (nI t) (nI w) 300 0 0 = some o from h2]
    rfl
/-- a count of the broken ones is 0 just if none is broken (no kind is greater than 3) -/
theorem cN_zero {K : Nat → Int32} : ∀ {n : Nat}, (∀ j, j < n → ¬ 3 < K j) → (cN K 2 3 n = 0 ↔ ∀ j, j < n → K j < 2) := by
  intro n
  induction n with
  | zero => exact fun _ => ⟨fun _ j h => absurd h (Nat.not_lt_zero _), fun _ => rfl⟩
  | succ n ih =>
    intro h3
    have ih := ih (fun j hj => h3 j (by omega))
    have e : cN K 2 3 (n + 1) = cN K 2 3 n + (if K n < 2 then 0 else if 3 < K n then 0 else 1) := rfl
    rw [if_neg (h3 n (by omega))] at e
    by_cases h : K n < 2
    · rw [if_pos h] at e
      change _ = cN K 2 3 n at e
      rw [e, ih]
      refine ⟨fun q j hj => ?_, fun q j hj => q j (by omega)⟩
      by_cases c : j = n
      · subst c; exact h
      · exact q j (by omega)
    · rw [if_neg h] at e
      rw [e]
      exact ⟨fun q => absurd q (by omega), fun q => absurd (q n (by omega)) h⟩
/-- the reference's scan comes over a column without a broken entry to the next one -/
theorem low_skip (k : Nat → Int32) {t w c : Nat} (ht : t < 4) (hw : w ≤ 16) (hc : c < 16) (hall : ∀ n, n + reach t c < w → k (16 * c + n) < 2) : ∀ (d n f : Nat), n + d = 16 → p_X9_lowestBroken_L2 k (nI t) (nI w) (f + d + 1) (nI (16 * c + n)) = p_X9_lowestBroken_L2 k (nI t) (nI w) (f + 1) (nI (16 * (c + 1))) := by
  intro d
  induction d with
  | zero =>
    intro n f h
    rw [show 16 * c + n = 16 * (c + 1) by omega, Nat.add_zero]
  | succ d ih =>
    intro n f h
    have ih := ih (n + 1) f (by omega)
    rw [show f + (d + 1) + 1 = (f + d + 1) + 1 by omega, p_X9_lowestBroken_L2, show (256 : Int32) = nI 256 from rfl, if_neg (nI_ge (by omega) (by omega)), nI_r16 (by omega), nI_d16 (by omega), show (16 * c + n) % 16 = n by omega, show (16 * c + n) / 16 = c by omega, x9_there ht (by omega) (by omega) (by omega), Option.bind_some, nI_1, show 16 * c + n + 1 = 16 * c + (n + 1) by omega]
    by_cases h1 : n + reach t c < w
    · rw [if_pos (show c < 16 ∧ n + reach t c < w from ⟨hc, h1⟩), if_neg (by decide), gD_t _ (inb_nI (by omega) (by decide)), nI_clamp (show 16 * c + n < 2 ^ 31 by omega), if_pos (hall n h1)]
      exact ih
    · rw [if_neg (show ¬ (c < 16 ∧ n + reach t c < w) from fun q => h1 q.2), if_pos rfl]
      exact ih
theorem low_hit (k : Nat → Int32) {t w c : Nat} (ht : t < 4) (hw : w ≤ 16) (hc : c < 16) (hex : ∃ n, n + reach t c < w ∧ ¬ k (16 * c + n) < 2) : ∀ (d n f : Nat), n + d = 16 → (∀ j, j < n → j + reach t c < w → k (16 * c + j) < 2) → p_X9_lowestBroken_L2 k (nI t) (nI w) (f + d + 1) (nI (16 * c + n)) = some (nI c) := by
  intro d
  induction d with
  | zero =>
    intro n f h hall
    obtain ⟨m, h1, h2⟩ := hex
    exact absurd (hall m (by omega) h1) h2
  | succ d ih =>
    intro n f h hall
    rw [show f + (d + 1) + 1 = (f + d + 1) + 1 by omega, p_X9_lowestBroken_L2, show (256 : Int32) = nI 256 from rfl, if_neg (nI_ge (by omega) (by omega)), nI_r16 (by omega), nI_d16 (by omega), show (16 * c + n) % 16 = n by omega, show (16 * c + n) / 16 = c by omega, x9_there ht (by omega) (by omega) (by omega), Option.bind_some, nI_1, show 16 * c + n + 1 = 16 * c + (n + 1) by omega]
    by_cases h1 : n + reach t c < w
    · rw [if_pos (show c < 16 ∧ n + reach t c < w from ⟨hc, h1⟩), if_neg (by decide), gD_t _ (inb_nI (by omega) (by decide)), nI_clamp (show 16 * c + n < 2 ^ 31 by omega)]
      by_cases h2 : k (16 * c + n) < 2
      · rw [if_pos h2]
        refine ih (n + 1) f (by omega) (fun j hj hr => ?_)
        by_cases e : j = n
        · subst e; exact h2
        · exact hall j (by omega) hr
      · rw [if_neg h2]
    · rw [if_neg (show ¬ (c < 16 ∧ n + reach t c < w) from fun q => h1 q.2), if_pos rfl]
      refine ih (n + 1) f (by omega) (fun j hj hr => hall j (by omega) hr)
theorem low_l (k k' : Nat → Int32) {t w : Nat} (ht : t < 4) (hw : w ≤ 16) (hk : ∀ c n, c < 16 → n + reach t c < w → k (16 * c + n) = k' (16 * c + n)) (h3 : ∀ c n, c < 16 → n + reach t c < w → ¬ 3 < k (16 * c + n)) :
    ∀ (d c f f' : Nat), c + d = 16 → ∃ o, p_X1_lowestBroken_L2 k (nI t) (nI w) (f + d + 1) (nI c) = some o ∧ p_X9_lowestBroken_L2 k' (nI t) (nI w) (f' + 16 * d + 1) (nI (16 * c)) = some o := by
  intro d
  induction d with
  | zero =>
    intro c f f' h
    have : c = 16 := by omega
    subst this
    exact ⟨-5, by rw [p_X1_lowestBroken_L2, if_pos (by decide)], by rw [p_X9_lowestBroken_L2, if_pos (by decide)]⟩
  | succ d ih =>
    intro c f f' h
    have hc : c < 16 := by omega
    have z := cN_zero (K := fun j => k (16 * c + j)) (n := w - reach t c) (fun j hj => h3 c j hc (by omega))
    have le := cN_le (fun j => k (16 * c + j)) 2 3 (w - reach t c)
    rw [show f + (d + 1) + 1 = (f + d + 1) + 1 by omega, p_X1_lowestBroken_L2, n16, if_neg (nI_ge (by omega) (by omega)), x1_inCol k 2 3 ht hw hc, Option.bind_some]
    by_cases e : cN (fun j => k (16 * c + j)) 2 3 (w - reach t c) = 0
    · obtain ⟨o, o1, o2⟩ := ih (c + 1) f f' (by omega)
      refine ⟨o, ?_, ?_⟩
      · rw [e, if_pos (show nI 0 ≤ 0 from by decide), nI_1]
        exact o1
      · rw [show f' + 16 * (d + 1) + 1 = (f' + 16 * d) + 16 + 1 by omega]
        have := low_skip k' ht hw hc (fun n hn => by rw [← hk c n hc hn]; exact z.mp e n (by omega)) 16 0 (f' + 16 * d) rfl
        exact this.trans o2
    · refine ⟨nI c, ?_, ?_⟩
      · rw [if_neg (nI_nle (by omega) (by omega))]
      · rw [show f' + 16 * (d + 1) + 1 = (f' + 16 * d) + 16 + 1 by omega]
        have hex : ∃ n, n + reach t c < w ∧ ¬ k' (16 * c + n) < 2 := by
          refine Classical.byContradiction fun q => e (z.mpr fun j hj => ?_)
          refine Classical.byContradiction fun q2 => q ⟨j, by omega, ?_⟩
          rw [← hk c j hc (by omega)]
          exact q2
        have := low_hit k' ht hw hc hex 16 0 (f' + 16 * d) rfl (fun j hj => absurd hj (Nat.not_lt_zero _))
        exact this
theorem low (k k' : Nat → Int32) {t w : Nat} (ht : t < 4) (hw : w ≤ 16) (hk : ∀ c n, c < 16 → n + reach t c < w → k (16 * c + n) = k' (16 * c + n)) (h3 : ∀ c n, c < 16 → n + reach t c < w → ¬ 3 < k (16 * c + n)) : ∃ o, p_X1_lowestBroken k (nI t) (nI w) = some o ∧ p_X9_lowestBroken k' (nI t) (nI w) = some o := low_l k k' ht hw hk h3 16 0 283 43 rfl
-- ends
def lastE (K : Nat → Int32) : Nat → Option Nat
  | 0 => none
  | n + 1 => if K n < 2 then some n else lastE K n
theorem lastE_lt {K : Nat → Int32} : ∀ {n e : Nat}, lastE K n = some e → e < n ∧ K e < 2 := by
  intro n
  induction n with
  | zero => exact fun h => by cases h
  | succ n ih =>
    intro e h
    unfold lastE at h
    by_cases c : K n < 2
    · rw [if_pos c] at h
      cases h
      exact ⟨by omega, c⟩
    · rw [if_neg c] at h
      have := ih h
      exact ⟨by omega, this.2⟩
theorem lastE_congr {K K' : Nat → Int32} : ∀ {n : Nat}, (∀ j, j < n → K j = K' j) → lastE K n = lastE K' n := by
  intro n
  induction n with
  | zero => exact fun _ => rfl
  | succ n ih =>
    intro h
    unfold lastE
    rw [h n (by omega), ih (fun j hj => h j (by omega))]
def e1 (o : Option Nat) : Int32 := match o with
  | none => -1
  | some e => nI e
def e5 (o : Option Nat) : Int32 := match o with
  | none => -5
  | some e => nI e
theorem x1_end_l (k : Nat → Int32) {c : Nat} (hc : c < 16) : ∀ (n f : Nat), n ≤ 16 → p_X1_endOf_L9 k (nI c) (f + n + 1) (nI n - 1) = some (e1 (lastE (fun j => k (16 * c + j)) n)) := by
  intro n
  induction n with
  | zero =>
    intro f h
    rw [p_X1_endOf_L9, if_pos (show nI 0 - 1 < 0 from by decide)]
    rfl
  | succ n ih =>
    intro f h
    have ih := ih f (by omega)
    rw [nI_pred, show f + (n + 1) + 1 = (f + n + 1) + 1 by omega, p_X1_endOf_L9, if_neg (nI_pos (by omega)), x1_isBroken k (by omega), Option.bind_some]
    unfold lastE
    by_cases q : k (16 * c + n) < 2
    · rw [if_pos q, if_pos rfl, if_pos q]
      rfl
    · rw [if_neg q, if_neg (by decide), if_neg q, show nI n + -1 = nI n - 1 from (Int32.sub_eq_add_neg _ _).symm]
      exact ih
theorem x1_end (k : Nat → Int32) {t w c : Nat} (ht : t < 4) (hw : w ≤ 16) (hc : c < 16) : p_X1_endOf k (nI t) (nI c) (nI w) = some (e1 (lastE (fun j => k (16 * c + j)) (w - reach t c))) := by
  unfold p_X1_endOf
  have h := x1_end_l k hc (w - reach t c) (300 - (w - reach t c) - 1) (by omega)
  rw [show 300 - (w - reach t c) - 1 + (w - reach t c) + 1 = 300 by omega] at h
  rw [x1_many ht (by omega) (by omega), Option.bind_some, h]
theorem x9_end_l (k : Nat → Int32) {t w c : Nat} (ht : t < 4) (hw : w ≤ 16) (hc : c < 16) : ∀ (d n f : Nat), n + d = w - reach t c → p_X9_end_L5 k (nI t) (nI w) (nI c) (f + d + 1) (e5 (lastE (fun j => k (16 * c + j)) n)) (nI n) = some (e5 (lastE (fun j => k (16 * c + j)) (w - reach t c))) := by
  intro d
  induction d with
  | zero =>
    intro n f h
    have : n = w - reach t c := by omega
    subst this
    rw [p_X9_end_L5, x9_there ht (by omega) (by omega) (by omega), Option.bind_some, if_neg (show ¬ (c < 16 ∧ w - reach t c + reach t c < w) by omega), if_pos rfl]
  | succ d ih =>
    intro n f h
    have ih := ih (n + 1) f (by omega)
    have e : lastE (fun j => k (16 * c + j)) (n + 1) = if k (16 * c + n) < 2 then some n else lastE (fun j => k (16 * c + j)) n := rfl
    rw [show f + (d + 1) + 1 = (f + d + 1) + 1 by omega, p_X9_end_L5, x9_there ht (by omega) (by omega) (by omega), Option.bind_some, if_pos (show c < 16 ∧ n + reach t c < w by omega), if_neg (by decide), x9_br k (by omega), Option.bind_some, nI_1]
    by_cases q : k (16 * c + n) < 2
    · rw [if_pos q] at e
      rw [e] at ih
      rw [if_pos q, if_pos rfl]
      exact ih
    · rw [if_neg q] at e
      rw [e] at ih
      rw [if_neg q, if_neg (by decide)]
      exact ih
theorem x9_end (k : Nat → Int32) {t w c : Nat} (ht : t < 4) (hw : w ≤ 16) (hc : c < 16) : p_X9_end k (nI t) (nI w) (nI c) = some (e5 (lastE (fun j => k (16 * c + j)) (w - reach t c))) := by
  unfold p_X9_end
  have h := x9_end_l k ht hw hc (w - reach t c) 0 (300 - (w - reach t c) - 1) (by omega)
  rw [show 300 - (w - reach t c) - 1 + (w - reach t c) + 1 = 300 by omega] at h
  rw [show p_X9_end_L5 k (nI t) (nI w) (nI c) 300 (-5) 0 = _ from h, Option.bind_some]
