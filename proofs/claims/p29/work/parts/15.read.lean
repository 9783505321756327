/-! what is read off a laid table -/
def FG (g q : UInt64) (b : Int32) (t : Nat) (r : Nat → UInt64) (w : Nat) (v : Nat → UInt64) (k : Nat → Int32) : Prop := ∀ c n, c < 16 → n + reach t c < w → v (16 * c + n) = (ent g q b t r c n).1 ∧ k (16 * c + n) = (ent g q b t r c n).2
theorem FI.full {g q : UInt64} {b : Int32} {t : Nat} {r : Nat → UInt64} {w : Nat} {v : Nat → UInt64} {k : Nat → Int32} (h : FI g q b t r w v k 16 0) : FG g q b t r w v k := fun c n hc hn => h c n hc hn (Or.inl hc)
/-- an entry is there for both sides, or for none -/
theorem there_or (t w : Nat) (ht : t < 4) (hw : w ≤ 16) (c n : Int32) :
    (∃ c' n' : Nat, c = nI c' ∧ n = nI n' ∧ c' < 16 ∧ n' + reach t c' < w ∧ p_X1_hasEntry (nI t) (nI w) c n = some 1 ∧ p_X9_isThere (nI t) (nI w) c n = some 1) ∨ (p_X1_hasEntry (nI t) (nI w) c n = some 0 ∧ p_X9_isThere (nI t) (nI w) c n = some 0) := by
  by_cases c0 : c < 0
  · refine Or.inr ⟨by unfold p_X1_hasEntry; rw [if_pos c0], ?_⟩
    unfold p_X9_isThere
    rw [if_pos c0, if_pos c0]
    split <;> rfl
  · by_cases n0 : n < 0
    · refine Or.inr ⟨?_, ?_⟩
      · unfold p_X1_hasEntry
        rw [if_neg c0, if_pos n0]
        split <;> rfl
      · unfold p_X9_isThere
        rw [if_neg c0, if_neg c0, if_pos n0, if_pos n0]
        split <;> rfl
    · obtain ⟨c', hc', rfl⟩ := nI_of c0
      obtain ⟨n', hn', rfl⟩ := nI_of n0
      by_cases c16 : c' < 16
      · have h1 := x9_there (n := n') ht (show c' < 100 by omega) hn' (show w < 100 by omega)
        have h2 : p_X1_hasEntry (nI t) (nI w) (nI c') (nI n') = some (if n' + reach t c' < w then 1 else 0) := by
          unfold p_X1_hasEntry
          rw [if_neg c0, n16, if_neg (nI_ge c16 (by omega)), if_neg n0, x1_many ht (by omega) (by omega), Option.bind_some]
          by_cases h : n' + reach t c' < w
          · rw [if_neg (nI_ge (by omega) (by omega)), if_pos h]
          · rw [if_pos (nI_le (by omega) hn'), if_neg h]
        by_cases h : n' + reach t c' < w
        · rw [if_pos h] at h2
          rw [if_pos ⟨c16, h⟩] at h1
          exact Or.inl ⟨c', n', rfl, rfl, c16, h, h2, h1⟩
        · rw [if_neg h] at h2
          rw [if_neg (fun q => h q.2)] at h1
          exact Or.inr ⟨h2, h1⟩
      · have g16 : (16 : Int32) ≤ nI c' := nI_le (a := 16) (by omega) hc'
        refine Or.inr ⟨by unfold p_X1_hasEntry; rw [if_neg c0, if_pos g16], ?_⟩
        unfold p_X9_isThere
        rw [if_neg c0, if_neg n0, if_pos g16, if_neg c0, if_neg n0, if_pos g16]
        split <;> rfl
theorem x1_kindAt (k : Nat → Int32) {c n : Nat} (h : 16 * c + n < 256) : p_X1_kindAt k (nI c) (nI n) = some (k (16 * c + n)) := by
  unfold p_X1_kindAt
  rw [ixC, gD_t _ (inb_nI h (by decide)), nI_clamp (by omega)]
theorem x1_valueAt (v : Nat → UInt64) {c n : Nat} (h : 16 * c + n < 256) : p_X1_valueAt v (nI c) (nI n) = some (v (16 * c + n)) := by
  unfold p_X1_valueAt
  rw [ixC, gD_t _ (inb_nI h (by decide)), nI_clamp (by omega)]
theorem x1_isBroken (k : Nat → Int32) {c n : Nat} (h : 16 * c + n < 256) : p_X1_isBroken k (nI c) (nI n) = some (if k (16 * c + n) < 2 then 0 else 1) := by
  unfold p_X1_isBroken
  rw [x1_kindAt k h, Option.bind_some]
  split <;> rfl
-- counts
def cN (K : Nat → Int32) (lo hi : Int32) : Nat → Nat
  | 0 => 0
  | n + 1 => cN K lo hi n + (if K n < lo then 0 else if hi < K n then 0 else 1)
theorem cN_le (K : Nat → Int32) (lo hi : Int32) : ∀ n, cN K lo hi n ≤ n := by
  intro n
  induction n with
  | zero => exact Nat.le_refl _
  | succ n ih =>
    show cN K lo hi n + _ ≤ _
    have : (if K n < lo then 0 else if hi < K n then 0 else 1 : Nat) ≤ 1 := by
      split
      · omega
      · split <;> omega
    omega
theorem cN_congr {K K' : Nat → Int32} {lo hi : Int32} : ∀ {n : Nat}, (∀ j, j < n → K j = K' j) → cN K lo hi n = cN K' lo hi n := by
  intro n
  induction n with
  | zero => exact fun _ => rfl
  | succ n ih =>
    intro h
    show cN K lo hi n + _ = cN K' lo hi n + _
    rw [ih (fun j hj => h j (by omega)), h n (by omega)]
theorem nI_a0 (a : Nat) : nI a + 0 = nI a := Int32.add_zero _
theorem x1_inCol_l (k : Nat → Int32) {c m : Nat} (lo hi : Int32) (hc : c < 16) (hm : m ≤ 16) : ∀ (d n f : Nat), n + d = m → p_X1_manyInColumn_L17 k (nI c) lo hi (f + d + 1) (nI (cN (fun j => k (16 * c + j)) lo hi n)) (nI m) (nI n) = some (nI (cN (fun j => k (16 * c + j)) lo hi m)) := by
  intro d
  induction d with
  | zero =>
    intro n f h
    have : n = m := by omega
    subst this
    rw [p_X1_manyInColumn_L17, if_pos (nI_le (by omega) (by omega))]
  | succ d ih =>
    intro n f h
    have e : cN (fun j => k (16 * c + j)) lo hi (n + 1) = cN (fun j => k (16 * c + j)) lo hi n + (if k (16 * c + n) < lo then 0 else if hi < k (16 * c + n) then 0 else 1) := rfl
    have ih := ih (n + 1) f (by omega)
    rw [show f + (d + 1) + 1 = (f + d + 1) + 1 by omega, p_X1_manyInColumn_L17, if_neg (nI_ge (by omega) (by omega)), x1_kindAt k (by omega), Option.bind_some, nI_1]
    by_cases h1 : k (16 * c + n) < lo
    · rw [if_pos h1] at e
      change _ = cN (fun j => k (16 * c + j)) lo hi n at e
      rw [if_pos h1, nI_a0, ← e]
      exact ih
    · rw [if_neg h1] at e
      rw [if_neg h1]
      by_cases h2 : hi < k (16 * c + n)
      · rw [if_pos h2] at e
        change _ = cN (fun j => k (16 * c + j)) lo hi n at e
        rw [if_pos h2, nI_a0, ← e]
        exact ih
      · rw [if_neg h2] at e
        rw [if_neg h2, nI_1, ← e]
        exact ih
theorem x1_inCol (k : Nat → Int32) {t w c : Nat} (lo hi : Int32) (ht : t < 4) (hw : w ≤ 16) (hc : c < 16) : p_X1_manyInColumn k (nI t) (nI w) (nI c) lo hi = some (nI (cN (fun j => k (16 * c + j)) lo hi (w - reach t c))) := by
  unfold p_X1_manyInColumn
  have h := x1_inCol_l k (m := w - reach t c) lo hi hc (by omega) (w - reach t c) 0 (300 - (w - reach t c) - 1) (by omega)
  rw [show 300 - (w - reach t c) - 1 + (w - reach t c) + 1 = 300 by omega] at h
  rw [x1_many ht (by omega) (by omega), Option.bind_some, show p_X1_manyInColumn_L17 k (nI c) lo hi 300 0 (nI (w - reach t c)) 0 = _ from h, Option.bind_some]
def cA (k : Nat → Int32) (lo hi : Int32) (t w : Nat) : Nat → Nat
  | 0 => 0
  | c + 1 => cA k lo hi t w c + cN (fun j => k (16 * c + j)) lo hi (w - reach t c)
theorem x1_ofK_l (k : Nat → Int32) {t w : Nat} (lo hi : Int32) (ht : t < 4) (hw : w ≤ 16) : ∀ (d c f : Nat), c + d = 16 → p_X1_manyOfKinds_L5 k (nI t) (nI w) lo hi (f + d + 1) (nI (cA k lo hi t w c)) (nI c) = some (nI (cA k lo hi t w 16)) := by
  intro d
  induction d with
  | zero =>
    intro c f h
    have : c = 16 := by omega
    subst this
    rw [p_X1_manyOfKinds_L5, if_pos (by decide)]
  | succ d ih =>
    intro c f h
    have ih := ih (c + 1) f (by omega)
    rw [show f + (d + 1) + 1 = (f + d + 1) + 1 by omega, p_X1_manyOfKinds_L5, n16, if_neg (nI_ge (by omega) (by omega)), x1_inCol k lo hi ht hw (by omega), Option.bind_some, nI_add, nI_1]
    exact ih
theorem x1_ofK (k : Nat → Int32) {t w : Nat} (lo hi : Int32) (ht : t < 4) (hw : w ≤ 16) : p_X1_manyOfKinds k (nI t) (nI w) lo hi = some (nI (cA k lo hi t w 16)) := by
  unfold p_X1_manyOfKinds
  rw [show p_X1_manyOfKinds_L5 k (nI t) (nI w) lo hi 300 0 0 = some (nI (cA k lo hi t w 16)) from x1_ofK_l k lo hi ht hw 16 0 283 rfl, Option.bind_some]
def cI (k : Nat → Int32) (lo hi : Int32) (t w i : Nat) : Nat := cA k lo hi t w (i / 16) + cN (fun j => k (16 * (i / 16) + j)) lo hi (min (i % 16) (w - reach t (i / 16)))
theorem cI_s (k : Nat → Int32) (lo hi : Int32) {t w i : Nat} (hw : w ≤ 16) : cI k lo hi t w (i + 1) = cI k lo hi t w i + (if i % 16 + reach t (i / 16) < w then (if k i < lo then 0 else if hi < k i then 0 else 1) else 0) := by
  unfold cI
  by_cases e : i % 16 = 15
  · rw [show (i + 1) / 16 = i / 16 + 1 by omega, show (i + 1) % 16 = 0 by omega, Nat.zero_min]
    show cA k lo hi t w (i / 16) + cN (fun j => k (16 * (i / 16) + j)) lo hi (w - reach t (i / 16)) + 0 = _
    by_cases h : i % 16 + reach t (i / 16) < w
    · rw [if_pos h, show w - reach t (i / 16) = i % 16 + 1 by omega, show min (i % 16) (i % 16 + 1) = i % 16 by omega]
      show _ + (cN _ lo hi (i % 16) + (if k (16 * (i / 16) + i % 16) < lo then 0 else if hi < k (16 * (i / 16) + i % 16) then 0 else 1)) + 0 = _
      rw [show 16 * (i / 16) + i % 16 = i by omega]
      omega
    · rw [if_neg h, show min (i % 16) (w - reach t (i / 16)) = w - reach t (i / 16) by omega]
  · rw [show (i + 1) / 16 = i / 16 by omega, show (i + 1) % 16 = i % 16 + 1 by omega]
    by_cases h : i % 16 + reach t (i / 16) < w
    · rw [if_pos h, show min (i % 16 + 1) (w - reach t (i / 16)) = i % 16 + 1 by omega, show min (i % 16) (w - reach t (i / 16)) = i % 16 by omega]
      show _ + (cN _ lo hi (i % 16) + (if k (16 * (i / 16) + i % 16) < lo then 0 else if hi < k (16 * (i / 16) + i % 16) then 0 else 1)) = _
      rw [show 16 * (i / 16) + i % 16 = i by omega]
      omega
    · rw [if_neg h, show min (i % 16 + 1) (w - reach t (i / 16)) = min (i % 16) (w - reach t (i / 16)) by omega]
      rfl
theorem nI_d16 {i : Nat} (h : i < 1000) : nI i / 16 = nI (i / 16) := pk_div (d := 16) (by omega) (by decide) (by decide)
theorem nI_r16 {i : Nat} (h : i < 1000) : nI i - nI i / 16 * 16 = nI (i % 16) := pk_rem (d := 16) (by omega) (by decide) (by decide)
theorem x9_in (x lo hi : Int32) : p_X9_in x lo hi = some (if x < lo then 0 else if hi < x then 0 else 1) := by
  unfold p_X9_in
  split
  · rfl
  · split <;> rfl
theorem x9_cnt_l (k : Nat → Int32) {t w : Nat} (lo hi : Int32) (ht : t < 4) (hw : w ≤ 16) : ∀ (d i f : Nat), i + d = 256 → p_X9_countKinds_L5 k (nI t) (nI w) lo hi (f + d + 1) (nI (cI k lo hi t w i)) (nI i) = some (nI (cI k lo hi t w 256)) := by
  intro d
  induction d with
  | zero =>
    intro i f h
    have : i = 256 := by omega
    subst this
    rw [p_X9_countKinds_L5, if_pos (by decide)]
  | succ d ih =>
    intro i f h
    have ih := ih (i + 1) f (by omega)
    have e := cI_s k lo hi (t := t) (i := i) hw
    rw [show f + (d + 1) + 1 = (f + d + 1) + 1 by omega, p_X9_countKinds_L5, show (256 : Int32) = nI 256 from rfl, if_neg (nI_ge (by omega) (by omega)), nI_r16 (by omega), nI_d16 (by omega), x9_there ht (by omega) (by omega) (by omega), Option.bind_some, nI_1, gD_t _ (inb_nI (by omega) (by decide)), nI_clamp (show i < 2 ^ 31 by omega), x9_in, Option.bind_some]
    by_cases h1 : i % 16 + reach t (i / 16) < w
    · rw [if_pos h1] at e
      rw [if_pos (show i / 16 < 16 ∧ i % 16 + reach t (i / 16) < w from ⟨by omega, h1⟩), if_neg (by decide)]
      by_cases h2 : k i < lo
      · rw [if_pos h2] at e
        change _ = cI k lo hi t w i at e
        rw [if_pos h2, if_pos rfl, nI_a0, ← e]
        exact ih
      · rw [if_neg h2] at e
        rw [if_neg h2]
        by_cases h3 : hi < k i
        · rw [if_pos h3] at e
          change _ = cI k lo hi t w i at e
          rw [if_pos h3, if_pos rfl, nI_a0, ← e]
          exact ih
        · rw [if_neg h3] at e
          rw [if_neg h3, if_neg (by decide), nI_1, ← e]
          exact ih
    · rw [if_neg h1] at e
      change _ = cI k lo hi t w i at e
      rw [if_neg (show ¬ (i / 16 < 16 ∧ i % 16 + reach t (i / 16) < w) from fun q => h1 q.2), if_pos rfl, nI_a0, ← e]
      exact ih
theorem cA_congr {k k' : Nat → Int32} {lo hi : Int32} {t w : Nat} (h : ∀ c n, c < 16 → n + reach t c < w → k (16 * c + n) = k' (16 * c + n)) : ∀ c, c ≤ 16 → cA k lo hi t w c = cA k' lo hi t w c := by
  intro c
  induction c with
  | zero => exact fun _ => rfl
  | succ c ih =>
    intro hc
    show cA k lo hi t w c + _ = cA k' lo hi t w c + _
    rw [ih (by omega), cN_congr (K' := fun j => k' (16 * c + j)) (fun j hj => h c j (by omega) (by omega))]
theorem x9_cnt (k : Nat → Int32) {t w : Nat} (lo hi : Int32) (ht : t < 4) (hw : w ≤ 16) : p_X9_countKinds k (nI t) (nI w) lo hi = some (nI (cA k lo hi t w 16)) := by
  unfold p_X9_countKinds
  have h := x9_cnt_l k lo hi ht hw 256 0 43 rfl
  rw [show cI k lo hi t w 256 = cA k lo hi t w 16 from rfl] at h
  rw [show p_X9_countKinds_L5 k (nI t) (nI w) lo hi 300 0 0 = some (nI (cA k lo hi t w 16)) from h, Option.bind_some]
