/-! the state of the class and that of the reference: what holds between them -/
abbrev STT : Type := (((Nat → UInt64) × Int32) × ((Nat → UInt64) × Int32) × (Nat → UInt64) × Int32)
def rA (st : STT) (row : Nat) : Nat → UInt64 := if row = 0 then st.1.1 else st.2.1.1
def rL (st : STT) (row : Nat) : Int32 := if row = 0 then st.1.2 else st.2.1.2
def fOK (f : UInt64) : Prop := f.toNat % 2 ^ 63 < 1023 * 2 ^ 52
def rowsR (st : STT) (s : Nat → UInt64) (w : Nat → Nat) : Prop := ∀ row, row < 2 → w row ≤ 16 ∧ rL st row = nI (w row) ∧ s (32 + row) = FP.i2d (nI (w row)) ∧ ∀ j, j < w row → rA st row j = s (16 * row + j) ∧ dfin (s (16 * row + j)) = true
def setsR (st : STT) (s : Nat → UInt64) : Prop := st.2.2.1 0 = s 34 ∧ st.2.2.1 1 = s 35 ∧ st.2.2.1 2 = s 36 ∧ nn (s 34) = true ∧ 0 ≤ ky (s 34) ∧ nn (s 35) = true ∧ qOK (s 35) ∧ fOK (s 36) ∧ ((s 37 = FP.dconst0 ∧ st.2.2.2 = 0) ∨ (s 37 = FP.dconst1 ∧ st.2.2.2 = 1))
def RelS (st : STT) (s : Nat → UInt64) : Prop := (∃ w, rowsR st s w) ∧ setsR st s
theorem rowsR.congr {st st' : STT} {s s' : Nat → UInt64} {w : Nat → Nat} (h : rowsR st s w) (hL : ∀ row, row < 2 → rL st' row = rL st row) (hA : ∀ row j, row < 2 → j < 16 → rA st' row j = rA st row j) (hs : ∀ k, k < 34 → s' k = s k) : rowsR st' s' w := by
  intro row hr
  obtain ⟨h1, h2, h3, h4⟩ := h row hr
  refine ⟨h1, by rw [hL row hr, h2], by rw [hs _ (by omega), h3], fun j hj => ?_⟩
  obtain ⟨h5, h6⟩ := h4 j hj
  rw [hA row j hr (by omega), hs _ (by omega)]
  exact ⟨h5, h6⟩
theorem setsR.congr {st st' : STT} {s s' : Nat → UInt64} (h : setsR st s) (hA : ∀ k, k < 3 → st'.2.2.1 k = st.2.2.1 k) (hB : st'.2.2.2 = st.2.2.2) (hs : ∀ k, 34 ≤ k → k < 38 → s' k = s k) : setsR st' s' := by
  unfold setsR at h ⊢
  rw [hA 0 (by omega), hA 1 (by omega), hA 2 (by omega), hB, hs 34 (by omega) (by omega), hs 35 (by omega) (by omega), hs 36 (by omega) (by omega), hs 37 (by omega) (by omega)]
  exact h
theorem RelS.congr {st st' : STT} {s s' : Nat → UInt64} (h : RelS st s) (hL : ∀ row, row < 2 → rL st' row = rL st row) (hA : ∀ row j, row < 2 → j < 16 → rA st' row j = rA st row j) (hC : ∀ k, k < 3 → st'.2.2.1 k = st.2.2.1 k) (hB : st'.2.2.2 = st.2.2.2) (hs : ∀ k, k < 38 → s' k = s k) : RelS st' s' := by
  obtain ⟨⟨w, hw⟩, h2⟩ := h
  exact ⟨⟨w, hw.congr hL hA (fun k hk => hs k (by omega))⟩, h2.congr hC hB (fun k _ hk => hs k hk)⟩
theorem RelS.s_eq {st : STT} {s s' : Nat → UInt64} (h : RelS st s) (hs : ∀ k, k < 38 → s' k = s k) : RelS st s' := h.congr (fun _ _ => rfl) (fun _ _ _ _ => rfl) (fun _ _ => rfl) rfl hs
theorem setsR.isB {st : STT} {s : Nat → UInt64} (h : setsR st s) : isB st.2.2.2 = true := by
  rcases h.2.2.2.2.2.2.2.2 with q | q <;> rw [q.2] <;> rfl
theorem d2i_ok : ∀ w, w < 17 → FP.d2i (FP.i2d (nI w)) = nI w := by decide +kernel
theorem x9_many {st : STT} {s : Nat → UInt64} {w : Nat → Nat} (h : rowsR st s w) {row : Nat} (hr : row < 2) : p_X9_many s (nI row) = some (nI (w row)) := by
  obtain ⟨h1, h2, h3, h4⟩ := h row hr
  unfold p_X9_many
  rw [show (32 : Int32) = nI 32 from rfl, nI_add, gD_t _ (inb_nI (by omega) (by decide)), nI_clamp (by omega), h3, d2i_ok _ (by omega)]
/-- rows and tables that there are, for both sides or for none -/
theorem row_or (p : Int32) : (∃ row, row < 2 ∧ p = nI row ∧ p_X8_isRow p = some 1 ∧ p_X9_isRow p = some 1) ∨ (p_X8_isRow p = some 0 ∧ p_X9_isRow p = some 0) := by
  have e9 : p_X9_isRow p = some (if p < 0 then 0 else if 1 < p then 0 else 1) := by
    unfold p_X9_isRow
    rw [x9_in, Option.bind_some, gD_t]
    by_cases h0 : p < 0
    · rw [if_pos h0]; rfl
    · rw [if_neg h0]
      split <;> rfl
  by_cases h0 : p < 0
  · refine Or.inr ⟨by unfold p_X8_isRow; rw [if_pos h0], by rw [e9, if_pos h0]⟩
  · obtain ⟨n, hn, rfl⟩ := nI_of h0
    by_cases h2 : n < 2
    · refine Or.inl ⟨n, h2, rfl, ?_, ?_⟩
      · unfold p_X8_isRow
        rw [if_neg h0, if_neg (show ¬ (2 : Int32) ≤ nI n from nI_ge (b := 2) h2 (by decide))]
      · rw [e9, if_neg h0, if_neg (show ¬ (1 : Int32) < nI n from nI_nlt (a := 1) (by omega) (by decide))]
    · refine Or.inr ⟨?_, ?_⟩
      · unfold p_X8_isRow
        rw [if_neg h0, if_pos (show (2 : Int32) ≤ nI n from nI_le (a := 2) (by omega) hn)]
      · rw [e9, if_neg h0, if_pos (show (1 : Int32) < nI n from nI_lt (a := 1) (by omega) hn)]
theorem tab_or (p t : Int32) : (∃ row tt, row < 2 ∧ tt < 4 ∧ p = nI row ∧ t = nI tt ∧ p_X8_isTable p t = some 1 ∧ p_X9_isTable p t = some 1) ∨ (p_X8_isTable p t = some 0 ∧ p_X9_isTable p t = some 0) := by
  unfold p_X8_isTable p_X9_isTable
  rcases row_or p with ⟨row, hr, rfl, h1, h2⟩ | ⟨h1, h2⟩
  · rw [h1, h2, Option.bind_some, Option.bind_some, if_neg (show ¬ (1 : Int32) = 0 by decide), if_neg (show ¬ (1 : Int32) = 0 by decide), x9_in, Option.bind_some]
    by_cases h0 : t < 0
    · right
      rw [if_pos h0, if_pos h0]
      exact ⟨rfl, rfl⟩
    · rw [if_neg h0, if_neg h0]
      obtain ⟨n, hn, rfl⟩ := nI_of h0
      by_cases h4 : n < 4
      · left
        rw [if_neg (show ¬ (4 : Int32) ≤ nI n from nI_ge (b := 4) h4 (by decide)), if_neg (show ¬ (3 : Int32) < nI n from nI_nlt (a := 3) (by omega) (by decide))]
        exact ⟨row, n, hr, h4, rfl, rfl, rfl, rfl⟩
      · right
        rw [if_pos (show (4 : Int32) ≤ nI n from nI_le (a := 4) (by omega) hn), if_pos (show (3 : Int32) < nI n from nI_lt (a := 3) (by omega) hn)]
        exact ⟨rfl, rfl⟩
  · rw [h1, h2, Option.bind_some, Option.bind_some, if_pos rfl, if_pos rfl]
    exact Or.inr ⟨rfl, rfl⟩
-- copies of states
theorem cpy_lt {f g : Nat → UInt64} {n j : Nat} (h : j < n) : va_cpy f g 0 0 n j = f j := by
  unfold va_cpy
  rw [if_pos (by omega)]
  congr 1
  omega
theorem copyS {a b : STT} (hb : isB b.2.2.2 = true) : ∃ c, p_X5_copyFrom a b = some c ∧ ∀ s, RelS b s → RelS c s := by
  unfold p_X5_copyFrom
  refine ⟨((va_cpy b.1.1 a.1.1 0 0 16, b.1.2), (va_cpy b.2.1.1 a.2.1.1 0 0 16, b.2.1.2), va_cpy b.2.2.1 a.2.2.1 0 0 3, b.2.2.2), ?_, ?_⟩
  · unfold p_X4_copyFrom
    rw [Option.bind_some, Option.bind_some, gD_t _ hb]
  · intro s h
    refine h.congr (fun row hr => ?_) (fun row j hr hj => ?_) (fun k hk => cpy_lt hk) rfl (fun _ _ => rfl)
    · unfold rL
      split <;> rfl
    · unfold rA
      split
      · exact cpy_lt hj
      · exact cpy_lt hj
-- histories
def rg (r0 r1 r2 r3 : STT) (i : Nat) : STT := if i = 0 then r0 else if i = 1 then r1 else if i = 2 then r2 else r3
def RelH (r0 r1 r2 r3 : STT) (old size : Int32) (was : Nat → UInt64) (states : Int32) : Prop := ∃ o h : Nat, o < 4 ∧ h ≤ 4 ∧ old = nI o ∧ size = nI h ∧ states = nI h ∧ ∀ j, j < h → RelS (rg r0 r1 r2 r3 ((o + j) % 4)) (fun k => was (38 * j + k))
theorem m4 {x : Nat} (h : x < 1000) : nI x - nI x / 4 * 4 = nI (x % 4) := pk_rem (d := 4) (by omega) (by decide) (by decide)
theorem i4 {i : Nat} (h : i < 4) {α : Type} (a b c d e : α) : (if nI i = 0 then a else if nI i = 1 then b else if nI i = 2 then c else if nI i = 3 then d else e) = (if i = 0 then a else if i = 1 then b else if i = 2 then c else d) := by
  rcases (show i = 0 ∨ i = 1 ∨ i = 2 ∨ i = 3 by omega) with rfl | rfl | rfl | rfl <;> rfl
/-- copying into the place i of the ring -/
theorem ring_put {r0 r1 r2 r3 st : STT} {i : Nat} (hi : i < 4) (hb : isB st.2.2.2 = true) (f : STT → STT → STT → STT → Option (STT × STT × STT × STT × Int32 × Int32)) (x y : Int32) (hf : ∀ a b c d, f a b c d = some (a, b, c, d, x, y)) :
    ∃ q0 q1 q2 q3, (if i = 0 then (p_X5_copyFrom r0 st).bind fun z => f z r1 r2 r3 else if i = 1 then (p_X5_copyFrom r1 st).bind fun z => f r0 z r2 r3 else if i = 2 then (p_X5_copyFrom r2 st).bind fun z => f r0 r1 z r3 else (p_X5_copyFrom r3 st).bind fun z => f r0 r1 r2 z) = some (q0, q1, q2, q3, x, y) ∧ (∀ s, RelS st s → RelS (rg q0 q1 q2 q3 i) s) ∧ ∀ j, j ≠ i → j < 4 → rg q0 q1 q2 q3 j = rg r0 r1 r2 r3 j := by
  rcases (show i = 0 ∨ i = 1 ∨ i = 2 ∨ i = 3 by omega) with rfl | rfl | rfl | rfl
  · obtain ⟨c, h1, h2⟩ := copyS (a := r0) hb
    exact ⟨c, r1, r2, r3, by rw [if_pos rfl, h1, Option.bind_some, hf], h2, fun j hj hj4 => by simp [rg, hj]⟩
  · obtain ⟨c, h1, h2⟩ := copyS (a := r1) hb
    exact ⟨r0, c, r2, r3, by rw [if_neg (by decide), if_pos rfl, h1, Option.bind_some, hf], h2, fun j hj hj4 => by simp [rg, hj]⟩
  · obtain ⟨c, h1, h2⟩ := copyS (a := r2) hb
    exact ⟨r0, r1, c, r3, by rw [if_neg (by decide), if_neg (by decide), if_pos rfl, h1, Option.bind_some, hf], h2, fun j hj hj4 => by simp [rg, hj]⟩
  · obtain ⟨c, h1, h2⟩ := copyS (a := r3) hb
    refine ⟨r0, r1, r2, c, by rw [if_neg (by decide), if_neg (by decide), if_neg (by decide), h1, Option.bind_some, hf], h2, fun j hj hj4 => ?_⟩
    rcases (show j = 0 ∨ j = 1 ∨ j = 2 by omega) with rfl | rfl | rfl <;> rfl
-- the reference's copying loops
theorem rec_shift (was : Nat → UInt64) : ∀ (d i f : Nat) (v : Nat → UInt64), i + d = 114 → (∀ j, j < i → v j = was (j + 38)) → (∀ j, i ≤ j → v j = was j) → ∃ v', p_X9_records_L10 (f + d + 1) (nI i) v = some v' ∧ (∀ j, j < 114 → v' j = was (j + 38)) ∧ ∀ j, 114 ≤ j → v' j = was j := by
  intro d
  induction d with
  | zero =>
    intro i f v h h1 h2
    have : i = 114 := by omega
    subst this
    exact ⟨v, by rw [p_X9_records_L10, if_pos (by decide)], h1, h2⟩
  | succ d ih =>
    intro i f v h h1 h2
    rw [show f + (d + 1) + 1 = (f + d + 1) + 1 by omega, p_X9_records_L10, show (114 : Int32) = nI 114 from rfl, if_neg (nI_ge (by omega) (by omega)), show nI i + 38 = nI (i + 38) from nI_add i 38, gD_t _ (inb_nI (by omega) (by decide)), gD_t _ (inb_nI (by omega) (by decide)), nI_clamp (show i + 38 < 2 ^ 31 by omega), nI_clamp (show i < 2 ^ 31 by omega), nI_1]
    refine ih (i + 1) f _ (by omega) (fun j hj => ?_) (fun j hj => ?_)
    · unfold vf_upd
      by_cases e : j = i
      · subst e
        rw [if_pos rfl, h2 _ (by omega)]
      · rw [if_neg e]
        exact h1 j (by omega)
    · unfold vf_upd
      rw [if_neg (by omega)]
      exact h2 j (by omega)
theorem rec_put (s : Nat → UInt64) {st : Nat} (hst : st < 4) : ∀ (d i f : Nat) (v : Nat → UInt64), i + d = 38 → (∀ j, j < i → v (38 * st + j) = s j) → ∃ v', p_X9_records_L49 s (nI st) (f + d + 1) (nI i) v = some v' ∧ (∀ j, j < 38 → v' (38 * st + j) = s j) ∧ ∀ j, (j < 38 * st ∨ 38 * st + 38 ≤ j) → v' j = v j := by
  intro d
  induction d with
  | zero =>
    intro i f v h h1
    have : i = 38 := by omega
    subst this
    exact ⟨v, by rw [p_X9_records_L49, if_pos (by decide)], h1, fun _ _ => rfl⟩
  | succ d ih =>
    intro i f v h h1
    have e38 : (38 : Int32) * nI st + nI i = nI (38 * st + i) := by rw [show (38 : Int32) = nI 38 from rfl, pk_mul, nI_add]
    rw [show f + (d + 1) + 1 = (f + d + 1) + 1 by omega, p_X9_records_L49, e38, show (38 : Int32) = nI 38 from rfl, if_neg (nI_ge (by omega) (by omega)), gD_t _ (inb_nI (by omega) (by decide)), gD_t _ (inb_nI (by omega) (by decide)), nI_clamp (show 38 * st + i < 2 ^ 31 by omega), nI_clamp (show i < 2 ^ 31 by omega), nI_1]
    obtain ⟨v', q1, q2, q3⟩ := ih (i + 1) f (vf_upd v (38 * st + i) (s i)) (by omega) (fun j hj => by
      unfold vf_upd
      by_cases e : j = i
      · subst e; rw [if_pos rfl]
      · rw [if_neg (by omega)]; exact h1 j (by omega))
    refine ⟨v', q1, q2, fun j hj => ?_⟩
    rw [q3 j hj]
    unfold vf_upd
    rw [if_neg (by omega)]
