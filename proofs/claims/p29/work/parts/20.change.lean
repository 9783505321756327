/-! calls that change rows: adding, cutting, setting, and laying a whole row -/
def Both (c : Option (Int32 × STT × STT × STT × STT × STT × Int32 × Int32)) (m : Option (Int32 × (Nat → UInt64) × (Nat → UInt64) × Int32)) : Prop := ∃ a st' q0 q1 q2 q3 old' size' s' was' states', c = some (a, st', q0, q1, q2, q3, old', size') ∧ m = some (a, s', was', states') ∧ MutR st' q0 q1 q2 q3 old' size' s' was' states'
theorem Both.same {st r0 r1 r2 r3 : STT} {old size states : Int32} {s was : Nat → UInt64} (a : Int32) (h : MutR st r0 r1 r2 r3 old size s was states) : Both (some (a, st, r0, r1, r2, r3, old, size)) (some (a, s, was, states)) := ⟨_, _, _, _, _, _, _, _, _, _, _, rfl, rfl, h⟩
theorem nI_inj {a b : Nat} (ha : a < 2 ^ 31) (hb : b < 2 ^ 31) : nI a = nI b ↔ a = b := by
  refine ⟨fun q => ?_, fun q => by rw [q]⟩
  have := congrArg Int32.toInt q
  rw [nI_toInt ha, nI_toInt hb] at this
  omega
def rowSet (st : STT) (row : Nat) (R : (Nat → UInt64) × Int32) : STT := if row = 0 then (R, st.2.1, st.2.2.1, st.2.2.2) else (st.1, R, st.2.2.1, st.2.2.2)
theorem RelS.setRow {st : STT} {s s' : Nat → UInt64} (h : RelS st s) {row : Nat} (hr : row < 2) {R : (Nat → UInt64) × Int32} {m : Nat} (hm : m ≤ 16) (hR : R.2 = nI m) (hc : s' (32 + row) = FP.i2d (nI m)) (hv : ∀ j, j < m → R.1 j = s' (16 * row + j) ∧ dfin (s' (16 * row + j)) = true) (os : ∀ k, k < 38 → k ≠ 32 + row → (k < 16 * row ∨ 16 * row + 16 ≤ k) → s' k = s k) : RelS (rowSet st row R) s' := by
  obtain ⟨⟨w, hw⟩, h2⟩ := h
  refine ⟨⟨fun r => if r = row then m else w r, fun r hr2 => ?_⟩, ?_⟩
  · by_cases e : r = row
    · subst e
      simp only [if_pos]
      refine ⟨hm, ?_, hc, fun j hj => ?_⟩
      · unfold rL rowSet
        split <;> exact hR
      · obtain ⟨h5, h6⟩ := hv j hj
        refine ⟨?_, h6⟩
        rw [← h5]
        unfold rA rowSet
        split <;> rfl
    · simp only [if_neg e]
      obtain ⟨g1, g2, g3, g4⟩ := hw r hr2
      refine ⟨g1, ?_, by rw [os _ (by omega) (by omega) (by omega), g3], fun j hj => ?_⟩
      · rw [← g2]
        unfold rL rowSet
        by_cases e2 : row = 0
        · rw [if_pos e2, if_neg (by omega), if_neg (by omega)]
        · rw [if_neg e2, if_pos (by omega), if_pos (by omega)]
      · obtain ⟨h5, h6⟩ := g4 j hj
        rw [os (16 * r + j) (by omega) (by omega) (by omega)]
        refine ⟨?_, h6⟩
        rw [← h5]
        unfold rA rowSet
        by_cases e2 : row = 0
        · rw [if_pos e2, if_neg (by omega), if_neg (by omega)]
        · rw [if_neg e2, if_pos (by omega), if_pos (by omega)]
  · have hs : (rowSet st row R).2.2 = st.2.2 := by
      unfold rowSet
      split <;> rfl
    exact h2.congr (fun k _ => by rw [hs]) (by rw [hs]) (fun k hk1 hk2 => os k hk2 (by omega) (by omega))
-- numbers by their bits
theorem num_or (b : Int64) : (fitb b.toUInt64 = true ∧ p_X0_fitRow b = some 1 ∧ p_X9_areOfNone b = some 0 ∧ (!(vn_snl2d b)) = true ∧ p_X9_isGood b.toUInt64 = some 1 ∧ p_X0_decoded b = some b.toUInt64) ∨ (p_X0_fitRow b = some 0 ∧ (p_X9_areOfNone b = some 1 ∨ (p_X9_areOfNone b = some 0 ∧ (!(vn_snl2d b)) = true ∧ p_X9_isGood b.toUInt64 = some 0))) := by
  unfold p_X0_fitRow
  rw [x0_nan, Option.bind_some, x9_none, x9_good]
  by_cases hn : nn b.toUInt64 = true
  · rw [if_pos hn, if_pos rfl, x0_decoded b hn, Option.bind_some, x3_fits, Option.bind_some]
    by_cases hf : fitb b.toUInt64 = true
    · rw [if_pos hf, if_neg (show ¬ (1 : Int32) = 0 by decide)]
      exact Or.inl ⟨hf, rfl, rfl, snl_t hn, rfl, rfl⟩
    · rw [if_neg hf, if_pos rfl]
      exact Or.inr ⟨rfl, Or.inr ⟨rfl, snl_t hn, rfl⟩⟩
  · rw [if_neg hn, if_neg (show ¬ (1 : Int32) = 0 by decide)]
    exact Or.inr ⟨rfl, Or.inl rfl⟩
theorem fitb_nn {v : UInt64} (h : fitb v = true) : nn v = true := dfin_nn (fitb_fin h)
theorem jx_bits {a : UInt64} (h : nn a = true) : p_Jxe99ae_doubleToLongBits_ccdee a = some a.toInt64 := by
  unfold p_Jxe99ae_doubleToLongBits_ccdee p_Jxe99ae_isNaN_b9ae7
  rw [if_pos ((fc_eq h h .l).mpr rfl), Option.bind_some, if_pos rfl]
theorem x9_same {a b : UInt64} (ha : nn a = true) (hb : nn b = true) : p_X9_areSame a b = some (if a = b then 1 else 0) := by
  unfold p_X9_areSame
  rw [jx_bits ha, jx_bits hb, Option.bind_some, Option.bind_some]
  by_cases c : a = b
  · subst c
    rw [if_pos ((lc_eq _ _).mpr rfl), if_pos rfl]
  · rw [if_neg (fun q => c ?_), if_neg c]
    exact congrArg Int64.toUInt64 ((lc_eq _ _).mp q)
theorem x4_app {R : (Nat → UInt64) × Int32} {m : Nat} (h : R.2 = nI m) (hm : m < 16) (v : UInt64) : p_X4_append R v = some (vf_upd R.1 m v, nI (m + 1)) := by
  unfold p_X4_append
  rw [h, n16, if_neg (nI_ge hm (by decide)), gD_t _ (inb_nI hm (by decide)), nI_clamp (by omega), nI_1]
theorem x4_full {R : (Nat → UInt64) × Int32} {m : Nat} (h : R.2 = nI m) (hm : 16 ≤ m) (hm2 : m < 2 ^ 31) (v : UInt64) : p_X4_append R v = some R := by
  unfold p_X4_append
  rw [h, n16, if_pos (nI_le hm hm2)]
theorem ix32 (row : Nat) : (32 : Int32) + nI row = nI (32 + row) := nI_add 32 row
theorem vu_s {f : Nat → UInt64} {i j : Nat} {v : UInt64} (h : j = i) : vf_upd f i v j = v := by
  unfold vf_upd
  exact if_pos h
theorem vu_n {f : Nat → UInt64} {i j : Nat} {v : UInt64} (h : ¬ j = i) : vf_upd f i v j = f j := by
  unfold vf_upd
  exact if_neg h
theorem one0 : ¬ (1 : Int32) = 0 := by decide
theorem n10 : ¬ nI 1 = 0 := by decide
theorem add_row0 {r0 r1 r2 r3 st : STT} {old size states : Int32} {was s : Nat → UInt64} (hH : RelH r0 r1 r2 r3 old size was states) (hS : RelS st s) (b : Int64) (h1 : p_X8_isRow (nI 0) = some 1) (h2 : p_X9_isRow (nI 0) = some 1) : Both (p_X8_add st r0 r1 r2 r3 old size (nI 0) b) (p_X9_add s was states (nI 0) b) := by
  unfold p_X8_add p_X9_add
  rw [h1, h2, Option.bind_some, Option.bind_some, if_neg one0, if_neg one0]
  have hS0 := hS
  obtain ⟨⟨w, hw⟩, hs2⟩ := hS
  obtain ⟨g1, g2, g3, g4⟩ := hw 0 (by decide)
  have g2 : st.1.2 = nI (w 0) := g2
  rcases num_or b with ⟨f, n1, n2, n3, n4, n5⟩ | ⟨n1, n⟩
  · rw [n1, n2, Option.bind_some, Option.bind_some, if_neg one0, if_pos rfl, gD_t _ n3, n4, Option.bind_some, if_neg one0, if_pos (show nI 0 = 0 from rfl), x9_many hw (row := 0) (by decide), Option.bind_some, g2]
    by_cases c : w 0 = 16
    · rw [c, if_pos (show nI 16 = 16 from rfl), if_pos (show nI 16 = 16 from rfl)]
      exact Both.same _ ⟨hS0, hH⟩
    · have c2 : ¬ nI (w 0) = 16 := fun q => c ((nI_inj (by omega) (by decide)).mp q)
      obtain ⟨q0, q1, q2, q3, o', z', w', t', e1, e2, e3⟩ := remember_ok hH hS0
      rw [if_neg c2, if_neg c2, e1, e2, Option.bind_some, Option.bind_some, n5, Option.bind_some, x4_app g2 (by omega), Option.bind_some, ixM, ix32, gD_t _ (inb_nI (by omega) (by decide)), gD_t _ (inb_nI (by omega) (by decide)), nI_clamp (show 16 * 0 + w 0 < 2 ^ 31 by omega), nI_clamp (show 32 + 0 < 2 ^ 31 by omega), nI_1]
      refine Both.same _ ⟨hS0.setRow (row := 0) (by decide) (m := w 0 + 1) (by omega) (R := (vf_upd st.1.1 (w 0) b.toUInt64, nI (w 0 + 1))) rfl ?_ (fun j hj => ?_) (fun k hk hk2 hk3 => ?_), e3⟩
      · unfold vf_upd
        rw [if_pos rfl]
      · rw [vu_n (show ¬ 16 * 0 + j = 32 + 0 by omega)]
        by_cases e : j = w 0
        · rw [vu_s (show 16 * 0 + j = 16 * 0 + w 0 by omega)]
          exact ⟨vu_s e, fitb_fin f⟩
        · rw [vu_n (show ¬ 16 * 0 + j = 16 * 0 + w 0 by omega)]
          exact ⟨(vu_n e).trans (g4 j (by omega)).1, (g4 j (by omega)).2⟩
      · rw [vu_n (show ¬ k = 32 + 0 by omega), vu_n (show ¬ k = 16 * 0 + w 0 by omega)]
  · rw [n1, Option.bind_some, if_pos rfl]
    rcases n with n | ⟨n, n3, n4⟩
    · rw [n, Option.bind_some, if_neg one0]
      exact Both.same _ ⟨hS0, hH⟩
    · rw [n, Option.bind_some, if_pos rfl, gD_t _ n3, n4, Option.bind_some, if_pos rfl]
      exact Both.same _ ⟨hS0, hH⟩
theorem add_row1 {r0 r1 r2 r3 st : STT} {old size states : Int32} {was s : Nat → UInt64} (hH : RelH r0 r1 r2 r3 old size was states) (hS : RelS st s) (b : Int64) (h1 : p_X8_isRow (nI 1) = some 1) (h2 : p_X9_isRow (nI 1) = some 1) : Both (p_X8_add st r0 r1 r2 r3 old size (nI 1) b) (p_X9_add s was states (nI 1) b) := by
  unfold p_X8_add p_X9_add
  rw [h1, h2, Option.bind_some, Option.bind_some, if_neg one0, if_neg one0]
  have hS0 := hS
  obtain ⟨⟨w, hw⟩, hs2⟩ := hS
  obtain ⟨g1, g2, g3, g4⟩ := hw 1 (by decide)
  have g2 : st.2.1.2 = nI (w 1) := g2
  rcases num_or b with ⟨f, n1, n2, n3, n4, n5⟩ | ⟨n1, n⟩
  · rw [n1, n2, Option.bind_some, Option.bind_some, if_neg one0, if_pos rfl, gD_t _ n3, n4, Option.bind_some, if_neg one0, if_neg n10, x9_many hw (row := 1) (by decide), Option.bind_some, g2]
    by_cases c : w 1 = 16
    · rw [c, if_pos (show nI 16 = 16 from rfl), if_pos (show nI 16 = 16 from rfl)]
      exact Both.same _ ⟨hS0, hH⟩
    · have c2 : ¬ nI (w 1) = 16 := fun q => c ((nI_inj (by omega) (by decide)).mp q)
      obtain ⟨q0, q1, q2, q3, o', z', w', t', e1, e2, e3⟩ := remember_ok hH hS0
      rw [if_neg c2, if_neg c2, e1, e2, Option.bind_some, Option.bind_some, n5, Option.bind_some, x4_app g2 (by omega), Option.bind_some, ixM, ix32, gD_t _ (inb_nI (by omega) (by decide)), gD_t _ (inb_nI (by omega) (by decide)), nI_clamp (show 16 * 1 + w 1 < 2 ^ 31 by omega), nI_clamp (show 32 + 1 < 2 ^ 31 by omega), nI_1]
      refine Both.same _ ⟨hS0.setRow (row := 1) (by decide) (m := w 1 + 1) (by omega) (R := (vf_upd st.2.1.1 (w 1) b.toUInt64, nI (w 1 + 1))) rfl ?_ (fun j hj => ?_) (fun k hk hk2 hk3 => ?_), e3⟩
      · unfold vf_upd
        rw [if_pos rfl]
      · rw [vu_n (show ¬ 16 * 1 + j = 32 + 1 by omega)]
        by_cases e : j = w 1
        · rw [vu_s (show 16 * 1 + j = 16 * 1 + w 1 by omega)]
          exact ⟨vu_s e, fitb_fin f⟩
        · rw [vu_n (show ¬ 16 * 1 + j = 16 * 1 + w 1 by omega)]
          exact ⟨(vu_n e).trans (g4 j (by omega)).1, (g4 j (by omega)).2⟩
      · rw [vu_n (show ¬ k = 32 + 1 by omega), vu_n (show ¬ k = 16 * 1 + w 1 by omega)]
  · rw [n1, Option.bind_some, if_pos rfl]
    rcases n with n | ⟨n, n3, n4⟩
    · rw [n, Option.bind_some, if_neg one0]
      exact Both.same _ ⟨hS0, hH⟩
    · rw [n, Option.bind_some, if_pos rfl, gD_t _ n3, n4, Option.bind_some, if_pos rfl]
      exact Both.same _ ⟨hS0, hH⟩
theorem add_ok {r0 r1 r2 r3 st : STT} {old size states : Int32} {was s : Nat → UInt64} (hH : RelH r0 r1 r2 r3 old size was states) (hS : RelS st s) (p : Int32) (b : Int64) : Both (p_X8_add st r0 r1 r2 r3 old size p b) (p_X9_add s was states p b) := by
  rcases row_or p with ⟨row, hr, rfl, h1, h2⟩ | ⟨h1, h2⟩
  · rcases (show row = 0 ∨ row = 1 by omega) with rfl | rfl
    · exact add_row0 hH hS b h1 h2
    · exact add_row1 hH hS b h1 h2
  · unfold p_X8_add p_X9_add
    rw [h1, h2, Option.bind_some, Option.bind_some, if_pos rfl, if_pos rfl]
    exact Both.same _ ⟨hS, hH⟩
theorem cut_l {row : Nat} (hr : row < 2) (a : Int32) {i0 : Nat} : ∀ (d i f : Nat) (v : Nat → UInt64), i + d = 16 → i0 ≤ i → ∃ v', p_X9_cut_L49 (nI row) (f + d + 1) a (nI i) v = some (a, v') ∧ ∀ j, (j < 16 * row + i0 ∨ 16 * row + 16 ≤ j) → v' j = v j := by
  intro d
  induction d with
  | zero =>
    intro i f v h h1
    have : i = 16 := by omega
    subst this
    exact ⟨v, by rw [p_X9_cut_L49, if_pos (by decide)], fun _ _ => rfl⟩
  | succ d ih =>
    intro i f v h h1
    rw [show f + (d + 1) + 1 = (f + d + 1) + 1 by omega, p_X9_cut_L49, ixM, n16, if_neg (nI_ge (by omega) (by omega)), gD_t _ (inb_nI (by omega) (by decide)), nI_clamp (show 16 * row + i < 2 ^ 31 by omega), nI_1]
    obtain ⟨v', q1, q2⟩ := ih (i + 1) f (vf_upd v (16 * row + i) FP.dconst0) (by omega) (by omega)
    refine ⟨v', q1, fun j hj => ?_⟩
    rw [q2 j hj]
    unfold vf_upd
    rw [if_neg (by omega)]
theorem cut_row0 {r0 r1 r2 r3 st : STT} {old size states : Int32} {was s : Nat → UInt64} (hH : RelH r0 r1 r2 r3 old size was states) (hS : RelS st s) (n : Int32) (h1 : p_X8_isRow (nI 0) = some 1) (h2 : p_X9_isRow (nI 0) = some 1) : Both (p_X8_cut st r0 r1 r2 r3 old size (nI 0) n) (p_X9_cut s was states (nI 0) n) := by
  unfold p_X8_cut p_X9_cut
  rw [h1, h2, Option.bind_some, Option.bind_some, if_neg one0, if_neg one0, x9_in, Option.bind_some]
  have hS0 := hS
  obtain ⟨⟨w, hw⟩, hs2⟩ := hS
  obtain ⟨g1, g2, g3, g4⟩ := hw 0 (by decide)
  have g2 : st.1.2 = nI (w 0) := g2
  by_cases c1 : n < 1
  · rw [if_pos c1, if_pos c1, if_pos rfl]
    exact Both.same _ ⟨hS0, hH⟩
  · rw [if_neg c1, if_neg c1]
    by_cases c2 : n ≤ 16
    · rw [if_pos c2, if_neg (show ¬ 16 < n from Int32.not_lt.mpr c2), if_neg one0, if_pos (show nI 0 = 0 from rfl), x9_many hw (row := 0) (by decide), Option.bind_some, g2]
      by_cases c3 : n ≤ nI (w 0)
      · have b1 : (1 : Int) ≤ n.toInt := Int32.le_iff_toInt_le.mp (Int32.not_lt.mp c1)
        have b2 := Int32.le_iff_toInt_le.mp c3
        rw [nI_toInt (by omega)] at b2
        obtain ⟨m, hm, rfl⟩ := nI_of (x := n) (fun q => c1 (Int32.lt_of_lt_of_le q (by decide)))
        rw [nI_toInt hm] at b1 b2
        obtain ⟨q0, q1, q2, q3, o', z', w', t', e1, e2, e3⟩ := remember_ok hH hS0
        obtain ⟨v', f1, f2⟩ := cut_l (row := 0) (by decide) (nI (w 0 - m)) (i0 := w 0 - m) (16 - (w 0 - m)) (w 0 - m) (299 - (16 - (w 0 - m))) s (by omega) (Nat.le_refl _)
        rw [show 299 - (16 - (w 0 - m)) + (16 - (w 0 - m)) + 1 = 300 by omega] at f1
        rw [if_pos c3, if_pos c3, e1, e2, Option.bind_some, Option.bind_some, Option.bind_some, pk_sub (by omega), f1, Option.bind_some, ix32, gD_t _ (inb_nI (by omega) (by decide)), nI_clamp (show 32 + 0 < 2 ^ 31 by omega)]
        dsimp only
        refine Both.same _ ⟨hS0.setRow (row := 0) (by decide) (m := w 0 - m) (by omega) (R := (st.1.1, nI (w 0 - m))) rfl ?_ (fun j hj => ?_) (fun k hk hk2 hk3 => ?_), e3⟩
        · unfold vf_upd
          rw [if_pos rfl]
        · rw [vu_n (show ¬ 16 * 0 + j = 32 + 0 by omega), f2 _ (by omega)]
          exact g4 j (by omega)
        · rw [vu_n (show ¬ k = 32 + 0 by omega), f2 _ (by omega)]
      · rw [if_neg c3, if_neg c3]
        exact Both.same _ ⟨hS0, hH⟩
    · rw [if_neg c2, if_pos (show 16 < n from Int32.not_le.mp c2), if_pos rfl]
      exact Both.same _ ⟨hS0, hH⟩
theorem cut_row1 {r0 r1 r2 r3 st : STT} {old size states : Int32} {was s : Nat → UInt64} (hH : RelH r0 r1 r2 r3 old size was states) (hS : RelS st s) (n : Int32) (h1 : p_X8_isRow (nI 1) = some 1) (h2 : p_X9_isRow (nI 1) = some 1) : Both (p_X8_cut st r0 r1 r2 r3 old size (nI 1) n) (p_X9_cut s was states (nI 1) n) := by
  unfold p_X8_cut p_X9_cut
  rw [h1, h2, Option.bind_some, Option.bind_some, if_neg one0, if_neg one0, x9_in, Option.bind_some]
  have hS0 := hS
  obtain ⟨⟨w, hw⟩, hs2⟩ := hS
  obtain ⟨g1, g2, g3, g4⟩ := hw 1 (by decide)
  have g2 : st.2.1.2 = nI (w 1) := g2
  by_cases c1 : n < 1
  · rw [if_pos c1, if_pos c1, if_pos rfl]
    exact Both.same _ ⟨hS0, hH⟩
  · rw [if_neg c1, if_neg c1]
    by_cases c2 : n ≤ 16
    · rw [if_pos c2, if_neg (show ¬ 16 < n from Int32.not_lt.mpr c2), if_neg one0, if_neg n10, x9_many hw (row := 1) (by decide), Option.bind_some, g2]
      by_cases c3 : n ≤ nI (w 1)
      · have b1 : (1 : Int) ≤ n.toInt := Int32.le_iff_toInt_le.mp (Int32.not_lt.mp c1)
        have b2 := Int32.le_iff_toInt_le.mp c3
        rw [nI_toInt (by omega)] at b2
        obtain ⟨m, hm, rfl⟩ := nI_of (x := n) (fun q => c1 (Int32.lt_of_lt_of_le q (by decide)))
        rw [nI_toInt hm] at b1 b2
        obtain ⟨q0, q1, q2, q3, o', z', w', t', e1, e2, e3⟩ := remember_ok hH hS0
        obtain ⟨v', f1, f2⟩ := cut_l (row := 1) (by decide) (nI (w 1 - m)) (i0 := w 1 - m) (16 - (w 1 - m)) (w 1 - m) (299 - (16 - (w 1 - m))) s (by omega) (Nat.le_refl _)
        rw [show 299 - (16 - (w 1 - m)) + (16 - (w 1 - m)) + 1 = 300 by omega] at f1
        rw [if_pos c3, if_pos c3, e1, e2, Option.bind_some, Option.bind_some, Option.bind_some, pk_sub (by omega), f1, Option.bind_some, ix32, gD_t _ (inb_nI (by omega) (by decide)), nI_clamp (show 32 + 1 < 2 ^ 31 by omega)]
        dsimp only
        refine Both.same _ ⟨hS0.setRow (row := 1) (by decide) (m := w 1 - m) (by omega) (R := (st.2.1.1, nI (w 1 - m))) rfl ?_ (fun j hj => ?_) (fun k hk hk2 hk3 => ?_), e3⟩
        · unfold vf_upd
          rw [if_pos rfl]
        · rw [vu_n (show ¬ 16 * 1 + j = 32 + 1 by omega), f2 _ (by omega)]
          exact g4 j (by omega)
        · rw [vu_n (show ¬ k = 32 + 1 by omega), f2 _ (by omega)]
      · rw [if_neg c3, if_neg c3]
        exact Both.same _ ⟨hS0, hH⟩
    · rw [if_neg c2, if_pos (show 16 < n from Int32.not_le.mp c2), if_pos rfl]
      exact Both.same _ ⟨hS0, hH⟩
theorem cut_ok {r0 r1 r2 r3 st : STT} {old size states : Int32} {was s : Nat → UInt64} (hH : RelH r0 r1 r2 r3 old size was states) (hS : RelS st s) (p : Int32) (n : Int32) : Both (p_X8_cut st r0 r1 r2 r3 old size p n) (p_X9_cut s was states p n) := by
  rcases row_or p with ⟨row, hr, rfl, h1, h2⟩ | ⟨h1, h2⟩
  · rcases (show row = 0 ∨ row = 1 by omega) with rfl | rfl
    · exact cut_row0 hH hS n h1 h2
    · exact cut_row1 hH hS n h1 h2
  · unfold p_X8_cut p_X9_cut
    rw [h1, h2, Option.bind_some, Option.bind_some, if_pos rfl, if_pos rfl]
    exact Both.same _ ⟨hS, hH⟩
theorem place_or {st : STT} {s : Nat → UInt64} {w : Nat → Nat} (hw : rowsR st s w) {row : Nat} (hr : row < 2) {R : (Nat → UInt64) × Int32} (hR : R.2 = nI (w row)) (h2 : p_X9_isRow (nI row) = some 1) (p : Int32) : (∃ j, j < w row ∧ p = nI j ∧ p_X4_hasPlace R p = some 1 ∧ p_X9_isPlace s (nI row) p = some 1) ∨ (p_X4_hasPlace R p = some 0 ∧ p_X9_isPlace s (nI row) p = some 0) := by
  obtain ⟨g1, g2, g3, g4⟩ := hw row hr
  unfold p_X4_hasPlace p_X9_isPlace
  rw [h2, Option.bind_some, if_neg one0, x9_many hw hr, Option.bind_some, x9_in, Option.bind_some, hR]
  by_cases h0 : p < 0
  · rw [if_pos h0, if_pos h0, if_pos rfl]
    exact Or.inr ⟨rfl, rfl⟩
  · rw [if_neg h0, if_neg h0]
    obtain ⟨j, hj, rfl⟩ := nI_of h0
    by_cases c : j < w row
    · rw [if_neg (nI_ge c (by omega)), show w row = w row - 1 + 1 by omega, nI_pred, if_neg (nI_nlt (by omega) (by omega)), if_neg one0]
      exact Or.inl ⟨j, by omega, rfl, rfl, rfl⟩
    · rw [if_pos (nI_le (by omega) hj)]
      have : nI (w row) - 1 < nI j := by
        by_cases z : w row = 0
        · rw [z]
          exact Int32.lt_of_lt_of_le (show nI 0 - 1 < 0 by decide) (nI_pos' hj)
        · obtain ⟨x, hx⟩ : ∃ x, w row = x + 1 := ⟨w row - 1, by omega⟩
          rw [hx, nI_pred]
          exact nI_lt (by omega) hj
      rw [if_pos this, if_pos rfl]
      exact Or.inr ⟨rfl, rfl⟩
theorem set_row0 {r0 r1 r2 r3 st : STT} {old size states : Int32} {was s : Nat → UInt64} (hH : RelH r0 r1 r2 r3 old size was states) (hS : RelS st s) (n : Int32) (b : Int64) (h1 : p_X8_isRow (nI 0) = some 1) (h2 : p_X9_isRow (nI 0) = some 1) : Both (p_X8_set st r0 r1 r2 r3 old size (nI 0) n b) (p_X9_set s was states (nI 0) n b) := by
  unfold p_X8_set p_X9_set
  rw [h1, Option.bind_some, if_neg one0, if_pos (show nI 0 = 0 from rfl)]
  have hS0 := hS
  obtain ⟨⟨w, hw⟩, hs2⟩ := hS
  obtain ⟨g1, g2, g3, g4⟩ := hw 0 (by decide)
  have g2 : st.1.2 = nI (w 0) := g2
  rcases place_or hw (row := 0) (by decide) g2 h2 n with ⟨j, hj, rfl, p1, p2⟩ | ⟨p1, p2⟩
  · rw [p1, p2, Option.bind_some, Option.bind_some, if_neg one0, if_neg one0]
    rcases num_or b with ⟨f, n1, n2, n3, n4, n5⟩ | ⟨n1, n⟩
    · obtain ⟨a1, a2⟩ := g4 j hj
      have a1 : st.1.1 j = s (16 * 0 + j) := a1
      rw [n1, n2, Option.bind_some, Option.bind_some, if_neg one0, if_pos rfl, gD_t _ n3, n4, Option.bind_some, if_neg one0, n5, Option.bind_some, gD_t _ (inb_nI (show j < 16 by omega) (by decide)), ixM, gD_t _ (inb_nI (show 16 * 0 + j < 38 by omega) (by decide)), nI_clamp (show j < 2 ^ 31 by omega), nI_clamp (show 16 * 0 + j < 2 ^ 31 by omega), a1, x3_same (dfin_nn a2) (fitb_nn f), x9_same (fitb_nn f) (dfin_nn a2), Option.bind_some, Option.bind_some]
      by_cases c : s (16 * 0 + j) = b.toUInt64
      · rw [if_pos c, if_pos c.symm, if_neg one0, if_neg one0]
        exact Both.same _ ⟨hS0, hH⟩
      · obtain ⟨q0, q1, q2, q3, o', z', w', t', e1, e2, e3⟩ := remember_ok hH hS0
        rw [if_neg c, if_neg (show ¬ b.toUInt64 = s (16 * 0 + j) from fun q => c q.symm), if_pos rfl, if_pos rfl, e1, e2, Option.bind_some, Option.bind_some, gD_t _ (inb_nI (show j < 16 by omega) (by decide)), gD_t _ (inb_nI (show 16 * 0 + j < 38 by omega) (by decide)), g2]
        refine Both.same _ ⟨hS0.setRow (row := 0) (by decide) (m := w 0) g1 (R := (vf_upd st.1.1 j b.toUInt64, nI (w 0))) rfl ?_ (fun i hi => ?_) (fun k hk hk2 hk3 => ?_), e3⟩
        · rw [vu_n (show ¬ 32 + 0 = 16 * 0 + j by omega)]
          exact g3
        · by_cases e : i = j
          · rw [vu_s (show 16 * 0 + i = 16 * 0 + j by omega)]
            exact ⟨vu_s e, fitb_fin f⟩
          · rw [vu_n (show ¬ 16 * 0 + i = 16 * 0 + j by omega)]
            exact ⟨(vu_n e).trans (g4 i (by omega)).1, (g4 i (by omega)).2⟩
        · rw [vu_n (show ¬ k = 16 * 0 + j by omega)]
    · rw [n1, Option.bind_some, if_pos rfl]
      rcases n with n | ⟨n, n3, n4⟩
      · rw [n, Option.bind_some, if_neg one0]
        exact Both.same _ ⟨hS0, hH⟩
      · rw [n, Option.bind_some, if_pos rfl, gD_t _ n3, n4, Option.bind_some, if_pos rfl]
        exact Both.same _ ⟨hS0, hH⟩
  · rw [p1, p2, Option.bind_some, Option.bind_some, if_pos rfl, if_pos rfl]
    exact Both.same _ ⟨hS0, hH⟩
theorem set_row1 {r0 r1 r2 r3 st : STT} {old size states : Int32} {was s : Nat → UInt64} (hH : RelH r0 r1 r2 r3 old size was states) (hS : RelS st s) (n : Int32) (b : Int64) (h1 : p_X8_isRow (nI 1) = some 1) (h2 : p_X9_isRow (nI 1) = some 1) : Both (p_X8_set st r0 r1 r2 r3 old size (nI 1) n b) (p_X9_set s was states (nI 1) n b) := by
  unfold p_X8_set p_X9_set
  rw [h1, Option.bind_some, if_neg one0, if_neg n10]
  have hS0 := hS
  obtain ⟨⟨w, hw⟩, hs2⟩ := hS
  obtain ⟨g1, g2, g3, g4⟩ := hw 1 (by decide)
  have g2 : st.2.1.2 = nI (w 1) := g2
  rcases place_or hw (row := 1) (by decide) g2 h2 n with ⟨j, hj, rfl, p1, p2⟩ | ⟨p1, p2⟩
  · rw [p1, p2, Option.bind_some, Option.bind_some, if_neg one0, if_neg one0]
    rcases num_or b with ⟨f, n1, n2, n3, n4, n5⟩ | ⟨n1, n⟩
    · obtain ⟨a1, a2⟩ := g4 j hj
      have a1 : st.2.1.1 j = s (16 * 1 + j) := a1
      rw [n1, n2, Option.bind_some, Option.bind_some, if_neg one0, if_pos rfl, gD_t _ n3, n4, Option.bind_some, if_neg one0, n5, Option.bind_some, gD_t _ (inb_nI (show j < 16 by omega) (by decide)), ixM, gD_t _ (inb_nI (show 16 * 1 + j < 38 by omega) (by decide)), nI_clamp (show j < 2 ^ 31 by omega), nI_clamp (show 16 * 1 + j < 2 ^ 31 by omega), a1, x3_same (dfin_nn a2) (fitb_nn f), x9_same (fitb_nn f) (dfin_nn a2), Option.bind_some, Option.bind_some]
      by_cases c : s (16 * 1 + j) = b.toUInt64
      · rw [if_pos c, if_pos c.symm, if_neg one0, if_neg one0]
        exact Both.same _ ⟨hS0, hH⟩
      · obtain ⟨q0, q1, q2, q3, o', z', w', t', e1, e2, e3⟩ := remember_ok hH hS0
        rw [if_neg c, if_neg (show ¬ b.toUInt64 = s (16 * 1 + j) from fun q => c q.symm), if_pos rfl, if_pos rfl, e1, e2, Option.bind_some, Option.bind_some, gD_t _ (inb_nI (show j < 16 by omega) (by decide)), gD_t _ (inb_nI (show 16 * 1 + j < 38 by omega) (by decide)), g2]
        refine Both.same _ ⟨hS0.setRow (row := 1) (by decide) (m := w 1) g1 (R := (vf_upd st.2.1.1 j b.toUInt64, nI (w 1))) rfl ?_ (fun i hi => ?_) (fun k hk hk2 hk3 => ?_), e3⟩
        · rw [vu_n (show ¬ 32 + 1 = 16 * 1 + j by omega)]
          exact g3
        · by_cases e : i = j
          · rw [vu_s (show 16 * 1 + i = 16 * 1 + j by omega)]
            exact ⟨vu_s e, fitb_fin f⟩
          · rw [vu_n (show ¬ 16 * 1 + i = 16 * 1 + j by omega)]
            exact ⟨(vu_n e).trans (g4 i (by omega)).1, (g4 i (by omega)).2⟩
        · rw [vu_n (show ¬ k = 16 * 1 + j by omega)]
    · rw [n1, Option.bind_some, if_pos rfl]
      rcases n with n | ⟨n, n3, n4⟩
      · rw [n, Option.bind_some, if_neg one0]
        exact Both.same _ ⟨hS0, hH⟩
      · rw [n, Option.bind_some, if_pos rfl, gD_t _ n3, n4, Option.bind_some, if_pos rfl]
        exact Both.same _ ⟨hS0, hH⟩
  · rw [p1, p2, Option.bind_some, Option.bind_some, if_pos rfl, if_pos rfl]
    exact Both.same _ ⟨hS0, hH⟩
theorem set_ok {r0 r1 r2 r3 st : STT} {old size states : Int32} {was s : Nat → UInt64} (hH : RelH r0 r1 r2 r3 old size was states) (hS : RelS st s) (p n : Int32) (b : Int64) : Both (p_X8_set st r0 r1 r2 r3 old size p n b) (p_X9_set s was states p n b) := by
  rcases row_or p with ⟨row, hr, rfl, h1, h2⟩ | ⟨h1, h2⟩
  · rcases (show row = 0 ∨ row = 1 by omega) with rfl | rfl
    · exact set_row0 hH hS n b h1 h2
    · exact set_row1 hH hS n b h1 h2
  · unfold p_X8_set p_X9_set p_X9_isPlace
    rw [h1, h2, Option.bind_some, Option.bind_some, if_pos rfl, if_pos rfl, Option.bind_some, if_pos rfl]
    exact Both.same _ ⟨hS, hH⟩
theorem bec_l (nx : Nat → UInt64) {m row : Nat} (hm : m ≤ 16) (hr : row < 2) : ∀ (d i f : Nat) (v : Nat → UInt64), i + d = 16 → (∀ j, j < i → j < m → v (16 * row + j) = nx j) → ∃ v', p_X9_becomes_L6 nx (nI m) (nI row) (f + d + 1) (nI i) v = some v' ∧ (∀ j, j < m → v' (16 * row + j) = nx j) ∧ ∀ j, (j < 16 * row ∨ 16 * row + 16 ≤ j) → v' j = v j := by
  intro d
  induction d with
  | zero =>
    intro i f v h h1
    have : i = 16 := by omega
    subst this
    exact ⟨v, by rw [p_X9_becomes_L6, if_pos (by decide)], fun j hj => h1 j (by omega) hj, fun _ _ => rfl⟩
  | succ d ih =>
    intro i f v h h1
    rw [show f + (d + 1) + 1 = (f + d + 1) + 1 by omega, p_X9_becomes_L6, ixM, n16, if_neg (nI_ge (by omega) (by omega)), gD_t _ (inb_nI (show 16 * row + i < 38 by omega) (by decide)), gD_t _ (inb_nI (show i < 32 by omega) (by decide)), gD_t _ (inb_nI (show 16 * row + i < 38 by omega) (by decide)), nI_clamp (show 16 * row + i < 2 ^ 31 by omega), nI_clamp (show i < 2 ^ 31 by omega), nI_1]
    by_cases c : m ≤ i
    · rw [if_pos (nI_le c (by omega))]
      obtain ⟨v', q1, q2, q3⟩ := ih (i + 1) f (vf_upd v (16 * row + i) FP.dconst0) (by omega) (fun j hj hj2 => by
        unfold vf_upd
        rw [if_neg (by omega)]
        exact h1 j (by omega) hj2)
      refine ⟨v', q1, q2, fun j hj => ?_⟩
      rw [q3 j hj]
      unfold vf_upd
      rw [if_neg (by omega)]
    · rw [if_neg (nI_ge (by omega) (by omega))]
      obtain ⟨v', q1, q2, q3⟩ := ih (i + 1) f (vf_upd v (16 * row + i) (nx i)) (by omega) (fun j hj hj2 => by
        unfold vf_upd
        by_cases e : j = i
        · rw [if_pos (by omega), e]
        · rw [if_neg (by omega)]
          exact h1 j (by omega) hj2)
      refine ⟨v', q1, q2, fun j hj => ?_⟩
      rw [q3 j hj]
      unfold vf_upd
      rw [if_neg (by omega)]
/-- the class's draft becomes a row, the reference's next numbers become it -/
theorem put_ok {r0 r1 r2 r3 st : STT} {old size states : Int32} {was s : Nat → UInt64} (hH : RelH r0 r1 r2 r3 old size was states) (hS : RelS st s) {row m : Nat} (hr : row < 2) (hm : m ≤ 16) {R : (Nat → UInt64) × Int32} {nx : Nat → UInt64} (hR : R.2 = nI m) (hv : ∀ j, j < m → R.1 j = nx j ∧ dfin (nx j) = true) : Both (p_X8_putDraft st r0 r1 r2 r3 old size R (nI row)) (p_X9_becomes s was states nx (nI m) (nI row)) := by
  obtain ⟨q0, q1, q2, q3, o', z', w', t', e1, e2, e3⟩ := remember_ok hH hS
  obtain ⟨v', f1, f2, f3⟩ := bec_l nx hm hr 16 0 283 s rfl (fun j hj => absurd hj (Nat.not_lt_zero _))
  unfold p_X8_putDraft p_X9_becomes
  rw [e1, e2, Option.bind_some, Option.bind_some, show p_X9_becomes_L6 nx (nI m) (nI row) 300 0 s = some v' from f1, Option.bind_some, ix32, gD_t _ (inb_nI (show 32 + row < 38 by omega) (by decide)), nI_clamp (show 32 + row < 2 ^ 31 by omega)]
  have key : ∀ A : Nat → UInt64, RelS (rowSet st row (va_cpy R.1 A 0 0 16, nI m)) (vf_upd v' (32 + row) (FP.i2d (nI m))) := by
    intro A
    refine hS.setRow hr (m := m) hm rfl ?_ (fun j hj => ?_) (fun k hk hk2 hk3 => ?_)
    · unfold vf_upd
      rw [if_pos rfl]
    · obtain ⟨a1, a2⟩ := hv j hj
      unfold vf_upd
      rw [if_neg (by omega), f2 j hj]
      refine ⟨?_, a2⟩
      rw [← a1]
      exact cpy_lt (by omega)
    · unfold vf_upd
      rw [if_neg hk2, f3 k hk3]
  rcases (show row = 0 ∨ row = 1 by omega) with rfl | rfl
  · rw [if_pos (show nI 0 = 0 from rfl)]
    unfold p_X4_copyFrom
    rw [Option.bind_some, hR]
    exact Both.same _ ⟨key st.1.1, e3⟩
  · rw [if_neg n10]
    unfold p_X4_copyFrom
    rw [Option.bind_some, hR]
    exact Both.same _ ⟨key st.2.1.1, e3⟩
