/-! guesses compared: guess, spread, best, needed; settings and counts -/
theorem guessOf_ok {st : STT} {s : Nat → UInt64} {w : Nat → Nat} (hw : rowsR st s w) (h2 : setsR st s) {row t : Nat} (hr : row < 2) (ht : t < 4) (h0 : ¬ w row = 0) (v e : Nat → UInt64) (k kk : Nat → Int32) : ∃ a v' k' tb gu ra br le gc ge gv v2 k2 gd gs er, p_X8_guessOf st v k (nI row) (nI t) = some (a, v', k', tb, gu, ra, br, le, gc, ge, gv) ∧ p_X9_guesses s e kk (nI row) (nI t) (nI (w row)) = some (v2, k2, nI t, nI (w row), gd, gs, er) ∧ gs = a ∧ dfin a = true := by
  obtain ⟨v', k', g, q, b, e1, e2⟩ := guess_ok hw h2 hr ht v k
  obtain ⟨v2, k2, fo, col, er, val, gd, gs, ge, ag, f1, f2, f3⟩ := e2 (w row) (Nat.le_refl _) e kk
  obtain ⟨a1, a2⟩ := f3.1 h0
  refine ⟨val, v', k', nI t, g, q, b, nI (w row), col, er, val, v2, k2, gd, gs, ge, ?_, f2, a1.symm, by rw [a1]; exact a2⟩
  unfold p_X8_guessOf
  rw [e1, Option.bind_some]
  dsimp only
  rw [f1, Option.bind_some]
theorem guess_fin {st : STT} {s : Nat → UInt64} (hS : RelS st s) (v e : Nat → UInt64) (k kk : Nat → Int32) (tb : Int32) (gu ra : UInt64) (br le gc : Int32) (gE gV : UInt64) (tb' wi gd0 : Int32) (gs0 ge0 : UInt64) (p t : Int32) : ∃ a x y, p_X8_guess st v k tb gu ra br le gc gE gV p t = some (a, x) ∧ p_X9_guess s e kk tb' wi gd0 gs0 ge0 p t = some (a, y) := by
  obtain ⟨⟨w, hw⟩, h2⟩ := hS
  unfold p_X8_guess p_X9_guess
  rcases tab_or p t with ⟨row, tt, hr, ht, rfl, rfl, h1, h3⟩ | ⟨h1, h3⟩
  · rw [h1, h3, Option.bind_some, Option.bind_some, if_neg one0, if_neg one0, x9_many hw hr, Option.bind_some]
    obtain ⟨g1, g2, g3, g4⟩ := hw row hr
    by_cases c : w row = 0
    · obtain ⟨v', k', g, q, b, e1, e2⟩ := guess_ok hw h2 hr ht v k
      obtain ⟨v2, k2, fo, col, er, val, gd, gs, ge, ag, f1, f2, f3⟩ := e2 (w row) (Nat.le_refl _) e kk
      rw [f2, Option.bind_some, f3.2.1 c]
      rcases (show row = 0 ∨ row = 1 by omega) with rfl | rfl
      · have g2 : st.1.2 = nI (w 0) := g2
        rw [if_pos (show nI 0 = 0 from rfl), g2, c, if_pos (show nI 0 = 0 from rfl)]
        exact ⟨_, _, _, rfl, rfl⟩
      · have g2 : st.2.1.2 = nI (w 1) := g2
        rw [if_neg n10, g2, c, if_pos (show nI 0 = 0 from rfl)]
        exact ⟨_, _, _, rfl, rfl⟩
    · obtain ⟨a, v', k', tb, gu, ra, br, le, gc, ge, gv, v2, k2, gd, gs, er, f1, f2, f3, f4⟩ := guessOf_ok hw h2 hr ht c v e k kk
      rw [f1, f2, Option.bind_some, f3]
      rcases (show row = 0 ∨ row = 1 by omega) with rfl | rfl
      · have g2 : st.1.2 = nI (w 0) := g2
        rw [if_pos (show nI 0 = 0 from rfl), g2, if_neg (nI_ne0 (by omega) (by omega)), Option.bind_some]
        exact ⟨_, _, _, rfl, rfl⟩
      · have g2 : st.2.1.2 = nI (w 1) := g2
        rw [if_neg n10, g2, if_neg (nI_ne0 (by omega) (by omega)), Option.bind_some]
        exact ⟨_, _, _, rfl, rfl⟩
  · rw [h1, h3, Option.bind_some, Option.bind_some, if_pos rfl, if_pos rfl]
    exact ⟨_, _, _, rfl, rfl⟩
theorem spread_l {st : STT} {s : Nat → UInt64} {w : Nat → Nat} (hw : rowsR st s w) (h2 : setsR st s) {row : Nat} (hr : row < 2) (h0 : ¬ w row = 0) :
    ∀ (d i f f' : Nat) (lo hi : UInt64) (v e : Nat → UInt64) (k kk : Nat → Int32) (tb : Int32) (gu ra : UInt64) (br le gc : Int32) (gE gV : UInt64) (tb' wi gd0 : Int32) (gs0 ge0 : UInt64), i + d = 4 → dfin lo = true → dfin hi = true → ∃ lo' hi' x y, p_X8_spread_L38 st (nI row) (f + d + 1) lo hi (nI i) v k tb gu ra br le gc gE gV = some (lo', hi', x) ∧ p_X9_spread_L44 s (nI row) (f' + d + 1) hi lo (nI i) e kk tb' wi gd0 gs0 ge0 = some (hi', lo', y) ∧ dfin lo' = true ∧ dfin hi' = true := by
  intro d
  induction d with
  | zero =>
    intro i f f' lo hi v e k kk tb gu ra br le gc gE gV tb' wi gd0 gs0 ge0 h hl hh
    have : i = 4 := by omega
    subst this
    exact ⟨lo, hi, _, _, by rw [p_X8_spread_L38, if_pos (by decide)], by rw [p_X9_spread_L44, if_pos (by decide)], hl, hh⟩
  | succ d ih =>
    intro i f f' lo hi v e k kk tb gu ra br le gc gE gV tb' wi gd0 gs0 ge0 h hl hh
    obtain ⟨a, v', k', tb1, gu1, ra1, br1, le1, gc1, ge1, gv1, v2, k2, gd, gs, er, f1, f2, f3, f4⟩ := guessOf_ok hw h2 hr (t := i) (by omega) h0 v e k kk
    subst f3
    rw [show f + (d + 1) + 1 = (f + d + 1) + 1 by omega, show f' + (d + 1) + 1 = (f' + d + 1) + 1 by omega, p_X8_spread_L38, p_X9_spread_L44, if_neg (show ¬ (4 : Int32) ≤ nI i from nI_ge (b := 4) (by omega) (by decide)), if_neg (show ¬ (4 : Int32) ≤ nI i from nI_ge (b := 4) (by omega) (by decide)), f1, x9_many hw hr, Option.bind_some, Option.bind_some, f2, Option.bind_some, nI_1]
    dsimp only
    by_cases a1 : 0 ≤ Op.cmpValue (FP.dcmp gs lo) CmpOp.g
    · by_cases a2 : Op.cmpValue (FP.dcmp gs hi) CmpOp.l ≤ 0
      · rw [if_pos a1, if_pos a2, if_pos a2, if_pos a1]
        exact ih (i + 1) f f' _ _ _ _ _ _ _ _ _ _ _ _ _ _ _ _ _ _ _ (by omega) hl hh
      · rw [if_pos a1, if_neg a2, if_neg a2, if_pos a1]
        exact ih (i + 1) f f' _ _ _ _ _ _ _ _ _ _ _ _ _ _ _ _ _ _ _ (by omega) hl f4
    · by_cases a2 : Op.cmpValue (FP.dcmp gs hi) CmpOp.l ≤ 0
      · rw [if_neg a1, if_pos a2, if_pos a2, if_neg a1]
        exact ih (i + 1) f f' _ _ _ _ _ _ _ _ _ _ _ _ _ _ _ _ _ _ _ (by omega) f4 hh
      · rw [if_neg a1, if_neg a2, if_neg a2, if_neg a1]
        exact ih (i + 1) f f' _ _ _ _ _ _ _ _ _ _ _ _ _ _ _ _ _ _ _ (by omega) f4 f4
theorem spread_ok {st : STT} {s : Nat → UInt64} (hS : RelS st s) (v e : Nat → UInt64) (k kk : Nat → Int32) (tb : Int32) (gu ra : UInt64) (br le gc : Int32) (gE gV : UInt64) (tb' wi gd0 : Int32) (gs0 ge0 : UInt64) (p : Int32) : ∃ a x y, p_X8_spread st v k tb gu ra br le gc gE gV p = some (a, x) ∧ p_X9_spread s e kk tb' wi gd0 gs0 ge0 p = some (a, y) := by
  obtain ⟨⟨w, hw⟩, h2⟩ := hS
  unfold p_X8_spread p_X9_spread
  rcases row_or p with ⟨row, hr, rfl, h1, h3⟩ | ⟨h1, h3⟩
  · rw [h1, h3, Option.bind_some, Option.bind_some, if_neg one0, if_neg one0, x9_many hw hr, Option.bind_some, Option.bind_some]
    obtain ⟨g1, g2, g3, g4⟩ := hw row hr
    by_cases c : w row = 0
    · rw [if_pos (show nI (w row) = 0 by rw [c]; rfl)]
      rcases (show row = 0 ∨ row = 1 by omega) with rfl | rfl
      · have g2 : st.1.2 = nI (w 0) := g2
        rw [if_pos (show nI 0 = 0 from rfl), g2, c, if_pos (show nI 0 = 0 from rfl)]
        exact ⟨_, _, _, rfl, rfl⟩
      · have g2 : st.2.1.2 = nI (w 1) := g2
        rw [if_neg n10, g2, c, if_pos (show nI 0 = 0 from rfl)]
        exact ⟨_, _, _, rfl, rfl⟩
    · obtain ⟨a, v', k', tb1, gu1, ra1, br1, le1, gc1, ge1, gv1, v2, k2, gd, gs, er, f1, f2, f3, f4⟩ := guessOf_ok hw h2 hr (t := 0) (by decide) c v e k kk
      subst f3
      obtain ⟨lo, hi, x, y, q1, q2, q3, q4⟩ := spread_l hw h2 hr c 3 1 296 296 gs gs v' v2 k' k2 tb1 gu1 ra1 br1 le1 gc1 ge1 gv1 (nI 0) (nI (w row)) gd gs er rfl f4 f4
      rw [if_neg (show ¬ nI (w row) = 0 from nI_ne0 (by omega) (by omega)), show p_X9_guesses s e kk (nI row) 0 (nI (w row)) = some (v2, k2, nI 0, nI (w row), gd, gs, er) from f2, Option.bind_some]
      dsimp only
      rw [show p_X9_spread_L44 s (nI row) 300 gs gs 1 v2 k2 (nI 0) (nI (w row)) gd gs er = some (hi, lo, y) from q2, Option.bind_some]
      dsimp only
      rw [dop_t (nn_sub (dfin_nn q4) q3)]
      have f1 : p_X8_guessOf st v k (nI row) 0 = some (gs, v', k', tb1, gu1, ra1, br1, le1, gc1, ge1, gv1) := f1
      have q1 : p_X8_spread_L38 st (nI row) 300 gs gs 1 v' k' tb1 gu1 ra1 br1 le1 gc1 ge1 gv1 = some (lo, hi, x) := q1
      rcases (show row = 0 ∨ row = 1 by omega) with rfl | rfl
      · have g2 : st.1.2 = nI (w 0) := g2
        rw [if_pos (show nI 0 = 0 from rfl), g2, if_neg (nI_ne0 (by omega) (by omega)), f1, Option.bind_some]
        dsimp only
        rw [q1, Option.bind_some]
        dsimp only
        rw [dop_t (nn_sub (dfin_nn q4) q3)]
        exact ⟨_, _, _, rfl, rfl⟩
      · have g2 : st.2.1.2 = nI (w 1) := g2
        rw [if_neg n10, g2, if_neg (nI_ne0 (by omega) (by omega)), f1, Option.bind_some]
        dsimp only
        rw [q1, Option.bind_some]
        dsimp only
        rw [dop_t (nn_sub (dfin_nn q4) q3)]
        exact ⟨_, _, _, rfl, rfl⟩
  · rw [h1, h3, Option.bind_some, Option.bind_some, if_pos rfl, if_pos rfl]
    exact ⟨_, _, _, rfl, rfl⟩
theorem best_l {st : STT} {s : Nat → UInt64} {w : Nat → Nat} (hw : rowsR st s w) (h2 : setsR st s) {row : Nat} (hr : row < 2) :
    ∀ (d i f f' : Nat) (o : Int32) (er : UInt64) (v e : Nat → UInt64) (k kk : Nat → Int32) (tb : Int32) (gu ra : UInt64) (br le gc : Int32) (gE gV : UInt64) (tb' wi gd0 : Int32) (gs0 ge0 : UInt64), i + d = 4 → (o = -5 ∨ ∃ j : Nat, j < 4 ∧ o = nI j) → ∃ o' x y, p_X8_best_L17 st (nI row) (f + d + 1) o er (nI i) v k tb gu ra br le gc gE gV = some (o', x) ∧ p_X9_best_L17 s (nI row) (f' + d + 1) o er (nI i) e kk tb' wi gd0 gs0 ge0 = some (o', y) := by
  intro d
  induction d with
  | zero =>
    intro i f f' o er v e k kk tb gu ra br le gc gE gV tb' wi gd0 gs0 ge0 h ho
    have : i = 4 := by omega
    subst this
    exact ⟨o, _, _, by rw [p_X8_best_L17, if_pos (by decide)], by rw [p_X9_best_L17, if_pos (by decide)]⟩
  | succ d ih =>
    intro i f f' o er0 v e k kk tb gu ra br le gc gE gV tb' wi gd0 gs0 ge0 h ho
    obtain ⟨v', k', g, q, b, e1, e2⟩ := guess_ok hw h2 hr (show i < 4 by omega) v k
    obtain ⟨v2, k2, fo, col, er, val, gd, gs, ge, ag, f1, f2, f3⟩ := e2 (w row) (Nat.le_refl _) e kk
    rw [show f + (d + 1) + 1 = (f + d + 1) + 1 by omega, show f' + (d + 1) + 1 = (f' + d + 1) + 1 by omega, p_X8_best_L17, p_X9_best_L17, if_neg (show ¬ (4 : Int32) ≤ nI i from nI_ge (b := 4) (by omega) (by decide)), if_neg (show ¬ (4 : Int32) ≤ nI i from nI_ge (b := 4) (by omega) (by decide)), e1, x9_many hw hr, Option.bind_some, Option.bind_some, f2, Option.bind_some, nI_1]
    dsimp only
    rw [f1, Option.bind_some]
    dsimp only
    rcases f3.2.2 with ⟨a1, a2, a3⟩ | ⟨a1, a2, a3, a4, c, hc, a5⟩
    · rw [a1, if_pos rfl, a2, if_pos (by decide)]
      exact ih (i + 1) f f' _ _ _ _ _ _ _ _ _ _ _ _ _ _ _ _ _ _ _ (by omega) ho
    · rw [a1, if_neg one0, if_neg (show ¬ gd < 0 by rw [a5]; exact nI_pos (by omega)), a3]
      rcases ho with rfl | ⟨j, hj, rfl⟩
      · rw [if_pos rfl, if_pos (by decide)]
        exact ih (i + 1) f f' _ _ _ _ _ _ _ _ _ _ _ _ _ _ _ _ _ _ _ (by omega) (Or.inr ⟨i, by omega, rfl⟩)
      · have hj0 : ¬ nI j < 0 := nI_pos (by omega)
        rw [if_neg (fun q => hj0 (by rw [q]; decide)), if_neg hj0]
        by_cases q : 0 ≤ Op.cmpValue (FP.dcmp ge er0) CmpOp.g
        · rw [if_pos q, if_pos q]
          exact ih (i + 1) f f' _ _ _ _ _ _ _ _ _ _ _ _ _ _ _ _ _ _ _ (by omega) (Or.inr ⟨j, hj, rfl⟩)
        · rw [if_neg q, if_neg q]
          exact ih (i + 1) f f' _ _ _ _ _ _ _ _ _ _ _ _ _ _ _ _ _ _ _ (by omega) (Or.inr ⟨i, by omega, rfl⟩)
theorem best_ok {st : STT} {s : Nat → UInt64} (hS : RelS st s) (v e : Nat → UInt64) (k kk : Nat → Int32) (tb : Int32) (gu ra : UInt64) (br le gc : Int32) (gE gV : UInt64) (tb' wi gd0 : Int32) (gs0 ge0 : UInt64) (p : Int32) : ∃ a x y, p_X8_best st v k tb gu ra br le gc gE gV p = some (a, x) ∧ p_X9_best s e kk tb' wi gd0 gs0 ge0 p = some (a, y) := by
  obtain ⟨⟨w, hw⟩, h2⟩ := hS
  unfold p_X8_best p_X9_best
  rcases row_or p with ⟨row, hr, rfl, h1, h3⟩ | ⟨h1, h3⟩
  · obtain ⟨o, x, y, q1, q2⟩ := best_l hw h2 hr 4 0 295 295 (-5) FP.dconst0 v e k kk tb gu ra br le gc gE gV tb' wi gd0 gs0 ge0 rfl (Or.inl rfl)
    rw [h1, h3, Option.bind_some, Option.bind_some, if_neg one0, if_neg one0, show p_X8_best_L17 st (nI row) 300 (-5) FP.dconst0 0 v k tb gu ra br le gc gE gV = some (o, x) from q1, show p_X9_best_L17 s (nI row) 300 (-5) FP.dconst0 0 e kk tb' wi gd0 gs0 ge0 = some (o, y) from q2, Option.bind_some, Option.bind_some]
    exact ⟨_, _, _, rfl, rfl⟩
  · rw [h1, h3, Option.bind_some, Option.bind_some, if_pos rfl, if_pos rfl]
    exact ⟨_, _, _, rfl, rfl⟩
theorem needed_l {st : STT} {s : Nat → UInt64} {w : Nat → Nat} (hw : rowsR st s w) {row t : Nat} (hr : row < 2) (ht : t < 4) (eps : UInt64) {v' : Nat → UInt64} {k' : Nat → Int32} (g q : UInt64) (b : Int32) (hG : ∀ w', w' ≤ w row → ∀ (e : Nat → UInt64) (kk : Nat → Int32), ∃ v2 k2 fo col er val gd gs ge, AG t w' v' k' v2 k2 ∧ p_X1_seekGuess v' k' (nI t) (nI w') = some (fo, col, er, val) ∧ p_X9_guesses s e kk (nI row) (nI t) (nI w') = some (v2, k2, nI t, nI w', gd, gs, ge) ∧ GO w' fo col er val gd gs ge) :
    ∀ (d i f f' : Nat) (gc : Int32) (gE gV : UInt64) (e : Nat → UInt64) (kk : Nat → Int32) (tb' wi gd0 : Int32) (gs0 ge0 : UInt64), i + d = w row + 1 → ∃ o' x y, p_X8_needed_L52 (v', k', nI t, g, q, b, nI (w row)) (f + d + 1) eps (nI i) gc gE gV = some (o', x) ∧ p_X9_needed_L39 s (nI row) (nI t) (f' + d + 1) eps (nI i) e kk tb' wi gd0 gs0 ge0 = some (o', y) := by
  have hw16 := (hw row hr).1
  intro d
  induction d with
  | zero =>
    intro i f f' gc gE gV e kk tb' wi gd0 gs0 ge0 h
    refine ⟨-5, _, _, by rw [p_X8_needed_L52, if_pos (nI_lt (by omega) (by omega))], by rw [p_X9_needed_L39, x9_many hw hr, Option.bind_some, if_pos (nI_lt (by omega) (by omega))]⟩
  | succ d ih =>
    intro i f f' gc gE gV e kk tb' wi gd0 gs0 ge0 h
    obtain ⟨v2, k2, fo, col, er, val, gd, gs, ge, ag, f1, f2, f3⟩ := hG i (by omega) e kk
    rw [show f + (d + 1) + 1 = (f + d + 1) + 1 by omega, show f' + (d + 1) + 1 = (f' + d + 1) + 1 by omega, p_X8_needed_L52, p_X9_needed_L39, x9_many hw hr, Option.bind_some, if_neg (nI_nlt (by omega) (by omega)), if_neg (nI_nlt (by omega) (by omega)), f2, Option.bind_some, nI_1]
    dsimp only
    rw [f1, Option.bind_some]
    dsimp only
    rcases f3.2.2 with ⟨a1, a2, a3⟩ | ⟨a1, a2, a3, a4, c, hc, a5⟩
    · rw [a1, if_pos rfl, a2, if_pos (by decide)]
      exact ih (i + 1) f f' _ _ _ _ _ _ _ _ _ _ (by omega)
    · rw [a1, if_neg one0, if_neg (show ¬ gd < 0 by rw [a5]; exact nI_pos (by omega)), a3]
      by_cases q : 0 < Op.cmpValue (FP.dcmp ge eps) CmpOp.g
      · rw [if_pos q, if_pos q]
        exact ih (i + 1) f f' _ _ _ _ _ _ _ _ _ _ (by omega)
      · rw [if_neg q, if_neg q]
        exact ⟨_, _, _, rfl, rfl⟩
theorem needed_ok {st : STT} {s : Nat → UInt64} (hS : RelS st s) (v e : Nat → UInt64) (k kk : Nat → Int32) (tb : Int32) (gu ra : UInt64) (br le gc : Int32) (gE gV : UInt64) (tb' wi gd0 : Int32) (gs0 ge0 : UInt64) (p t : Int32) (bits : Int64) : ∃ a x y, p_X8_needed st v k tb gu ra br le gc gE gV p t bits = some (a, x) ∧ p_X9_needed s e kk tb' wi gd0 gs0 ge0 p t bits = some (a, y) := by
  obtain ⟨⟨w, hw⟩, h2⟩ := hS
  unfold p_X8_needed p_X9_needed
  rcases tab_or p t with ⟨row, tt, hr, ht, rfl, rfl, h1, h3⟩ | ⟨h1, h3⟩
  · rw [h1, h3, Option.bind_some, Option.bind_some, if_neg one0, if_neg one0, x0_nan, x9_none, Option.bind_some, Option.bind_some]
    by_cases hn : nn bits.toUInt64 = true
    · have n0 : nn FP.dconst0 = true := by decide +kernel
      rw [if_pos hn, if_pos rfl, if_pos rfl, x0_decoded bits hn, Option.bind_some, gD_t _ (snl_t hn)]
      by_cases c : ky FP.dconst0 ≤ ky bits.toUInt64
      · rw [if_pos ((fc_ge hn n0 .g).mpr c), if_pos ((fc_ge hn n0 .l).mpr c)]
        obtain ⟨v', k', g, q, b, e1, e2⟩ := guess_ok hw h2 hr ht v k
        have g1 := (hw row hr).1
        obtain ⟨o, x, y, q1, q2⟩ := needed_l hw hr ht bits.toUInt64 g q b e2 (w row) 1 (299 - w row) (299 - w row) gc gE gV e kk tb' wi gd0 gs0 ge0 (by omega)
        rw [show 299 - w row + w row + 1 = 300 by omega] at q1 q2
        rw [e1, Option.bind_some]
        exact ⟨o, x, y, q1, q2⟩
      · rw [if_neg (fun q => c ((fc_ge hn n0 .g).mp q)), if_neg (fun q => c ((fc_ge hn n0 .l).mp q))]
        exact ⟨_, _, _, rfl, rfl⟩
    · rw [if_neg hn, if_neg one0, if_neg one0]
      exact ⟨_, _, _, rfl, rfl⟩
  · rw [h1, h3, Option.bind_some, Option.bind_some, if_pos rfl, if_pos rfl]
    exact ⟨_, _, _, rfl, rfl⟩
-- settings
theorem sets_or (p : Int32) : (∃ j, j < 3 ∧ p = nI j ∧ p_X5_isSetting p = some 1 ∧ p_X9_in p 0 2 = some 1) ∨ (p_X5_isSetting p = some 0 ∧ p_X9_in p 0 2 = some 0) := by
  rw [x9_in]
  unfold p_X5_isSetting
  by_cases h0 : p < 0
  · rw [if_pos h0, if_pos h0]
    exact Or.inr ⟨rfl, rfl⟩
  · rw [if_neg h0, if_neg h0]
    obtain ⟨j, hj, rfl⟩ := nI_of h0
    by_cases c : j < 3
    · rw [if_neg (show ¬ (3 : Int32) ≤ nI j from nI_ge (b := 3) c (by decide)), if_neg (show ¬ (2 : Int32) < nI j from nI_nlt (a := 2) (by omega) (by decide))]
      exact Or.inl ⟨j, c, rfl, rfl, rfl⟩
    · rw [if_pos (show (3 : Int32) ≤ nI j from nI_le (a := 3) (by omega) hj), if_pos (show (2 : Int32) < nI j from nI_lt (a := 2) (by omega) hj)]
      exact Or.inr ⟨rfl, rfl⟩
theorem sets_at {st : STT} {s : Nat → UInt64} (h : setsR st s) {j : Nat} (hj : j < 3) : st.2.2.1 j = s (34 + j) ∧ nn (s (34 + j)) = true := by
  obtain ⟨s0, s1, s2, n0, p0, n1, q1, f1, b1⟩ := h
  have f2 : nn (s 36) = true := dfin_nn ((dfin_bits _).mpr (by unfold fOK at f1; omega))
  rcases (show j = 0 ∨ j = 1 ∨ j = 2 by omega) with rfl | rfl | rfl
  · exact ⟨s0, n0⟩
  · exact ⟨s1, n1⟩
  · exact ⟨s2, f2⟩
theorem ix34 (j : Nat) : (34 : Int32) + nI j = nI (34 + j) := nI_add 34 j
theorem told_ok {st : STT} {s : Nat → UInt64} (hS : RelS st s) (p : Int32) : ∃ a, p_X8_told st p = some a ∧ p_X9_told s p = some a := by
  unfold p_X8_told p_X9_told
  rcases sets_or p with ⟨j, hj, rfl, h1, h2⟩ | ⟨h1, h2⟩
  · rw [h1, h2, Option.bind_some, Option.bind_some, if_neg one0, if_neg one0, gD_t _ (inb_nI hj (by decide)), ix34, gD_t _ (inb_nI (show 34 + j < 38 by omega) (by decide)), nI_clamp (show j < 2 ^ 31 by omega), nI_clamp (show 34 + j < 2 ^ 31 by omega), (sets_at hS.2 hj).1]
    exact ⟨_, rfl, rfl⟩
  · rw [h1, h2, Option.bind_some, Option.bind_some, if_pos rfl, if_pos rfl]
    exact ⟨_, rfl, rfl⟩
