/-! calls that lay a row anew: sums, differences, a table's column -/
def BothD (c : Option (Int32 × STT × STT × STT × STT × STT × Int32 × Int32 × ((Nat → UInt64) × Int32))) (m : Option (Int32 × (Nat → UInt64) × (Nat → UInt64) × Int32 × (Nat → UInt64) × Int32)) : Prop := ∃ a st' q0 q1 q2 q3 old' size' dr s' was' states' nx nm, c = some (a, st', q0, q1, q2, q3, old', size', dr) ∧ m = some (a, s', was', states', nx, nm) ∧ MutR st' q0 q1 q2 q3 old' size' s' was' states'
theorem BothD.same {st r0 r1 r2 r3 : STT} {old size : Int32} {s was : Nat → UInt64} {states : Int32} (a : Int32) (dr : (Nat → UInt64) × Int32) (nx : Nat → UInt64) (nm : Int32) (h : MutR st r0 r1 r2 r3 old size s was states) : BothD (some (a, st, r0, r1, r2, r3, old, size, dr)) (some (a, s, was, states, nx, nm)) := ⟨_, _, _, _, _, _, _, _, _, _, _, _, _, _, rfl, rfl, h⟩
theorem x9_lay1 (nx : Nat → UInt64) {i : Nat} (hi : i < 32) (v : UInt64) : p_X9_lays nx (nI i) v = some (vf_upd nx i v, nI (i + 1)) := by
  unfold p_X9_lays
  rw [gD_t _ (inb_nI hi (by decide)), nI_clamp (by omega), nI_1]
theorem good_l (nx : Nat → UInt64) {m : Nat} (hm : m ≤ 30) : ∀ (d i f : Nat) (fl : Int32), i + d = m → (fl = 0 ∨ fl = 1) → ∃ o, p_X9_areGood_L4 nx (nI m) (f + d + 1) fl (nI i) = some o ∧ ((o = 1 ∧ fl = 1 ∧ ∀ j, i ≤ j → j < m → fitb (nx j) = true) ∨ (o = 0 ∧ (fl = 0 ∨ ∃ j, j < m ∧ ¬ fitb (nx j) = true))) := by
  intro d
  induction d with
  | zero =>
    intro i f fl h hf
    have : i = m := by omega
    subst this
    refine ⟨fl, by rw [p_X9_areGood_L4, if_pos (nI_le (by omega) (by omega))], ?_⟩
    rcases hf with rfl | rfl
    · exact Or.inr ⟨rfl, Or.inl rfl⟩
    · exact Or.inl ⟨rfl, rfl, fun j h1 h2 => by omega⟩
  | succ d ih =>
    intro i f fl h hf
    rw [show f + (d + 1) + 1 = (f + d + 1) + 1 by omega, p_X9_areGood_L4, if_neg (nI_ge (by omega) (by omega)), nI_1]
    rcases hf with rfl | rfl
    · rw [if_pos rfl]
      obtain ⟨o, h1, h2⟩ := ih (i + 1) f 0 (by omega) (Or.inl rfl)
      refine ⟨o, h1, ?_⟩
      rcases h2 with ⟨_, q, _⟩ | h2
      · exact absurd q (by decide)
      · exact Or.inr h2
    · rw [if_neg one0, gD_t _ (inb_nI (show i < 32 by omega) (by decide)), nI_clamp (show i < 2 ^ 31 by omega), x9_good, Option.bind_some]
      by_cases c : fitb (nx i) = true
      · rw [if_pos c, if_neg one0]
        obtain ⟨o, h1, h2⟩ := ih (i + 1) f 1 (by omega) (Or.inr rfl)
        refine ⟨o, h1, ?_⟩
        rcases h2 with ⟨p, q, h2⟩ | h2
        · refine Or.inl ⟨p, rfl, fun j h3 h4 => ?_⟩
          by_cases e : j = i
          · rw [e]; exact c
          · exact h2 j (by omega) h4
        · exact Or.inr h2
      · rw [if_neg c, if_pos rfl]
        obtain ⟨o, h1, h2⟩ := ih (i + 1) f 0 (by omega) (Or.inl rfl)
        refine ⟨o, h1, ?_⟩
        rcases h2 with ⟨_, q, _⟩ | h2
        · exact absurd q (by decide)
        · exact Or.inr ⟨h2.1, Or.inr ⟨i, by omega, c⟩⟩
theorem good_or (nx : Nat → UInt64) {m : Nat} (hm : m ≤ 30) : (p_X9_areGood nx (nI m) = some 1 ∧ ∀ j, j < m → fitb (nx j) = true) ∨ (p_X9_areGood nx (nI m) = some 0 ∧ ∃ j, j < m ∧ ¬ fitb (nx j) = true) := by
  obtain ⟨o, h1, h2⟩ := good_l nx hm m 0 (300 - m - 1) 1 (by omega) (Or.inr rfl)
  rw [show 300 - m - 1 + m + 1 = 300 by omega] at h1
  unfold p_X9_areGood
  rw [show p_X9_areGood_L4 nx (nI m) 300 1 0 = some o from h1, Option.bind_some]
  rcases h2 with ⟨rfl, _, h2⟩ | ⟨rfl, h2⟩
  · exact Or.inl ⟨rfl, fun j hj => h2 j (Nat.zero_le _) hj⟩
  · exact Or.inr ⟨rfl, h2.resolve_left (by decide)⟩
/-- what the class's and the reference's laying of w numbers L leave behind -/
def laidC (L : Nat → UInt64) (w : Nat) (fo : Int32) (R : (Nat → UInt64) × Int32) : Prop := (fo = 1 ∧ R.2 = nI w ∧ ∀ j, j < w → R.1 j = L j ∧ fitb (L j) = true) ∨ (fo = 0 ∧ ∃ j, j < w ∧ ¬ fitb (L j) = true)
theorem lay_fin {r0 r1 r2 r3 st : STT} {old size states : Int32} {was s : Nat → UInt64} (hH : RelH r0 r1 r2 r3 old size was states) (hS : RelS st s) {row w : Nat} (hr : row < 2) (hw : w ≤ 16) (h0 : ¬ w = 0) {L : Nat → UInt64} {x : Int32 × ((Nat → UInt64) × Int32)} {nx : Nat → UInt64} (hC : laidC L w x.1 x.2) (hM : ∀ j, j < w → nx j = L j) :
    BothD (if x.1 = 0 then some ((-4 : Int32), st, r0, r1, r2, r3, old, size, x.2) else (p_X8_putDraft st r0 r1 r2 r3 old size x.2 (nI row)).bind fun x7 => some (x7.1, x7.2.1, x7.2.2.1, x7.2.2.2.1, x7.2.2.2.2.1, x7.2.2.2.2.2.1, x7.2.2.2.2.2.2.1, x7.2.2.2.2.2.2.2, x.2)) ((p_X9_becomesGood s was states nx (nI w) (nI row)).bind fun x4 => some (x4.1, x4.2.1, x4.2.2.1, x4.2.2.2, nx, nI w)) := by
  have ne : ¬ nI w = 0 := fun q => h0 ((nI_inj (b := 0) (by omega) (by decide)).mp q)
  unfold p_X9_becomesGood
  rw [if_neg ne]
  rcases hC with ⟨f, hR, hv⟩ | ⟨f, j, hj, hn⟩
  · rw [f, if_neg one0]
    rcases good_or nx (show w ≤ 30 by omega) with ⟨g1, _⟩ | ⟨_, i, hi, hni⟩
    · obtain ⟨a, st', q0, q1, q2, q3, o', z', s', w', t', e1, e2, e3⟩ := put_ok hH hS hr hw hR (nx := nx) (fun i hi => by
        obtain ⟨a1, a2⟩ := hv i hi
        rw [hM i hi]
        exact ⟨a1, fitb_fin a2⟩)
      rw [g1, Option.bind_some, if_neg one0, e1, e2, Option.bind_some, Option.bind_some, Option.bind_some]
      exact BothD.same _ _ _ _ e3
    · exact absurd (by rw [hM i hi]; exact (hv i hi).2) hni
  · rw [f, if_pos rfl]
    rcases good_or nx (show w ≤ 30 by omega) with ⟨_, g2⟩ | ⟨g1, _⟩
    · exact absurd (by rw [← hM j hj]; exact g2 j hj) hn
    · rw [g1, Option.bind_some, if_pos rfl, Option.bind_some]
      exact BothD.same _ _ _ _ ⟨hS, hH⟩
theorem lay_none {r0 r1 r2 r3 st : STT} {old size states : Int32} {was s : Nat → UInt64} (hH : RelH r0 r1 r2 r3 old size was states) (hS : RelS st s) (p : Int32) (dr : (Nat → UInt64) × Int32) (nx : Nat → UInt64) : BothD (some ((-5 : Int32), st, r0, r1, r2, r3, old, size, dr)) ((p_X9_becomesGood s was states nx (nI 0) p).bind fun x4 => some (x4.1, x4.2.1, x4.2.2.1, x4.2.2.2, nx, nI 0)) := by
  unfold p_X9_becomesGood
  rw [if_pos (show nI 0 = 0 from rfl), Option.bind_some]
  exact BothD.same _ _ _ _ ⟨hS, hH⟩
-- sums
def psum (x : Nat → UInt64) : Nat → UInt64
  | 0 => FP.dconst0
  | n + 1 => FP.dadd (psum x n) (x n)
theorem psum_nn {x : Nat → UInt64} {w : Nat} (hx : ∀ j, j < w → dfin (x j) = true) : ∀ n, n ≤ w → nn (psum x n) = true := by
  intro n
  induction n with
  | zero => exact fun _ => show nn FP.dconst0 = true by decide +kernel
  | succ n ih => exact fun h => nn_add (ih (by omega)) (hx n (by omega))
theorem sum_m {s : Nat → UInt64} {row w : Nat} (hr : row < 2) (hw : w ≤ 16) (hmany : p_X9_many s (nI row) = some (nI w)) (hx : ∀ j, j < w → dfin (s (16 * row + j)) = true) : ∀ (d i f : Nat) (nx : Nat → UInt64), i + d = w → (∀ j, j < i → nx j = psum (fun j => s (16 * row + j)) (j + 1)) → ∃ nx', p_X9_sum_L19 s (nI row) (f + d + 1) (psum (fun j => s (16 * row + j)) i) (nI i) nx (nI i) = some (nx', nI w) ∧ ∀ j, j < w → nx' j = psum (fun j => s (16 * row + j)) (j + 1) := by
  intro d
  induction d with
  | zero =>
    intro i f nx h h1
    have : i = w := by omega
    subst this
    exact ⟨nx, by rw [p_X9_sum_L19, hmany, Option.bind_some, if_pos (nI_le (by omega) (by omega))], h1⟩
  | succ d ih =>
    intro i f nx h h1
    rw [show f + (d + 1) + 1 = (f + d + 1) + 1 by omega, p_X9_sum_L19, hmany, Option.bind_some, if_neg (nI_ge (by omega) (by omega)), ixM, gD_t _ (inb_nI (show 16 * row + i < 38 by omega) (by decide)), nI_clamp (show 16 * row + i < 2 ^ 31 by omega), show FP.dadd (psum (fun j => s (16 * row + j)) i) (s (16 * row + i)) = psum (fun j => s (16 * row + j)) (i + 1) from rfl, dop_t (psum_nn hx _ (by omega)), x9_lay1 _ (by omega), Option.bind_some, nI_1]
    dsimp only
    refine ih (i + 1) f _ (by omega) (fun j hj => ?_)
    by_cases e : j = i
    · rw [vu_s e, e]
    · rw [vu_n e]
      exact h1 j (by omega)
theorem sum_c {A : (Nat → UInt64) × Int32} {x : Nat → UInt64} {w : Nat} (hw : w ≤ 16) (hA : A.2 = nI w) (hAx : ∀ j, j < w → A.1 j = x j) (hx : ∀ j, j < w → dfin (x j) = true) : ∀ (d i f : Nat) (R : (Nat → UInt64) × Int32), i + d = w → R.2 = nI i → (∀ j, j < i → R.1 j = psum x (j + 1) ∧ fitb (psum x (j + 1)) = true) → ∃ fo R', p_X6_sumUp_L10 A (f + d + 1) (psum x i) (nI i) R = some (fo, R') ∧ laidC (fun j => psum x (j + 1)) w fo R' := by
  intro d
  induction d with
  | zero =>
    intro i f R h h0 h1
    have : i = w := by omega
    subst this
    exact ⟨1, R, by rw [p_X6_sumUp_L10, hA, if_pos (nI_le (by omega) (by omega))], Or.inl ⟨rfl, h0, h1⟩⟩
  | succ d ih =>
    intro i f R h h0 h1
    rw [show f + (d + 1) + 1 = (f + d + 1) + 1 by omega, p_X6_sumUp_L10, hA, if_neg (nI_ge (by omega) (by omega)), gD_t _ (inb_nI (show i < 16 by omega) (by decide)), nI_clamp (show i < 2 ^ 31 by omega), hAx i (by omega), show FP.dadd (psum x i) (x i) = psum x (i + 1) from rfl, dop_t (psum_nn hx _ (by omega)), x3_fits, Option.bind_some]
    by_cases c : fitb (psum x (i + 1)) = true
    · rw [if_pos c, if_neg one0, x4_app h0 (by omega), Option.bind_some, nI_1]
      refine ih (i + 1) f (vf_upd R.1 i (psum x (i + 1)), nI (i + 1)) (by omega) rfl (fun j hj => ?_)
      by_cases e : j = i
      · subst e
        exact ⟨vu_s rfl, c⟩
      · exact ⟨(vu_n e).trans (h1 j (by omega)).1, (h1 j (by omega)).2⟩
    · rw [if_neg c, if_pos rfl]
      exact ⟨0, R, rfl, Or.inr ⟨rfl, i, by omega, c⟩⟩
-- differences
def dif (x : Nat → UInt64) : Nat → UInt64
  | 0 => x 0
  | n + 1 => FP.dsub (x (n + 1)) (x n)
theorem dif_nn {x : Nat → UInt64} {w : Nat} (hx : ∀ j, j < w → dfin (x j) = true) : ∀ n, n < w → nn (dif x n) = true := by
  intro n hn
  cases n with
  | zero => exact dfin_nn (hx 0 hn)
  | succ n => exact nn_sub (dfin_nn (hx _ hn)) (hx n (by omega))
theorem dif_m {s : Nat → UInt64} {row w : Nat} (hr : row < 2) (hw : w ≤ 16) (hmany : p_X9_many s (nI row) = some (nI w)) (hx : ∀ j, j < w → dfin (s (16 * row + j)) = true) : ∀ (d i f : Nat) (nx : Nat → UInt64), i + d = w → (∀ j, j < i → nx j = dif (fun j => s (16 * row + j)) j) → ∃ nx', p_X9_differences_L16 s (nI row) (f + d + 1) (nI i) nx (nI i) = some (nx', nI w) ∧ ∀ j, j < w → nx' j = dif (fun j => s (16 * row + j)) j := by
  intro d
  induction d with
  | zero =>
    intro i f nx h h1
    have : i = w := by omega
    subst this
    exact ⟨nx, by rw [p_X9_differences_L16, hmany, Option.bind_some, if_pos (nI_le (by omega) (by omega))], h1⟩
  | succ d ih =>
    intro i f nx h h1
    have fin := ih (i + 1) f (vf_upd nx i (dif (fun j => s (16 * row + j)) i)) (by omega) (fun j hj => by
      by_cases e : j = i
      · rw [vu_s e, e]
      · rw [vu_n e]
        exact h1 j (by omega))
    rw [show f + (d + 1) + 1 = (f + d + 1) + 1 by omega, p_X9_differences_L16, hmany, Option.bind_some, if_neg (nI_ge (by omega) (by omega)), ixM, gD_t _ (inb_nI (show 16 * row + i < 38 by omega) (by decide)), nI_clamp (show 16 * row + i < 2 ^ 31 by omega)]
    cases i with
    | zero =>
      rw [if_pos (show nI 0 = 0 from rfl), x9_lay1 _ (by omega), Option.bind_some, nI_1]
      exact fin
    | succ j =>
      rw [if_neg (nI_ne0 (by omega) (by omega)), show 16 * row + (j + 1) = 16 * row + j + 1 by omega, nI_pred, gD_t _ (inb_nI (show 16 * row + j < 38 by omega) (by decide)), nI_clamp (show 16 * row + j < 2 ^ 31 by omega), show FP.dsub (s (16 * row + j + 1)) (s (16 * row + j)) = dif (fun j => s (16 * row + j)) (j + 1) from rfl, dop_t (dif_nn hx _ (by omega)), x9_lay1 _ (by omega), Option.bind_some, nI_1]
      exact fin
theorem dif_c {A : (Nat → UInt64) × Int32} {x : Nat → UInt64} {w : Nat} (hw : w ≤ 16) (hA : A.2 = nI w) (hAx : ∀ j, j < w → A.1 j = x j) (hx : ∀ j, j < w → dfin (x j) = true) : ∀ (d i f : Nat) (R : (Nat → UInt64) × Int32), i + d = w → R.2 = nI i → (∀ j, j < i → R.1 j = dif x j ∧ fitb (dif x j) = true) → ∃ fo R', p_X6_takeDifferences_L7 A (f + d + 1) (nI i) R = some (fo, R') ∧ laidC (dif x) w fo R' := by
  intro d
  induction d with
  | zero =>
    intro i f R h h0 h1
    have : i = w := by omega
    subst this
    exact ⟨1, R, by rw [p_X6_takeDifferences_L7, hA, if_pos (nI_le (by omega) (by omega))], Or.inl ⟨rfl, h0, h1⟩⟩
  | succ d ih =>
    intro i f R h h0 h1
    have fin := fun (c : fitb (dif x i) = true) => ih (i + 1) f (vf_upd R.1 i (dif x i), nI (i + 1)) (by omega) rfl (fun j hj => by
      by_cases e : j = i
      · subst e
        exact ⟨vu_s rfl, c⟩
      · exact ⟨(vu_n e).trans (h1 j (by omega)).1, (h1 j (by omega)).2⟩)
    rw [show f + (d + 1) + 1 = (f + d + 1) + 1 by omega, p_X6_takeDifferences_L7, hA, if_neg (nI_ge (by omega) (by omega)), gD_t _ (inb_nI (show i < 16 by omega) (by decide)), nI_clamp (show i < 2 ^ 31 by omega), hAx i (by omega)]
    cases i with
    | zero =>
      rw [if_pos (show nI 0 ≤ 0 by decide), x3_fits, Option.bind_some]
      by_cases c : fitb (dif x 0) = true
      · rw [show x 0 = dif x 0 from rfl, if_pos c, if_neg one0, x4_app h0 (by omega), Option.bind_some, nI_1]
        exact fin c
      · rw [show x 0 = dif x 0 from rfl, if_neg c, if_pos rfl]
        exact ⟨0, R, rfl, Or.inr ⟨rfl, 0, by omega, c⟩⟩
    | succ j =>
      rw [if_neg (nI_nle (by omega) (by omega)), nI_pred, gD_t _ (inb_nI (show j < 16 by omega) (by decide)), nI_clamp (show j < 2 ^ 31 by omega), hAx j (by omega), show FP.dsub (x (j + 1)) (x j) = dif x (j + 1) from rfl, dop_t (dif_nn hx _ (by omega)), x3_fits, Option.bind_some]
      by_cases c : fitb (dif x (j + 1)) = true
      · rw [if_pos c, if_neg one0, x4_app h0 (by omega), Option.bind_some, nI_1]
        exact fin c
      · rw [if_neg c, if_pos rfl]
        exact ⟨0, R, rfl, Or.inr ⟨rfl, j + 1, by omega, c⟩⟩
theorem sum_row0 {r0 r1 r2 r3 st : STT} {old size states : Int32} {was s : Nat → UInt64} (hH : RelH r0 r1 r2 r3 old size was states) (hS : RelS st s) (dr : (Nat → UInt64) × Int32) (nx : Nat → UInt64) (nm : Int32) (h1 : p_X8_isRow (nI 0) = some 1) (h2 : p_X9_isRow (nI 0) = some 1) : BothD (p_X8_sum st r0 r1 r2 r3 old size dr (nI 0)) (p_X9_sum s was states nx nm (nI 0)) := by
  unfold p_X8_sum p_X9_sum
  rw [h1, h2, Option.bind_some, Option.bind_some, if_neg one0, if_neg one0, if_pos (show nI 0 = 0 from rfl)]
  have hS0 := hS
  obtain ⟨⟨w, hw⟩, hs2⟩ := hS
  obtain ⟨g1, g2, g3, g4⟩ := hw 0 (by decide)
  have g2 : st.1.2 = nI (w 0) := g2
  obtain ⟨nx', f1, f2⟩ := sum_m (row := 0) (by decide) g1 (x9_many hw (row := 0) (by decide)) (fun j hj => (g4 j hj).2) (w 0) 0 (300 - w 0 - 1) nx (by omega) (fun j hj => absurd hj (Nat.not_lt_zero _))
  rw [show 300 - w 0 - 1 + w 0 + 1 = 300 by omega] at f1
  rw [show p_X9_sum_L19 s (nI 0) 300 FP.dconst0 0 nx 0 = some (nx', nI (w 0)) from f1, Option.bind_some, g2]
  by_cases c : w 0 = 0
  · rw [c, if_pos (show nI 0 = 0 from rfl)]
    exact lay_none hH hS0 _ _ _
  · obtain ⟨fo, R', k1, k2⟩ := sum_c (A := st.1) (x := fun j => s (16 * 0 + j)) g1 g2 (fun j hj => (g4 j hj).1) (fun j hj => (g4 j hj).2) (w 0) 0 (300 - w 0 - 1) (dr.1, nI 0) (by omega) rfl (fun j hj => absurd hj (Nat.not_lt_zero _))
    rw [show 300 - w 0 - 1 + w 0 + 1 = 300 by omega] at k1
    rw [if_neg (nI_ne0 (by omega) (by omega)), show p_X6_sumUp st.1 dr = some (fo, R') from k1, Option.bind_some]
    exact lay_fin hH hS0 (row := 0) (by decide) g1 c (x := (fo, R')) k2 f2
theorem sum_row1 {r0 r1 r2 r3 st : STT} {old size states : Int32} {was s : Nat → UInt64} (hH : RelH r0 r1 r2 r3 old size was states) (hS : RelS st s) (dr : (Nat → UInt64) × Int32) (nx : Nat → UInt64) (nm : Int32) (h1 : p_X8_isRow (nI 1) = some 1) (h2 : p_X9_isRow (nI 1) = some 1) : BothD (p_X8_sum st r0 r1 r2 r3 old size dr (nI 1)) (p_X9_sum s was states nx nm (nI 1)) := by
  unfold p_X8_sum p_X9_sum
  rw [h1, h2, Option.bind_some, Option.bind_some, if_neg one0, if_neg one0, if_neg n10]
  have hS0 := hS
  obtain ⟨⟨w, hw⟩, hs2⟩ := hS
  obtain ⟨g1, g2, g3, g4⟩ := hw 1 (by decide)
  have g2 : st.2.1.2 = nI (w 1) := g2
  obtain ⟨nx', f1, f2⟩ := sum_m (row := 1) (by decide) g1 (x9_many hw (row := 1) (by decide)) (fun j hj => (g4 j hj).2) (w 1) 0 (300 - w 1 - 1) nx (by omega) (fun j hj => absurd hj (Nat.not_lt_zero _))
  rw [show 300 - w 1 - 1 + w 1 + 1 = 300 by omega] at f1
  rw [show p_X9_sum_L19 s (nI 1) 300 FP.dconst0 0 nx 0 = some (nx', nI (w 1)) from f1, Option.bind_some, g2]
  by_cases c : w 1 = 0
  · rw [c, if_pos (show nI 0 = 0 from rfl)]
    exact lay_none hH hS0 _ _ _
  · obtain ⟨fo, R', k1, k2⟩ := sum_c (A := st.2.1) (x := fun j => s (16 * 1 + j)) g1 g2 (fun j hj => (g4 j hj).1) (fun j hj => (g4 j hj).2) (w 1) 0 (300 - w 1 - 1) (dr.1, nI 0) (by omega) rfl (fun j hj => absurd hj (Nat.not_lt_zero _))
    rw [show 300 - w 1 - 1 + w 1 + 1 = 300 by omega] at k1
    rw [if_neg (nI_ne0 (by omega) (by omega)), show p_X6_sumUp st.2.1 dr = some (fo, R') from k1, Option.bind_some]
    exact lay_fin hH hS0 (row := 1) (by decide) g1 c (x := (fo, R')) k2 f2
theorem sum_ok {r0 r1 r2 r3 st : STT} {old size states : Int32} {was s : Nat → UInt64} (hH : RelH r0 r1 r2 r3 old size was states) (hS : RelS st s) (dr : (Nat → UInt64) × Int32) (nx : Nat → UInt64) (nm p : Int32) : BothD (p_X8_sum st r0 r1 r2 r3 old size dr p) (p_X9_sum s was states nx nm p) := by
  rcases row_or p with ⟨row, hr, rfl, h1, h2⟩ | ⟨h1, h2⟩
  · rcases (show row = 0 ∨ row = 1 by omega) with rfl | rfl
    · exact sum_row0 hH hS dr nx nm h1 h2
    · exact sum_row1 hH hS dr nx nm h1 h2
  · unfold p_X8_sum p_X9_sum
    rw [h1, h2, Option.bind_some, Option.bind_some, if_pos rfl, if_pos rfl]
    exact BothD.same _ _ _ _ ⟨hS, hH⟩
theorem differences_row0 {r0 r1 r2 r3 st : STT} {old size states : Int32} {was s : Nat → UInt64} (hH : RelH r0 r1 r2 r3 old size was states) (hS : RelS st s) (dr : (Nat → UInt64) × Int32) (nx : Nat → UInt64) (nm : Int32) (h1 : p_X8_isRow (nI 0) = some 1) (h2 : p_X9_isRow (nI 0) = some 1) : BothD (p_X8_differences st r0 r1 r2 r3 old size dr (nI 0)) (p_X9_differences s was states nx nm (nI 0)) := by
  unfold p_X8_differences p_X9_differences
  rw [h1, h2, Option.bind_some, Option.bind_some, if_neg one0, if_neg one0, if_pos (show nI 0 = 0 from rfl)]
  have hS0 := hS
  obtain ⟨⟨w, hw⟩, hs2⟩ := hS
  obtain ⟨g1, g2, g3, g4⟩ := hw 0 (by decide)
  have g2 : st.1.2 = nI (w 0) := g2
  obtain ⟨nx', f1, f2⟩ := dif_m (row := 0) (by decide) g1 (x9_many hw (row := 0) (by decide)) (fun j hj => (g4 j hj).2) (w 0) 0 (300 - w 0 - 1) nx (by omega) (fun j hj => absurd hj (Nat.not_lt_zero _))
  rw [show 300 - w 0 - 1 + w 0 + 1 = 300 by omega] at f1
  rw [show p_X9_differences_L16 s (nI 0) 300 0 nx 0 = some (nx', nI (w 0)) from f1, Option.bind_some, g2]
  by_cases c : w 0 = 0
  · rw [c, if_pos (show nI 0 = 0 from rfl)]
    exact lay_none hH hS0 _ _ _
  · obtain ⟨fo, R', k1, k2⟩ := dif_c (A := st.1) (x := fun j => s (16 * 0 + j)) g1 g2 (fun j hj => (g4 j hj).1) (fun j hj => (g4 j hj).2) (w 0) 0 (300 - w 0 - 1) (dr.1, nI 0) (by omega) rfl (fun j hj => absurd hj (Nat.not_lt_zero _))
    rw [show 300 - w 0 - 1 + w 0 + 1 = 300 by omega] at k1
    rw [if_neg (nI_ne0 (by omega) (by omega)), show p_X6_takeDifferences st.1 dr = some (fo, R') from k1, Option.bind_some]
    exact lay_fin hH hS0 (row := 0) (by decide) g1 c (x := (fo, R')) k2 f2
theorem differences_row1 {r0 r1 r2 r3 st : STT} {old size states : Int32} {was s : Nat → UInt64} (hH : RelH r0 r1 r2 r3 old size was states) (hS : RelS st s) (dr : (Nat → UInt64) × Int32) (nx : Nat → UInt64) (nm : Int32) (h1 : p_X8_isRow (nI 1) = some 1) (h2 : p_X9_isRow (nI 1) = some 1) : BothD (p_X8_differences st r0 r1 r2 r3 old size dr (nI 1)) (p_X9_differences s was states nx nm (nI 1)) := by
  unfold p_X8_differences p_X9_differences
  rw [h1, h2, Option.bind_some, Option.bind_some, if_neg one0, if_neg one0, if_neg n10]
  have hS0 := hS
  obtain ⟨⟨w, hw⟩, hs2⟩ := hS
  obtain ⟨g1, g2, g3, g4⟩ := hw 1 (by decide)
  have g2 : st.2.1.2 = nI (w 1) := g2
  obtain ⟨nx', f1, f2⟩ := dif_m (row := 1) (by decide) g1 (x9_many hw (row := 1) (by decide)) (fun j hj => (g4 j hj).2) (w 1) 0 (300 - w 1 - 1) nx (by omega) (fun j hj => absurd hj (Nat.not_lt_zero _))
  rw [show 300 - w 1 - 1 + w 1 + 1 = 300 by omega] at f1
  rw [show p_X9_differences_L16 s (nI 1) 300 0 nx 0 = some (nx', nI (w 1)) from f1, Option.bind_some, g2]
  by_cases c : w 1 = 0
  · rw [c, if_pos (show nI 0 = 0 from rfl)]
    exact lay_none hH hS0 _ _ _
  · obtain ⟨fo, R', k1, k2⟩ := dif_c (A := st.2.1) (x := fun j => s (16 * 1 + j)) g1 g2 (fun j hj => (g4 j hj).1) (fun j hj => (g4 j hj).2) (w 1) 0 (300 - w 1 - 1) (dr.1, nI 0) (by omega) rfl (fun j hj => absurd hj (Nat.not_lt_zero _))
    rw [show 300 - w 1 - 1 + w 1 + 1 = 300 by omega] at k1
    rw [if_neg (nI_ne0 (by omega) (by omega)), show p_X6_takeDifferences st.2.1 dr = some (fo, R') from k1, Option.bind_some]
    exact lay_fin hH hS0 (row := 1) (by decide) g1 c (x := (fo, R')) k2 f2
theorem differences_ok {r0 r1 r2 r3 st : STT} {old size states : Int32} {was s : Nat → UInt64} (hH : RelH r0 r1 r2 r3 old size was states) (hS : RelS st s) (dr : (Nat → UInt64) × Int32) (nx : Nat → UInt64) (nm p : Int32) : BothD (p_X8_differences st r0 r1 r2 r3 old size dr p) (p_X9_differences s was states nx nm p) := by
  rcases row_or p with ⟨row, hr, rfl, h1, h2⟩ | ⟨h1, h2⟩
  · rcases (show row = 0 ∨ row = 1 by omega) with rfl | rfl
    · exact differences_row0 hH hS dr nx nm h1 h2
    · exact differences_row1 hH hS dr nx nm h1 h2
  · unfold p_X8_differences p_X9_differences
    rw [h1, h2, Option.bind_some, Option.bind_some, if_pos rfl, if_pos rfl]
    exact BothD.same _ _ _ _ ⟨hS, hH⟩
