/-! the law's end: two more acts, refusals, a snapshot, undos, the snapshot back -/
/-- how many states a history holds after one more -/
theorem remember_z {r0 r1 r2 r3 st q0 q1 q2 q3 : STT} {old size old' size' : Int32} {c : Nat} {v : Nat → Int64} (hM : HistM r0 r1 r2 r3 old size c v) (hb : isB st.2.2.2 = true) (e : p_X2_remember r0 r1 r2 r3 old size st = some (q0, q1, q2, q3, old', size')) : ∃ h, h ≤ 4 ∧ size = nI h ∧ size' = nI (if h = 4 then 4 else h + 1) := by
  obtain ⟨o, h, ho, hh, rfl, rfl, hc, hR⟩ := hM
  refine ⟨h, hh, rfl, ?_⟩
  by_cases h4 : h = 4
  · subst h4
    obtain ⟨a0, a1, a2, a3, e1, e2, e3⟩ := ring_putE (r0 := r0) (r1 := r1) (r2 := r2) (r3 := r3) ho hb (fun a b c d => some (a, b, c, d, nI ((o + 1) % 4), nI 4)) (nI ((o + 1) % 4)) (nI 4) (fun _ _ _ _ => rfl)
    have f : p_X2_remember r0 r1 r2 r3 (nI o) (nI 4) st = some (a0, a1, a2, a3, nI ((o + 1) % 4), nI 4) := by
      unfold p_X2_remember
      rw [if_pos (show nI 4 = (4 : Int32) from rfl), nI_1, m4 (by omega), show nI 4 - 1 = nI 3 from rfl, nI_add, m4 (by omega), show ((o + 1) % 4 + 3) % 4 = o by omega, i4 ho, show nI 3 + 1 = nI 4 from rfl]
      exact e1
    rw [f] at e
    cases e
    rfl
  · obtain ⟨a0, a1, a2, a3, e1, e2, e3⟩ := ring_putE (r0 := r0) (r1 := r1) (r2 := r2) (r3 := r3) (show (o + h) % 4 < 4 by omega) hb (fun a b c d => some (a, b, c, d, nI o, nI (h + 1))) (nI o) (nI (h + 1)) (fun _ _ _ _ => rfl)
    have hne : ¬ nI h = (4 : Int32) := by
      intro q
      have := congrArg Int32.toInt q
      rw [nI_toInt (by omega)] at this
      have k4 : (4 : Int32).toInt = 4 := rfl
      omega
    have f : p_X2_remember r0 r1 r2 r3 (nI o) (nI h) st = some (a0, a1, a2, a3, nI o, nI (h + 1)) := by
      unfold p_X2_remember
      rw [if_neg hne, nI_add, m4 (by omega), i4 (show (o + h) % 4 < 4 by omega), nI_1]
      exact e1
    rw [f] at e
    cases e
    rw [if_neg h4]
/-- filling the first row with two terms of the series 0 -/
theorem fill_two {r0 r1 r2 r3 st : STT} {old size states : Int32} {was s : Nat → UInt64} (hH : RelH r0 r1 r2 r3 old size was states) (hS : RelS st s) (dr : (Nat → UInt64) × Int32) : ∃ st' q0 q1 q2 q3 old' size' dr' s' was' states', p_X8_fill st r0 r1 r2 r3 old size dr (0 : Int32) (0 : Int32) (2 : Int32) = some (nI 2, st', q0, q1, q2, q3, old', size', dr') ∧ st'.1.2 = nI 2 ∧ MutR st' q0 q1 q2 q3 old' size' s' was' states' ∧ p_X2_remember r0 r1 r2 r3 old size st = some (q0, q1, q2, q3, old', size') := by
  obtain ⟨a, st', q0, q1, q2, q3, o', z', dr', s', w', t', nx', nm', g1, g2, g3⟩ := fill_ok hH hS dr (fun _ => 0) 0 (0 : Int32) (0 : Int32) (2 : Int32)
  have e := g1
  have hf : fOK (s 36) := hS.2.2.2.2.2.2.2.2.1
  have e2 : st.2.2.1 2 = s 36 := hS.2.2.2.1
  obtain ⟨R', nx2, f1, f2, f3, f4⟩ := fill_l hf (kd := 0) (n := 2) (by decide) (by decide) 2 0 297 297 FP.dconst0 (dr.1, nI 0) (fun _ => 0) rfl (by decide +kernel) rfl (fun j hj => absurd hj (Nat.not_lt_zero _))
  unfold p_X8_fill p_X6_fillSeries at e
  rw [show p_X8_isRow (0 : Int32) = some (1 : Int32) by decide +kernel, Option.bind_some, if_neg one0, if_neg (by decide), if_neg (by decide), if_neg (by decide), if_pos (by decide), show (2 : Int32).toNatClampNeg = 2 from rfl, e2, show p_X6_fillSeries_L14 (0 : Int32) (2 : Int32) (s 36) 300 FP.dconst0 FP.dconst1 1 (dr.1, 0) = some R' from f1, Option.bind_some] at e
  obtain ⟨x8, e8, e⟩ := bind_s e
  unfold p_X8_putDraft at e8
  obtain ⟨x1, e1, e8⟩ := bind_s e8
  rw [if_pos rfl] at e8
  obtain ⟨x3, e3, e8⟩ := bind_s e8
  unfold p_X4_copyFrom at e3
  cases e3
  cases e8
  cases e
  refine ⟨((va_cpy dr'.1 st.1.1 0 0 16, dr'.2), st.2.1, st.2.2.1, st.2.2.2), x1.1, x1.2.1, x1.2.2.1, x1.2.2.2.1, x1.2.2.2.2.1, x1.2.2.2.2.2, dr', s', w', t', ?_, f3, g3, e1⟩
  rw [← f3]
  exact g1
/-- 0.5 behind two numbers of the first row -/
theorem add_half {r0 r1 r2 r3 st : STT} {old size states : Int32} {was s : Nat → UInt64} (hH : RelH r0 r1 r2 r3 old size was states) (hS : RelS st s) (h2 : st.1.2 = nI 2) : ∃ st' q0 q1 q2 q3 old' size' s' was' states', p_X8_add st r0 r1 r2 r3 old size (0 : Int32) (4602678819172646912 : Int64) = some (nI 3, st', q0, q1, q2, q3, old', size') ∧ st'.1.2 = nI 3 ∧ st'.1.1 2 = (4602678819172646912 : UInt64) ∧ MutR st' q0 q1 q2 q3 old' size' s' was' states' ∧ p_X2_remember r0 r1 r2 r3 old size st = some (q0, q1, q2, q3, old', size') := by
  obtain ⟨a, st', q0, q1, q2, q3, o', z', s', w', t', g1, g2, g3⟩ := add_ok hH hS (0 : Int32) (4602678819172646912 : Int64)
  have e := g1
  unfold p_X8_add at e
  rw [show p_X8_isRow (0 : Int32) = some (1 : Int32) by decide +kernel, Option.bind_some, if_neg one0, show p_X0_fitRow (4602678819172646912 : Int64) = some (1 : Int32) by decide +kernel, Option.bind_some, if_neg one0, if_pos rfl, h2, if_neg (by decide)] at e
  obtain ⟨x7, e7, e⟩ := bind_s e
  rw [show p_X0_decoded (4602678819172646912 : Int64) = some (4602678819172646912 : UInt64) by decide +kernel, Option.bind_some, x4_app h2 (by decide), Option.bind_some] at e
  cases e
  exact ⟨_, _, _, _, _, _, _, _, _, _, g1, rfl, (show vf_upd st.1.1 2 (4602678819172646912 : UInt64) 2 = (4602678819172646912 : UInt64) from vu_s rfl), g3, e7⟩
theorem keep_eq {st sn : STT} (hb : isB st.2.2.2 = true) : p_X8_keep st sn = some (st.1.2 + st.2.1.2, cpyS sn st, (1 : Int32)) := by
  unfold p_X8_keep
  rw [copy_eq hb, Option.bind_some]
  rfl
theorem nI_nle0 {n : Nat} (h : n + 1 < 2 ^ 31) : ¬ nI (n + 1) ≤ (0 : Int32) := by
  intro q
  have := Int32.le_iff_toInt_le.mp q
  rw [nI_toInt h, show (0 : Int32).toInt = 0 from rfl] at this
  omega
theorem refused_ok {st : STT} {s : Nat → UInt64} {a : Nat} (hS : RelS st s) (ha : st.1.2 = nI a) (h16 : a < 16) (sn : STT) (tk : Int32) (r0 r1 r2 r3 : STT) (old size : Int32) (ch : Nat → Int32) (tl ta : Int32) (td : Int64) (v : Nat → UInt64) (k : Nat → Int32) (tb : Int32) (gu ra : UInt64) (br le gc : Int32) (gE gV : UInt64) (dr : (Nat → UInt64) × Int32) : ∃ v' k' tb' gu' ra' br' le' gc' gE' gV', p_L_refused st sn tk r0 r1 r2 r3 old size ch tl ta td v k tb gu ra br le gc gE gV dr = some ((1 : Int32), st, r0, r1, r2, r3, old, size, ta, td, v', k', tb', gu', ra', br', le', gc', gE', gV', dr) := by
  unfold p_L_refused
  rw [cnt4, Option.bind_some]
  try dsimp only
  rw [cnt5, Option.bind_some]
  try dsimp only
  rw [cnt0, Option.bind_some]
  try dsimp only
  obtain ⟨v1, k1, tb1, gu1, ra1, br1, le1, gc1, gE1, gV1, e1⟩ := ref_refusesAny_0 hS ha h16 sn tk r0 r1 r2 r3 old size ch tl ta td v k tb gu ra br le gc gE gV dr
  rw [e1, Option.bind_some]
  try dsimp only
  rw [if_neg one0]
  obtain ⟨v2, k2, tb2, gu2, ra2, br2, le2, gc2, gE2, gV2, e2⟩ := ref_refusesAny_1 hS ha h16 sn tk r0 r1 r2 r3 old size ch tl ta td v1 k1 tb1 gu1 ra1 br1 le1 gc1 gE1 gV1 dr
  rw [e2, Option.bind_some]
  try dsimp only
  rw [if_neg one0, cnt4, Option.bind_some]
  try dsimp only
  rw [if_pos rfl, cnt5, Option.bind_some]
  try dsimp only
  rw [if_pos rfl, cnt0, Option.bind_some]
  try dsimp only
  rw [if_pos rfl]
  exact ⟨_, _, _, _, _, _, _, _, _, _, rfl⟩
section ENDS
variable {L : Nat} {xs : Nat → Int32}
theorem s578_ok (st sn : STT) (tk : Int32) (r0 r1 r2 r3 : STT) (old : Int32) (ch : Nat → Int32) (tl ta : Int32) (td : Int64) (v : Nat → UInt64) (kk : Nat → Int32) (tb : Int32) (gu ra : UInt64) (br le gc : Int32) (gE gV : UInt64) (dr : (Nat → UInt64) × Int32) (w : Nat → Int64) : p_L_law_S578 L xs st sn tk r0 r1 r2 r3 old (1 : Int32) ch tl ta td v kk tb gu ra br le gc gE gV dr w = some 1 := by
  unfold p_L_law_S578
  rw [cnt4, Option.bind_some, if_pos rfl]
theorem s529_ok {st sn st2 : STT} {s s2 : Nat → UInt64} {r0 r1 r2 r3 : STT} {old : Int32} {c : Nat} {u : Nat → Int64} (hS : RelS st s) (hM : HistM r0 r1 r2 r3 old (nI 0) c u) (hS2 : RelS st2 s2) (h3 : st2.1.2 = nI 3) (hn : st2.1.1 2 = (4602678819172646912 : UInt64)) (sn0 : STT) (hsn : sn = cpyS sn0 st2) (ch : Nat → Int32) (ta : Int32) (td : Int64) (v : Nat → UInt64) (kk : Nat → Int32) (tb : Int32) (gu ra : UInt64) (br le gc : Int32) (gE gV : UInt64) (dr : (Nat → UInt64) × Int32) (w : Nat → Int64) : p_L_law_S529 L xs st sn (1 : Int32) r0 r1 r2 r3 old (nI 0) ch (nI 5) ta td v kk tb gu ra br le gc gE gV dr w = some 1 := by
  subst hsn
  obtain ⟨o, h, ho, hh, rfl, hz, hc, hR⟩ := hM
  have hb := isB_rel hS
  have hc2 : (cpyS st (cpyS sn0 st2)).1.1 2 = st2.1.1 2 := by
    unfold cpyS
    dsimp only
    rw [cpy_lt (show 2 < 16 by decide), cpy_lt (show 2 < 16 by decide)]
  have hb3 : isB st2.2.2.2 = true := isB_rel hS2
  have hb2 : isB (cpyS sn0 st2).2.2.2 = true := hb3
  obtain ⟨a0, a1, a2, a3, e1, e2, e3⟩ := ring_putE (r0 := r0) (r1 := r1) (r2 := r2) (r3 := r3) (st := st) (show (o + 0) % 4 < 4 by omega) hb (fun a b c d => some (a, b, c, d, nI o, nI 1)) (nI o) (nI 1) (fun _ _ _ _ => rfl)
  have f : p_X2_remember r0 r1 r2 r3 (nI o) (nI 0) st = some (a0, a1, a2, a3, nI o, nI 1) := by
    unfold p_X2_remember
    rw [if_neg (show ¬ nI 0 = (4 : Int32) by decide), nI_add, m4 (by omega), i4 (show (o + 0) % 4 < 4 by omega), nI_1]
    exact e1
  unfold p_L_law_S529
  rw [cnt5, Option.bind_some, if_pos (show nI 5 = (5 : Int32) from rfl)]
  try dsimp only
  rw [show p_X8_restore st (cpyS sn0 st2) (1 : Int32) r0 r1 r2 r3 (nI o) (nI 0) = some (st2.1.2 + st2.2.1.2, cpyS st (cpyS sn0 st2), a0, a1, a2, a3, nI o, nI 1) by
    unfold p_X8_restore
    rw [if_neg one0, f, Option.bind_some, copy_eq hb2, Option.bind_some]
    rfl, Option.bind_some]
  try dsimp only
  rw [cnt0, Option.bind_some, cnt1, Option.bind_some]
  try dsimp only
  rw [if_pos (show st2.1.2 + st2.2.1.2 = (cpyS st (cpyS sn0 st2)).1.2 + (cpyS st (cpyS sn0 st2)).2.1.2 from rfl), cnt0, Option.bind_some]
  try dsimp only
  rw [if_pos (show (cpyS st (cpyS sn0 st2)).1.2 = (3 : Int32) from h3), show p_X8_number (cpyS st (cpyS sn0 st2)) (0 : Int32) (2 : Int32) = some (4602678819172646912 : UInt64) by
    unfold p_X8_number p_X4_hasPlace
    rw [show p_X8_isRow (0 : Int32) = some (1 : Int32) by decide +kernel, Option.bind_some, if_neg one0, if_pos rfl, if_neg (by decide), show (cpyS st (cpyS sn0 st2)).1.2 = nI 3 from h3, if_neg (by decide), Option.bind_some, if_neg one0, gD_t _ (by decide), show (2 : Int32).toNatClampNeg = 2 from rfl, hc2, hn], Option.bind_some, if_pos (by decide)]
  exact s578_ok _ _ _ _ _ _ _ _ _ _ _ _ _ _ _ _ _ _ _ _ _ _ _ _
theorem l478_ok {sn sn0 st2 : STT} {s2 : Nat → UInt64} (hS2 : RelS st2 s2) (h3 : st2.1.2 = nI 3) (hn : st2.1.1 2 = (4602678819172646912 : UInt64)) (hsn : sn = cpyS sn0 st2) {c : Nat} (hc : c ≤ 40) {w : Nat → Int64} (ch : Nat → Int32) (ta : Int32) (td : Int64) (v : Nat → UInt64) (kk : Nat → Int32) (tb : Int32) (gu ra : UInt64) (br le gc : Int32) (gE gV : UInt64) (dr : (Nat → UInt64) × Int32) :
    ∀ (h k f : Nat) (st r0 r1 r2 r3 : STT) (old states : Int32) (s was : Nat → UInt64), h + k ≤ 4 → k ≤ c → RelS st s → RelH r0 r1 r2 r3 old (nI h) was states → HistM r0 r1 r2 r3 old (nI h) (c - k) w → encS st = w (c - k) → p_L_law_L478 L xs (f + h + 1) (nI c) (nI k) st sn (1 : Int32) r0 r1 r2 r3 old (nI h) ch (nI 5) ta td v kk tb gu ra br le gc gE gV dr w = some 1 := by
  intro h
  induction h with
  | zero =>
    intro k f st r0 r1 r2 r3 old states s was hk hkc hS hH hM he
    rw [p_L_law_L478, cnt4, Option.bind_some]
    try dsimp only
    rw [if_pos (show nI 0 ≤ (0 : Int32) by decide), show p_X8_undo st r0 r1 r2 r3 old (nI 0) = some ((-5 : Int32), st, nI 0) by
      unfold p_X8_undo
      rw [if_pos (show nI 0 = (0 : Int32) from rfl)], Option.bind_some, if_pos rfl]
    exact s529_ok hS hM hS2 h3 hn sn0 hsn _ _ _ _ _ _ _ _ _ _ _ _ _ _ _
  | succ h ih =>
    intro k f st r0 r1 r2 r3 old states s was hk hkc hS hH hM he
    obtain ⟨st', u1, u2, u3, u4⟩ := undo_m (st := st) hH hM rfl (by omega)
    obtain ⟨a, st3, size3, s3, states3, y1, y2, y3, y4⟩ := undo_ok hH hS
    have hq := y1.symm.trans u1
    cases hq
    rw [show f + (h + 1) + 1 = (f + h + 1) + 1 by omega, p_L_law_L478, cnt4, Option.bind_some]
    try dsimp only
    rw [if_neg (show ¬ nI (h + 1) ≤ (0 : Int32) from nI_nle0 (by omega)), if_neg (show ¬ (4 : Int32) < nI k from nI_nlt (a := 4) (by omega) (by decide)), pk_sub (show k ≤ c by omega), gD_t _ (inb_nI (by omega) (by decide)), nI_clamp (by omega), isAs_ok hS _ _ _ _ _ _ _ _ _ _ he.symm, Option.bind_some]
    try dsimp only
    rw [if_neg one0, u1, Option.bind_some, if_pos (show (0 : Int32) ≤ nI h from Int32.not_lt.mp (nI_nn (by omega))), nI_1]
    refine ih (k + 1) f _ r0 r1 r2 r3 old _ _ _ (by omega) (by omega) y3 y4 ?_ ?_
    · rw [show c - (k + 1) = c - k - 1 by omega]
      exact u3
    · rw [show c - (k + 1) = c - k - 1 by omega]
      exact u2
theorem s458_ok {st2 sn0 sn : STT} {s2 : Nat → UInt64} (hS2 : RelS st2 s2) (h3 : st2.1.2 = nI 3) (hn : st2.1.1 2 = (4602678819172646912 : UInt64)) (hsn : sn = cpyS sn0 st2) {c : Nat} (hc : c ≤ 36) {w u : Nat → Int64} {r0 r1 r2 r3 : STT} {old states : Int32} {was : Nat → UInt64} {h : Nat} (hh : h ≤ 2) (hH : RelH r0 r1 r2 r3 old (nI (h + 2)) was states) (hM : HistM r0 r1 r2 r3 old (nI (h + 2)) (c + 2) u) (hu : ∀ j, j ≤ c → w j = u j) (ch : Nat → Int32) (ta : Int32) (td : Int64) (v : Nat → UInt64) (kk : Nat → Int32) (tb : Int32) (gu ra : UInt64) (br le gc : Int32) (gE gV : UInt64) (dr : (Nat → UInt64) × Int32) : p_L_law_S458 L xs (nI c) st2 sn (1 : Int32) r0 r1 r2 r3 old (nI (h + 2)) ch (nI 5) ta td v kk tb gu ra br le gc gE gV dr w = some 1 := by
  obtain ⟨st', u1, u2, u3, -⟩ := undo_m (st := st2) hH hM (g := h + 1) rfl (by omega)
  obtain ⟨a, st3, size3, s3, states3, y1, y2, y3, y4⟩ := undo_ok hH hS2
  have hq := y1.symm.trans u1
  cases hq
  obtain ⟨st'', z1, z2, z3, -⟩ := undo_m (st := st') y4 u3 (g := h) rfl (by omega)
  obtain ⟨a', st4, size4, s4, states4, x1, x2, x3, x4⟩ := undo_ok y4 y3
  have hq := x1.symm.trans z1
  cases hq
  unfold p_L_law_S458
  rw [u1, Option.bind_some]
  try dsimp only
  rw [if_neg (show ¬ nI (h + 1) < (1 : Int32) from nI_nlt (b := 1) (by omega) (by omega)), z1, Option.bind_some]
  try dsimp only
  rw [if_pos (show (0 : Int32) ≤ nI h from Int32.not_lt.mp (nI_nn (by omega)))]
  have hfin := l478_ok (L := L) (xs := xs) hS2 h3 hn hsn (show c ≤ 40 by omega) (w := w) ch ta td v kk tb gu ra br le gc gE gV dr h 0 (299 - h) st'' r0 r1 r2 r3 old _ _ _ (by omega) (by omega) x3 x4 ?_ ?_
  · rw [show 299 - h + h + 1 = 300 by omega] at hfin
    exact hfin
  · exact z3.congr (fun j hj => hu j (by omega))
  · rw [z2]
    exact (hu c (Nat.le_refl _)).symm
theorem s403_ok (c : Nat) (w : Nat → Int64) (st r0 r1 r2 r3 : STT) (old size ta : Int32) (td : Int64) (v : Nat → UInt64) (kk : Nat → Int32) (tb : Int32) (gu ra : UInt64) (br le gc : Int32) (gE gV : UInt64) (dr : (Nat → UInt64) × Int32) (sn : STT) (tk : Int32) (ch : Nat → Int32) (hc : c ≤ 36) (hI : LawI st r0 r1 r2 r3 old size c w) : p_L_law_S403 L xs (nI c) st sn tk r0 r1 r2 r3 old size ch (nI 5) ta td v kk tb gu ra br le gc gE gV dr w = some 1 := by
  obtain ⟨⟨s, was, states, hS, hH⟩, hM⟩ := hI
  obtain ⟨st1, a0, a1, a2, a3, o1, z1, dr1, s1, w1, t1, f1, f2, f3, f4⟩ := fill_two hH hS dr
  obtain ⟨st2, b0, b1, b2, b3, o2, z2, s2, w2, t2, g1, g2, g3, g4, g5⟩ := add_half f3.2 f3.1 f2
  obtain ⟨v', k', tb', gu', ra', br', le', gc', gE', gV', e⟩ := refused_ok g4.1 g2 (by decide) sn tk b0 b1 b2 b3 o2 z2 ch (nI 5) ta td v kk tb gu ra br le gc gE gV dr1
  -- the marks, with the two that are not written down
  have hcl : (nI c).toNatClampNeg = c := nI_clamp (by omega)
  obtain ⟨u, hu⟩ : ∃ u : Nat → Int64, u = vp_updL (vp_updL w c (encS st)) (c + 1) (encS st1) := ⟨_, rfl⟩
  have hu0 : ∀ j, j < c → u j = w j := fun j hj => by rw [hu, updL_n _ _ (by omega), updL_n _ _ (by omega)]
  have hu1 : u c = encS st := by rw [hu, updL_n _ _ (by omega), updL_s]
  have hu2 : u (c + 1) = encS st1 := by rw [hu, updL_s]
  have m0 : HistM r0 r1 r2 r3 old size c u := hM.congr hu0
  have m1 := remember_m m0 (isB_rel hS) hu1 f4
  have m2 := remember_m m1 (isB_rel f3.1) hu2 g5
  obtain ⟨n1, l1, q1, q2⟩ := remember_z m0 (isB_rel hS) f4
  obtain ⟨n2, l2, q3, q4⟩ := remember_z m1 (isB_rel f3.1) g5
  have hn12 : n2 = if n1 = 4 then 4 else n1 + 1 := (nI_inj (by omega) (by split <;> omega)).mp (q3.symm.trans q2)
  obtain ⟨h, hh, hz⟩ : ∃ h, h ≤ 2 ∧ z2 = nI (h + 2) := by
    by_cases c1 : n1 = 4
    · rw [if_pos c1] at hn12
      rw [if_pos hn12] at q4
      exact ⟨2, by decide, q4⟩
    · rw [if_neg c1] at hn12
      by_cases c2 : n2 = 4
      · rw [if_pos c2] at q4
        exact ⟨2, by decide, q4⟩
      · rw [if_neg c2] at q4
        exact ⟨n2 - 1, by omega, by rw [q4, show n2 - 1 + 2 = n2 + 1 by omega]⟩
  subst hz
  unfold p_L_law_S403
  rw [marked_ok, Option.bind_some]
  try dsimp only
  rw [gD_t _ (inb_nI (by omega) (by decide)), f1, Option.bind_some]
  try dsimp only
  rw [if_pos (show nI 2 = (2 : Int32) from rfl), g1, Option.bind_some]
  try dsimp only
  rw [if_pos (show nI 3 = (3 : Int32) from rfl), e, Option.bind_some]
  try dsimp only
  rw [if_neg one0, keep_eq (isB_rel g4.1), Option.bind_some]
  try dsimp only
  rw [cnt0, Option.bind_some]
  try dsimp only
  rw [cnt1, Option.bind_some]
  try dsimp only
  rw [if_pos rfl, hcl]
  refine s458_ok g4.1 g2 g3 (sn0 := sn) rfl hc hh g4.2 m2 (fun j hj => ?_) _ _ _ _ _ _ _ _ _ _ _ _ _ _
  by_cases cj : j = c
  · subst cj
    rw [updL_s, hu1]
  · rw [updL_n _ _ cj, hu0 j (by omega)]
end ENDS
