/-! setting, bridge, counts, take -/
theorem qok_of {q : UInt64} (h : q.toNat % 2 ^ 63 < 1027 * 2 ^ 52) : qOK q := by
  have key : ∀ j, j < 15 → (powV q j).toNat % 2 ^ 63 < (1027 + 5 * j) * 2 ^ 52 := by
    intro j
    induction j with
    | zero => exact fun _ => h
    | succ j ih =>
      intro hj
      have := FP.Core.dmul_mag (ih (by omega)) h (show 1027 + 5 * j ≤ 2047 by omega) (show 1027 ≤ 2047 by decide)
      rw [show 1027 + 5 * j + 1027 - 1025 + 3 = 1027 + 5 * (j + 1) + 0 by omega] at this
      exact this
  intro j hj
  have := key j hj
  have h2 : (1027 + 5 * j) * 2 ^ 52 ≤ 1200 * 2 ^ 52 := Nat.mul_le_mul_right _ (by omega)
  exact Nat.lt_of_lt_of_le this h2
theorem m0_same {x : UInt64} (hx : nn x = true) : p_X9_areSame x 9223372036854775808 = some (if x = 9223372036854775808 then 1 else 0) := x9_same hx (by decide +kernel)
theorem ranges {j : Nat} (hj : j < 3) {x : UInt64} (hx : nn x = true) (hz : ¬ x = 9223372036854775808) : (p_X5_inRange (nI j) x = some 1 ∧ p_X9_isInRange (nI j) x = some 1 ∧ (j = 0 → 0 ≤ ky x) ∧ (j = 1 → x.toNat % 2 ^ 63 < 1027 * 2 ^ 52) ∧ (j = 2 → fOK x)) ∨ (p_X5_inRange (nI j) x = some 0 ∧ p_X9_isInRange (nI j) x = some 0) := by
  have hs : p_X9_areSame x 9223372036854775808 = some 0 := by rw [m0_same hx, if_neg hz]
  have hk := ky_or x
  unfold p_X5_inRange p_X9_isInRange
  rcases (show j = 0 ∨ j = 1 ∨ j = 2 by omega) with rfl | rfl | rfl
  · have n0 : nn FP.dconst0 = true := by decide +kernel
    have n1 : nn FP.dconst1 = true := by decide +kernel
    have k0 : ky FP.dconst0 = 0 := by decide +kernel
    rw [if_pos (show nI 0 = 0 from rfl), if_pos (show nI 0 = 0 from rfl)]
    by_cases a : Op.cmpValue (FP.dcmp x FP.dconst0) CmpOp.l < 0
    · rw [if_pos a, if_pos a]
      exact Or.inr ⟨rfl, rfl⟩
    · have a1 : ¬ ky x < 0 := fun q => a ((fc_lt hx n0 .l).mpr (by rw [k0]; exact q))
      rw [if_neg a, if_neg a]
      by_cases b : 0 < Op.cmpValue (FP.dcmp x FP.dconst1) CmpOp.g
      · rw [if_pos b, if_pos b]
        exact Or.inr ⟨rfl, rfl⟩
      · rw [if_neg b, if_neg b, hs, Option.bind_some, if_pos rfl]
        exact Or.inl ⟨rfl, rfl, fun _ => by omega, fun q => absurd q (by decide), fun q => absurd q (by decide)⟩
  · have n0 : nn 4609434218613702656 = true := by decide +kernel
    have n1 : nn 4621819117588971520 = true := by decide +kernel
    have k0 : ky 4609434218613702656 = 4609434218613702656 := by decide +kernel
    have k1 : ky 4621819117588971520 = 4621819117588971520 := by decide +kernel
    rw [if_neg n10, if_neg n10, if_pos (show nI 1 = 1 from rfl), if_pos (show nI 1 = 1 from rfl)]
    by_cases a : Op.cmpValue (FP.dcmp x 4609434218613702656) CmpOp.l < 0
    · rw [if_pos a, if_pos a]
      exact Or.inr ⟨rfl, rfl⟩
    · have a1 : ¬ ky x < 4609434218613702656 := fun q => a ((fc_lt hx n0 .l).mpr (by rw [k0]; exact q))
      rw [if_neg a, if_neg a]
      by_cases b : 0 < Op.cmpValue (FP.dcmp x 4621819117588971520) CmpOp.g
      · rw [if_pos b, if_pos b]
        exact Or.inr ⟨rfl, rfl⟩
      · have b1 : ¬ 4621819117588971520 < ky x := fun q => b ((fc_gt hx n1 .g).mpr (by rw [k1]; exact q))
        rw [if_neg b, if_neg b, hs, Option.bind_some, if_pos rfl]
        exact Or.inl ⟨rfl, rfl, fun q => absurd q (by decide), fun _ => by rcases hk with q | q <;> omega, fun q => absurd q (by decide)⟩
  · have n0 : nn 13830104095692056166 = true := by decide +kernel
    have n1 : nn 4606732058837280358 = true := by decide +kernel
    have k0 : ky 13830104095692056166 = -4606732058837280358 := by decide +kernel
    have k1 : ky 4606732058837280358 = 4606732058837280358 := by decide +kernel
    rw [if_neg (show ¬ nI 2 = 0 by decide), if_neg (show ¬ nI 2 = 0 by decide), if_neg (show ¬ nI 2 = 1 by decide), if_neg (show ¬ nI 2 = 1 by decide)]
    by_cases a : Op.cmpValue (FP.dcmp x 13830104095692056166) CmpOp.l < 0
    · rw [if_pos a, if_pos a]
      exact Or.inr ⟨rfl, rfl⟩
    · have a1 : ¬ ky x < -4606732058837280358 := fun q => a ((fc_lt hx n0 .l).mpr (by rw [k0]; exact q))
      rw [if_neg a, if_neg a]
      by_cases b : 0 < Op.cmpValue (FP.dcmp x 4606732058837280358) CmpOp.g
      · rw [if_pos b, if_pos b]
        exact Or.inr ⟨rfl, rfl⟩
      · have b1 : ¬ 4606732058837280358 < ky x := fun q => b ((fc_gt hx n1 .g).mpr (by rw [k1]; exact q))
        rw [if_neg b, if_neg b, hs, Option.bind_some, if_pos rfl]
        exact Or.inl ⟨rfl, rfl, fun q => absurd q (by decide), fun q => absurd q (by decide), fun _ => by unfold fOK; rcases hk with q | q <;> omega⟩
theorem sets_put {st : STT} {s : Nat → UInt64} (h : RelS st s) {j : Nat} (hj : j < 3) {x : UInt64} (hx : nn x = true) (r0 : j = 0 → 0 ≤ ky x) (r1 : j = 1 → x.toNat % 2 ^ 63 < 1027 * 2 ^ 52) (r2 : j = 2 → fOK x) : RelS (st.1, st.2.1, vf_upd st.2.2.1 j x, st.2.2.2) (vf_upd s (34 + j) x) := by
  obtain ⟨⟨w, hw⟩, s0, s1, s2, n0, p0, n1, q1, f1, b1⟩ := h
  refine ⟨⟨w, hw.congr (fun row hr => ?_) (fun row i hr hi => ?_) (fun k hk => vu_n (by omega))⟩, ?_⟩
  · unfold rL; rfl
  · unfold rA; rfl
  · rcases (show j = 0 ∨ j = 1 ∨ j = 2 by omega) with rfl | rfl | rfl
    · exact ⟨rfl, s1, s2, hx, r0 rfl, n1, q1, f1, b1⟩
    · exact ⟨s0, rfl, s2, n0, p0, hx, qok_of (r1 rfl), f1, b1⟩
    · exact ⟨s0, s1, rfl, n0, p0, n1, q1, r2 rfl, b1⟩
theorem lz_bits (b : Int64) : lg_cmp b (-9223372036854775808) = 0 ↔ b.toUInt64 = 9223372036854775808 := by
  rw [lc_eq]
  refine ⟨fun q => by rw [q]; rfl, fun q => ?_⟩
  have : b.toUInt64.toInt64 = (9223372036854775808 : UInt64).toInt64 := by rw [q]
  exact this
theorem setting_ok {r0 r1 r2 r3 st : STT} {old size states : Int32} {was s : Nat → UInt64} (hH : RelH r0 r1 r2 r3 old size was states) (hS : RelS st s) (p : Int32) (b : Int64) : Both (p_X8_setting st r0 r1 r2 r3 old size p b) (p_X9_setting s was states p b) := by
  unfold p_X8_setting p_X9_setting
  rw [x0_nan, x9_none, Option.bind_some]
  by_cases hn : nn b.toUInt64 = true
  · rw [if_pos hn, if_pos rfl, gD_t _ (snl_t hn)]
    rcases sets_or p with ⟨j, hj, rfl, h1, h2⟩ | ⟨h1, h2⟩
    · rw [h1, h2, Option.bind_some, Option.bind_some, if_neg one0, if_pos rfl, Option.bind_some, if_neg one0]
      unfold p_X0_isMinusZero
      by_cases hz : b.toUInt64 = 9223372036854775808
      · rw [if_pos ((lz_bits b).mpr hz), Option.bind_some, if_neg one0]
        have hs : p_X9_areSame b.toUInt64 9223372036854775808 = some 1 := by rw [m0_same hn, if_pos hz]
        have key : p_X9_isInRange (nI j) b.toUInt64 = some 0 := by
          unfold p_X9_isInRange
          rw [hs]
          split
          · split
            · rfl
            · split <;> rfl
          · split
            · split
              · rfl
              · split <;> rfl
            · split
              · rfl
              · split <;> rfl
        rw [key, Option.bind_some, if_pos rfl]
        exact Both.same _ ⟨hS, hH⟩
      · rw [if_neg (fun q => hz ((lz_bits b).mp q)), Option.bind_some, if_pos rfl, x0_decoded b hn, Option.bind_some]
        rcases ranges hj hn hz with ⟨a1, a2, a3, a4, a5⟩ | ⟨a1, a2⟩
        · obtain ⟨c1, c2⟩ := sets_at hS.2 hj
          rw [a1, a2, Option.bind_some, Option.bind_some, if_neg one0, if_neg one0, gD_t _ (inb_nI hj (by decide)), ix34, gD_t _ (inb_nI (show 34 + j < 38 by omega) (by decide)), nI_clamp (show j < 2 ^ 31 by omega), nI_clamp (show 34 + j < 2 ^ 31 by omega), c1]
          by_cases c : ky (s (34 + j)) = ky b.toUInt64
          · rw [if_pos ((fc_eq c2 hn .l).mpr c), if_pos ((fc_eq hn c2 .l).mpr c.symm)]
            exact Both.same _ ⟨hS, hH⟩
          · obtain ⟨q0, q1, q2, q3, o', z', w', t', e1, e2, e3⟩ := remember_ok hH hS
            rw [if_neg (fun q => c ((fc_eq c2 hn .l).mp q)), if_neg (fun q => c ((fc_eq hn c2 .l).mp q).symm), e1, e2, Option.bind_some, Option.bind_some, gD_t _ (inb_nI hj (by decide)), gD_t _ (inb_nI (show 34 + j < 38 by omega) (by decide))]
            exact Both.same _ ⟨sets_put hS hj hn a3 a4 a5, e3⟩
        · rw [a1, a2, Option.bind_some, Option.bind_some, if_pos rfl, if_pos rfl]
          exact Both.same _ ⟨hS, hH⟩
    · rw [h1, h2, Option.bind_some, Option.bind_some, if_pos rfl, if_pos rfl]
      exact Both.same _ ⟨hS, hH⟩
  · rw [if_neg hn, Option.bind_some, if_neg one0]
    rcases sets_or p with ⟨j, hj, rfl, h1, h2⟩ | ⟨h1, h2⟩
    · rw [h1, Option.bind_some, if_neg one0, if_neg one0]
      exact Both.same _ ⟨hS, hH⟩
    · rw [h1, Option.bind_some, if_pos rfl]
      exact Both.same _ ⟨hS, hH⟩
-- the broken ones of all the tables
def allB (k : Nat → Nat → Nat) : Nat → Nat
  | 0 => 0
  | i + 1 => allB k i + k (i / 4) (i % 4)
theorem nI_add0 (a : Int32) : a + nI 0 = a := Int32.add_zero a
theorem broken_i {st : STT} {s : Nat → UInt64} {w : Nat → Nat} (hw : rowsR st s w) (h2 : setsR st s) {row : Nat} (hr : row < 2) :
    ∀ (d i f f' : Nat) (a : Int32) (v e : Nat → UInt64) (k kk : Nat → Int32) (tb : Int32) (gu ra : UInt64) (br le tb' wi : Int32), i + d = 4 → ∃ a' v' k' tb1 gu1 ra1 br1 le1 e' kk' tb2 wi2, p_X8_brokenInAll_L11 st (f + d + 1) a (nI row) (nI i) v k tb gu ra br le = some (a', nI row, v', k', tb1, gu1, ra1, br1, le1) ∧ p_X9_brokenOnes_L4 s (f' + d) a (nI (4 * row + i)) e kk tb' wi = p_X9_brokenOnes_L4 s f' a' (nI (4 * row + 4)) e' kk' tb2 wi2 := by
  intro d
  induction d with
  | zero =>
    intro i f f' a v e k kk tb gu ra br le tb' wi h
    have : i = 4 := by omega
    subst this
    exact ⟨a, v, k, tb, gu, ra, br, le, e, kk, tb', wi, by rw [p_X8_brokenInAll_L11, if_pos (by decide)], rfl⟩
  | succ d ih =>
    intro i f f' a v e k kk tb gu ra br le tb' wi h
    obtain ⟨v', k', g, q, b, e1, e2, e3⟩ := tab_ok hw h2 hr (show i < 4 by omega) v k
    obtain ⟨v2, k2, l1, ag⟩ := e3 (w row) (Nat.le_refl _) e kk
    have g1 := (hw row hr).1
    have hk : ∀ c n, c < 16 → n + reach i c < w row → k' (16 * c + n) = k2 (16 * c + n) := fun c n h h' => (ag c n h h').2.1
    obtain ⟨a', v3, k3, tb1, gu1, ra1, br1, le1, e', kk', tb2, wi2, q1, q2⟩ := ih (i + 1) f f' (a + nI (cA k' 2 3 i (w row) 16)) v' v2 k' k2 (nI i) g q b (nI (w row)) (nI i) (nI (w row)) (by omega)
    refine ⟨a', v3, k3, tb1, gu1, ra1, br1, le1, e', kk', tb2, wi2, ?_, ?_⟩
    · rw [show f + (d + 1) + 1 = (f + d + 1) + 1 by omega, p_X8_brokenInAll_L11, if_neg (show ¬ (4 : Int32) ≤ nI i from nI_ge (b := 4) (by omega) (by decide)), e1, Option.bind_some]
      dsimp only
      unfold p_X1_manyBroken
      rw [x1_ofK k' 2 3 (by omega) g1, Option.bind_some, nI_1]
      exact q1
    · rw [show f' + (d + 1) = (f' + d) + 1 by omega, p_X9_brokenOnes_L4, if_neg (show ¬ (8 : Int32) ≤ nI (4 * row + i) from nI_ge (b := 8) (by omega) (by decide)), show nI (4 * row + i) - nI (4 * row + i) / 4 * 4 = nI ((4 * row + i) % 4) from pk_rem (d := 4) (by omega) (by decide) (by decide), show nI (4 * row + i) / 4 = nI ((4 * row + i) / 4) from pk_div (d := 4) (by omega) (by decide) (by decide), show (4 * row + i) % 4 = i by omega, show (4 * row + i) / 4 = row by omega, x9_many hw hr, Option.bind_some, l1, Option.bind_some]
      dsimp only
      rw [x9_cnt k2 2 3 (by omega) g1, Option.bind_some, nI_1, ← cA_congr hk 16 (by decide), show 4 * row + i + 1 = 4 * row + (i + 1) by omega]
      exact q2
theorem broken_ok {st : STT} {s : Nat → UInt64} (hS : RelS st s) (v e : Nat → UInt64) (k kk : Nat → Int32) (tb : Int32) (gu ra : UInt64) (br le tb' wi : Int32) : ∃ a x y, p_X8_brokenInAll st v k tb gu ra br le = some (a, x) ∧ p_X9_brokenOnes s e kk tb' wi = some (a, y) := by
  obtain ⟨⟨w, hw⟩, h2⟩ := hS
  obtain ⟨a0, v0, k0, tb0, gu0, ra0, br0, le0, e0, kk0, tx0, wi0, p1, p2⟩ := broken_i hw h2 (row := 0) (by decide) 4 0 295 296 0 v e k kk tb gu ra br le tb' wi rfl
  obtain ⟨a1, v1, k1, tb1, gu1, ra1, br1, le1, e1, kk1, tx1, wi1, p3, p4⟩ := broken_i hw h2 (row := 1) (by decide) 4 0 295 292 a0 v0 e0 k0 kk0 tb0 gu0 ra0 br0 le0 tx0 wi0 rfl
  refine ⟨a1, (v1, k1, tb1, gu1, ra1, br1, le1), (e1, kk1, tx1, wi1), ?_, ?_⟩
  · unfold p_X8_brokenInAll
    rw [p_X8_brokenInAll_L4, if_neg (show ¬ (2 : Int32) ≤ 0 by decide), show p_X8_brokenInAll_L11 st 300 0 0 0 v k tb gu ra br le = some (a0, nI 0, v0, k0, tb0, gu0, ra0, br0, le0) from p1, Option.bind_some]
    dsimp only
    rw [nI_1, p_X8_brokenInAll_L4, if_neg (show ¬ (2 : Int32) ≤ nI (0 + 1) by decide), show p_X8_brokenInAll_L11 st 300 a0 (nI (0 + 1)) 0 v0 k0 tb0 gu0 ra0 br0 le0 = some (a1, nI 1, v1, k1, tb1, gu1, ra1, br1, le1) from p3, Option.bind_some]
    dsimp only
    rw [nI_1, p_X8_brokenInAll_L4, if_pos (show (2 : Int32) ≤ nI (1 + 1) by decide), Option.bind_some]
  · unfold p_X9_brokenOnes
    rw [show p_X9_brokenOnes_L4 s 300 0 0 e kk tb' wi = p_X9_brokenOnes_L4 s 292 a1 (nI 8) e1 kk1 tx1 wi1 from p2.trans p4, p_X9_brokenOnes_L4, if_pos (by decide), Option.bind_some]
theorem count_ok {r0 r1 r2 r3 st : STT} {old size states : Int32} {was s : Nat → UInt64} (hH : RelH r0 r1 r2 r3 old size was states) (hS : RelS st s) (tl : Int32) (v e : Nat → UInt64) (k kk : Nat → Int32) (tb : Int32) (gu ra : UInt64) (br le tb' wi : Int32) (p : Int32) : ∃ a x y, p_X8_count st size tl v k tb gu ra br le p = some (a, x) ∧ p_X9_count s states tl e kk tb' wi p = some (a, y) := by
  unfold p_X8_count p_X9_count
  have hSt : size = states := by
    obtain ⟨o, h, _, _, _, rfl, rfl, _⟩ := hH
    rfl
  have hS0 := hS
  obtain ⟨⟨w, hw⟩, h2⟩ := hS
  by_cases c0 : p = 0
  · rw [if_pos c0, if_pos c0, c0, show p_X9_many s 0 = some (nI (w 0)) from x9_many hw (row := 0) (by decide), Option.bind_some, show st.1.2 = nI (w 0) from (hw 0 (by decide)).2.1]
    exact ⟨_, _, _, rfl, rfl⟩
  · rw [if_neg c0, if_neg c0]
    by_cases c1 : p = 1
    · rw [if_pos c1, if_pos c1, c1, show p_X9_many s 1 = some (nI (w 1)) from x9_many hw (row := 1) (by decide), Option.bind_some, show st.2.1.2 = nI (w 1) from (hw 1 (by decide)).2.1]
      exact ⟨_, _, _, rfl, rfl⟩
    · rw [if_neg c1, if_neg c1]
      by_cases c2 : p = 2
      · rw [if_pos c2, if_pos c2, show (37 : Int32).toNatClampNeg = 37 from rfl]
        rcases h2.2.2.2.2.2.2.2.2 with ⟨a1, a2⟩ | ⟨a1, a2⟩
        · rw [a1, a2, if_pos rfl, if_pos (by decide +kernel)]
          exact ⟨_, _, _, rfl, rfl⟩
        · rw [a1, a2, if_neg one0, if_neg (by decide +kernel)]
          exact ⟨_, _, _, rfl, rfl⟩
      · rw [if_neg c2, if_neg c2]
        by_cases c3 : p = 3
        · obtain ⟨a, x, y, b1, b2⟩ := broken_ok hS0 v e k kk tb gu ra br le tb' wi
          rw [if_pos c3, if_pos c3, b1, b2, Option.bind_some, Option.bind_some]
          exact ⟨_, _, _, rfl, rfl⟩
        · rw [if_neg c3, if_neg c3, hSt]
          by_cases c4 : p = 4
          · rw [if_pos c4, if_pos c4]
            exact ⟨_, _, _, rfl, rfl⟩
          · rw [if_neg c4, if_neg c4]
            by_cases c5 : p = 5
            · rw [if_pos c5, if_pos c5]
              exact ⟨_, _, _, rfl, rfl⟩
            · rw [if_neg c5, if_neg c5]
              exact ⟨_, _, _, rfl, rfl⟩
theorem bridge_put {st : STT} {s : Nat → UInt64} (h : RelS st s) {x : UInt64} {b : Int32} (hb : (x = FP.dconst0 ∧ b = 0) ∨ (x = FP.dconst1 ∧ b = 1)) : RelS (st.1, st.2.1, st.2.2.1, b) (vf_upd s 37 x) := by
  obtain ⟨⟨w, hw⟩, s0, s1, s2, n0, p0, n1, q1, f1, b1⟩ := h
  refine ⟨⟨w, hw.congr (fun row hr => ?_) (fun row i hr hi => ?_) (fun k hk => vu_n (by omega))⟩, s0, s1, s2, n0, p0, n1, q1, f1, hb⟩
  · unfold rL; rfl
  · unfold rA; rfl
theorem bridge_ok {r0 r1 r2 r3 st : STT} {old size states : Int32} {was s : Nat → UInt64} (hH : RelH r0 r1 r2 r3 old size was states) (hS : RelS st s) (v e : Nat → UInt64) (k kk : Nat → Int32) (tb : Int32) (gu ra : UInt64) (br le tb' wi : Int32) {p : Int32} (hp : p = 0 ∨ p = 1) : ∃ a st' q0 q1 q2 q3 old' size' x s' was' states' y, p_X8_bridge st r0 r1 r2 r3 old size v k tb gu ra br le p = some (a, st', q0, q1, q2, q3, old', size', x) ∧ p_X9_bridge s was states e kk tb' wi p = some (a, s', was', states', y) ∧ MutR st' q0 q1 q2 q3 old' size' s' was' states' := by
  unfold p_X8_bridge p_X9_bridge
  have b1 := hS.2.2.2.2.2.2.2.2.2
  rw [show (37 : Int32).toNatClampNeg = 37 from rfl]
  have go : ∀ (x : UInt64) (b : Int32), ((x = FP.dconst0 ∧ b = 0) ∨ (x = FP.dconst1 ∧ b = 1)) → ∃ a st' q0 q1 q2 q3 old' size' xx s' was' states' y, ((p_X2_remember r0 r1 r2 r3 old size st).bind fun x2 => gD (isB b) ((p_X8_brokenInAll (st.1, st.2.1, st.2.2.1, b) v k tb gu ra br le).bind fun x4 => some (x4.1, (st.1, st.2.1, st.2.2.1, b), x2.1, x2.2.1, x2.2.2.1, x2.2.2.2.1, x2.2.2.2.2.1, x2.2.2.2.2.2, x4.2.1, x4.2.2.1, x4.2.2.2.1, x4.2.2.2.2.1, x4.2.2.2.2.2.1, x4.2.2.2.2.2.2.1, x4.2.2.2.2.2.2.2))) = some (a, st', q0, q1, q2, q3, old', size', xx) ∧ ((p_X9_records s was states).bind fun x3 => (p_X9_brokenOnes (vf_upd s 37 x) e kk tb' wi).bind fun x4 => some (x4.1, (vf_upd s 37 x), x3.1, x3.2, x4.2.1, x4.2.2.1, x4.2.2.2.1, x4.2.2.2.2)) = some (a, s', was', states', y) ∧ MutR st' q0 q1 q2 q3 old' size' s' was' states' := by
    intro x b hb
    have hB : isB b = true := by rcases hb with q | q <;> rw [q.2] <;> rfl
    have hS2 := bridge_put hS hb
    obtain ⟨q0, q1, q2, q3, o', z', w', t', e1, e2, e3⟩ := remember_ok hH hS
    obtain ⟨a, y1, y2, c1, c2⟩ := broken_ok hS2 v e k kk tb gu ra br le tb' wi
    rw [e1, e2, Option.bind_some, Option.bind_some, gD_t _ hB, c1, c2, Option.bind_some, Option.bind_some]
    exact ⟨_, _, _, _, _, _, _, _, _, _, _, _, _, rfl, rfl, hS2, e3⟩
  have stay : ∃ a st' q0 q1 q2 q3 old' size' x s' was' states' y, some ((-5 : Int32), st, r0, r1, r2, r3, old, size, v, k, tb, gu, ra, br, le) = some (a, st', q0, q1, q2, q3, old', size', x) ∧ some ((-5 : Int32), s, was, states, e, kk, tb', wi) = some (a, s', was', states', y) ∧ MutR st' q0 q1 q2 q3 old' size' s' was' states' := ⟨_, _, _, _, _, _, _, _, _, _, _, _, _, rfl, rfl, hS, hH⟩
  rcases hp with rfl | rfl
  · rw [if_pos (show (0 : Int32) = 0 from rfl)]
    rcases b1 with ⟨a1, a2⟩ | ⟨a1, a2⟩
    · rw [if_pos a2, a1, if_pos (by decide +kernel)]
      exact stay
    · rw [if_neg (by rw [a2]; decide), a1, if_neg (by decide +kernel)]
      exact go _ _ (Or.inl ⟨rfl, rfl⟩)
  · rw [if_neg one0]
    rcases b1 with ⟨a1, a2⟩ | ⟨a1, a2⟩
    · rw [if_neg (by rw [a2]; decide), a1, if_neg (by decide +kernel)]
      exact go _ _ (Or.inr ⟨rfl, rfl⟩)
    · rw [if_pos a2, a1, if_pos (by decide +kernel)]
      exact stay
-- taking a column
theorem take_l {t w : Nat} {v v2 : Nat → UInt64} {k k2 : Nat → Int32} (ag : AG t w v k v2 k2) (ht : t < 4) (hw : w ≤ 16) {c : Nat} (hc : c < 16) :
    ∀ (d n f f' m : Nat) (R : (Nat → UInt64) × Int32) (nx : Nat → UInt64), n + d = w - reach t c → m ≤ n → R.2 = nI m → (∀ j, j < m → R.1 j = nx j ∧ fitb (nx j) = true) → ∃ R' nx' m', m' ≤ 16 ∧ R'.2 = nI m' ∧ (∀ j, j < m' → R'.1 j = nx' j ∧ fitb (nx' j) = true) ∧ p_X1_copyColumn_L18 v k (nI c) (f + d + 1) (nI (w - reach t c)) (nI n) R = some R' ∧ p_X9_take_L49 (nI c) (v2, k2, nI t, nI w) (f' + d + 1) (nI n) nx (nI m) = some (nx', nI m') := by
  intro d
  induction d with
  | zero =>
    intro n f f' m R nx h hm hR hv
    have : n = w - reach t c := by omega
    subst this
    refine ⟨R, nx, m, by omega, hR, hv, by rw [p_X1_copyColumn_L18, if_pos (nI_le (by omega) (by omega))], ?_⟩
    rw [p_X9_take_L49]
    dsimp only
    rw [x9_there ht (by omega) (by omega) (by omega), Option.bind_some, if_neg (show ¬ (c < 16 ∧ w - reach t c + reach t c < w) by omega), if_pos rfl]
  | succ d ih =>
    intro n f f' m R nx h hm hR hv
    obtain ⟨a1, a2, a3, a4⟩ := ag c n hc (by omega)
    rw [show f + (d + 1) + 1 = (f + d + 1) + 1 by omega, show f' + (d + 1) + 1 = (f' + d + 1) + 1 by omega, p_X1_copyColumn_L18, p_X9_take_L49]
    dsimp only
    rw [if_neg (nI_ge (by omega) (by omega)), x9_there ht (by omega) (by omega) (by omega), Option.bind_some, if_pos (show c < 16 ∧ n + reach t c < w by omega), if_neg one0, x1_isBroken k (by omega), x9_br k2 (by omega), ← a2, Option.bind_some, Option.bind_some, nI_1]
    by_cases q : k (16 * c + n) < 2
    · rw [if_pos q, if_pos rfl, if_pos rfl, x1_valueAt v (by omega), x9_x v2 (by omega), ← a1, Option.bind_some, Option.bind_some, Option.bind_some, Option.bind_some, x3_fits, x9_good, Option.bind_some, Option.bind_some]
      by_cases c2 : fitb (v (16 * c + n)) = true
      · rw [if_pos c2, if_neg one0, if_neg one0, x4_app hR (by omega), x9_lay1 nx (by omega), Option.bind_some, Option.bind_some]
        dsimp only
        refine ih (n + 1) f f' (m + 1) (vf_upd R.1 m (v (16 * c + n)), nI (m + 1)) (vf_upd nx m (v (16 * c + n))) (by omega) (by omega) rfl (fun j hj => ?_)
        by_cases e : j = m
        · subst e
          exact ⟨(vu_s rfl).trans (vu_s rfl).symm, by rw [vu_s rfl]; exact c2⟩
        · exact ⟨(vu_n e).trans ((hv j (by omega)).1.trans (vu_n e).symm), by rw [vu_n e]; exact (hv j (by omega)).2⟩
      · rw [if_neg c2, if_pos rfl, if_pos rfl]
        exact ih (n + 1) f f' m R nx (by omega) (by omega) hR hv
    · rw [if_neg q, if_neg one0, if_neg one0]
      exact ih (n + 1) f f' m R nx (by omega) (by omega) hR hv
theorem take_ok {r0 r1 r2 r3 st : STT} {old size states : Int32} {was s : Nat → UInt64} (hH : RelH r0 r1 r2 r3 old size was states) (hS : RelS st s) (v e nx : Nat → UInt64) (k kk : Nat → Int32) (tb : Int32) (gu ra : UInt64) (br le tb' wi nm : Int32) (dr : (Nat → UInt64) × Int32) (p t c : Int32) : ∃ a st' q0 q1 q2 q3 old' size' x s' was' states' y, p_X8_take st r0 r1 r2 r3 old size v k tb gu ra br le dr p t c = some (a, st', q0, q1, q2, q3, old', size', x) ∧ p_X9_take s was states nx nm e kk tb' wi p t c = some (a, s', was', states', y) ∧ MutR st' q0 q1 q2 q3 old' size' s' was' states' := by
  unfold p_X8_take p_X9_take
  rcases tab_or p t with ⟨row, tt, hr, ht, rfl, rfl, h1, h3⟩ | ⟨h1, h3⟩
  · rw [h1, h3, Option.bind_some, Option.bind_some, if_neg one0, if_neg one0, x9_in, Option.bind_some]
    by_cases c0 : c < 0
    · rw [if_pos c0, if_pos c0, if_pos rfl]
      exact ⟨_, _, _, _, _, _, _, _, _, _, _, _, _, rfl, rfl, hS, hH⟩
    · rw [if_neg c0, if_neg c0]
      obtain ⟨c', hc', rfl⟩ := nI_of c0
      by_cases c1 : c' < 16
      · have hS0 := hS
        obtain ⟨⟨w, hw⟩, h2⟩ := hS
        have hr1 : 1 - row < 2 := by omega
        obtain ⟨v', k', g, q, b, e1, e2, e3⟩ := tab_ok hw h2 hr1 ht v k
        obtain ⟨v2, k2, l1, ag⟩ := e3 (w (1 - row)) (Nat.le_refl _) e kk
        have g1 := (hw (1 - row) hr1).1
        obtain ⟨R', nx', m', m16, z1, z2, z3, z4⟩ := take_l ag ht g1 c1 (w (1 - row) - reach tt c') 0 (300 - (w (1 - row) - reach tt c') - 1) (300 - (w (1 - row) - reach tt c') - 1) 0 (dr.1, nI 0) nx (by omega) (by omega) rfl (fun j hj => absurd hj (Nat.not_lt_zero _))
        rw [show 300 - (w (1 - row) - reach tt c') - 1 + (w (1 - row) - reach tt c') + 1 = 300 by omega] at z3 z4
        rw [if_pos (show nI c' < (16 : Int32) from nI_lt (b := 16) c1 (by decide)), if_neg (show ¬ (15 : Int32) < nI c' from nI_nlt (a := 15) (by omega) (by decide)), if_neg one0, show (1 : Int32) - nI row = nI (1 - row) from pk_sub (a := 1) (by omega), x9_many hw hr1, Option.bind_some, e1, l1, Option.bind_some, Option.bind_some]
        dsimp only
        unfold p_X1_copyColumn
        rw [x1_many ht (by omega) (by omega), Option.bind_some, show p_X1_copyColumn_L18 v' k' (nI c') 300 (nI (w (1 - row) - reach tt c')) 0 (dr.1, 0) = some R' from z3, Option.bind_some, show p_X9_take_L49 (nI c') (v2, k2, nI tt, nI (w (1 - row))) 300 0 nx 0 = some (nx', nI m') from z4, Option.bind_some, z1]
        dsimp only
        by_cases m0 : m' = 0
        · rw [if_pos (show nI m' = 0 by rw [m0]; rfl), if_pos (show nI m' = 0 by rw [m0]; rfl)]
          exact ⟨_, _, _, _, _, _, _, _, _, _, _, _, _, rfl, rfl, hS0, hH⟩
        · obtain ⟨a, st', q0, q1, q2, q3, o', z', s', w', t', f1, f2, f3⟩ := put_ok hH hS0 hr m16 z1 (fun j hj => ⟨(z2 j hj).1, fitb_fin (z2 j hj).2⟩)
          rw [if_neg (show ¬ nI m' = 0 from nI_ne0 (by omega) (by omega)), if_neg (show ¬ nI m' = 0 from nI_ne0 (by omega) (by omega)), f1, f2, Option.bind_some, Option.bind_some]
          exact ⟨_, _, _, _, _, _, _, _, _, _, _, _, _, rfl, rfl, f3⟩
      · rw [if_neg (show ¬ nI c' < (16 : Int32) from nI_nlt (b := 16) (by omega) hc'), if_pos (show (15 : Int32) < nI c' from nI_lt (a := 15) (by omega) hc'), if_pos rfl]
        exact ⟨_, _, _, _, _, _, _, _, _, _, _, _, _, rfl, rfl, hS, hH⟩
  · rw [h1, h3, Option.bind_some, Option.bind_some, if_pos rfl, if_pos rfl]
    exact ⟨_, _, _, _, _, _, _, _, _, _, _, _, _, rfl, rfl, hS, hH⟩
-- texts grow and are cleared
theorem type_ok (ch : Nat → Int32) {len : Nat} (hl : len ≤ 60) (p : Int32) : ∃ a ch' len', len' ≤ 60 ∧ p_X8_type ch (nI len) p = some (a, ch', nI len') ∧ p_X9_type ch (nI len) p = some (a, ch', nI len') := by
  unfold p_X8_type p_X9_type
  by_cases c : len = 60
  · subst c
    rw [if_pos (show nI 60 = 60 from rfl), if_pos (show nI 60 = 60 from rfl)]
    exact ⟨_, _, 60, by decide, rfl, rfl⟩
  · have ne : ¬ nI len = 60 := fun q => c ((nI_inj (b := 60) (by omega) (by decide)).mp q)
    unfold p_X7_append
    rw [if_neg ne, if_neg ne, show (60 : Int32) = nI 60 from rfl, if_neg (nI_ge (by omega) (by decide)), gD_t _ (inb_nI (show len < 60 by omega) (by decide)), gD_t _ (inb_nI (show len < 60 by omega) (by decide)), nI_1, Option.bind_some]
    exact ⟨_, _, len + 1, by omega, rfl, rfl⟩
