/-! the law's drawn part -/
theorem rel0 : RelS (((fun _ => 0), 0), ((fun _ => 0), 0), (vf_upd (vf_upd (vf_upd (fun _ => 0) 0 4457293557087583675) 1 4611686018427387904) 2 4602678819172646912), 0) (vf_upd (vf_upd (vf_upd (fun _ => 0) 34 4457293557087583675) 35 4611686018427387904) 36 4602678819172646912) := by
  refine ⟨⟨fun _ => 0, fun row hr => ⟨Nat.zero_le _, ?_, ?_, fun j hj => absurd hj (Nat.not_lt_zero _)⟩⟩, rfl, rfl, rfl, by decide +kernel, by decide +kernel, by decide +kernel, qok_of (by decide +kernel), ?_, Or.inl ⟨?_, rfl⟩⟩
  · unfold rL
    split <;> rfl
  · rcases (show row = 0 ∨ row = 1 by omega) with rfl | rfl <;> decide +kernel
  · show (4602678819172646912 : UInt64).toNat % 2 ^ 63 < 1023 * 2 ^ 52
    decide +kernel
  · decide +kernel
theorem part_ok (x n : Int32) (h : nz n = true) : ∃ j, p_L_part x n = some j := ⟨_, by unfold p_L_part; exact gD_t _ h⟩
theorem drawn_ok {L : Nat} (hL : L ≤ 260) (xs : Nat → Int32) {k : Nat} (hk : k < 36) : ∃ x, p_L_drawn L xs (nI k) = some x := by
  unfold p_L_drawn
  rw [show Int32.ofNat L = nI L from rfl]
  by_cases c : nI L = 0
  · rw [if_pos c]
    exact ⟨_, rfl⟩
  · have h0 : 0 < L := by
      rcases Nat.eq_zero_or_pos L with q | q
      · subst q
        exact absurd rfl c
      · exact q
    rw [if_neg c, pk_rem (by omega) h0 (by omega), gD_t _ (inb_nI (Nat.mod_lt _ h0) (by omega))]
    exact ⟨_, rfl⟩
theorem updL_s (f : Nat → Int64) (i : Nat) (x : Int64) : vp_updL f i x i = x := if_pos rfl
theorem updL_n (f : Nat → Int64) {i j : Nat} (x : Int64) (h : ¬ j = i) : vp_updL f i x j = f j := if_neg h
/-- what holds between two calls of the law's loop; c: how many calls have changed something, w: their marks -/
def LawI (st r0 r1 r2 r3 : STT) (old size : Int32) (c : Nat) (w : Nat → Int64) : Prop := (∃ s was states, RelS st s ∧ RelH r0 r1 r2 r3 old size was states) ∧ HistM r0 r1 r2 r3 old size c w
theorem count_nn {st : STT} {s : Nat → UInt64} {w : Nat → Nat} (hw : rowsR st s w) (h2 : setsR st s) {row : Nat} (hr : row < 2) :
    ∀ (d i f m : Nat) (v : Nat → UInt64) (k : Nat → Int32) (tb : Int32) (gu ra : UInt64) (br le : Int32), i + d = 4 → ∃ m' v' k' tb1 gu1 ra1 br1 le1, p_X8_brokenInAll_L11 st (f + d + 1) (nI m) (nI row) (nI i) v k tb gu ra br le = some (nI m', nI row, v', k', tb1, gu1, ra1, br1, le1) ∧ m' ≤ m + 256 * d := by
  intro d
  induction d with
  | zero =>
    intro i f m v k tb gu ra br le h
    have : i = 4 := by omega
    subst this
    exact ⟨m, v, k, tb, gu, ra, br, le, by rw [p_X8_brokenInAll_L11, if_pos (by decide)], by omega⟩
  | succ d ih =>
    intro i f m v k tb gu ra br le h
    obtain ⟨v', k', g, q, b, e1, e2, e3⟩ := tab_ok hw h2 hr (show i < 4 by omega) v k
    have g1 := (hw row hr).1
    have hle : ∀ c, cA k' 2 3 i (w row) c ≤ 16 * c := by
      intro c
      induction c with
      | zero => exact Nat.le_refl _
      | succ c ihc =>
        have := cN_le (fun j => k' (16 * c + j)) 2 3 (w row - reach i c)
        unfold cA
        omega
    have := hle 16
    obtain ⟨m', v3, k3, tb1, gu1, ra1, br1, le1, q1, q2⟩ := ih (i + 1) f (m + cA k' 2 3 i (w row) 16) v' k' (nI i) g q b (nI (w row)) (by omega)
    refine ⟨m', v3, k3, tb1, gu1, ra1, br1, le1, ?_, by omega⟩
    rw [show f + (d + 1) + 1 = (f + d + 1) + 1 by omega, p_X8_brokenInAll_L11, if_neg (show ¬ (4 : Int32) ≤ nI i from nI_ge (b := 4) (by omega) (by decide)), e1, Option.bind_some]
    try dsimp only
    unfold p_X1_manyBroken
    rw [x1_ofK k' 2 3 (by omega) g1, Option.bind_some, nI_1, Option.bind_some, nI_add]
    exact q1
theorem broken_nn {st : STT} {s : Nat → UInt64} (hS : RelS st s) (v : Nat → UInt64) (k : Nat → Int32) (tb : Int32) (gu ra : UInt64) (br le : Int32) : ∃ n x, n < 4000 ∧ p_X8_brokenInAll st v k tb gu ra br le = some (nI n, x) := by
  obtain ⟨⟨w, hw⟩, h2⟩ := hS
  obtain ⟨m0, v0, k0, tb0, gu0, ra0, br0, le0, p1, l1⟩ := count_nn hw h2 (row := 0) (by decide) 4 0 295 0 v k tb gu ra br le rfl
  obtain ⟨m1, v1, k1, tb1, gu1, ra1, br1, le1, p3, l2⟩ := count_nn hw h2 (row := 1) (by decide) 4 0 295 m0 v0 k0 tb0 gu0 ra0 br0 le0 rfl
  refine ⟨m1, (v1, k1, tb1, gu1, ra1, br1, le1), by omega, ?_⟩
  unfold p_X8_brokenInAll
  rw [p_X8_brokenInAll_L4, if_neg (show ¬ (2 : Int32) ≤ 0 by decide), show p_X8_brokenInAll_L11 st 300 0 0 0 v k tb gu ra br le = some (nI m0, nI 0, v0, k0, tb0, gu0, ra0, br0, le0) from p1, Option.bind_some]
  try dsimp only
  rw [nI_1, p_X8_brokenInAll_L4, if_neg (show ¬ (2 : Int32) ≤ nI (0 + 1) by decide), show p_X8_brokenInAll_L11 st 300 (nI m0) (nI (0 + 1)) 0 v0 k0 tb0 gu0 ra0 br0 le0 = some (nI m1, nI 1, v1, k1, tb1, gu1, ra1, br1, le1) from p3, Option.bind_some]
  try dsimp only
  rw [nI_1, p_X8_brokenInAll_L4, if_pos (show (2 : Int32) ≤ nI (1 + 1) by decide), Option.bind_some]
theorem bridge_act {st r0 r1 r2 r3 st' q0 q1 q2 q3 : STT} {old size a old' size' : Int32} {v : Nat → UInt64} {k : Nat → Int32} {tb : Int32} {gu ra : UInt64} {br le p : Int32} {y : (Nat → UInt64) × (Nat → Int32) × Int32 × UInt64 × UInt64 × Int32 × Int32} {s' : Nat → UInt64} (hS : RelS st' s') (e : p_X8_bridge st r0 r1 r2 r3 old size v k tb gu ra br le p = some (a, st', q0, q1, q2, q3, old', size', y)) : ActC st r0 r1 r2 r3 old size a st' q0 q1 q2 q3 old' size' := by
  unfold p_X8_bridge at e
  by_cases c1 : st.2.2.2 = p
  · rw [if_pos c1] at e
    cases e
    exact Or.inl ⟨by decide, rfl, rfl, rfl, rfl, rfl, rfl, rfl⟩
  · rw [if_neg c1] at e
    obtain ⟨x2, ex2, e⟩ := bind_s e
    have e := (gD_h e).2
    obtain ⟨x4, ex4, e⟩ := bind_s e
    cases e
    obtain ⟨n, x, hn, hx⟩ := broken_nn hS v k tb gu ra br le
    have hx2 := hx.symm.trans ex4
    refine Or.inr ⟨?_, ex2⟩
    rw [← (congrArg Prod.fst (Option.some.inj hx2))]
    exact nI_nn (by omega)
theorem isB_rel {st : STT} {s : Nat → UInt64} (h : RelS st s) : isB st.2.2.2 = true := h.2.isB
/-- the tail of each call of the loop -/
theorem tail_ok {L : Nat} {xs : Nat → Int32} {n c k : Nat} {sn : STT} {tk : Int32} {ch : Nat → Int32} {w : Nat → Int64} (hc : c ≤ k) (hk : k < 36)
    (ih : ∀ (c' : Nat) (w' : Nat → Int64) (st r0 r1 r2 r3 : STT) (old size ta : Int32) (td : Int64) (v : Nat → UInt64) (kk : Nat → Int32) (tb : Int32) (gu ra : UInt64) (br le gc : Int32) (gE gV : UInt64) (dr : (Nat → UInt64) × Int32), c' ≤ k + 1 → LawI st r0 r1 r2 r3 old size c' w' → p_L_law_L50 L xs n (nI c') (nI (k + 1)) st sn tk r0 r1 r2 r3 old size ch (nI 5) ta td v kk tb gu ra br le gc gE gV dr w' = some 1)
    {st r0 r1 r2 r3 st' q0 q1 q2 q3 : STT} {old size a old' size' : Int32} (ta : Int32) (td : Int64) (v : Nat → UInt64) (kk : Nat → Int32) (tb : Int32) (gu ra : UInt64) (br le gc : Int32) (gE gV : UInt64) (dr : (Nat → UInt64) × Int32)
    (hb : isB st.2.2.2 = true) (hM : HistM r0 r1 r2 r3 old size c w) (hR : ∃ s was states, RelS st' s ∧ RelH q0 q1 q2 q3 old' size' was states) (hA : ActC st r0 r1 r2 r3 old size a st' q0 q1 q2 q3 old' size') :
    (if 0 ≤ a then p_L_law_L50 L xs n (nI c + (1 : Int32)) (nI k + 1) st' sn tk q0 q1 q2 q3 old' size' ch (nI 5) ta td v kk tb gu ra br le gc gE gV dr (vp_updL w (nI c).toNatClampNeg (encS st)) else (p_X8_count st' size' (nI 5) v kk tb gu ra br le (4 : Int32)).bind fun x => (if x.1 = size then gD (inb (nI c) 64) ((p_L_isAs st' size' (nI 5) x.2.1 x.2.2.1 x.2.2.2.1 x.2.2.2.2.1 x.2.2.2.2.2.1 x.2.2.2.2.2.2.1 x.2.2.2.2.2.2.2 ((vp_updL w (nI c).toNatClampNeg (encS st)) (nI c).toNatClampNeg)).bind fun z => (if z.1 = 0 then some (0 : Int32) else p_L_law_L50 L xs n (nI c + (0 : Int32)) (nI k + 1) st' sn tk q0 q1 q2 q3 old' size' ch (nI 5) ta td z.2.1 z.2.2.1 z.2.2.2.1 z.2.2.2.2.1 z.2.2.2.2.2.1 z.2.2.2.2.2.2.1 z.2.2.2.2.2.2.2 gc gE gV dr (vp_updL w (nI c).toNatClampNeg (encS st)))) else some (0 : Int32))) = some 1 := by
  have hcl : (nI c).toNatClampNeg = c := nI_clamp (by omega)
  rw [hcl]
  have hM2 : HistM r0 r1 r2 r3 old size c (vp_updL w c (encS st)) := hM.congr (fun j hj => updL_n w _ (by omega))
  rcases hA with ⟨ha, rfl, rfl, rfl, rfl, rfl, rfl, rfl⟩ | ⟨ha, hr⟩
  · obtain ⟨s, was, states, hS, hH⟩ := hR
    rw [if_neg (Int32.not_le.mpr ha), cnt4, Option.bind_some]
    try dsimp only
    rw [if_pos rfl, gD_t _ (inb_nI (by omega) (by decide)), isAs_ok hS _ _ _ _ _ _ _ _ _ _ (updL_s w c _), Option.bind_some]
    try dsimp only
    rw [if_neg one0, show nI c + (0 : Int32) = nI c from Int32.add_zero _, nI_1]
    exact ih c _ _ _ _ _ _ _ _ _ _ _ _ _ _ _ _ _ _ _ _ _ (by omega) ⟨⟨s, was, states, hS, hH⟩, hM2⟩
  · rw [if_pos (Int32.not_lt.mp ha), nI_1, nI_1]
    exact ih (c + 1) _ _ _ _ _ _ _ _ _ _ _ _ _ _ _ _ _ _ _ _ _ (by omega) ⟨hR, remember_m hM2 hb (updL_s w c _) hr⟩
theorem loop_ok {L : Nat} (hL : L ≤ 260) {xs : Nat → Int32} {sn : STT} {tk : Int32} {ch : Nat → Int32}
    (h403 : ∀ (c : Nat) (w : Nat → Int64) (st r0 r1 r2 r3 : STT) (old size ta : Int32) (td : Int64) (v : Nat → UInt64) (kk : Nat → Int32) (tb : Int32) (gu ra : UInt64) (br le gc : Int32) (gE gV : UInt64) (dr : (Nat → UInt64) × Int32), c ≤ 36 → LawI st r0 r1 r2 r3 old size c w → p_L_law_S403 L xs (nI c) st sn tk r0 r1 r2 r3 old size ch (nI 5) ta td v kk tb gu ra br le gc gE gV dr w = some 1) :
    ∀ (d k f c : Nat) (w : Nat → Int64) (st r0 r1 r2 r3 : STT) (old size ta : Int32) (td : Int64) (v : Nat → UInt64) (kk : Nat → Int32) (tb : Int32) (gu ra : UInt64) (br le gc : Int32) (gE gV : UInt64) (dr : (Nat → UInt64) × Int32), k + d = 36 → c ≤ k → LawI st r0 r1 r2 r3 old size c w → p_L_law_L50 L xs (f + d + 1) (nI c) (nI k) st sn tk r0 r1 r2 r3 old size ch (nI 5) ta td v kk tb gu ra br le gc gE gV dr w = some 1 := by
  intro d
  induction d with
  | zero =>
    intro k f c w st r0 r1 r2 r3 old size ta td v kk tb gu ra br le gc gE gV dr hk hc hI
    have : k = 36 := by omega
    subst this
    rw [p_L_law_L50, if_pos (show (36 : Int32) ≤ nI 36 by decide)]
    exact h403 c w _ _ _ _ _ _ _ _ _ _ _ _ _ _ _ _ _ _ _ _ hc hI
  | succ d ih =>
    intro k f c w st r0 r1 r2 r3 old size ta td v kk tb gu ra br le gc gE gV dr hk hc hI
    obtain ⟨⟨s, was, states, hS, hH⟩, hM⟩ := hI
    have ihk : ∀ (c' : Nat) (w' : Nat → Int64) (st r0 r1 r2 r3 : STT) (old size ta : Int32) (td : Int64) (v : Nat → UInt64) (kk : Nat → Int32) (tb : Int32) (gu ra : UInt64) (br le gc : Int32) (gE gV : UInt64) (dr : (Nat → UInt64) × Int32), c' ≤ k + 1 → LawI st r0 r1 r2 r3 old size c' w' → p_L_law_L50 L xs (f + d + 1) (nI c') (nI (k + 1)) st sn tk r0 r1 r2 r3 old size ch (nI 5) ta td v kk tb gu ra br le gc gE gV dr w' = some 1 := fun c' w' st r0 r1 r2 r3 old size ta td v kk tb gu ra br le gc gE gV dr h1 h2 => ih (k + 1) f c' w' st r0 r1 r2 r3 old size ta td v kk tb gu ra br le gc gE gV dr (by omega) h1 h2
    have hk36 : k < 36 := by omega
    have hb := isB_rel hS
    obtain ⟨x, ex⟩ := drawn_ok hL xs hk36
    obtain ⟨j1, e1⟩ := part_ok x 11 (by decide)
    obtain ⟨j2, e2⟩ := part_ok (x >>> ((4 : Int32) &&& 31)) 2 (by decide)
    obtain ⟨j3, e3⟩ := part_ok (x >>> ((6 : Int32) &&& 31)) 8 (by decide)
    rw [show f + (d + 1) + 1 = (f + d + 1) + 1 by omega, p_L_law_L50, if_neg (show ¬ (36 : Int32) ≤ nI k from nI_ge (b := 36) (by omega) (by decide)), ex, Option.bind_some, e1, Option.bind_some, e2, Option.bind_some, marked_ok, Option.bind_some]
    try dsimp only
    rw [gD_t _ (inb_nI (show c < 64 by omega) (by decide)), cnt4, Option.bind_some, e3, Option.bind_some]
    try dsimp only
    by_cases c3 : (3 : Int32) ≤ j1
    · rw [if_pos c3]
      by_cases c4 : j1 = (3 : Int32)
      · obtain ⟨y1, f1⟩ := part_ok (x >>> ((6 : Int32) &&& 31)) 3 (by decide)
        rw [if_pos c4, f1, Option.bind_some]
        obtain ⟨a, st', q0, q1, q2, q3, o', z', s', w', t', g1, g2, g3⟩ := cut_ok hH hS j2 ((1 : Int32) + y1)
        rw [g1, Option.bind_some]
        exact tail_ok hc hk36 ihk _ _ _ _ _ _ _ _ _ _ _ _ _ hb hM ⟨_, _, _, g3⟩ (cut_act g3.1 g1)
      · rw [if_neg c4]
        by_cases c5 : j1 = (4 : Int32)
        · obtain ⟨y1, f1⟩ := part_ok (x >>> ((9 : Int32) &&& 31)) 4 (by decide)
          rw [if_pos c5, f1, Option.bind_some]
          obtain ⟨a, st', q0, q1, q2, q3, o', z', s', w', t', g1, g2, g3⟩ := set_ok hH hS j2 y1 (((1019 : Int64) + (j3).toInt64) <<< ((52 : Int32).toInt64 &&& 63))
          rw [g1, Option.bind_some]
          exact tail_ok hc hk36 ihk _ _ _ _ _ _ _ _ _ _ _ _ _ hb hM ⟨_, _, _, g3⟩ (set_act g3.1 g1)
        · rw [if_neg c5]
          by_cases c6 : j1 = (5 : Int32)
          · rw [if_pos c6]
            obtain ⟨a, st', q0, q1, q2, q3, o', z', y, s', w', t', y', g1, g2, g3⟩ := read_ok hH hS ch (show 5 ≤ 60 by decide) ta td dr (fun _ => 0) 0 0 0 0 j2
            rw [g1, Option.bind_some]
            exact tail_ok hc hk36 ihk _ _ _ _ _ _ _ _ _ _ _ _ _ hb hM ⟨_, _, _, g3⟩ (read_act g3.1 g1)
          · rw [if_neg c6]
            by_cases c7 : j1 = (6 : Int32)
            · obtain ⟨y1, f1⟩ := part_ok (x >>> ((6 : Int32) &&& 31)) 5 (by decide)
              obtain ⟨y2, f2⟩ := part_ok (x >>> ((9 : Int32) &&& 31)) 16 (by decide)
              rw [if_pos c7, f1, Option.bind_some, f2, Option.bind_some]
              obtain ⟨a, st', q0, q1, q2, q3, o', z', dr', s', w', t', nx', nm', g1, g2, g3⟩ := fill_ok hH hS dr (fun _ => 0) 0 j2 y1 ((1 : Int32) + y2)
              rw [g1, Option.bind_some]
              exact tail_ok hc hk36 ihk _ _ _ _ _ _ _ _ _ _ _ _ _ hb hM ⟨_, _, _, g3⟩ (fill_act g3.1 g1)
            · rw [if_neg c7]
              by_cases c8 : j1 = (7 : Int32)
              · rw [if_pos c8]
                obtain ⟨a, st', q0, q1, q2, q3, o', z', dr', s', w', t', nx', nm', g1, g2, g3⟩ := sum_ok hH hS dr (fun _ => 0) 0 j2
                rw [g1, Option.bind_some]
                exact tail_ok hc hk36 ihk _ _ _ _ _ _ _ _ _ _ _ _ _ hb hM ⟨_, _, _, g3⟩ (sum_act g3.1 g1)
              · rw [if_neg c8]
                by_cases c9 : j1 = (8 : Int32)
                · obtain ⟨y1, f1⟩ := part_ok (x >>> ((6 : Int32) &&& 31)) 4 (by decide)
                  obtain ⟨y2, f2⟩ := part_ok (x >>> ((8 : Int32) &&& 31)) 3 (by decide)
                  rw [if_pos c9, f1, Option.bind_some, f2, Option.bind_some]
                  obtain ⟨a, st', q0, q1, q2, q3, o', z', y, s', w', t', y', g1, g2, g3⟩ := take_ok hH hS v (fun _ => 0) (fun _ => 0) kk (fun _ => 0) tb gu ra br le 0 0 0 dr j2 y1 y2
                  rw [g1, Option.bind_some]
                  exact tail_ok hc hk36 ihk _ _ _ _ _ _ _ _ _ _ _ _ _ hb hM ⟨_, _, _, g3⟩ (take_act g3.1 g1)
                · rw [if_neg c9]
                  by_cases c10 : j1 = (9 : Int32)
                  · obtain ⟨y1, f1⟩ := part_ok (x >>> ((6 : Int32) &&& 31)) 3 (by decide)
                    obtain ⟨y2, f2⟩ := part_ok (x >>> ((8 : Int32) &&& 31)) 3 (by decide)
                    rw [if_pos c10, f1, Option.bind_some, f2, Option.bind_some]
                    by_cases c11 : y2 = (1 : Int32)
                    · rw [if_pos c11]
                      obtain ⟨a, st', q0, q1, q2, q3, o', z', s', w', t', g1, g2, g3⟩ := setting_ok hH hS y1 (4616189618054758400 : Int64)
                      rw [g1, Option.bind_some]
                      exact tail_ok hc hk36 ihk _ _ _ _ _ _ _ _ _ _ _ _ _ hb hM ⟨_, _, _, g3⟩ (setting_act g3.1 g1)
                    · rw [if_neg c11]
                      obtain ⟨a, st', q0, q1, q2, q3, o', z', s', w', t', g1, g2, g3⟩ := setting_ok hH hS y1 (4598175219545276416 : Int64)
                      rw [g1, Option.bind_some]
                      exact tail_ok hc hk36 ihk _ _ _ _ _ _ _ _ _ _ _ _ _ hb hM ⟨_, _, _, g3⟩ (setting_act g3.1 g1)
                  · obtain ⟨y1, f1⟩ := part_ok (x >>> ((6 : Int32) &&& 31)) 2 (by decide)
                    rw [if_neg c10, f1, Option.bind_some]
                    by_cases c11 : y1 = 0
                    · rw [if_pos c11]
                      obtain ⟨a, st', q0, q1, q2, q3, o', z', y, s', w', t', y', g1, g2, g3⟩ := bridge_ok hH hS v (fun _ => 0) kk (fun _ => 0) tb gu ra br le 0 0 (p := 1) (Or.inr rfl)
                      rw [g1, Option.bind_some]
                      exact tail_ok hc hk36 ihk _ _ _ _ _ _ _ _ _ _ _ _ _ hb hM ⟨_, _, _, g3⟩ (bridge_act g3.1 g1)
                    · rw [if_neg c11]
                      obtain ⟨a, st', q0, q1, q2, q3, o', z', y, s', w', t', y', g1, g2, g3⟩ := bridge_ok hH hS v (fun _ => 0) kk (fun _ => 0) tb gu ra br le 0 0 (p := 0) (Or.inl rfl)
                      rw [g1, Option.bind_some]
                      exact tail_ok hc hk36 ihk _ _ _ _ _ _ _ _ _ _ _ _ _ hb hM ⟨_, _, _, g3⟩ (bridge_act g3.1 g1)
    · rw [if_neg c3]
      obtain ⟨a, st', q0, q1, q2, q3, o', z', s', w', t', g1, g2, g3⟩ := add_ok hH hS j2 (((1019 : Int64) + (j3).toInt64) <<< ((52 : Int32).toInt64 &&& 63))
      rw [g1, Option.bind_some]
      exact tail_ok hc hk36 ihk _ _ _ _ _ _ _ _ _ _ _ _ _ hb hM ⟨_, _, _, g3⟩ (add_act g3.1 g1)
