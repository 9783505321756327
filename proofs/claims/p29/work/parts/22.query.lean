/-! calls that ask: entries, kinds, tables, guesses -/
theorem tab_ok {st : STT} {s : Nat → UInt64} {w : Nat → Nat} (hw : rowsR st s w) (h2 : setsR st s) {row t : Nat} (hr : row < 2) (ht : t < 4) (v : Nat → UInt64) (k : Nat → Int32) :
    ∃ v' k' g q b, p_X1_build v k st (nI row) (nI t) = some (v', k', nI t, g, q, b, nI (w row)) ∧ (∀ j, j < w row → v' j = s (16 * row + j)) ∧ ∀ w', w' ≤ w row → ∀ (e : Nat → UInt64) (kk : Nat → Int32), ∃ v2 k2, p_X9_laysTable s e kk (nI row) (nI t) (nI w') = some (v2, k2, nI t, nI w') ∧ AG t w' v' k' v2 k2 := by
  obtain ⟨g1, g2, g3, g4⟩ := hw row hr
  have hb := h2.isB
  obtain ⟨s0, s1, s2, n0, p0, n1, q1, f1, b1⟩ := h2
  have ok : setOK (s 34) (s 35) := ⟨n0, p0, q1⟩
  have hfin : ∀ n, n < w row → dfin (rA st row n) = true := fun n hn => by
    rw [(g4 n hn).1]
    exact (g4 n hn).2
  obtain ⟨v', k', e1, e2⟩ := x1_build st (r := rA st row) hr s0 s1 rfl hb rfl g2 ok ht g1 hfin v k
  refine ⟨v', k', s 34, s 35, st.2.2.2, e1, fun j hj => ?_, fun w' hw' e kk => ?_⟩
  · have r0 : reach t 0 = 0 := by unfold reach; split <;> rfl
    have := (e2.full 0 j (by decide) (by omega)).1
    rw [show 16 * 0 + j = j by omega] at this
    rw [this, ← (g4 j hj).1]
    rfl
  · obtain ⟨v2, k2, l1, l2⟩ := x9_lays s (r := rA st row) (b := st.2.2.2) (w := w') hr rfl rfl b1 (fun n hn => ((g4 n (by omega)).1).symm) ok ht (by omega) (fun n hn => hfin n (by omega)) e kk
    exact ⟨v2, k2, l1, AG.of e2.full l2.full hw' ht hfin⟩
theorem seek0 {v : Nat → UInt64} {k : Nat → Int32} {t step : Nat} (ht : t < 4) (hs1 : 1 ≤ step) (hs2 : step ≤ 2) : ∀ (d c f : Nat) (gd : Int32) (gs ge : UInt64), step ≤ c → c < 18 → 18 ≤ c + d → p_X9_guesses_L63 (v, k, nI t, nI 0) (f + d + 1) (nI step) (nI c) gd gs ge = some (v, k, nI t, nI 0, gd, gs, ge) := by
  intro d
  induction d with
  | zero => intro c f gd gs ge h1 h2 h3; omega
  | succ d ih =>
    intro c f gd gs ge h1 h2 h3
    rw [show f + (d + 1) + 1 = (f + d + 1) + 1 by omega, p_X9_guesses_L63]
    dsimp only
    by_cases c16 : 16 ≤ c
    · rw [if_pos (show (16 : Int32) ≤ nI c from nI_le (a := 16) c16 (by omega))]
    · have z : ∀ c, 0 - reach t c = 0 := fun c => Nat.zero_sub _
      rw [if_neg (show ¬ (16 : Int32) ≤ nI c from nI_ge (b := 16) (by omega) (by decide)), pk_sub h1, nI_add c step, x9_end k ht (show 0 ≤ 16 by decide) (show c < 16 by omega), x9_end k ht (show 0 ≤ 16 by decide) (show c - step < 16 by omega), Option.bind_some, Option.bind_some, z, z, if_pos (show e5 (lastE (fun j => k (16 * c + j)) 0) < 0 from (by decide : e5 none < 0))]
      exact ih (c + step) f gd gs ge (by omega) (by omega) (by omega)
/-- what both sides know of a guess -/
def GO (w : Nat) (fo col : Int32) (er val : UInt64) (gd : Int32) (gs ge : UInt64) : Prop := (¬ w = 0 → val = gs ∧ dfin gs = true) ∧ (w = 0 → gs = nanC) ∧ ((fo = 0 ∧ gd = -5 ∧ ge = nanC) ∨ (fo = 1 ∧ col = gd ∧ er = ge ∧ nn ge = true ∧ ∃ c : Nat, c < 16 ∧ gd = nI c))
theorem guess_ok {st : STT} {s : Nat → UInt64} {w : Nat → Nat} (hw : rowsR st s w) (h2 : setsR st s) {row t : Nat} (hr : row < 2) (ht : t < 4) (v : Nat → UInt64) (k : Nat → Int32) :
    ∃ v' k' g q b, p_X1_build v k st (nI row) (nI t) = some (v', k', nI t, g, q, b, nI (w row)) ∧ ∀ w', w' ≤ w row → ∀ (e : Nat → UInt64) (kk : Nat → Int32), ∃ v2 k2 fo col er val gd gs ge, AG t w' v' k' v2 k2 ∧ p_X1_seekGuess v' k' (nI t) (nI w') = some (fo, col, er, val) ∧ p_X9_guesses s e kk (nI row) (nI t) (nI w') = some (v2, k2, nI t, nI w', gd, gs, ge) ∧ GO w' fo col er val gd gs ge := by
  obtain ⟨v', k', g, q, b, e1, e2, e3⟩ := tab_ok hw h2 hr ht v k
  refine ⟨v', k', g, q, b, e1, fun w' hw' e kk => ?_⟩
  obtain ⟨g1, g2, g3, g4⟩ := hw row hr
  obtain ⟨v2, k2, l1, ag⟩ := e3 w' hw' e kk
  obtain ⟨fo, col, er, val, gd, gs, ge, f1, f2, f3⟩ := seek ag ht (by omega) (if w' = 0 then nanC else s (16 * row + w' - 1))
  refine ⟨v2, k2, fo, col, er, val, gd, gs, ge, ag, f1, ?_, fun c => ?_, fun c => ?_, ?_⟩
  · rw [x9_guess s e kk hr ht (by omega) l1]
    exact f2
  · rw [if_neg c, if_neg c] at f3
    have hv := e2 (w' - 1) (by omega)
    have hf := (g4 (w' - 1) (by omega)).2
    rcases f3 with ⟨_, _, _, a1, _, a2, _⟩ | ⟨_, _, _, a1, _, a2, _⟩
    · rw [a1, a2, hv, show 16 * row + w' - 1 = 16 * row + (w' - 1) by omega]
      exact ⟨rfl, hf⟩
    · rw [← a1]
      exact ⟨rfl, a2⟩
  · subst c
    have hs1 : 1 ≤ stepN t := by unfold stepN; split <;> omega
    have hs2 : stepN t ≤ 2 := by unfold stepN; split <;> omega
    have := seek0 (v := v2) (k := k2) ht hs1 hs2 (18 - stepN t) (stepN t) (281 + stepN t) (-5) nanC nanC (by omega) (by omega) (by omega)
    rw [show 281 + stepN t + (18 - stepN t) + 1 = 300 by omega] at this
    rw [if_pos rfl, this] at f2
    have f2 := Option.some.inj f2
    simp only [Prod.mk.injEq] at f2
    exact f2.2.2.2.2.2.1.symm
  · rcases f3 with ⟨a1, _, _, _, a2, _, a3⟩ | ⟨a1, a2, a3, _, a4, _, a5⟩
    · exact Or.inl ⟨a1, a2, a3⟩
    · exact Or.inr ⟨a1, a2, a3, by rw [← a3]; exact a4, a5⟩
-- single answers: Same a c m: the class answers a, and so does the reference
theorem number_ok {st : STT} {s : Nat → UInt64} (hS : RelS st s) (p n : Int32) : ∃ a, p_X8_number st p n = some a ∧ p_X9_number s p n = some a := by
  obtain ⟨⟨w, hw⟩, _⟩ := hS
  unfold p_X8_number p_X9_number
  rcases row_or p with ⟨row, hr, rfl, h1, h2⟩ | ⟨h1, h2⟩
  · rcases (show row = 0 ∨ row = 1 by omega) with rfl | rfl
    · obtain ⟨g1, g2, g3, g4⟩ := hw 0 (by decide)
      rw [h1, Option.bind_some, if_neg one0, if_pos (show nI 0 = 0 from rfl)]
      rcases place_or hw (row := 0) (by decide) (R := st.1) g2 h2 n with ⟨j, hj, rfl, p1, p2⟩ | ⟨p1, p2⟩
      · rw [p1, p2, Option.bind_some, Option.bind_some, if_neg one0, if_neg one0, ixM, gD_t _ (inb_nI (show j < 16 by omega) (by decide)), gD_t _ (inb_nI (show 16 * 0 + j < 38 by omega) (by decide)), nI_clamp (show j < 2 ^ 31 by omega), nI_clamp (show 16 * 0 + j < 2 ^ 31 by omega), show st.1.1 j = s (16 * 0 + j) from (g4 j hj).1]
        exact ⟨_, rfl, rfl⟩
      · rw [p1, p2, Option.bind_some, Option.bind_some, if_pos rfl, if_pos rfl]
        exact ⟨_, rfl, rfl⟩
    · obtain ⟨g1, g2, g3, g4⟩ := hw 1 (by decide)
      rw [h1, Option.bind_some, if_neg one0, if_neg n10]
      rcases place_or hw (row := 1) (by decide) (R := st.2.1) g2 h2 n with ⟨j, hj, rfl, p1, p2⟩ | ⟨p1, p2⟩
      · rw [p1, p2, Option.bind_some, Option.bind_some, if_neg one0, if_neg one0, ixM, gD_t _ (inb_nI (show j < 16 by omega) (by decide)), gD_t _ (inb_nI (show 16 * 1 + j < 38 by omega) (by decide)), nI_clamp (show j < 2 ^ 31 by omega), nI_clamp (show 16 * 1 + j < 2 ^ 31 by omega), show st.2.1.1 j = s (16 * 1 + j) from (g4 j hj).1]
        exact ⟨_, rfl, rfl⟩
      · rw [p1, p2, Option.bind_some, Option.bind_some, if_pos rfl, if_pos rfl]
        exact ⟨_, rfl, rfl⟩
  · unfold p_X9_isPlace
    rw [h1, h2, Option.bind_some, Option.bind_some, if_pos rfl, if_pos rfl, Option.bind_some, if_pos rfl]
    exact ⟨_, rfl, rfl⟩
theorem entry_ok {st : STT} {s : Nat → UInt64} (hS : RelS st s) (v e : Nat → UInt64) (k kk : Nat → Int32) (tb : Int32) (gu ra : UInt64) (br le tb' wi : Int32) (p t c n : Int32) : ∃ a x y, p_X8_entry st v k tb gu ra br le p t c n = some (a, x) ∧ p_X9_entry s e kk tb' wi p t c n = some (a, y) := by
  obtain ⟨⟨w, hw⟩, h2⟩ := hS
  unfold p_X8_entry p_X9_entry
  rcases tab_or p t with ⟨row, tt, hr, ht, rfl, rfl, h1, h3⟩ | ⟨h1, h3⟩
  · obtain ⟨v', k', g, q, b, e1, e2, e3⟩ := tab_ok hw h2 hr ht v k
    obtain ⟨v2, k2, l1, ag⟩ := e3 (w row) (Nat.le_refl _) e kk
    obtain ⟨g1, g2, g3, g4⟩ := hw row hr
    rw [h1, h3, Option.bind_some, Option.bind_some, if_neg one0, if_neg one0, e1, Option.bind_some, x9_many hw hr, Option.bind_some, l1, Option.bind_some]
    dsimp only
    rcases there_or tt (w row) ht g1 c n with ⟨c', n', rfl, rfl, c16, hn, t1, t2⟩ | ⟨t1, t2⟩
    · obtain ⟨a1, a2, a3, a4⟩ := ag c' n' c16 hn
      rw [t1, t2, Option.bind_some, Option.bind_some, if_neg one0, if_neg one0, x1_isBroken k' (by omega), x9_br k2 (by omega), ← a2, Option.bind_some, Option.bind_some]
      by_cases q : k' (16 * c' + n') < 2
      · rw [if_pos q, if_pos rfl, if_pos rfl, x1_valueAt v' (by omega), x9_x v2 (by omega), ← a1, Option.bind_some, Option.bind_some]
        exact ⟨_, _, _, rfl, rfl⟩
      · rw [if_neg q, if_neg one0, if_neg one0]
        exact ⟨_, _, _, rfl, rfl⟩
    · rw [t1, t2, Option.bind_some, Option.bind_some, if_pos rfl, if_pos rfl]
      exact ⟨_, _, _, rfl, rfl⟩
  · rw [h1, h3, Option.bind_some, Option.bind_some, if_pos rfl, if_pos rfl]
    exact ⟨_, _, _, rfl, rfl⟩
theorem kind_ok {st : STT} {s : Nat → UInt64} (hS : RelS st s) (v e : Nat → UInt64) (k kk : Nat → Int32) (tb : Int32) (gu ra : UInt64) (br le tb' wi : Int32) (p t c n : Int32) : ∃ a x y, p_X8_kind st v k tb gu ra br le p t c n = some (a, x) ∧ p_X9_kind s e kk tb' wi p t c n = some (a, y) := by
  obtain ⟨⟨w, hw⟩, h2⟩ := hS
  unfold p_X8_kind p_X9_kind
  rcases tab_or p t with ⟨row, tt, hr, ht, rfl, rfl, h1, h3⟩ | ⟨h1, h3⟩
  · obtain ⟨v', k', g, q, b, e1, e2, e3⟩ := tab_ok hw h2 hr ht v k
    obtain ⟨v2, k2, l1, ag⟩ := e3 (w row) (Nat.le_refl _) e kk
    obtain ⟨g1, g2, g3, g4⟩ := hw row hr
    rw [h1, h3, Option.bind_some, Option.bind_some, if_neg one0, if_neg one0, e1, Option.bind_some, x9_many hw hr, Option.bind_some, l1, Option.bind_some]
    dsimp only
    rcases there_or tt (w row) ht g1 c n with ⟨c', n', rfl, rfl, c16, hn, t1, t2⟩ | ⟨t1, t2⟩
    · obtain ⟨a1, a2, a3, a4⟩ := ag c' n' c16 hn
      rw [t1, t2, Option.bind_some, Option.bind_some, if_neg one0, if_neg one0, x1_kindAt k' (by omega), Option.bind_some, ixM, gD_t _ (inb_nI (show 16 * c' + n' < 256 by omega) (by decide)), nI_clamp (show 16 * c' + n' < 2 ^ 31 by omega), ← a2]
      exact ⟨_, _, _, rfl, rfl⟩
    · rw [t1, t2, Option.bind_some, Option.bind_some, if_pos rfl, if_pos rfl]
      exact ⟨_, _, _, rfl, rfl⟩
  · rw [h1, h3, Option.bind_some, Option.bind_some, if_pos rfl, if_pos rfl]
    exact ⟨_, _, _, rfl, rfl⟩
theorem table_ok {st : STT} {s : Nat → UInt64} (hS : RelS st s) (v e : Nat → UInt64) (k kk : Nat → Int32) (tb : Int32) (gu ra : UInt64) (br le gc : Int32) (gE gV : UInt64) (tb' wi gd0 : Int32) (gs0 ge0 : UInt64) (p t n : Int32) : ∃ a x y, p_X8_table st v k tb gu ra br le gc gE gV p t n = some (a, x) ∧ p_X9_table s e kk tb' wi gd0 gs0 ge0 p t n = some (a, y) := by
  obtain ⟨⟨w, hw⟩, h2⟩ := hS
  unfold p_X8_table p_X9_table
  rcases tab_or p t with ⟨row, tt, hr, ht, rfl, rfl, h1, h3⟩ | ⟨h1, h3⟩
  · obtain ⟨v', k', g, q, b, e1, e2⟩ := guess_ok hw h2 hr ht v k
    obtain ⟨v2, k2, fo, col, er, val, gd, gs, ge, ag, f1, f2, f3⟩ := e2 (w row) (Nat.le_refl _) e kk
    obtain ⟨g1, g2, g3, g4⟩ := hw row hr
    rw [h1, h3, Option.bind_some, Option.bind_some, if_neg one0, if_neg one0, x9_many hw hr, Option.bind_some, f2, Option.bind_some, e1]
    dsimp only
    have hk : ∀ c n, c < 16 → n + reach tt c < w row → k' (16 * c + n) = k2 (16 * c + n) := fun c n h h' => (ag c n h h').2.1
    by_cases n0 : n < 0
    · rw [if_pos n0, if_neg (fun q => absurd n0 (by rw [q]; decide)), if_neg (fun q => absurd n0 (by rw [q]; decide)), if_neg (fun q => absurd n0 (by rw [q]; decide)), if_neg (fun q => absurd n0 (by rw [q]; decide)), if_neg (fun q => absurd n0 (by rw [q]; decide))]
      exact ⟨_, _, _, rfl, rfl⟩
    · by_cases n4 : n ≤ 4
      · rw [if_neg n0, if_pos n4, Option.bind_some]
        dsimp only
        by_cases c0 : n = 0
        · rw [if_pos c0, if_pos c0]
          obtain ⟨o, o1, o2⟩ := cols ht g1
          rw [o1, o2, Option.bind_some, Option.bind_some]
          exact ⟨_, _, _, rfl, rfl⟩
        · rw [if_neg c0, if_neg c0]
          by_cases c1 : n = 1
          · rw [if_pos c1, if_pos c1]
            unfold p_X1_manyBroken
            rw [x1_ofK k' 2 3 ht g1, x9_cnt k2 2 3 ht g1, cA_congr hk 16 (by decide), Option.bind_some, Option.bind_some]
            exact ⟨_, _, _, rfl, rfl⟩
          · rw [if_neg c1, if_neg c1]
            by_cases c2 : n = 2
            · rw [if_pos c2, if_pos c2]
              unfold p_X1_manyBridged
              rw [x1_ofK k' 1 1 ht g1, x9_cnt k2 1 1 ht g1, cA_congr hk 16 (by decide), Option.bind_some, Option.bind_some]
              exact ⟨_, _, _, rfl, rfl⟩
            · rw [if_neg c2, if_neg c2]
              by_cases c3 : n = 3
              · rw [if_pos c3, if_pos c3]
                obtain ⟨o, o1, o2⟩ := low k' k2 ht g1 hk (fun c n h h' => (ag c n h h').2.2.2)
                rw [o1, o2, Option.bind_some, Option.bind_some]
                exact ⟨_, _, _, rfl, rfl⟩
              · rw [if_neg c3, if_neg c3]
                have c4 : n = 4 := by
                  apply Int32.toInt_inj.mp
                  have b1 := Int32.le_iff_toInt_le.mp (Int32.not_lt.mp n0)
                  have b2 := Int32.le_iff_toInt_le.mp n4
                  have z0 : (0 : Int32).toInt = 0 := rfl
                  have z1 : (1 : Int32).toInt = 1 := rfl
                  have z2 : (2 : Int32).toInt = 2 := rfl
                  have z3 : (3 : Int32).toInt = 3 := rfl
                  have z4 : (4 : Int32).toInt = 4 := rfl
                  have d0 : ¬ n.toInt = 0 := fun q => c0 (Int32.toInt_inj.mp (q.trans z0.symm))
                  have d1 : ¬ n.toInt = 1 := fun q => c1 (Int32.toInt_inj.mp (q.trans z1.symm))
                  have d2 : ¬ n.toInt = 2 := fun q => c2 (Int32.toInt_inj.mp (q.trans z2.symm))
                  have d3 : ¬ n.toInt = 3 := fun q => c3 (Int32.toInt_inj.mp (q.trans z3.symm))
                  omega
                rw [if_pos c4, f1, Option.bind_some]
                dsimp only
                rcases f3.2.2 with ⟨a1, a2, a3⟩ | ⟨a1, a2, a3, a4, a5⟩
                · rw [a1, if_pos rfl, a2]
                  exact ⟨_, _, _, rfl, rfl⟩
                · rw [a1, if_neg one0, a2]
                  exact ⟨_, _, _, rfl, rfl⟩
      · rw [if_neg n0, if_neg n4, if_neg (fun q => absurd (show n ≤ 4 by rw [q]; decide) n4), if_neg (fun q => absurd (show n ≤ 4 by rw [q]; decide) n4), if_neg (fun q => absurd (show n ≤ 4 by rw [q]; decide) n4), if_neg (fun q => absurd (show n ≤ 4 by rw [q]; decide) n4), if_neg (fun q => absurd (show n ≤ 4 by rw [q]; decide) n4)]
        exact ⟨_, _, _, rfl, rfl⟩
  · rw [h1, h3, Option.bind_some, Option.bind_some, if_pos rfl, if_pos rfl]
    exact ⟨_, _, _, rfl, rfl⟩
theorem error_ok {st : STT} {s : Nat → UInt64} (hS : RelS st s) (v e : Nat → UInt64) (k kk : Nat → Int32) (tb : Int32) (gu ra : UInt64) (br le gc : Int32) (gE gV : UInt64) (tb' wi gd0 : Int32) (gs0 ge0 : UInt64) (p t : Int32) : ∃ a x y, p_X8_error st v k tb gu ra br le gc gE gV p t = some (a, x) ∧ p_X9_error s e kk tb' wi gd0 gs0 ge0 p t = some (a, y) := by
  obtain ⟨⟨w, hw⟩, h2⟩ := hS
  unfold p_X8_error p_X9_error
  rcases tab_or p t with ⟨row, tt, hr, ht, rfl, rfl, h1, h3⟩ | ⟨h1, h3⟩
  · obtain ⟨v', k', g, q, b, e1, e2⟩ := guess_ok hw h2 hr ht v k
    obtain ⟨v2, k2, fo, col, er, val, gd, gs, ge, ag, f1, f2, f3⟩ := e2 (w row) (Nat.le_refl _) e kk
    rw [h1, h3, Option.bind_some, Option.bind_some, if_neg one0, if_neg one0, x9_many hw hr, Option.bind_some, f2, Option.bind_some, e1, Option.bind_some]
    dsimp only
    rw [f1, Option.bind_some]
    dsimp only
    rcases f3.2.2 with ⟨a1, a2, a3⟩ | ⟨a1, a2, a3, a4, a5⟩
    · rw [a1, if_pos rfl, a3]
      exact ⟨_, _, _, rfl, rfl⟩
    · rw [a1, if_neg one0, a3]
      exact ⟨_, _, _, rfl, rfl⟩
  · rw [h1, h3, Option.bind_some, Option.bind_some, if_pos rfl, if_pos rfl]
    exact ⟨_, _, _, rfl, rfl⟩
