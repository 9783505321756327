/-! histories: remembering, bringing back, keeping, restoring -/
theorem rec_eq (s : Nat → UInt64) (a : Int32) : ∀ (f : Nat) (i : Int32) (v : Nat → UInt64), p_X9_records_L49_1 s a f i v = p_X9_records_L49 s (a - 1) f i v := by
  intro f
  induction f with
  | zero => exact fun _ _ => rfl
  | succ f ih =>
    intro i v
    rw [p_X9_records_L49_1, p_X9_records_L49, ih]
theorem remember_ok {r0 r1 r2 r3 st : STT} {old size states : Int32} {was s : Nat → UInt64} (hH : RelH r0 r1 r2 r3 old size was states) (hS : RelS st s) : ∃ q0 q1 q2 q3 old' size' was' states', p_X2_remember r0 r1 r2 r3 old size st = some (q0, q1, q2, q3, old', size') ∧ p_X9_records s was states = some (was', states') ∧ RelH q0 q1 q2 q3 old' size' was' states' := by
  obtain ⟨o, h, ho, hh, rfl, rfl, rfl, hR⟩ := hH
  have hb := hS.2.isB
  by_cases h4 : h = 4
  · subst h4
    obtain ⟨q0, q1, q2, q3, e1, e2, e3⟩ := ring_put (r0 := r0) (r1 := r1) (r2 := r2) (r3 := r3) ho hb (fun a b c d => some (a, b, c, d, nI ((o + 1) % 4), nI 4)) (nI ((o + 1) % 4)) (nI 4) (fun _ _ _ _ => rfl)
    obtain ⟨v, f1, f2, f3⟩ := rec_shift was 114 0 185 was rfl (fun j hj => absurd hj (Nat.not_lt_zero _)) (fun _ _ => rfl)
    obtain ⟨v', g1, g2, g3⟩ := rec_put s (st := 3) (by decide) 38 0 261 v rfl (fun j hj => absurd hj (Nat.not_lt_zero _))
    refine ⟨q0, q1, q2, q3, nI ((o + 1) % 4), nI 4, v', nI 4, ?_, ?_, ?_⟩
    · unfold p_X2_remember
      rw [if_pos (show nI 4 = (4 : Int32) from rfl), nI_1, m4 (by omega), show nI 4 - 1 = nI 3 from rfl, nI_add, m4 (by omega), show ((o + 1) % 4 + 3) % 4 = o by omega, i4 ho, show nI 3 + 1 = nI 4 from rfl]
      exact e1
    · unfold p_X9_records
      rw [if_pos (show nI 4 = (4 : Int32) from rfl), show p_X9_records_L10 300 0 was = some v from f1, Option.bind_some, rec_eq, show nI 4 - 1 = nI 3 from rfl, show p_X9_records_L49 s (nI 3) 300 0 v = some v' from g1, Option.bind_some]
      rfl
    · refine ⟨(o + 1) % 4, 4, by omega, by omega, rfl, rfl, rfl, fun j hj => ?_⟩
      by_cases c : j = 3
      · subst c
        rw [show ((o + 1) % 4 + 3) % 4 = o by omega]
        exact (e2 s hS).s_eq (fun k hk => g2 k hk)
      · have hr := hR (j + 1) (by omega)
        rw [show ((o + 1) % 4 + j) % 4 = (o + (j + 1)) % 4 by omega, e3 _ (by omega) (by omega)]
        refine hr.s_eq (fun k hk => ?_)
        show v' (38 * j + k) = was (38 * (j + 1) + k)
        rw [g3 _ (by omega), f2 _ (by omega), show 38 * j + k + 38 = 38 * (j + 1) + k by omega]
  · obtain ⟨q0, q1, q2, q3, e1, e2, e3⟩ := ring_put (r0 := r0) (r1 := r1) (r2 := r2) (r3 := r3) (show (o + h) % 4 < 4 by omega) hb (fun a b c d => some (a, b, c, d, nI o, nI (h + 1))) (nI o) (nI (h + 1)) (fun _ _ _ _ => rfl)
    obtain ⟨v', g1, g2, g3⟩ := rec_put s (st := h) (by omega) 38 0 261 was rfl (fun j hj => absurd hj (Nat.not_lt_zero _))
    have hne : ¬ nI h = (4 : Int32) := by
      intro q
      have := congrArg Int32.toInt q
      rw [nI_toInt (by omega)] at this
      have k4 : (4 : Int32).toInt = 4 := rfl
      omega
    refine ⟨q0, q1, q2, q3, nI o, nI (h + 1), v', nI (h + 1), ?_, ?_, ?_⟩
    · unfold p_X2_remember
      rw [if_neg hne, nI_add, m4 (by omega), i4 (show (o + h) % 4 < 4 by omega), nI_1]
      exact e1
    · unfold p_X9_records
      rw [if_neg hne, show p_X9_records_L49 s (nI h) 300 0 was = some v' from g1, Option.bind_some, nI_1]
    · refine ⟨o, h + 1, ho, by omega, rfl, rfl, rfl, fun j hj => ?_⟩
      by_cases c : j = h
      · subst c
        exact (e2 s hS).s_eq (fun k hk => g2 k hk)
      · have hr := hR j (by omega)
        rw [e3 _ (by omega) (by omega)]
        refine hr.s_eq (fun k hk => ?_)
        show v' (38 * j + k) = was (38 * j + k)
        rw [g3 _ (by omega)]
/-- a copying loop of the reference's 38 places -/
theorem undo_l (was : Nat → UInt64) {h : Nat} (hh : h < 4) : ∀ (d i f : Nat) (v : Nat → UInt64), i + d = 38 → (∀ j, j < i → v j = was (38 * h + j)) → ∃ v', p_X9_undo_L22 was (nI (h + 1)) (f + d + 1) (nI i) v = some v' ∧ ∀ j, j < 38 → v' j = was (38 * h + j) := by
  intro d
  induction d with
  | zero =>
    intro i f v h h1
    have : i = 38 := by omega
    subst this
    exact ⟨v, by rw [p_X9_undo_L22, if_pos (by decide)], h1⟩
  | succ d ih =>
    intro i f v h2 h1
    have e38 : (38 : Int32) * (nI (h + 1) - 1) + nI i = nI (38 * h + i) := by rw [nI_pred, show (38 : Int32) = nI 38 from rfl, pk_mul, nI_add]
    rw [show f + (d + 1) + 1 = (f + d + 1) + 1 by omega, p_X9_undo_L22, e38, show (38 : Int32) = nI 38 from rfl, if_neg (nI_ge (by omega) (by omega)), gD_t _ (inb_nI (by omega) (by decide)), gD_t _ (inb_nI (by omega) (by decide)), nI_clamp (show 38 * h + i < 2 ^ 31 by omega), nI_clamp (show i < 2 ^ 31 by omega), nI_1]
    refine ih (i + 1) f _ (by omega) (fun j hj => ?_)
    unfold vf_upd
    by_cases e : j = i
    · subst e; rw [if_pos rfl]
    · rw [if_neg e]; exact h1 j (by omega)
theorem keep_l (s : Nat → UInt64) : ∀ (d i f : Nat) (v : Nat → UInt64), i + d = 38 → (∀ j, j < i → v j = s j) → ∃ v', p_X9_keep_L2 s (f + d + 1) (nI i) v = some v' ∧ ∀ j, j < 38 → v' j = s j := by
  intro d
  induction d with
  | zero =>
    intro i f v h h1
    have : i = 38 := by omega
    subst this
    exact ⟨v, by rw [p_X9_keep_L2, if_pos (by decide)], h1⟩
  | succ d ih =>
    intro i f v h2 h1
    rw [show f + (d + 1) + 1 = (f + d + 1) + 1 by omega, p_X9_keep_L2, show (38 : Int32) = nI 38 from rfl, if_neg (nI_ge (by omega) (by omega)), gD_t _ (inb_nI (by omega) (by decide)), gD_t _ (inb_nI (by omega) (by decide)), nI_clamp (show i < 2 ^ 31 by omega), nI_1]
    refine ih (i + 1) f _ (by omega) (fun j hj => ?_)
    unfold vf_upd
    by_cases e : j = i
    · subst e; rw [if_pos rfl]
    · rw [if_neg e]; exact h1 j (by omega)
theorem rest_eq (s : Nat → UInt64) : ∀ (f : Nat) (i : Int32) (v : Nat → UInt64), p_X9_restore_L16 s f i v = p_X9_keep_L2 s f i v := by
  intro f
  induction f with
  | zero => exact fun _ _ => rfl
  | succ f ih =>
    intro i v
    rw [p_X9_restore_L16, p_X9_keep_L2, ih]
theorem ring_get {r0 r1 r2 r3 st : STT} {i : Nat} (hi : i < 4) (hb : isB (rg r0 r1 r2 r3 i).2.2.2 = true) (x : Int32) :
    ∃ c, (if i = 0 then (p_X5_copyFrom st r0).bind fun z => some (x, z) else if i = 1 then (p_X5_copyFrom st r1).bind fun z => some (x, z) else if i = 2 then (p_X5_copyFrom st r2).bind fun z => some (x, z) else (p_X5_copyFrom st r3).bind fun z => some (x, z)) = some (x, c) ∧ ∀ s, RelS (rg r0 r1 r2 r3 i) s → RelS c s := by
  rcases (show i = 0 ∨ i = 1 ∨ i = 2 ∨ i = 3 by omega) with rfl | rfl | rfl | rfl
  · obtain ⟨c, h1, h2⟩ := copyS (a := st) (b := r0) hb
    exact ⟨c, by rw [if_pos rfl, h1, Option.bind_some], h2⟩
  · obtain ⟨c, h1, h2⟩ := copyS (a := st) (b := r1) hb
    exact ⟨c, by rw [if_neg (by decide), if_pos rfl, h1, Option.bind_some], h2⟩
  · obtain ⟨c, h1, h2⟩ := copyS (a := st) (b := r2) hb
    exact ⟨c, by rw [if_neg (by decide), if_neg (by decide), if_pos rfl, h1, Option.bind_some], h2⟩
  · obtain ⟨c, h1, h2⟩ := copyS (a := st) (b := r3) hb
    exact ⟨c, by rw [if_neg (by decide), if_neg (by decide), if_neg (by decide), h1, Option.bind_some], h2⟩
theorem undo_ok {r0 r1 r2 r3 st : STT} {old size states : Int32} {was s : Nat → UInt64} (hH : RelH r0 r1 r2 r3 old size was states) (hS : RelS st s) : ∃ a st' size' s' states', p_X8_undo st r0 r1 r2 r3 old size = some (a, st', size') ∧ p_X9_undo s was states = some (a, s', states') ∧ RelS st' s' ∧ RelH r0 r1 r2 r3 old size' was states' := by
  obtain ⟨o, h, ho, hh, rfl, rfl, rfl, hR⟩ := hH
  by_cases h0 : h = 0
  · subst h0
    exact ⟨-5, st, nI 0, s, nI 0, by unfold p_X8_undo; rw [if_pos (show nI 0 = (0 : Int32) from rfl)], by unfold p_X9_undo; rw [if_pos (show nI 0 = (0 : Int32) from rfl)], hS, o, 0, ho, by omega, rfl, rfl, rfl, hR⟩
  · obtain ⟨g, rfl⟩ : ∃ g, h = g + 1 := ⟨h - 1, by omega⟩
    have hne : ¬ nI (g + 1) = (0 : Int32) := by
      intro q
      have := congrArg Int32.toInt q
      rw [nI_toInt (by omega)] at this
      have k4 : (0 : Int32).toInt = 0 := rfl
      omega
    have hr := hR g (by omega)
    obtain ⟨c, e1, e2⟩ := ring_get (st := st) (show (o + g) % 4 < 4 by omega) hr.2.isB (nI g)
    obtain ⟨v', g1, g2⟩ := undo_l was (show g < 4 by omega) 38 0 261 s rfl (fun j hj => absurd hj (Nat.not_lt_zero _))
    refine ⟨nI g, c, nI g, v', nI g, ?_, ?_, (e2 _ hr).s_eq (fun k hk => g2 k hk), o, g, ho, by omega, rfl, rfl, rfl, fun j hj => hR j (by omega)⟩
    · unfold p_X8_undo p_X2_bringBack
      rw [if_neg hne, nI_pred, nI_add, m4 (by omega), i4 (show (o + g) % 4 < 4 by omega), e1, Option.bind_some]
    · unfold p_X9_undo
      rw [if_neg hne, show p_X9_undo_L22 was (nI (g + 1)) 300 0 s = some v' from g1, Option.bind_some, nI_pred]
theorem many_ok {st : STT} {s : Nat → UInt64} (hS : RelS st s) : ∃ a b, p_X9_many s 0 = some a ∧ p_X9_many s 1 = some b ∧ p_X5_manyNumbers st = some (a + b) := by
  obtain ⟨⟨w, hw⟩, _⟩ := hS
  refine ⟨nI (w 0), nI (w 1), x9_many hw (row := 0) (by decide), x9_many hw (row := 1) (by decide), ?_⟩
  have h0 := (hw 0 (by decide)).2.1
  have h1 := (hw 1 (by decide)).2.1
  unfold rL at h0 h1
  rw [if_pos rfl] at h0
  rw [if_neg (by decide)] at h1
  unfold p_X5_manyNumbers
  rw [h0, h1]
theorem keep_ok {st sn : STT} {s slot : Nat → UInt64} (hS : RelS st s) : ∃ a sn' slot', p_X8_keep st sn = some (a, sn', 1) ∧ p_X9_keep s slot = some (a, slot', 1) ∧ RelS sn' slot' := by
  obtain ⟨c, e1, e2⟩ := copyS (a := sn) hS.2.isB
  obtain ⟨v', g1, g2⟩ := keep_l s 38 0 261 slot rfl (fun j hj => absurd hj (Nat.not_lt_zero _))
  obtain ⟨a, b, m1, m2, m3⟩ := many_ok hS
  refine ⟨a + b, c, v', ?_, ?_, (e2 s hS).s_eq g2⟩
  · unfold p_X8_keep
    rw [e1, Option.bind_some, m3, Option.bind_some]
  · unfold p_X9_keep
    rw [show p_X9_keep_L2 s 300 0 slot = some v' from g1, Option.bind_some, m1, Option.bind_some, m2, Option.bind_some]
/-- what a changing call leaves -/
abbrev MutR (st : STT) (r0 r1 r2 r3 : STT) (old size : Int32) (s was : Nat → UInt64) (states : Int32) : Prop := RelS st s ∧ RelH r0 r1 r2 r3 old size was states
theorem restore_ok {r0 r1 r2 r3 st sn : STT} {old size states taken : Int32} {was s slot : Nat → UInt64} (hH : RelH r0 r1 r2 r3 old size was states) (hS : RelS st s) (hN : taken = 0 ∨ RelS sn slot) : ∃ a st' q0 q1 q2 q3 old' size' s' was' states', p_X8_restore st sn taken r0 r1 r2 r3 old size = some (a, st', q0, q1, q2, q3, old', size') ∧ p_X9_restore s was states slot taken = some (a, s', was', states') ∧ MutR st' q0 q1 q2 q3 old' size' s' was' states' := by
  by_cases h0 : taken = 0
  · exact ⟨-5, st, r0, r1, r2, r3, old, size, s, was, states, by unfold p_X8_restore; rw [if_pos h0], by unfold p_X9_restore; rw [if_pos h0], hS, hH⟩
  · have hN := hN.resolve_left h0
    obtain ⟨q0, q1, q2, q3, o', z', w', t', e1, e2, e3⟩ := remember_ok hH hS
    obtain ⟨c, c1, c2⟩ := copyS (a := st) hN.2.isB
    obtain ⟨v', g1, g2⟩ := keep_l slot 38 0 261 s rfl (fun j hj => absurd hj (Nat.not_lt_zero _))
    have hC : RelS c v' := (c2 slot hN).s_eq g2
    obtain ⟨a, b, m1, m2, m3⟩ := many_ok hC
    refine ⟨a + b, c, q0, q1, q2, q3, o', z', v', w', t', ?_, ?_, hC, e3⟩
    · unfold p_X8_restore
      rw [if_neg h0, e1, Option.bind_some, c1, Option.bind_some, m3, Option.bind_some]
    · unfold p_X9_restore
      rw [if_neg h0, e2, Option.bind_some, rest_eq, show p_X9_keep_L2 slot 300 0 s = some v' from g1, Option.bind_some, m1, Option.bind_some, m2, Option.bind_some]
