/-! the changing calls: each refuses and changes nothing, or remembers the state that was -/
def ActC (st r0 r1 r2 r3 : STT) (old size a : Int32) (st' q0 q1 q2 q3 : STT) (old' size' : Int32) : Prop := (a < 0 ∧ st' = st ∧ q0 = r0 ∧ q1 = r1 ∧ q2 = r2 ∧ q3 = r3 ∧ old' = old ∧ size' = size) ∨ (¬ a < 0 ∧ p_X2_remember r0 r1 r2 r3 old size st = some (q0, q1, q2, q3, old', size'))
theorem nI_nn {n : Nat} (h : n < 2 ^ 31) : ¬ nI n < 0 := by
  intro q
  have := Int32.lt_iff_toInt_lt.mp q
  rw [nI_toInt h, show (0 : Int32).toInt = 0 from rfl] at this
  omega
theorem rel_n0 {st : STT} {s : Nat → UInt64} (h : RelS st s) : ¬ st.1.2 < 0 := by
  obtain ⟨⟨w, hw⟩, _⟩ := h
  have h1 := (hw 0 (by decide)).1
  have h2 := (hw 0 (by decide)).2.1
  unfold rL at h2
  rw [if_pos rfl] at h2
  rw [h2]
  exact nI_nn (by omega)
theorem rel_n1 {st : STT} {s : Nat → UInt64} (h : RelS st s) : ¬ st.2.1.2 < 0 := by
  obtain ⟨⟨w, hw⟩, _⟩ := h
  have h1 := (hw 1 (by decide)).1
  have h2 := (hw 1 (by decide)).2.1
  unfold rL at h2
  rw [if_neg (by decide)] at h2
  rw [h2]
  exact nI_nn (by omega)
theorem place_nn {R : (Nat → UInt64) × Int32} {p x : Int32} (e : p_X4_hasPlace R p = some x) (h : ¬ x = 0) : ¬ p < 0 := by
  unfold p_X4_hasPlace at e
  intro q
  first
    | (rw [if_pos q] at e; cases e; exact h rfl)
    | (rw [if_neg (show ¬ 0 ≤ p from Int32.not_le.mpr q)] at e; cases e; exact h rfl)
theorem set_nn {p x : Int32} (e : p_X5_isSetting p = some x) (h : ¬ x = 0) : ¬ p < 0 := by
  unfold p_X5_isSetting at e
  intro q
  first
    | (rw [if_pos q] at e; cases e; exact h rfl)
    | (rw [if_neg (show ¬ 0 ≤ p from Int32.not_le.mpr q)] at e; cases e; exact h rfl)
theorem put_act {v_this_state v_this_history_ring_0 v_this_history_ring_1 v_this_history_ring_2 v_this_history_ring_3 st' q0 q1 q2 q3 : STT} {v_this_history_oldest v_this_history_size a old' size' : Int32} {v_this_draft : (Nat → UInt64) × Int32} {p1 : Int32} {s' : Nat → UInt64} (hS : RelS st' s') (e : p_X8_putDraft v_this_state v_this_history_ring_0 v_this_history_ring_1 v_this_history_ring_2 v_this_history_ring_3 v_this_history_oldest v_this_history_size v_this_draft p1 = some (a, st', q0, q1, q2, q3, old', size')) : ¬ a < 0 ∧ p_X2_remember v_this_history_ring_0 v_this_history_ring_1 v_this_history_ring_2 v_this_history_ring_3 v_this_history_oldest v_this_history_size v_this_state = some (q0, q1, q2, q3, old', size') := by
  unfold p_X8_putDraft at e
  obtain ⟨x1, ex1, e⟩ := bind_s e
  by_cases c1 : p1 = 0
  · rw [if_pos c1] at e
    obtain ⟨x3, ex3, e⟩ := bind_s e
    cases e
    have h9 := rel_n0 hS
    exact ⟨h9, ex1⟩
  · rw [if_neg c1] at e
    obtain ⟨x4, ex4, e⟩ := bind_s e
    cases e
    have h9 := rel_n1 hS
    exact ⟨h9, ex1⟩
theorem add_act {v_this_state v_this_history_ring_0 v_this_history_ring_1 v_this_history_ring_2 v_this_history_ring_3 st' q0 q1 q2 q3 : STT} {v_this_history_oldest v_this_history_size a old' size' : Int32} {p1 : Int32} {p2 : Int64} {s' : Nat → UInt64} (hS : RelS st' s') (e : p_X8_add v_this_state v_this_history_ring_0 v_this_history_ring_1 v_this_history_ring_2 v_this_history_ring_3 v_this_history_oldest v_this_history_size p1 p2 = some (a, st', q0, q1, q2, q3, old', size')) : ActC v_this_state v_this_history_ring_0 v_this_history_ring_1 v_this_history_ring_2 v_this_history_ring_3 v_this_history_oldest v_this_history_size a st' q0 q1 q2 q3 old' size' := by
  unfold p_X8_add at e
  obtain ⟨x1, ex1, e⟩ := bind_s e
  by_cases c1 : x1 = 0
  · rw [if_pos c1] at e
    cases e
    exact Or.inl ⟨by decide, rfl, rfl, rfl, rfl, rfl, rfl, rfl⟩
  · rw [if_neg c1] at e
    obtain ⟨x3, ex3, e⟩ := bind_s e
    by_cases c2 : x3 = 0
    · rw [if_pos c2] at e
      cases e
      exact Or.inl ⟨by decide, rfl, rfl, rfl, rfl, rfl, rfl, rfl⟩
    · rw [if_neg c2] at e
      by_cases c3 : p1 = 0
      · rw [if_pos c3] at e
        by_cases c4 : v_this_state.1.2 = (16 : Int32)
        · rw [if_pos c4] at e
          cases e
          exact Or.inl ⟨by decide, rfl, rfl, rfl, rfl, rfl, rfl, rfl⟩
        · rw [if_neg c4] at e
          obtain ⟨x7, ex7, e⟩ := bind_s e
          obtain ⟨x8, ex8, e⟩ := bind_s e
          obtain ⟨x9, ex9, e⟩ := bind_s e
          cases e
          have h9 := rel_n0 hS
          exact Or.inr ⟨h9, ex7⟩
      · rw [if_neg c3] at e
        by_cases c5 : v_this_state.2.1.2 = (16 : Int32)
        · rw [if_pos c5] at e
          cases e
          exact Or.inl ⟨by decide, rfl, rfl, rfl, rfl, rfl, rfl, rfl⟩
        · rw [if_neg c5] at e
          obtain ⟨x11, ex11, e⟩ := bind_s e
          obtain ⟨x12, ex12, e⟩ := bind_s e
          obtain ⟨x13, ex13, e⟩ := bind_s e
          cases e
          have h9 := rel_n1 hS
          exact Or.inr ⟨h9, ex11⟩
theorem cut_act {v_this_state v_this_history_ring_0 v_this_history_ring_1 v_this_history_ring_2 v_this_history_ring_3 st' q0 q1 q2 q3 : STT} {v_this_history_oldest v_this_history_size a old' size' : Int32} {p1 : Int32} {p2 : Int32} {s' : Nat → UInt64} (hS : RelS st' s') (e : p_X8_cut v_this_state v_this_history_ring_0 v_this_history_ring_1 v_this_history_ring_2 v_this_history_ring_3 v_this_history_oldest v_this_history_size p1 p2 = some (a, st', q0, q1, q2, q3, old', size')) : ActC v_this_state v_this_history_ring_0 v_this_history_ring_1 v_this_history_ring_2 v_this_history_ring_3 v_this_history_oldest v_this_history_size a st' q0 q1 q2 q3 old' size' := by
  unfold p_X8_cut at e
  obtain ⟨x1, ex1, e⟩ := bind_s e
  by_cases c1 : x1 = 0
  · rw [if_pos c1] at e
    cases e
    exact Or.inl ⟨by decide, rfl, rfl, rfl, rfl, rfl, rfl, rfl⟩
  · rw [if_neg c1] at e
    by_cases c2 : p2 < (1 : Int32)
    · rw [if_pos c2] at e
      cases e
      exact Or.inl ⟨by decide, rfl, rfl, rfl, rfl, rfl, rfl, rfl⟩
    · rw [if_neg c2] at e
      by_cases c3 : p2 ≤ (16 : Int32)
      · rw [if_pos c3] at e
        by_cases c4 : p1 = 0
        · rw [if_pos c4] at e
          by_cases c5 : p2 ≤ v_this_state.1.2
          · rw [if_pos c5] at e
            obtain ⟨x7, ex7, e⟩ := bind_s e
            cases e
            have h9 := rel_n0 hS
            exact Or.inr ⟨h9, ex7⟩
          · rw [if_neg c5] at e
            cases e
            exact Or.inl ⟨by decide, rfl, rfl, rfl, rfl, rfl, rfl, rfl⟩
        · rw [if_neg c4] at e
          by_cases c6 : p2 ≤ v_this_state.2.1.2
          · rw [if_pos c6] at e
            obtain ⟨x9, ex9, e⟩ := bind_s e
            cases e
            have h9 := rel_n1 hS
            exact Or.inr ⟨h9, ex9⟩
          · rw [if_neg c6] at e
            cases e
            exact Or.inl ⟨by decide, rfl, rfl, rfl, rfl, rfl, rfl, rfl⟩
      · rw [if_neg c3] at e
        cases e
        exact Or.inl ⟨by decide, rfl, rfl, rfl, rfl, rfl, rfl, rfl⟩
theorem set_act {v_this_state v_this_history_ring_0 v_this_history_ring_1 v_this_history_ring_2 v_this_history_ring_3 st' q0 q1 q2 q3 : STT} {v_this_history_oldest v_this_history_size a old' size' : Int32} {p1 : Int32} {p2 : Int32} {p3 : Int64} {s' : Nat → UInt64} (hS : RelS st' s') (e : p_X8_set v_this_state v_this_history_ring_0 v_this_history_ring_1 v_this_history_ring_2 v_this_history_ring_3 v_this_history_oldest v_this_history_size p1 p2 p3 = some (a, st', q0, q1, q2, q3, old', size')) : ActC v_this_state v_this_history_ring_0 v_this_history_ring_1 v_this_history_ring_2 v_this_history_ring_3 v_this_history_oldest v_this_history_size a st' q0 q1 q2 q3 old' size' := by
  unfold p_X8_set at e
  obtain ⟨x1, ex1, e⟩ := bind_s e
  by_cases c1 : x1 = 0
  · rw [if_pos c1] at e
    cases e
    exact Or.inl ⟨by decide, rfl, rfl, rfl, rfl, rfl, rfl, rfl⟩
  · rw [if_neg c1] at e
    by_cases c2 : p1 = 0
    · rw [if_pos c2] at e
      obtain ⟨x4, ex4, e⟩ := bind_s e
      by_cases c3 : x4 = 0
      · rw [if_pos c3] at e
        cases e
        exact Or.inl ⟨by decide, rfl, rfl, rfl, rfl, rfl, rfl, rfl⟩
      · rw [if_neg c3] at e
        obtain ⟨x6, ex6, e⟩ := bind_s e
        by_cases c4 : x6 = 0
        · rw [if_pos c4] at e
          cases e
          exact Or.inl ⟨by decide, rfl, rfl, rfl, rfl, rfl, rfl, rfl⟩
        · rw [if_neg c4] at e
          obtain ⟨x8, ex8, e⟩ := bind_s e
          have e := (gD_h e).2
          obtain ⟨x10, ex10, e⟩ := bind_s e
          by_cases c5 : x10 = 0
          · rw [if_pos c5] at e
            obtain ⟨x12, ex12, e⟩ := bind_s e
            have e := (gD_h e).2
            cases e
            exact Or.inr ⟨place_nn (by assumption) (by assumption), ex12⟩
          · rw [if_neg c5] at e
            cases e
            exact Or.inl ⟨by decide, rfl, rfl, rfl, rfl, rfl, rfl, rfl⟩
    · rw [if_neg c2] at e
      obtain ⟨x14, ex14, e⟩ := bind_s e
      by_cases c6 : x14 = 0
      · rw [if_pos c6] at e
        cases e
        exact Or.inl ⟨by decide, rfl, rfl, rfl, rfl, rfl, rfl, rfl⟩
      · rw [if_neg c6] at e
        obtain ⟨x16, ex16, e⟩ := bind_s e
        by_cases c7 : x16 = 0
        · rw [if_pos c7] at e
          cases e
          exact Or.inl ⟨by decide, rfl, rfl, rfl, rfl, rfl, rfl, rfl⟩
        · rw [if_neg c7] at e
          obtain ⟨x18, ex18, e⟩ := bind_s e
          have e := (gD_h e).2
          obtain ⟨x20, ex20, e⟩ := bind_s e
          by_cases c8 : x20 = 0
          · rw [if_pos c8] at e
            obtain ⟨x22, ex22, e⟩ := bind_s e
            have e := (gD_h e).2
            cases e
            exact Or.inr ⟨place_nn (by assumption) (by assumption), ex22⟩
          · rw [if_neg c8] at e
            cases e
            exact Or.inl ⟨by decide, rfl, rfl, rfl, rfl, rfl, rfl, rfl⟩
theorem read_act {v_this_state v_this_history_ring_0 v_this_history_ring_1 v_this_history_ring_2 v_this_history_ring_3 st' q0 q1 q2 q3 : STT} {v_this_history_oldest v_this_history_size a old' size' : Int32} {v_this_text_characters : Nat → Int32} {v_this_text_length : Int32} {v_this_text_at : Int32} {v_this_text_digits : Int64} {v_this_draft : (Nat → UInt64) × Int32} {p1 : Int32} {y : Int32 × Int64 × ((Nat → UInt64) × Int32)} {s' : Nat → UInt64} (hS : RelS st' s') (e : p_X8_read v_this_state v_this_history_ring_0 v_this_history_ring_1 v_this_history_ring_2 v_this_history_ring_3 v_this_history_oldest v_this_history_size v_this_text_characters v_this_text_length v_this_text_at v_this_text_digits v_this_draft p1 = some (a, st', q0, q1, q2, q3, old', size', y)) : ActC v_this_state v_this_history_ring_0 v_this_history_ring_1 v_this_history_ring_2 v_this_history_ring_3 v_this_history_oldest v_this_history_size a st' q0 q1 q2 q3 old' size' := by
  unfold p_X8_read at e
  obtain ⟨x1, ex1, e⟩ := bind_s e
  by_cases c1 : x1 = 0
  · rw [if_pos c1] at e
    cases e
    exact Or.inl ⟨by decide, rfl, rfl, rfl, rfl, rfl, rfl, rfl⟩
  · rw [if_neg c1] at e
    obtain ⟨x3, ex3, e⟩ := bind_s e
    by_cases c2 : 0 ≤ x3.1
    · rw [if_pos c2] at e
      by_cases c3 : x3.1 ≤ (16 : Int32)
      · rw [if_pos c3] at e
        obtain ⟨x6, ex6, e⟩ := bind_s e
        cases e
        exact Or.inr (put_act hS ex6)
      · rw [if_neg c3] at e
        cases e
        exact Or.inl ⟨by decide, rfl, rfl, rfl, rfl, rfl, rfl, rfl⟩
    · rw [if_neg c2] at e
      cases e
      exact Or.inl ⟨Int32.not_le.mp (by assumption), rfl, rfl, rfl, rfl, rfl, rfl, rfl⟩
theorem fill_act {v_this_state v_this_history_ring_0 v_this_history_ring_1 v_this_history_ring_2 v_this_history_ring_3 st' q0 q1 q2 q3 : STT} {v_this_history_oldest v_this_history_size a old' size' : Int32} {v_this_draft : (Nat → UInt64) × Int32} {p1 : Int32} {p2 : Int32} {p3 : Int32} {y : ((Nat → UInt64) × Int32)} {s' : Nat → UInt64} (hS : RelS st' s') (e : p_X8_fill v_this_state v_this_history_ring_0 v_this_history_ring_1 v_this_history_ring_2 v_this_history_ring_3 v_this_history_oldest v_this_history_size v_this_draft p1 p2 p3 = some (a, st', q0, q1, q2, q3, old', size', y)) : ActC v_this_state v_this_history_ring_0 v_this_history_ring_1 v_this_history_ring_2 v_this_history_ring_3 v_this_history_oldest v_this_history_size a st' q0 q1 q2 q3 old' size' := by
  unfold p_X8_fill at e
  obtain ⟨x1, ex1, e⟩ := bind_s e
  by_cases c1 : x1 = 0
  · rw [if_pos c1] at e
    cases e
    exact Or.inl ⟨by decide, rfl, rfl, rfl, rfl, rfl, rfl, rfl⟩
  · rw [if_neg c1] at e
    by_cases c2 : p2 < 0
    · rw [if_pos c2] at e
      cases e
      exact Or.inl ⟨by decide, rfl, rfl, rfl, rfl, rfl, rfl, rfl⟩
    · rw [if_neg c2] at e
      by_cases c3 : (5 : Int32) ≤ p2
      · rw [if_pos c3] at e
        cases e
        exact Or.inl ⟨by decide, rfl, rfl, rfl, rfl, rfl, rfl, rfl⟩
      · rw [if_neg c3] at e
        by_cases c4 : p3 < (1 : Int32)
        · rw [if_pos c4] at e
          cases e
          exact Or.inl ⟨by decide, rfl, rfl, rfl, rfl, rfl, rfl, rfl⟩
        · rw [if_neg c4] at e
          by_cases c5 : p3 ≤ (16 : Int32)
          · rw [if_pos c5] at e
            obtain ⟨x7, ex7, e⟩ := bind_s e
            obtain ⟨x8, ex8, e⟩ := bind_s e
            cases e
            exact Or.inr (put_act hS ex8)
          · rw [if_neg c5] at e
            cases e
            exact Or.inl ⟨by decide, rfl, rfl, rfl, rfl, rfl, rfl, rfl⟩
theorem sum_act {v_this_state v_this_history_ring_0 v_this_history_ring_1 v_this_history_ring_2 v_this_history_ring_3 st' q0 q1 q2 q3 : STT} {v_this_history_oldest v_this_history_size a old' size' : Int32} {v_this_draft : (Nat → UInt64) × Int32} {p1 : Int32} {y : ((Nat → UInt64) × Int32)} {s' : Nat → UInt64} (hS : RelS st' s') (e : p_X8_sum v_this_state v_this_history_ring_0 v_this_history_ring_1 v_this_history_ring_2 v_this_history_ring_3 v_this_history_oldest v_this_history_size v_this_draft p1 = some (a, st', q0, q1, q2, q3, old', size', y)) : ActC v_this_state v_this_history_ring_0 v_this_history_ring_1 v_this_history_ring_2 v_this_history_ring_3 v_this_history_oldest v_this_history_size a st' q0 q1 q2 q3 old' size' := by
  unfold p_X8_sum at e
  obtain ⟨x1, ex1, e⟩ := bind_s e
  by_cases c1 : x1 = 0
  · rw [if_pos c1] at e
    cases e
    exact Or.inl ⟨by decide, rfl, rfl, rfl, rfl, rfl, rfl, rfl⟩
  · rw [if_neg c1] at e
    by_cases c2 : p1 = 0
    · rw [if_pos c2] at e
      by_cases c3 : v_this_state.1.2 = 0
      · rw [if_pos c3] at e
        cases e
        exact Or.inl ⟨by decide, rfl, rfl, rfl, rfl, rfl, rfl, rfl⟩
      · rw [if_neg c3] at e
        obtain ⟨x5, ex5, e⟩ := bind_s e
        by_cases c4 : x5.1 = 0
        · rw [if_pos c4] at e
          cases e
          exact Or.inl ⟨by decide, rfl, rfl, rfl, rfl, rfl, rfl, rfl⟩
        · rw [if_neg c4] at e
          obtain ⟨x7, ex7, e⟩ := bind_s e
          cases e
          exact Or.inr (put_act hS ex7)
    · rw [if_neg c2] at e
      by_cases c5 : v_this_state.2.1.2 = 0
      · rw [if_pos c5] at e
        cases e
        exact Or.inl ⟨by decide, rfl, rfl, rfl, rfl, rfl, rfl, rfl⟩
      · rw [if_neg c5] at e
        obtain ⟨x9, ex9, e⟩ := bind_s e
        by_cases c6 : x9.1 = 0
        · rw [if_pos c6] at e
          cases e
          exact Or.inl ⟨by decide, rfl, rfl, rfl, rfl, rfl, rfl, rfl⟩
        · rw [if_neg c6] at e
          obtain ⟨x11, ex11, e⟩ := bind_s e
          cases e
          exact Or.inr (put_act hS ex11)
theorem take_act {v_this_state v_this_history_ring_0 v_this_history_ring_1 v_this_history_ring_2 v_this_history_ring_3 st' q0 q1 q2 q3 : STT} {v_this_history_oldest v_this_history_size a old' size' : Int32} {v_this_grid_values : Nat → UInt64} {v_this_grid_kinds : Nat → Int32} {v_this_grid_table : Int32} {v_this_grid_guard : UInt64} {v_this_grid_ratio : UInt64} {v_this_grid_bridging : Int32} {v_this_grid_length : Int32} {v_this_draft : (Nat → UInt64) × Int32} {p1 : Int32} {p2 : Int32} {p3 : Int32} {y : (Nat → UInt64) × (Nat → Int32) × Int32 × UInt64 × UInt64 × Int32 × Int32 × ((Nat → UInt64) × Int32)} {s' : Nat → UInt64} (hS : RelS st' s') (e : p_X8_take v_this_state v_this_history_ring_0 v_this_history_ring_1 v_this_history_ring_2 v_this_history_ring_3 v_this_history_oldest v_this_history_size v_this_grid_values v_this_grid_kinds v_this_grid_table v_this_grid_guard v_this_grid_ratio v_this_grid_bridging v_this_grid_length v_this_draft p1 p2 p3 = some (a, st', q0, q1, q2, q3, old', size', y)) : ActC v_this_state v_this_history_ring_0 v_this_history_ring_1 v_this_history_ring_2 v_this_history_ring_3 v_this_history_oldest v_this_history_size a st' q0 q1 q2 q3 old' size' := by
  unfold p_X8_take at e
  obtain ⟨x1, ex1, e⟩ := bind_s e
  by_cases c1 : x1 = 0
  · rw [if_pos c1] at e
    cases e
    exact Or.inl ⟨by decide, rfl, rfl, rfl, rfl, rfl, rfl, rfl⟩
  · rw [if_neg c1] at e
    by_cases c2 : p3 < 0
    · rw [if_pos c2] at e
      cases e
      exact Or.inl ⟨by decide, rfl, rfl, rfl, rfl, rfl, rfl, rfl⟩
    · rw [if_neg c2] at e
      by_cases c3 : p3 < (16 : Int32)
      · rw [if_pos c3] at e
        obtain ⟨x5, ex5, e⟩ := bind_s e
        obtain ⟨x6, ex6, e⟩ := bind_s e
        by_cases c4 : x6.2 = 0
        · rw [if_pos c4] at e
          cases e
          exact Or.inl ⟨by decide, rfl, rfl, rfl, rfl, rfl, rfl, rfl⟩
        · rw [if_neg c4] at e
          obtain ⟨x8, ex8, e⟩ := bind_s e
          cases e
          exact Or.inr (put_act hS ex8)
      · rw [if_neg c3] at e
        cases e
        exact Or.inl ⟨by decide, rfl, rfl, rfl, rfl, rfl, rfl, rfl⟩
theorem setting_act {v_this_state v_this_history_ring_0 v_this_history_ring_1 v_this_history_ring_2 v_this_history_ring_3 st' q0 q1 q2 q3 : STT} {v_this_history_oldest v_this_history_size a old' size' : Int32} {p1 : Int32} {p2 : Int64} {s' : Nat → UInt64} (hS : RelS st' s') (e : p_X8_setting v_this_state v_this_history_ring_0 v_this_history_ring_1 v_this_history_ring_2 v_this_history_ring_3 v_this_history_oldest v_this_history_size p1 p2 = some (a, st', q0, q1, q2, q3, old', size')) : ActC v_this_state v_this_history_ring_0 v_this_history_ring_1 v_this_history_ring_2 v_this_history_ring_3 v_this_history_oldest v_this_history_size a st' q0 q1 q2 q3 old' size' := by
  unfold p_X8_setting at e
  obtain ⟨x1, ex1, e⟩ := bind_s e
  by_cases c1 : x1 = 0
  · rw [if_pos c1] at e
    cases e
    exact Or.inl ⟨by decide, rfl, rfl, rfl, rfl, rfl, rfl, rfl⟩
  · rw [if_neg c1] at e
    obtain ⟨x3, ex3, e⟩ := bind_s e
    by_cases c2 : x3 = 0
    · rw [if_pos c2] at e
      obtain ⟨x5, ex5, e⟩ := bind_s e
      by_cases c3 : x5 = 0
      · rw [if_pos c3] at e
        obtain ⟨x7, ex7, e⟩ := bind_s e
        obtain ⟨x8, ex8, e⟩ := bind_s e
        by_cases c4 : x8 = 0
        · rw [if_pos c4] at e
          cases e
          exact Or.inl ⟨by decide, rfl, rfl, rfl, rfl, rfl, rfl, rfl⟩
        · rw [if_neg c4] at e
          have e := (gD_h e).2
          by_cases c5 : (Op.cmpValue (FP.dcmp (v_this_state.2.2.1 p1.toNatClampNeg) x7) CmpOp.l) = 0
          · rw [if_pos c5] at e
            cases e
            exact Or.inl ⟨by decide, rfl, rfl, rfl, rfl, rfl, rfl, rfl⟩
          · rw [if_neg c5] at e
            obtain ⟨x12, ex12, e⟩ := bind_s e
            have e := (gD_h e).2
            cases e
            exact Or.inr ⟨set_nn (by assumption) (by assumption), ex12⟩
      · rw [if_neg c3] at e
        cases e
        exact Or.inl ⟨by decide, rfl, rfl, rfl, rfl, rfl, rfl, rfl⟩
    · rw [if_neg c2] at e
      cases e
      exact Or.inl ⟨by decide, rfl, rfl, rfl, rfl, rfl, rfl, rfl⟩
