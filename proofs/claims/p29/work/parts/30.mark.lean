/-! marks: what the law sees of a state, and how histories keep it -/
def eqb (v c : UInt64) : Bool := decide ((Op.cmpValue (FP.dcmp v c) CmpOp.l) = 0)
def encN (a b c : Int32) (x y z : Bool) : Int64 := (((((a.toInt64 + ((32 : Int64) * b.toInt64)) + ((1024 : Int64) * c.toInt64)) + (if x = true then (2048 : Int64) else (0 : Int64))) + (if y = true then (4096 : Int64) else (0 : Int64))) + (if z = true then (8192 : Int64) else (0 : Int64)))
def brd (st : STT) : Int32 := if st.2.2.2 = 0 then 0 else 1
def encS (st : STT) : Int64 := encN st.1.2 st.2.1.2 (brd st) (eqb (st.2.2.1 0) 4598175219545276416) (eqb (st.2.2.1 1) 4616189618054758400) (eqb (st.2.2.1 2) 4598175219545276416)
section CNT
variable (st : STT) (size tl : Int32) (v : Nat → UInt64) (k : Nat → Int32) (tb : Int32) (gu ra : UInt64) (br le : Int32)
theorem cnt0 : p_X8_count st size tl v k tb gu ra br le (0 : Int32) = some (st.1.2, v, k, tb, gu, ra, br, le) := by
  unfold p_X8_count
  rw [if_pos rfl]
theorem cnt1 : p_X8_count st size tl v k tb gu ra br le (1 : Int32) = some (st.2.1.2, v, k, tb, gu, ra, br, le) := by
  unfold p_X8_count
  rw [if_neg (by decide), if_pos rfl]
theorem cnt2 : p_X8_count st size tl v k tb gu ra br le (2 : Int32) = some (brd st, v, k, tb, gu, ra, br, le) := by
  unfold p_X8_count brd
  rw [if_neg (by decide), if_neg (by decide), if_pos rfl]
  by_cases c : st.2.2.2 = 0
  · rw [if_pos c, if_pos c]
  · rw [if_neg c, if_neg c]
theorem cnt4 : p_X8_count st size tl v k tb gu ra br le (4 : Int32) = some (size, v, k, tb, gu, ra, br, le) := by
  unfold p_X8_count
  rw [if_neg (by decide), if_neg (by decide), if_neg (by decide), if_neg (by decide), if_pos rfl]
theorem cnt5 : p_X8_count st size tl v k tb gu ra br le (5 : Int32) = some (tl, v, k, tb, gu, ra, br, le) := by
  unfold p_X8_count
  rw [if_neg (by decide), if_neg (by decide), if_neg (by decide), if_neg (by decide), if_neg (by decide), if_pos rfl]
theorem setting_is : ∀ j, j < 3 → p_X5_isSetting (nI j) = some 1 ∧ inb (nI j) 3 = true ∧ (nI j).toNatClampNeg = j := by decide +kernel
theorem told_j {j : Nat} (h : j < 3) : p_X8_told st (nI j) = some (st.2.2.1 j) := by
  obtain ⟨h1, h2, h3⟩ := setting_is j h
  unfold p_X8_told
  rw [h1, Option.bind_some, if_neg one0, gD_t _ h2, h3]
theorem told0 : p_X8_told st (0 : Int32) = some (st.2.2.1 0) := told_j st (j := 0) (by decide)
theorem told1 : p_X8_told st (1 : Int32) = some (st.2.2.1 1) := told_j st (j := 1) (by decide)
theorem told2 : p_X8_told st (2 : Int32) = some (st.2.2.1 2) := told_j st (j := 2) (by decide)
theorem marked_ok : p_L_marked st size tl v k tb gu ra br le = some (encS st, v, k, tb, gu, ra, br, le) := by
  unfold p_L_marked
  rw [cnt0, Option.bind_some]
  try dsimp only
  rw [cnt1, Option.bind_some]
  try dsimp only
  rw [cnt2, Option.bind_some, told0, Option.bind_some]
  try dsimp only
  unfold encS encN eqb
  by_cases h0 : (Op.cmpValue (FP.dcmp (st.2.2.1 0) (4598175219545276416 : UInt64)) CmpOp.l) = 0
  · rw [if_pos h0, decide_eq_true h0, told1, Option.bind_some]
    by_cases h1 : (Op.cmpValue (FP.dcmp (st.2.2.1 1) (4616189618054758400 : UInt64)) CmpOp.l) = 0
    · rw [if_pos h1, decide_eq_true h1, told2, Option.bind_some]
      by_cases h2 : (Op.cmpValue (FP.dcmp (st.2.2.1 2) (4598175219545276416 : UInt64)) CmpOp.l) = 0
      · rw [if_pos h2, decide_eq_true h2]; rfl
      · rw [if_neg h2, decide_eq_false h2]; rfl
    · rw [if_neg h1, decide_eq_false h1, told2, Option.bind_some]
      by_cases h2 : (Op.cmpValue (FP.dcmp (st.2.2.1 2) (4598175219545276416 : UInt64)) CmpOp.l) = 0
      · rw [if_pos h2, decide_eq_true h2]; rfl
      · rw [if_neg h2, decide_eq_false h2]; rfl
  · rw [if_neg h0, decide_eq_false h0, told1, Option.bind_some]
    by_cases h1 : (Op.cmpValue (FP.dcmp (st.2.2.1 1) (4616189618054758400 : UInt64)) CmpOp.l) = 0
    · rw [if_pos h1, decide_eq_true h1, told2, Option.bind_some]
      by_cases h2 : (Op.cmpValue (FP.dcmp (st.2.2.1 2) (4598175219545276416 : UInt64)) CmpOp.l) = 0
      · rw [if_pos h2, decide_eq_true h2]; rfl
      · rw [if_neg h2, decide_eq_false h2]; rfl
    · rw [if_neg h1, decide_eq_false h1, told2, Option.bind_some]
      by_cases h2 : (Op.cmpValue (FP.dcmp (st.2.2.1 2) (4598175219545276416 : UInt64)) CmpOp.l) = 0
      · rw [if_pos h2, decide_eq_true h2]; rfl
      · rw [if_neg h2, decide_eq_false h2]; rfl
end CNT
def decP (a b c : Nat) (x y z : Bool) (m : Int64) : Bool := decide ((lg_cmp (nI a).toInt64 (m - m / (32 : Int64) * (32 : Int64))) = 0) && decide ((lg_cmp (nI b).toInt64 ((m / (32 : Int64)) - (m / (32 : Int64)) / (32 : Int64) * (32 : Int64))) = 0) && decide ((lg_cmp (nI c).toInt64 ((m / (1024 : Int64)) - (m / (1024 : Int64)) / (2 : Int64) * (2 : Int64))) = 0) && (decide ((lg_cmp ((m / (2048 : Int64)) - (m / (2048 : Int64)) / (2 : Int64) * (2 : Int64)) (1 : Int64)) = 0) == x) && (decide ((lg_cmp ((m / (4096 : Int64)) - (m / (4096 : Int64)) / (2 : Int64) * (2 : Int64)) (1 : Int64)) = 0) == y) && (decide ((lg_cmp (m / (8192 : Int64)) (1 : Int64)) = 0) == z)
theorem dec_all : ∀ a, a < 17 → ∀ b, b < 17 → ∀ c, c < 2 → ∀ x y z : Bool, decP a b c x y z (encN (nI a) (nI b) (nI c) x y z) = true := by decide +kernel
theorem brd_nI (st : STT) : ∃ c, c < 2 ∧ brd st = nI c := by
  unfold brd
  by_cases c : st.2.2.2 = 0
  · rw [if_pos c]; exact ⟨0, by decide, rfl⟩
  · rw [if_neg c]; exact ⟨1, by decide, rfl⟩
theorem rel_w {st : STT} {s : Nat → UInt64} (h : RelS st s) : ∃ a b : Nat, a < 17 ∧ b < 17 ∧ st.1.2 = nI a ∧ st.2.1.2 = nI b := by
  obtain ⟨⟨w, hw⟩, _⟩ := h
  obtain ⟨a1, a2, _⟩ := hw 0 (by decide)
  obtain ⟨b1, b2, _⟩ := hw 1 (by decide)
  unfold rL at a2 b2
  rw [if_pos rfl] at a2
  rw [if_neg (by decide)] at b2
  exact ⟨w 0, w 1, by omega, by omega, a2, b2⟩
theorem isAs_ok {st : STT} {s : Nat → UInt64} (hS : RelS st s) (size tl : Int32) (v : Nat → UInt64) (k : Nat → Int32) (tb : Int32) (gu ra : UInt64) (br le : Int32) (m : Int64) (hm : m = encS st) : p_L_isAs st size tl v k tb gu ra br le m = some (1, v, k, tb, gu, ra, br, le) := by
  obtain ⟨a, b, ha, hb, e1, e2⟩ := rel_w hS
  obtain ⟨c, hc, e3⟩ := brd_nI st
  have hd := dec_all a ha b hb c hc (eqb (st.2.2.1 0) 4598175219545276416) (eqb (st.2.2.1 1) 4616189618054758400) (eqb (st.2.2.1 2) 4598175219545276416)
  have hm2 : m = encN (nI a) (nI b) (nI c) (eqb (st.2.2.1 0) 4598175219545276416) (eqb (st.2.2.1 1) 4616189618054758400) (eqb (st.2.2.1 2) 4598175219545276416) := by
    rw [hm]
    unfold encS
    rw [e1, e2, e3]
  rw [← hm2] at hd
  unfold decP at hd
  simp only [Bool.and_eq_true, decide_eq_true_eq, beq_iff_eq] at hd
  obtain ⟨⟨⟨⟨⟨d1, d2⟩, d3⟩, d4⟩, d5⟩, d6⟩ := hd
  unfold p_L_isAs
  rw [cnt0, Option.bind_some]
  try dsimp only
  rw [e1, if_pos d1, cnt1, Option.bind_some]
  try dsimp only
  rw [e2, if_pos d2, cnt2, Option.bind_some]
  try dsimp only
  rw [e3, if_pos d3, told0, Option.bind_some]
  unfold eqb at d4 d5 d6
  by_cases h0 : (Op.cmpValue (FP.dcmp (st.2.2.1 0) (4598175219545276416 : UInt64)) CmpOp.l) = 0
  · rw [decide_eq_true h0] at d4
    rw [if_pos h0, if_pos (of_decide_eq_true d4), told1, Option.bind_some]
    by_cases h1 : (Op.cmpValue (FP.dcmp (st.2.2.1 1) (4616189618054758400 : UInt64)) CmpOp.l) = 0
    · rw [decide_eq_true h1] at d5
      rw [if_pos h1, if_pos (of_decide_eq_true d5), told2, Option.bind_some]
      by_cases h2 : (Op.cmpValue (FP.dcmp (st.2.2.1 2) (4598175219545276416 : UInt64)) CmpOp.l) = 0
      · rw [decide_eq_true h2] at d6
        rw [if_pos h2, if_pos (of_decide_eq_true d6)]
      · rw [decide_eq_false h2] at d6
        rw [if_neg h2, if_neg (of_decide_eq_false d6)]
    · rw [decide_eq_false h1] at d5
      rw [if_neg h1, if_neg (of_decide_eq_false d5), told2, Option.bind_some]
      by_cases h2 : (Op.cmpValue (FP.dcmp (st.2.2.1 2) (4598175219545276416 : UInt64)) CmpOp.l) = 0
      · rw [decide_eq_true h2] at d6
        rw [if_pos h2, if_pos (of_decide_eq_true d6)]
      · rw [decide_eq_false h2] at d6
        rw [if_neg h2, if_neg (of_decide_eq_false d6)]
  · rw [decide_eq_false h0] at d4
    rw [if_neg h0, if_neg (of_decide_eq_false d4), told1, Option.bind_some]
    by_cases h1 : (Op.cmpValue (FP.dcmp (st.2.2.1 1) (4616189618054758400 : UInt64)) CmpOp.l) = 0
    · rw [decide_eq_true h1] at d5
      rw [if_pos h1, if_pos (of_decide_eq_true d5), told2, Option.bind_some]
      by_cases h2 : (Op.cmpValue (FP.dcmp (st.2.2.1 2) (4598175219545276416 : UInt64)) CmpOp.l) = 0
      · rw [decide_eq_true h2] at d6
        rw [if_pos h2, if_pos (of_decide_eq_true d6)]
      · rw [decide_eq_false h2] at d6
        rw [if_neg h2, if_neg (of_decide_eq_false d6)]
    · rw [decide_eq_false h1] at d5
      rw [if_neg h1, if_neg (of_decide_eq_false d5), told2, Option.bind_some]
      by_cases h2 : (Op.cmpValue (FP.dcmp (st.2.2.1 2) (4598175219545276416 : UInt64)) CmpOp.l) = 0
      · rw [decide_eq_true h2] at d6
        rw [if_pos h2, if_pos (of_decide_eq_true d6)]
      · rw [decide_eq_false h2] at d6
        rw [if_neg h2, if_neg (of_decide_eq_false d6)]
-- copies keep the mark
def cpyS (a b : STT) : STT := ((va_cpy b.1.1 a.1.1 0 0 16, b.1.2), (va_cpy b.2.1.1 a.2.1.1 0 0 16, b.2.1.2), va_cpy b.2.2.1 a.2.2.1 0 0 3, b.2.2.2)
theorem copy_eq {a b : STT} (hb : isB b.2.2.2 = true) : p_X5_copyFrom a b = some (cpyS a b) := by
  unfold p_X5_copyFrom p_X4_copyFrom cpyS
  rw [Option.bind_some, Option.bind_some, gD_t _ hb]
theorem copy_enc (a b : STT) : encS (cpyS a b) = encS b := by
  unfold encS brd cpyS
  try dsimp only
  rw [cpy_lt (show 0 < 3 by decide), cpy_lt (show 1 < 3 by decide), cpy_lt (show 2 < 3 by decide)]
theorem ring_putE {r0 r1 r2 r3 st : STT} {i : Nat} (hi : i < 4) (hb : isB st.2.2.2 = true) (f : STT → STT → STT → STT → Option (STT × STT × STT × STT × Int32 × Int32)) (x y : Int32) (hf : ∀ a b c d, f a b c d = some (a, b, c, d, x, y)) :
    ∃ q0 q1 q2 q3, (if i = 0 then (p_X5_copyFrom r0 st).bind fun z => f z r1 r2 r3 else if i = 1 then (p_X5_copyFrom r1 st).bind fun z => f r0 z r2 r3 else if i = 2 then (p_X5_copyFrom r2 st).bind fun z => f r0 r1 z r3 else (p_X5_copyFrom r3 st).bind fun z => f r0 r1 r2 z) = some (q0, q1, q2, q3, x, y) ∧ encS (rg q0 q1 q2 q3 i) = encS st ∧ ∀ j, j ≠ i → j < 4 → rg q0 q1 q2 q3 j = rg r0 r1 r2 r3 j := by
  rcases (show i = 0 ∨ i = 1 ∨ i = 2 ∨ i = 3 by omega) with rfl | rfl | rfl | rfl
  · exact ⟨cpyS r0 st, r1, r2, r3, by rw [if_pos rfl, copy_eq hb, Option.bind_some, hf], copy_enc _ _, fun j hj hj4 => by simp [rg, hj]⟩
  · exact ⟨r0, cpyS r1 st, r2, r3, by rw [if_neg (by decide), if_pos rfl, copy_eq hb, Option.bind_some, hf], copy_enc _ _, fun j hj hj4 => by simp [rg, hj]⟩
  · exact ⟨r0, r1, cpyS r2 st, r3, by rw [if_neg (by decide), if_neg (by decide), if_pos rfl, copy_eq hb, Option.bind_some, hf], copy_enc _ _, fun j hj hj4 => by simp [rg, hj]⟩
  · refine ⟨r0, r1, r2, cpyS r3 st, by rw [if_neg (by decide), if_neg (by decide), if_neg (by decide), copy_eq hb, Option.bind_some, hf], copy_enc _ _, fun j hj hj4 => ?_⟩
    rcases (show j = 0 ∨ j = 1 ∨ j = 2 by omega) with rfl | rfl | rfl <;> rfl
/-- the history holds the states whose marks v has at c - 1, c - 2, .. -/
def HistM (r0 r1 r2 r3 : STT) (old size : Int32) (c : Nat) (v : Nat → Int64) : Prop := ∃ o h : Nat, o < 4 ∧ h ≤ 4 ∧ old = nI o ∧ size = nI h ∧ h ≤ c ∧ ∀ j, j < h → encS (rg r0 r1 r2 r3 ((o + j) % 4)) = v (c - h + j)
theorem HistM.congr {r0 r1 r2 r3 : STT} {old size : Int32} {c : Nat} {v v' : Nat → Int64} (h : HistM r0 r1 r2 r3 old size c v) (hv : ∀ j, j < c → v' j = v j) : HistM r0 r1 r2 r3 old size c v' := by
  obtain ⟨o, h, h1, h2, h3, h4, h5, h6⟩ := h
  exact ⟨o, h, h1, h2, h3, h4, h5, fun j hj => by rw [h6 j hj, hv _ (by omega)]⟩
theorem remember_m {r0 r1 r2 r3 st q0 q1 q2 q3 : STT} {old size old' size' : Int32} {c : Nat} {v : Nat → Int64} (hM : HistM r0 r1 r2 r3 old size c v) (hb : isB st.2.2.2 = true) (hv : v c = encS st) (e : p_X2_remember r0 r1 r2 r3 old size st = some (q0, q1, q2, q3, old', size')) : HistM q0 q1 q2 q3 old' size' (c + 1) v := by
  obtain ⟨o, h, ho, hh, rfl, rfl, hc, hR⟩ := hM
  by_cases h4 : h = 4
  · subst h4
    obtain ⟨a0, a1, a2, a3, e1, e2, e3⟩ := ring_putE (r0 := r0) (r1 := r1) (r2 := r2) (r3 := r3) ho hb (fun a b c d => some (a, b, c, d, nI ((o + 1) % 4), nI 4)) (nI ((o + 1) % 4)) (nI 4) (fun _ _ _ _ => rfl)
    have f : p_X2_remember r0 r1 r2 r3 (nI o) (nI 4) st = some (a0, a1, a2, a3, nI ((o + 1) % 4), nI 4) := by
      unfold p_X2_remember
      rw [if_pos (show nI 4 = (4 : Int32) from rfl), nI_1, m4 (by omega), show nI 4 - 1 = nI 3 from rfl, nI_add, m4 (by omega), show ((o + 1) % 4 + 3) % 4 = o by omega, i4 ho, show nI 3 + 1 = nI 4 from rfl]
      exact e1
    rw [f] at e
    cases e
    refine ⟨(o + 1) % 4, 4, by omega, by omega, rfl, rfl, by omega, fun j hj => ?_⟩
    by_cases c3 : j = 3
    · subst c3
      rw [show ((o + 1) % 4 + 3) % 4 = o by omega, e2, ← hv, show c + 1 - 4 + 3 = c by omega]
    · rw [show ((o + 1) % 4 + j) % 4 = (o + (j + 1)) % 4 by omega, e3 _ (by omega) (by omega), hR (j + 1) (by omega), show c - 4 + (j + 1) = c + 1 - 4 + j by omega]
  · obtain ⟨a0, a1, a2, a3, e1, e2, e3⟩ := ring_putE (r0 := r0) (r1 := r1) (r2 := r2) (r3 := r3) (show (o + h) % 4 < 4 by omega) hb (fun a b c d => some (a, b, c, d, nI o, nI (h + 1))) (nI o) (nI (h + 1)) (fun _ _ _ _ => rfl)
    have hne : ¬ nI h = (4 : Int32) := by
      intro q
      have := congrArg Int32.toInt q
      rw [nI_toInt (by omega)] at this
      have k4 : (4 : Int32).toInt = 4 := rfl
      omega
    have f : p_X2_remember r0 r1 r2 r3 (nI o) (nI h) st = some (a0, a1, a2, a3, nI o, nI (h + 1)) := by
      unfold p_X2_remember
      rw [if_neg hne, nI_add, m4 (by omega), i4 (show (o + h) % 4 < 4 by omega), nI_1]
      exact e1
    rw [f] at e
    cases e
    refine ⟨o, h + 1, ho, by omega, rfl, rfl, by omega, fun j hj => ?_⟩
    by_cases ch : j = h
    · subst ch
      rw [e2, ← hv, show c + 1 - (j + 1) + j = c by omega]
    · rw [e3 _ (by omega) (by omega), hR j (by omega), show c + 1 - (h + 1) + j = c - h + j by omega]
/-- bringing back the last state -/
theorem undo_m {r0 r1 r2 r3 st : STT} {old size states : Int32} {was : Nat → UInt64} {c g : Nat} {v : Nat → Int64} (hH : RelH r0 r1 r2 r3 old size was states) (hM : HistM r0 r1 r2 r3 old size c v) (hs : size = nI (g + 1)) (hg : g < 4) : ∃ st', p_X8_undo st r0 r1 r2 r3 old size = some (nI g, st', nI g) ∧ encS st' = v (c - 1) ∧ HistM r0 r1 r2 r3 old (nI g) (c - 1) v ∧ 0 < c := by
  obtain ⟨o, h, ho, hh, ho1, hs1, -, hR⟩ := hH
  obtain ⟨o', h', ho', hh', ho2, hs2, hc, hE⟩ := hM
  have hoo : o = o' := (nI_inj (by omega) (by omega)).mp (ho1.symm.trans ho2)
  have hg1 : h = g + 1 := (nI_inj (by omega) (by omega)).mp (hs1.symm.trans hs)
  have hg2 : h' = g + 1 := (nI_inj (by omega) (by omega)).mp (hs2.symm.trans hs)
  subst hoo hg1 hg2
  rw [ho1, hs1]
  have hne : ¬ nI (g + 1) = (0 : Int32) := by
    intro q
    have := congrArg Int32.toInt q
    rw [nI_toInt (by omega)] at this
    have k4 : (0 : Int32).toInt = 0 := rfl
    omega
  have hb := (hR g (by omega)).2.isB
  have hm := hE g (by omega)
  refine ⟨cpyS st (rg r0 r1 r2 r3 ((o + g) % 4)), ?_, ?_, ⟨o, g, ho, by omega, rfl, rfl, by omega, fun j hj => ?_⟩, by omega⟩
  · unfold p_X8_undo p_X2_bringBack
    rw [if_neg hne, nI_pred, nI_add, m4 (by omega), i4 (show (o + g) % 4 < 4 by omega)]
    rcases (show (o + g) % 4 = 0 ∨ (o + g) % 4 = 1 ∨ (o + g) % 4 = 2 ∨ (o + g) % 4 = 3 by omega) with q | q | q | q <;> rw [q] at hb ⊢
    · rw [if_pos rfl, show rg r0 r1 r2 r3 0 = r0 from rfl, copy_eq (a := st) (b := r0) hb, Option.bind_some, Option.bind_some]
    · rw [if_neg (by decide), if_pos rfl, show rg r0 r1 r2 r3 1 = r1 from rfl, copy_eq (a := st) (b := r1) hb, Option.bind_some, Option.bind_some]
    · rw [if_neg (by decide), if_neg (by decide), if_pos rfl, show rg r0 r1 r2 r3 2 = r2 from rfl, copy_eq (a := st) (b := r2) hb, Option.bind_some, Option.bind_some]
    · rw [if_neg (by decide), if_neg (by decide), if_neg (by decide), show rg r0 r1 r2 r3 3 = r3 from rfl, copy_eq (a := st) (b := r3) hb, Option.bind_some, Option.bind_some]
  · rw [copy_enc, hm, show c - (g + 1) + g = c - 1 by omega]
  · rw [hE j (by omega), show c - 1 - g + j = c - (g + 1) + j by omega]
