/-! a whole table: both sides lay the same entries -/
def reach (t c : Nat) : Nat := if t = 2 then 2 * c else c
theorem reach_s (t c : Nat) : reach t (c + 1) = reach t c + (if t = 2 then 2 else 1) := by
  unfold reach
  split <;> omega
def ent (g q : UInt64) (b : Int32) (t : Nat) (r : Nat → UInt64) : Nat → Nat → UInt64 × Int32
  | 0, n => (r n, 0)
  | 1, n => stepV g q b t 1 (r n, 0) (r (n + 1), 0) (r (n + 2), 0) (FP.dconst0, 0)
  | c + 2, n => stepV g q b t (c + 2) (ent g q b t r (c + 1) n) (ent g q b t r (c + 1) (n + 1)) (ent g q b t r (c + 1) (n + 2)) (ent g q b t r c (n + 1))
theorem t4 {t : Nat} (h : t < 4) : t = 0 ∨ t = 1 ∨ t = 2 ∨ t = 3 := by omega
theorem stepV_congr {g q : UInt64} {b : Int32} {t c : Nat} {A B C P A' B' C' P' : UInt64 × Int32} (ht : t < 4) (hA : A = A') (hB : B = B') (hC : t = 2 → C = C') (hP : t < 2 → 2 ≤ c → P = P') : stepV g q b t c A B C P = stepV g q b t c A' B' C' P' := by
  subst hA hB
  rcases t4 ht with rfl | rfl | rfl | rfl
  · by_cases c2 : 2 ≤ c
    · have := hP (by decide) c2
      subst this
      simp [stepV, brkV]
    · simp [stepV, brkV, c2]
  · by_cases c2 : 2 ≤ c
    · have := hP (by decide) c2
      subst this
      simp [stepV, brkV]
    · simp [stepV, brkV, c2]
  · have := hC rfl
    subst this
    simp [stepV, brkV]
  · simp [stepV, brkV]
theorem pf_fin (v : UInt64) : ¬ 2 ≤ (pfV v).2 → dfin (pfV v).1 = true := by
  unfold pfV
  by_cases c : dfin v = true
  · rw [if_pos c]; exact fun _ => c
  · rw [if_neg c]; exact fun h => absurd (by decide) h
theorem pu_fin {b : Int32} {v : UInt64} (h : dfin v = true) : ¬ 2 ≤ (puV b v).2 → dfin (puV b v).1 = true := by
  unfold puV
  by_cases c : b = 0
  · rw [if_pos c]; exact fun h => absurd (by decide) h
  · rw [if_neg c]; exact fun _ => h
theorem stepV_fin {g q : UInt64} {b : Int32} {t c : Nat} {A B C P : UInt64 × Int32} (fx : ¬ 2 ≤ A.2 → dfin A.1 = true) (fy : ¬ 2 ≤ B.2 → dfin B.1 = true) (fp : t < 2 → 2 ≤ c → ¬ 2 ≤ P.2 → dfin P.1 = true) (ht : t < 4) : ¬ 2 ≤ (stepV g q b t c A B C P).2 → dfin (stepV g q b t c A B C P).1 = true := by
  unfold stepV
  by_cases br : brkV t c A.2 B.2 C.2 P.2 = true
  · rw [if_pos br]; exact fun h => absurd (by decide) h
  · rw [if_neg br]
    have ka : ¬ 2 ≤ A.2 := fun h => br (by simp [brkV, h])
    have kb : ¬ 2 ≤ B.2 := fun h => br (by simp [brkV, h])
    by_cases t2 : t = 2
    · rw [if_pos t2]
      unfold triV triW
      split
      · exact pu_fin (fin_sub0 (fx ka))
      · split
        · exact pu_fin (fin_sub0 (fx ka))
        · split
          · exact fun h => absurd (by decide) h
          · exact pf_fin _
    · rw [if_neg t2]
      by_cases t3 : t = 3
      · rw [if_pos t3]
        unfold ratV
        split
        · exact pu_fin (fin_add0 (fy kb))
        · exact pf_fin _
      · rw [if_neg t3]
        have tl : t < 2 := by omega
        unfold invV
        split
        · refine pu_fin (fin_add0 ?_)
          by_cases c2 : 2 ≤ c
          · rw [if_pos c2]
            exact fp tl c2 (fun h => br (by simp [brkV, tl, c2, h]))
          · rw [if_neg c2]; exact zero_fin
        · exact pf_fin _
theorem ent_fin {g q : UInt64} {b : Int32} {t : Nat} {r : Nat → UInt64} (ht : t < 4) {w : Nat} (hr : ∀ n, n < w → dfin (r n) = true) : ∀ c n, n + reach t c < w → ¬ 2 ≤ (ent g q b t r c n).2 → dfin (ent g q b t r c n).1 = true := by
  have key : ∀ c, (∀ n, n + reach t c < w → ¬ 2 ≤ (ent g q b t r c n).2 → dfin (ent g q b t r c n).1 = true) ∧ (∀ n, n + reach t (c + 1) < w → ¬ 2 ≤ (ent g q b t r (c + 1) n).2 → dfin (ent g q b t r (c + 1) n).1 = true) := by
    intro c
    induction c with
    | zero =>
      refine ⟨fun n h _ => hr n (by unfold reach at h; split at h <;> omega), fun n h => ?_⟩
      have h1 : n + 1 < w := by unfold reach at h; split at h <;> omega
      exact stepV_fin (fun _ => hr n (by omega)) (fun _ => hr (n + 1) h1) (fun _ h2 => absurd h2 (by decide)) ht
    | succ c ih =>
      refine ⟨ih.2, fun n h => ?_⟩
      have r1 := reach_s t (c + 1)
      have r0 := reach_s t c
      have hp : 1 ≤ (if t = 2 then 2 else 1 : Nat) := by split <;> decide
      exact stepV_fin (ih.2 n (by omega)) (ih.2 (n + 1) (by omega)) (fun _ _ => ih.1 (n + 1) (by omega)) ht
  exact fun c => (key c).1
/-- the places before (c0, n0) hold the entries -/
def FI (g q : UInt64) (b : Int32) (t : Nat) (r : Nat → UInt64) (w : Nat) (v : Nat → UInt64) (k : Nat → Int32) (c0 n0 : Nat) : Prop := ∀ c n, c < 16 → n + reach t c < w → (c < c0 ∨ (c = c0 ∧ n < n0)) → v (16 * c + n) = (ent g q b t r c n).1 ∧ k (16 * c + n) = (ent g q b t r c n).2
theorem FI.step {g q : UInt64} {b : Int32} {t : Nat} {r : Nat → UInt64} {w : Nat} {v v' : Nat → UInt64} {k k' : Nat → Int32} {c n : Nat} (h : FI g q b t r w v k c n) (hw : w ≤ 16) (hv : n + reach t c < w) (hp : putOK v k v' k' (16 * c + n) (ent g q b t r c n)) : FI g q b t r w v' k' c (n + 1) := by
  intro c' n' hc hn hlt
  obtain ⟨p1, p2, p3⟩ := hp
  by_cases e : c' = c ∧ n' = n
  · obtain ⟨rfl, rfl⟩ := e
    exact ⟨p1, p2⟩
  · have ne : 16 * c' + n' ≠ 16 * c + n := by
      intro q
      have : n' < 16 := by omega
      have : n < 16 := by omega
      exact e (by omega)
    obtain ⟨q1, q2⟩ := p3 _ ne
    rw [q1, q2]
    exact h c' n' hc hn (by omega)
theorem FI.next {g q : UInt64} {b : Int32} {t : Nat} {r : Nat → UInt64} {w : Nat} {v : Nat → UInt64} {k : Nat → Int32} {c : Nat} (h : FI g q b t r w v k c (w - reach t c)) : FI g q b t r w v k (c + 1) 0 := fun c' n' hc hn hlt => h c' n' hc hn (by
  rcases hlt with q | ⟨_, q⟩
  · by_cases e : c' = c
    · subst e
      exact Or.inr ⟨rfl, by omega⟩
    · exact Or.inl (by omega)
  · omega)
/-- what stands before (c, n) is what its entry is made of -/
theorem FI.ready {g q : UInt64} {b : Int32} {t : Nat} {r : Nat → UInt64} {w : Nat} {v : Nat → UInt64} {k : Nat → Int32} {c n j : Nat} (h : FI g q b t r w v k c n) (hw : w ≤ 16) (ht : t < 4) (hr : ∀ n, n < w → dfin (r n) = true) (hc1 : 1 ≤ c) (hc : c < 16) (hv : n + reach t c < w) (hj : 16 * c + n = j + 16) :
    (¬ 2 ≤ k j → dfin (v j) = true) ∧ (¬ 2 ≤ k (j + 1) → dfin (v (j + 1)) = true) ∧ (t = 2 → ¬ 2 ≤ k (j + 2) → dfin (v (j + 2)) = true) ∧ (t < 2 → 2 ≤ c → ¬ 2 ≤ k (j - 16 + 1) → dfin (v (j - 16 + 1)) = true) ∧
    ent g q b t r c n = stepV g q b t c (v j, k j) (v (j + 1), k (j + 1)) (v (j + 2), k (j + 2)) (v (j - 16 + 1), k (j - 16 + 1)) := by
  obtain ⟨c', rfl⟩ : ∃ c', c = c' + 1 := ⟨c - 1, by omega⟩
  have r1 := reach_s t c'
  have hp : 1 ≤ (if t = 2 then 2 else 1 : Nat) := by split <;> decide
  have a0 := h c' n (by omega) (by omega) (Or.inl (by omega))
  have a1 := h c' (n + 1) (by omega) (by omega) (Or.inl (by omega))
  rw [show 16 * c' + n = j by omega] at a0
  rw [show 16 * c' + (n + 1) = j + 1 by omega] at a1
  have f0 := ent_fin (g := g) (q := q) (b := b) ht hr c' n (by omega)
  have f1 := ent_fin (g := g) (q := q) (b := b) ht hr c' (n + 1) (by omega)
  have a2 : t = 2 → v (j + 2) = (ent g q b t r c' (n + 2)).1 ∧ k (j + 2) = (ent g q b t r c' (n + 2)).2 ∧ (¬ 2 ≤ (ent g q b t r c' (n + 2)).2 → dfin (ent g q b t r c' (n + 2)).1 = true) := by
    intro t2
    rw [if_pos t2] at r1
    have a2 := h c' (n + 2) (by omega) (by omega) (Or.inl (by omega))
    rw [show 16 * c' + (n + 2) = j + 2 by omega] at a2
    exact ⟨a2.1, a2.2, ent_fin ht hr c' (n + 2) (by omega)⟩
  have ap : t < 2 → 2 ≤ c' + 1 → ∃ c'', c' = c'' + 1 ∧ v (j - 16 + 1) = (ent g q b t r c'' (n + 1)).1 ∧ k (j - 16 + 1) = (ent g q b t r c'' (n + 1)).2 ∧ (¬ 2 ≤ (ent g q b t r c'' (n + 1)).2 → dfin (ent g q b t r c'' (n + 1)).1 = true) := by
    intro tl c2
    obtain ⟨c'', rfl⟩ : ∃ c'', c' = c'' + 1 := ⟨c' - 1, by omega⟩
    have r0 := reach_s t c''
    have a2 := h c'' (n + 1) (by omega) (by omega) (Or.inl (by omega))
    rw [show 16 * c'' + (n + 1) = j - 16 + 1 by omega] at a2
    exact ⟨c'', rfl, a2.1, a2.2, ent_fin ht hr c'' (n + 1) (by omega)⟩
  refine ⟨by rw [a0.1, a0.2]; exact f0, by rw [a1.1, a1.2]; exact f1, fun t2 => by rw [(a2 t2).1, (a2 t2).2.1]; exact (a2 t2).2.2, fun tl c2 => by
    obtain ⟨c'', rfl, e1, e2, e3⟩ := ap tl c2
    rw [e1, e2]; exact e3, ?_⟩
  have eA : (v j, k j) = ent g q b t r c' n := Prod.ext a0.1 a0.2
  have eB : (v (j + 1), k (j + 1)) = ent g q b t r c' (n + 1) := Prod.ext a1.1 a1.2
  cases c' with
  | zero => exact (stepV_congr ht eA eB (fun t2 => Prod.ext (a2 t2).1 (a2 t2).2.1) (fun _ h2 => absurd h2 (by decide))).symm
  | succ c'' =>
    refine (stepV_congr ht eA eB (fun t2 => Prod.ext (a2 t2).1 (a2 t2).2.1) (fun tl c2 => ?_)).symm
    obtain ⟨c3, e0, e1, e2, e3⟩ := ap tl c2
    have : c3 = c'' := by omega
    subst this
    exact Prod.ext e1 e2
theorem sub_le {a b n : Nat} (ha : a < 2 ^ 30) (hb : b < 2 ^ 30) (hn : n < 2 ^ 31) : nI a - nI b ≤ nI n ↔ a ≤ n + b := by
  rw [Int32.le_iff_toInt_le, pk_sub_toInt ha hb, nI_toInt (by omega)]
  omega
theorem sub_ge0 {a b : Nat} (ha : a < 2 ^ 30) (hb : b < 2 ^ 30) : 0 ≤ nI a - nI b ↔ b ≤ a := by
  rw [Int32.le_iff_toInt_le, pk_sub_toInt ha hb]
  show (0 : Int) ≤ _ ↔ _
  omega
theorem two_mul' (c : Nat) : (2 : Int32) * nI c = nI (2 * c) := pk_mul 2 c
theorem x1_many {t c w : Nat} (ht : t < 4) (hc : c < 100) (hw : w < 100) : p_X1_manyIn (nI t) (nI c) (nI w) = some (nI (w - reach t c)) := by
  unfold p_X1_manyIn reach
  by_cases t2 : t = 2
  · subst t2
    rw [if_pos (show nI 2 = 2 from rfl), if_pos rfl, two_mul']
    by_cases h : 2 * c ≤ w
    · rw [if_pos ((sub_ge0 (by omega) (by omega)).mpr h), pk_sub h]
    · rw [if_neg (fun q => h ((sub_ge0 (by omega) (by omega)).mp q)), show w - 2 * c = 0 by omega]
      rfl
  · rw [if_neg (show ¬ nI t = 2 from fun h => t2 ((nI_eq (b := 2) (by omega) (by decide)).mp h)), if_neg t2]
    by_cases h : c ≤ w
    · rw [if_pos ((sub_ge0 (by omega) (by omega)).mpr h), pk_sub h]
    · rw [if_neg (fun q => h ((sub_ge0 (by omega) (by omega)).mp q)), show w - c = 0 by omega]
      rfl
theorem x9_there {t c n w : Nat} (ht : t < 4) (hc : c < 100) (hn : n < 2 ^ 31) (hw : w < 100) : p_X9_isThere (nI t) (nI w) (nI c) (nI n) = some (if c < 16 ∧ n + reach t c < w then 1 else 0) := by
  unfold p_X9_isThere reach
  by_cases t2 : t = 2
  · subst t2
    rw [if_pos (show nI 2 = 2 from rfl), if_pos rfl, if_neg (nI_pos (by omega)), if_neg (nI_pos (by omega)), two_mul', n16]
    by_cases h : 16 ≤ c
    · rw [if_pos (nI_le h (by omega)), if_neg (by omega)]
    · rw [if_neg (nI_ge (by omega) (by omega))]
      by_cases h2 : w ≤ n + 2 * c
      · rw [if_pos ((sub_le (by omega) (by omega) (by omega)).mpr h2), if_neg (by omega)]
      · rw [if_neg (fun q => h2 ((sub_le (by omega) (by omega) (by omega)).mp q)), if_pos (by omega)]
  · rw [if_neg (show ¬ nI t = 2 from fun h => t2 ((nI_eq (b := 2) (by omega) (by decide)).mp h)), if_neg t2, if_neg (nI_pos (by omega)), if_neg (nI_pos (by omega)), n16]
    by_cases h : 16 ≤ c
    · rw [if_pos (nI_le h (by omega)), if_neg (by omega)]
    · rw [if_neg (nI_ge (by omega) (by omega))]
      by_cases h2 : w ≤ n + c
      · rw [if_pos ((sub_le (by omega) (by omega) (by omega)).mpr h2), if_neg (by omega)]
      · rw [if_neg (fun q => h2 ((sub_le (by omega) (by omega) (by omega)).mp q)), if_pos (by omega)]
/-- what is asked of the settings -/
def setOK (g q : UInt64) : Prop := nn g = true ∧ 0 ≤ ky g ∧ qOK q
theorem put_1 (v : Nat → UInt64) (k : Nat → Int32) (i : Nat) (S : UInt64 × Int32) : putOK v k (vf_upd v i S.1) (upd k i S.2) i S := by
  refine ⟨by simp [vf_upd], by simp [upd], fun j hj => ⟨by simp [vf_upd, hj], by simp [upd, hj]⟩⟩
theorem x1_inner (st : (((Nat → UInt64) × Int32) × ((Nat → UInt64) × Int32) × (Nat → UInt64) × Int32)) {g q : UInt64} {b : Int32} {t w : Nat} {r : Nat → UInt64} (e0 : st.2.2.1 0 = g) (e1 : st.2.2.1 1 = q) (e2 : st.2.2.2 = b) (ok : setOK g q) (ht : t < 4) (hw : w ≤ 16) (hr : ∀ n, n < w → dfin (r n) = true) {c : Nat} (hc1 : 1 ≤ c) (hc : c < 16) :
    ∀ (m n f : Nat) (v : Nat → UInt64) (k : Nat → Int32), n + m = w - reach t c → FI g q b t r w v k c n → ∃ v' k', p_X1_build_L107 st (nI t) (f + m + 1) (nI c) (nI (w - reach t c)) (nI n) v k = some (nI c, v', k') ∧ FI g q b t r w v' k' c (w - reach t c) := by
  intro m
  induction m with
  | zero =>
    intro n f v k h hF
    rw [p_X1_build_L107, if_pos (nI_le (by omega) (by omega))]
    refine ⟨v, k, rfl, ?_⟩
    rw [← h]
    exact hF
  | succ m ih =>
    intro n f v k h hF
    obtain ⟨j, hj⟩ : ∃ j, 16 * c + n = j + 16 := ⟨16 * c + n - 16, by omega⟩
    obtain ⟨fx, fy, fz, fp, eS⟩ := hF.ready hw ht hr hc1 hc (by omega) hj
    rw [show f + (m + 1) + 1 = (f + m + 1) + 1 by omega, p_X1_build_L107, if_neg (nI_ge (by omega) (by omega)), show (0 : Int32).toNatClampNeg = 0 from rfl, show (1 : Int32).toNatClampNeg = 1 from rfl, e0, e1, e2, x1_entry v k ok.1 ok.2.1 ok.2.2 ht hc1 hc hj (by omega) fx fy fz fp _ eS, Option.bind_some, nI_1]
    refine ih (n + 1) f _ _ (by omega) (hF.step hw (by omega) ?_)
    rw [hj]
    exact put_1 v k _ _
theorem x1_outer (st : (((Nat → UInt64) × Int32) × ((Nat → UInt64) × Int32) × (Nat → UInt64) × Int32)) {g q : UInt64} {b : Int32} {t w : Nat} {r : Nat → UInt64} (e0 : st.2.2.1 0 = g) (e1 : st.2.2.1 1 = q) (e2 : st.2.2.2 = b) (ew : st.1.2 = nI w) (ok : setOK g q) (ht : t < 4) (hw : w ≤ 16) (hr : ∀ n, n < w → dfin (r n) = true) :
    ∀ (m c f : Nat) (v : Nat → UInt64) (k : Nat → Int32), c + m = 16 → 1 ≤ c → FI g q b t r w v k c 0 → ∃ v' k', p_X1_build_L85 st (nI t) (f + m + 1) (nI c) v k = some (v', k', nI t, g, q, b, nI w) ∧ FI g q b t r w v' k' 16 0 := by
  intro m
  induction m with
  | zero =>
    intro c f v k h h1 hF
    have : c = 16 := by omega
    subst this
    rw [p_X1_build_L85, if_pos (by decide), show (0 : Int32).toNatClampNeg = 0 from rfl, show (1 : Int32).toNatClampNeg = 1 from rfl, e0, e1, e2, ew]
    exact ⟨v, k, rfl, hF⟩
  | succ m ih =>
    intro c f v k h h1 hF
    obtain ⟨v1, k1, q1, q2⟩ := x1_inner st e0 e1 e2 ok ht hw hr h1 (show c < 16 by omega) (w - reach t c) 0 (300 - (w - reach t c) - 1) v k (by omega) hF
    rw [show 300 - (w - reach t c) - 1 + (w - reach t c) + 1 = 300 by omega] at q1
    rw [show f + (m + 1) + 1 = (f + m + 1) + 1 by omega, p_X1_build_L85, n16, if_neg (nI_ge (by omega) (by omega)), ew, x1_many ht (by omega) (by omega), Option.bind_some, show p_X1_build_L107 st (nI t) 300 (nI c) (nI (w - reach t c)) 0 v k = some (nI c, v1, k1) from q1, Option.bind_some]
    dsimp only
    rw [nI_1]
    exact ih (c + 1) f v1 k1 (by omega) (by omega) q2.next
theorem x1_copy (st : (((Nat → UInt64) × Int32) × ((Nat → UInt64) × Int32) × (Nat → UInt64) × Int32)) {g q : UInt64} {b : Int32} {t w : Nat} (ew : st.1.2 = nI w) (hw : w ≤ 16) :
    ∀ (m n f : Nat) (v : Nat → UInt64) (k : Nat → Int32), n + m = w → FI g q b t st.1.1 w v k 0 n → ∃ v' k', p_X1_build_L52 st (f + m + 1) (nI n) v k = some (v', k') ∧ FI g q b t st.1.1 w v' k' 1 0 := by
  intro m
  induction m with
  | zero =>
    intro n f v k h hF
    rw [p_X1_build_L52, ew, if_pos (nI_le (by omega) (by omega))]
    refine ⟨v, k, rfl, ?_⟩
    have r0 : reach t 0 = 0 := by unfold reach; split <;> rfl
    have : n = w - reach t 0 := by omega
    rw [this] at hF
    exact hF.next
  | succ m ih =>
    intro n f v k h hF
    have r0 : reach t 0 = 0 := by unfold reach; split <;> rfl
    rw [show f + (m + 1) + 1 = (f + m + 1) + 1 by omega, p_X1_build_L52, ew, if_neg (nI_ge (by omega) (by omega)), gD_t _ (inb_nI (by omega) (by decide)), nI_clamp (by omega), x1_put _ _ _ _ (by omega), Option.bind_some, nI_1]
    refine ih (n + 1) f _ _ (by omega) (hF.step hw (by omega) ?_)
    rw [show 16 * 0 + n = n by omega]
    exact put_1 v k n (st.1.1 n, 0)
theorem x1_outer_1 (st : (((Nat → UInt64) × Int32) × ((Nat → UInt64) × Int32) × (Nat → UInt64) × Int32)) {g q : UInt64} {b : Int32} {t w : Nat} {r : Nat → UInt64} (e0 : st.2.2.1 0 = g) (e1 : st.2.2.1 1 = q) (e2 : st.2.2.2 = b) (ew : st.2.1.2 = nI w) (ok : setOK g q) (ht : t < 4) (hw : w ≤ 16) (hr : ∀ n, n < w → dfin (r n) = true) :
    ∀ (m c f : Nat) (v : Nat → UInt64) (k : Nat → Int32), c + m = 16 → 1 ≤ c → FI g q b t r w v k c 0 → ∃ v' k', p_X1_build_L85_1 st (nI t) (f + m + 1) (nI c) v k = some (v', k', nI t, g, q, b, nI w) ∧ FI g q b t r w v' k' 16 0 := by
  intro m
  induction m with
  | zero =>
    intro c f v k h h1 hF
    have : c = 16 := by omega
    subst this
    rw [p_X1_build_L85_1, if_pos (by decide), show (0 : Int32).toNatClampNeg = 0 from rfl, show (1 : Int32).toNatClampNeg = 1 from rfl, e0, e1, e2, ew]
    exact ⟨v, k, rfl, hF⟩
  | succ m ih =>
    intro c f v k h h1 hF
    obtain ⟨v1, k1, q1, q2⟩ := x1_inner st e0 e1 e2 ok ht hw hr h1 (show c < 16 by omega) (w - reach t c) 0 (300 - (w - reach t c) - 1) v k (by omega) hF
    rw [show 300 - (w - reach t c) - 1 + (w - reach t c) + 1 = 300 by omega] at q1
    rw [show f + (m + 1) + 1 = (f + m + 1) + 1 by omega, p_X1_build_L85_1, n16, if_neg (nI_ge (by omega) (by omega)), ew, x1_many ht (by omega) (by omega), Option.bind_some, show p_X1_build_L107 st (nI t) 300 (nI c) (nI (w - reach t c)) 0 v k = some (nI c, v1, k1) from q1, Option.bind_some]
    dsimp only
    rw [nI_1]
    exact ih (c + 1) f v1 k1 (by omega) (by omega) q2.next
theorem x1_copy_1 (st : (((Nat → UInt64) × Int32) × ((Nat → UInt64) × Int32) × (Nat → UInt64) × Int32)) {g q : UInt64} {b : Int32} {t w : Nat} (ew : st.2.1.2 = nI w) (hw : w ≤ 16) :
    ∀ (m n f : Nat) (v : Nat → UInt64) (k : Nat → Int32), n + m = w → FI g q b t st.2.1.1 w v k 0 n → ∃ v' k', p_X1_build_L52_1 st (f + m + 1) (nI n) v k = some (v', k') ∧ FI g q b t st.2.1.1 w v' k' 1 0 := by
  intro m
  induction m with
  | zero =>
    intro n f v k h hF
    rw [p_X1_build_L52_1, ew, if_pos (nI_le (by omega) (by omega))]
    refine ⟨v, k, rfl, ?_⟩
    have r0 : reach t 0 = 0 := by unfold reach; split <;> rfl
    have : n = w - reach t 0 := by omega
    rw [this] at hF
    exact hF.next
  | succ m ih =>
    intro n f v k h hF
    have r0 : reach t 0 = 0 := by unfold reach; split <;> rfl
    rw [show f + (m + 1) + 1 = (f + m + 1) + 1 by omega, p_X1_build_L52_1, ew, if_neg (nI_ge (by omega) (by omega)), gD_t _ (inb_nI (by omega) (by decide)), nI_clamp (by omega), x1_put _ _ _ _ (by omega), Option.bind_some, nI_1]
    refine ih (n + 1) f _ _ (by omega) (hF.step hw (by omega) ?_)
    rw [show 16 * 0 + n = n by omega]
    exact put_1 v k n (st.2.1.1 n, 0)
/-- the class lays a table -/
theorem x1_build (st : (((Nat → UInt64) × Int32) × ((Nat → UInt64) × Int32) × (Nat → UInt64) × Int32)) {g q : UInt64} {b : Int32} {row t w : Nat} {r : Nat → UInt64} (hrow : row < 2) (e0 : st.2.2.1 0 = g) (e1 : st.2.2.1 1 = q) (e2 : st.2.2.2 = b) (hb : isB b = true) (er : r = if row = 0 then st.1.1 else st.2.1.1) (ew : (if row = 0 then st.1.2 else st.2.1.2) = nI w) (ok : setOK g q) (ht : t < 4) (hw : w ≤ 16) (hr : ∀ n, n < w → dfin (r n) = true) (v : Nat → UInt64) (k : Nat → Int32) :
    ∃ v' k', p_X1_build v k st (nI row) (nI t) = some (v', k', nI t, g, q, b, nI w) ∧ FI g q b t r w v' k' 16 0 := by
  unfold p_X1_build
  have z : ∀ (r : Nat → UInt64), FI g q b t r w v k 0 0 := fun r c n _ _ h => by omega
  rw [e2, gD_t _ hb, gD_t _ hb]
  by_cases c : row = 0
  · subst c
    rw [if_pos rfl] at er ew
    subst er
    obtain ⟨v1, k1, q1, q2⟩ := x1_copy st (g := g) (q := q) (b := b) (t := t) ew hw w 0 (300 - w - 1) v k (by omega) (z _)
    rw [show 300 - w - 1 + w + 1 = 300 by omega] at q1
    obtain ⟨v2, k2, q3, q4⟩ := x1_outer st e0 e1 e2 ew ok ht hw hr 15 1 284 v1 k1 rfl (by decide) q2
    rw [if_pos (show nI 0 = 0 from rfl), show p_X1_build_L52 st 300 0 v k = some (v1, k1) from q1, Option.bind_some]
    exact ⟨v2, k2, q3, q4⟩
  · have : row = 1 := by omega
    subst this
    rw [if_neg (by decide)] at er ew
    subst er
    obtain ⟨v1, k1, q1, q2⟩ := x1_copy_1 st (g := g) (q := q) (b := b) (t := t) ew hw w 0 (300 - w - 1) v k (by omega) (z _)
    rw [show 300 - w - 1 + w + 1 = 300 by omega] at q1
    obtain ⟨v2, k2, q3, q4⟩ := x1_outer_1 st e0 e1 e2 ew ok ht hw hr 15 1 284 v1 k1 rfl (by decide) q2
    rw [if_neg (by decide), show p_X1_build_L52_1 st 300 0 v k = some (v1, k1) from q1, Option.bind_some]
    exact ⟨v2, k2, q3, q4⟩
theorem x9_inner (s : Nat → UInt64) {g q : UInt64} {b : Int32} {t w : Nat} {r : Nat → UInt64} (e0 : s 34 = g) (e1 : s 35 = q) (hb : (s 37 = FP.dconst0 ∧ b = 0) ∨ (s 37 = FP.dconst1 ∧ b = 1)) (ok : setOK g q) (ht : t < 4) (hw : w ≤ 16) (hr : ∀ n, n < w → dfin (r n) = true) {c : Nat} (hc1 : 1 ≤ c) (hc : c < 16) :
    ∀ (m n f : Nat) (v : Nat → UInt64) (k : Nat → Int32), n + m = w - reach t c → FI g q b t r w v k c n → ∃ v' k', p_X9_laysTable_L68 s (nI t) (nI w) (f + m + 1) (nI c) (nI n) v k = some (nI c, v', k') ∧ FI g q b t r w v' k' c (w - reach t c) := by
  intro m
  induction m with
  | zero =>
    intro n f v k h hF
    rw [p_X9_laysTable_L68, x9_there ht (by omega) (by omega) (by omega), Option.bind_some, if_neg (show ¬ (c < 16 ∧ n + reach t c < w) by omega), if_pos rfl]
    refine ⟨v, k, rfl, ?_⟩
    rw [← h]
    exact hF
  | succ m ih =>
    intro n f v k h hF
    obtain ⟨j, hj⟩ : ∃ j, 16 * c + n = j + 16 := ⟨16 * c + n - 16, by omega⟩
    obtain ⟨fx, fy, fz, fp, eS⟩ := hF.ready hw ht hr hc1 hc (by omega) hj
    obtain ⟨v1, k1, q1, q2⟩ := x9_makes s v k e0 e1 hb ok.1 ok.2.1 ok.2.2 ht hc1 hc hj (by omega) fx fy fz fp _ eS
    rw [show f + (m + 1) + 1 = (f + m + 1) + 1 by omega, p_X9_laysTable_L68, x9_there ht (by omega) (by omega) (by omega), Option.bind_some, if_pos (show c < 16 ∧ n + reach t c < w by omega), if_neg (by decide), q1, Option.bind_some, nI_1]
    refine ih (n + 1) f _ _ (by omega) (hF.step hw (by omega) ?_)
    rw [hj]
    exact q2
theorem x9_outer (s : Nat → UInt64) {g q : UInt64} {b : Int32} {t w : Nat} {r : Nat → UInt64} (e0 : s 34 = g) (e1 : s 35 = q) (hb : (s 37 = FP.dconst0 ∧ b = 0) ∨ (s 37 = FP.dconst1 ∧ b = 1)) (ok : setOK g q) (ht : t < 4) (hw : w ≤ 16) (hr : ∀ n, n < w → dfin (r n) = true) :
    ∀ (m c f : Nat) (v : Nat → UInt64) (k : Nat → Int32), c + m = 16 → 1 ≤ c → FI g q b t r w v k c 0 → ∃ v' k', p_X9_laysTable_L58 s (nI t) (nI w) (f + m + 1) (nI c) v k = some (v', k', nI t, nI w) ∧ FI g q b t r w v' k' 16 0 := by
  intro m
  induction m with
  | zero =>
    intro c f v k h h1 hF
    have : c = 16 := by omega
    subst this
    rw [p_X9_laysTable_L58, if_pos (by decide)]
    exact ⟨v, k, rfl, hF⟩
  | succ m ih =>
    intro c f v k h h1 hF
    obtain ⟨v1, k1, q1, q2⟩ := x9_inner s e0 e1 hb ok ht hw hr h1 (show c < 16 by omega) (w - reach t c) 0 (300 - (w - reach t c) - 1) v k (by omega) hF
    rw [show 300 - (w - reach t c) - 1 + (w - reach t c) + 1 = 300 by omega] at q1
    rw [show f + (m + 1) + 1 = (f + m + 1) + 1 by omega, p_X9_laysTable_L58, n16, if_neg (nI_ge (by omega) (by omega)), show p_X9_laysTable_L68 s (nI t) (nI w) 300 (nI c) 0 v k = some (nI c, v1, k1) from q1, Option.bind_some]
    dsimp only
    rw [nI_1]
    exact ih (c + 1) f v1 k1 (by omega) (by omega) q2.next
theorem x9_copy (s : Nat → UInt64) {g q : UInt64} {b : Int32} {t w row : Nat} {r : Nat → UInt64} (hrow : row < 2) (er : ∀ n, n < w → s (16 * row + n) = r n) (hw : w ≤ 16) :
    ∀ (m n f : Nat) (v : Nat → UInt64) (k : Nat → Int32), n + m = w → FI g q b t r w v k 0 n → ∃ v' k', p_X9_laysTable_L13 s (nI row) (nI w) (f + m + 1) (nI n) v k = some (v', k') ∧ FI g q b t r w v' k' 1 0 := by
  intro m
  induction m with
  | zero =>
    intro n f v k h hF
    rw [p_X9_laysTable_L13, if_pos (nI_le (by omega) (by omega))]
    refine ⟨v, k, rfl, ?_⟩
    have r0 : reach t 0 = 0 := by unfold reach; split <;> rfl
    have : n = w - reach t 0 := by omega
    rw [this] at hF
    exact hF.next
  | succ m ih =>
    intro n f v k h hF
    have r0 : reach t 0 = 0 := by unfold reach; split <;> rfl
    rw [show f + (m + 1) + 1 = (f + m + 1) + 1 by omega, p_X9_laysTable_L13, if_neg (nI_ge (by omega) (by omega)), ixM, gD_t _ (inb_nI (by omega) (by decide)), gD_t _ (inb_nI (by omega) (by decide)), gD_t _ (inb_nI (by omega) (by decide)), nI_clamp (show 16 * row + n < 2 ^ 31 by omega), nI_clamp (show n < 2 ^ 31 by omega), er n (by omega), nI_1]
    refine ih (n + 1) f _ _ (by omega) (hF.step hw (by omega) ?_)
    rw [show 16 * 0 + n = n by omega]
    exact put_1 v k n (r n, 0)
/-- the reference lays a table -/
theorem x9_lays (s : Nat → UInt64) {g q : UInt64} {b : Int32} {row t w : Nat} {r : Nat → UInt64} (hrow : row < 2) (e0 : s 34 = g) (e1 : s 35 = q) (hb : (s 37 = FP.dconst0 ∧ b = 0) ∨ (s 37 = FP.dconst1 ∧ b = 1)) (er : ∀ n, n < w → s (16 * row + n) = r n) (ok : setOK g q) (ht : t < 4) (hw : w ≤ 16) (hr : ∀ n, n < w → dfin (r n) = true) (v : Nat → UInt64) (k : Nat → Int32) :
    ∃ v' k', p_X9_laysTable s v k (nI row) (nI t) (nI w) = some (v', k', nI t, nI w) ∧ FI g q b t r w v' k' 16 0 := by
  unfold p_X9_laysTable
  obtain ⟨v1, k1, q1, q2⟩ := x9_copy s (g := g) (q := q) (b := b) (t := t) hrow er hw w 0 (300 - w - 1) v k (by omega) (fun c n _ _ h => by omega)
  rw [show 300 - w - 1 + w + 1 = 300 by omega] at q1
  obtain ⟨v2, k2, q3, q4⟩ := x9_outer s e0 e1 hb ok ht hw hr 15 1 284 v1 k1 rfl (by decide) q2
  rw [show p_X9_laysTable_L13 s (nI row) (nI w) 300 0 v k = some (v1, k1) from q1, Option.bind_some]
  exact ⟨v2, k2, q3, q4⟩
