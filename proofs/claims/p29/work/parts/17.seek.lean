/-! the guess: the class's and the reference's seeking go hand in hand -/
theorem pf_k (v : UInt64) : ¬ 3 < (pfV v).2 := by
  unfold pfV
  split
  · exact (by decide : ¬ (3 : Int32) < 0)
  · exact (by decide : ¬ (3 : Int32) < 2)
theorem pu_k (b : Int32) (v : UInt64) : ¬ 3 < (puV b v).2 := by
  unfold puV
  split
  · exact (by decide : ¬ (3 : Int32) < 1)
  · exact (by decide : ¬ (3 : Int32) < 2)
theorem stepV_k (g q : UInt64) (b : Int32) (t c : Nat) (A B C P : UInt64 × Int32) : ¬ 3 < (stepV g q b t c A B C P).2 := by
  unfold stepV
  split
  · decide
  · split
    · unfold triV triW
      split
      · exact pu_k _ _
      · split
        · exact pu_k _ _
        · split
          · decide
          · exact pf_k _
    · split
      · unfold ratV
        split
        · exact pu_k _ _
        · exact pf_k _
      · unfold invV
        split
        · exact pu_k _ _
        · exact pf_k _
theorem ent_k (g q : UInt64) (b : Int32) (t : Nat) (r : Nat → UInt64) : ∀ c n, ¬ 3 < (ent g q b t r c n).2 := by
  intro c n
  match c with
  | 0 => exact (by decide : ¬ (3 : Int32) < 0)
  | 1 => exact stepV_k _ _ _ _ _ _ _ _ _
  | c + 2 => exact stepV_k _ _ _ _ _ _ _ _ _
/-- both tables have the same entries, so far as they are w long -/
def AG (t w : Nat) (v : Nat → UInt64) (k : Nat → Int32) (v' : Nat → UInt64) (k' : Nat → Int32) : Prop := ∀ c n, c < 16 → n + reach t c < w → v (16 * c + n) = v' (16 * c + n) ∧ k (16 * c + n) = k' (16 * c + n) ∧ (k (16 * c + n) < 2 → dfin (v (16 * c + n)) = true) ∧ ¬ 3 < k (16 * c + n)
theorem AG.of {g q : UInt64} {b : Int32} {t : Nat} {r : Nat → UInt64} {w w0 : Nat} {v v' : Nat → UInt64} {k k' : Nat → Int32} (h : FG g q b t r w0 v k) (h' : FG g q b t r w v' k') (hw : w ≤ w0) (ht : t < 4) (hr : ∀ n, n < w0 → dfin (r n) = true) : AG t w v k v' k' := by
  intro c n hc hn
  obtain ⟨a1, a2⟩ := h c n hc (by omega)
  obtain ⟨b1, b2⟩ := h' c n hc hn
  refine ⟨by rw [a1, b1], by rw [a2, b2], fun q => ?_, by rw [a2]; exact ent_k _ _ _ _ _ _ _⟩
  rw [a1]
  rw [a2] at q
  exact ent_fin ht hr c n (by omega) (Int32.not_le.mpr q)
theorem e1_neg {o : Option Nat} (h : ∀ e, o = some e → e < 2 ^ 30) : e1 o < 0 ↔ o = none := by
  cases o with
  | none => exact ⟨fun _ => rfl, fun _ => by decide⟩
  | some e => exact ⟨fun q => absurd q (nI_pos (by have := h e rfl; omega)), fun q => by cases q⟩
/-- what the class and the reference hold while they seek a guess -/
def GR (vc vm : UInt64) (f col : Int32) (er val : UInt64) (gd : Int32) (gs ge : UInt64) : Prop :=
  (f = 0 ∧ col = 0 ∧ er = FP.dconst0 ∧ val = vc ∧ gd = -5 ∧ gs = vm ∧ ge = nanC) ∨ (f = 1 ∧ col = gd ∧ er = ge ∧ val = gs ∧ nn er = true ∧ dfin val = true ∧ ∃ c : Nat, c < 16 ∧ gd = nI c)
theorem guess_l {v v' : Nat → UInt64} {k k' : Nat → Int32} {t w step : Nat} (ag : AG t w v k v' k') (ht : t < 4) (hw : w ≤ 16) (hs1 : 1 ≤ step) (hs2 : step ≤ 2) (vc vm : UInt64) :
    ∀ (d c f f' : Nat) (fo col : Int32) (er val : UInt64) (gd : Int32) (gs ge : UInt64), step ≤ c → c < 18 → 18 ≤ c + d → GR vc vm fo col er val gd gs ge →
      ∃ (fo' col' : Int32) (er' val' : UInt64) (gd' : Int32) (gs' ge' : UInt64), p_X1_seekGuess_L49 v k (nI t) (nI w) (f + d + 1) (nI step) fo (nI c) col er val = some (fo', col', er', val') ∧ p_X9_guesses_L63 (v', k', nI t, nI w) (f' + d + 1) (nI step) (nI c) gd gs ge = some (v', k', nI t, nI w, gd', gs', ge') ∧ GR vc vm fo' col' er' val' gd' gs' ge' := by
  intro d
  induction d with
  | zero => intro c f f' fo col er val gd gs ge h1 h2 h3; omega
  | succ d ih =>
    intro c f f' fo col er val gd gs ge h1 h2 h3 hG
    rw [show f + (d + 1) + 1 = (f + d + 1) + 1 by omega, show f' + (d + 1) + 1 = (f' + d + 1) + 1 by omega, p_X1_seekGuess_L49, p_X9_guesses_L63]
    dsimp only
    by_cases c16 : 16 ≤ c
    · rw [if_pos (show (16 : Int32) ≤ nI c from nI_le (a := 16) c16 (by omega)), if_pos (show (16 : Int32) ≤ nI c from nI_le (a := 16) c16 (by omega))]
      exact ⟨_, _, _, _, _, _, _, rfl, rfl, hG⟩
    · have hc : c < 16 := by omega
      have cs : c - step < 16 := by omega
      rw [if_neg (show ¬ (16 : Int32) ≤ nI c from nI_ge (b := 16) hc (by decide)), if_neg (show ¬ (16 : Int32) ≤ nI c from nI_ge (b := 16) hc (by decide)), pk_sub h1, nI_add c step, x1_end k ht hw hc, x1_end k ht hw cs, x9_end k' ht hw hc, x9_end k' ht hw cs, Option.bind_some, Option.bind_some, Option.bind_some, Option.bind_some,
        ← lastE_congr (K := fun j => k (16 * c + j)) (K' := fun j => k' (16 * c + j)) (fun j hj => (ag c j hc (by omega)).2.1), ← lastE_congr (K := fun j => k (16 * (c - step) + j)) (K' := fun j => k' (16 * (c - step) + j)) (fun j hj => (ag (c - step) j cs (by omega)).2.1)]
      have go := fun fo col er val gd gs ge hG => ih (c + step) f f' fo col er val gd gs ge (by omega) (by omega) (by omega) hG
      cases hE : lastE (fun j => k (16 * c + j)) (w - reach t c) with
      | none =>
        rw [if_pos (show e1 none < 0 by decide), if_pos (show e5 none < 0 by decide)]
        exact go _ _ _ _ _ _ _ hG
      | some e =>
        obtain ⟨le, ke⟩ := lastE_lt hE
        rw [if_neg (show ¬ e1 (some e) < 0 from nI_pos (by omega)), if_neg (show ¬ e5 (some e) < 0 from nI_pos (by omega))]
        cases hB : lastE (fun j => k (16 * (c - step) + j)) (w - reach t (c - step)) with
        | none =>
          rw [if_neg (show ¬ 0 ≤ e1 none by decide), if_pos (show e5 none < 0 by decide)]
          exact go _ _ _ _ _ _ _ hG
        | some b =>
          obtain ⟨lb, kb⟩ := lastE_lt hB
          obtain ⟨a1, a2, a3, a4⟩ := ag c e hc (by omega)
          obtain ⟨b1, b2, b3, b4⟩ := ag (c - step) b cs (by omega)
          have fe := a3 ke
          have fb := b3 kb
          have nd := nn_sub (dfin_nn fe) fb
          rw [if_pos (show 0 ≤ e1 (some b) from nI_pos' (by omega)), if_neg (show ¬ e5 (some b) < 0 from nI_pos (by omega)),
            show p_X1_valueAt v (nI c) (e1 (some e)) = some (v (16 * c + e)) from x1_valueAt v (by omega), show p_X1_valueAt v (nI (c - step)) (e1 (some b)) = some (v (16 * (c - step) + b)) from x1_valueAt v (by omega),
            show p_X9_x v' (nI c) (e5 (some e)) = some (v' (16 * c + e)) from x9_x v' (by omega), show p_X9_x v' (nI (c - step)) (e5 (some b)) = some (v' (16 * (c - step) + b)) from x9_x v' (by omega), Option.bind_some, Option.bind_some, Option.bind_some, Option.bind_some, ← a1, ← b1, dop_t nd, dop_t nd, x3_size, x9_size, Option.bind_some, Option.bind_some]
          have ns := sz_nn nd
          rcases hG with ⟨rfl, rfl, rfl, rfl, rfl, rfl, rfl⟩ | ⟨rfl, rfl, rfl, rfl, hn, hf, cc, hcc, hcc2⟩
          · rw [if_pos rfl, if_pos (show (-5 : Int32) < 0 by decide), Option.bind_some]
            exact go _ _ _ _ _ _ _ (Or.inr ⟨rfl, rfl, rfl, rfl, ns, fe, c, hc, rfl⟩)
          · rw [if_neg (show ¬ (1 : Int32) = 0 by decide), if_neg (show ¬ col < 0 by rw [hcc2]; exact nI_pos (by omega)), Option.bind_some]
            by_cases q : 0 ≤ Op.cmpValue (FP.dcmp (sz (FP.dsub (v (16 * c + e)) (v (16 * (c - step) + b)))) er) CmpOp.g
            · rw [if_pos q, if_pos q]
              exact go _ _ _ _ _ _ _ (Or.inr ⟨rfl, rfl, rfl, rfl, hn, hf, cc, hcc, hcc2⟩)
            · rw [if_neg q, if_neg q]
              exact go _ _ _ _ _ _ _ (Or.inr ⟨rfl, rfl, rfl, rfl, ns, fe, c, hc, rfl⟩)
def stepN (t : Nat) : Nat := if 2 ≤ t then 1 else 2
/-- the class seeks a guess over its table, cut to w; the reference over a table of w -/
theorem seek {v v' : Nat → UInt64} {k k' : Nat → Int32} {t w : Nat} (ag : AG t w v k v' k') (ht : t < 4) (hw : w ≤ 16) (vm : UInt64) :
    ∃ (fo col : Int32) (er val : UInt64) (gd : Int32) (gs ge : UInt64), p_X1_seekGuess v k (nI t) (nI w) = some (fo, col, er, val) ∧ p_X9_guesses_L63 (v', k', nI t, nI w) 300 (nI (stepN t)) (nI (stepN t)) (-5) vm nanC = some (v', k', nI t, nI w, gd, gs, ge) ∧ GR (if w = 0 then FP.dconst0 else v (w - 1)) vm fo col er val gd gs ge := by
  have hs1 : 1 ≤ stepN t := by unfold stepN; split <;> omega
  have hs2 : stepN t ≤ 2 := by unfold stepN; split <;> omega
  obtain ⟨fo, col, er, val, gd, gs, ge, h1, h2, h3⟩ := guess_l ag ht hw hs1 hs2 (if w = 0 then FP.dconst0 else v (w - 1)) vm (18 - stepN t) (stepN t) (281 + stepN t) (281 + stepN t) 0 0 FP.dconst0 (if w = 0 then FP.dconst0 else v (w - 1)) (-5) vm nanC (by omega) (by omega) (by omega) (Or.inl ⟨rfl, rfl, rfl, rfl, rfl, rfl, rfl⟩)
  rw [show 281 + stepN t + (18 - stepN t) + 1 = 300 by omega] at h1 h2
  refine ⟨fo, col, er, val, gd, gs, ge, ?_, h2, h3⟩
  have hB : isB fo = true := by
    rcases h3 with h3 | h3 <;> rw [h3.1] <;> rfl
  unfold p_X1_seekGuess
  by_cases t2 : 2 ≤ t
  · rw [show stepN t = 1 from if_pos t2] at h1
    rw [if_pos (show 2 ≤ nI t from nI_le (a := 2) t2 (by omega))]
    by_cases w0 : w = 0
    · subst w0
      rw [if_pos rfl] at h1
      rw [if_pos (show nI 0 ≤ 0 by decide), show p_X1_seekGuess_L49 v k (nI t) (nI 0) 300 1 0 1 0 FP.dconst0 FP.dconst0 = some (fo, col, er, val) from h1, Option.bind_some, gD_t _ hB]
    · rw [if_neg w0] at h1
      rw [if_neg (nI_nle (by omega) (by omega)), nI_s1 (by omega), gD_t _ (inb_nI (by omega) (by decide)), nI_clamp (by omega), show p_X1_seekGuess_L49 v k (nI t) (nI w) 300 1 0 1 0 FP.dconst0 (v (w - 1)) = some (fo, col, er, val) from h1, Option.bind_some, gD_t _ hB]
  · rw [show stepN t = 2 from if_neg t2] at h1
    rw [if_neg (show ¬ 2 ≤ nI t from nI_ge (b := 2) (by omega) (by decide))]
    by_cases w0 : w = 0
    · subst w0
      rw [if_pos rfl] at h1
      rw [if_pos (show nI 0 ≤ 0 by decide), show p_X1_seekGuess_L49 v k (nI t) (nI 0) 300 2 0 2 0 FP.dconst0 FP.dconst0 = some (fo, col, er, val) from h1, Option.bind_some, gD_t _ hB]
    · rw [if_neg w0] at h1
      rw [if_neg (nI_nle (by omega) (by omega)), nI_s1 (by omega), gD_t _ (inb_nI (by omega) (by decide)), nI_clamp (by omega), show p_X1_seekGuess_L49 v k (nI t) (nI w) 300 2 0 2 0 FP.dconst0 (v (w - 1)) = some (fo, col, er, val) from h1, Option.bind_some, gD_t _ hB]
/-- the reference's guess out of its table and its seeking -/
theorem x9_guess (s e : Nat → UInt64) (kk : Nat → Int32) {row t w : Nat} {v' : Nat → UInt64} {k' : Nat → Int32} (hrow : row < 2) (ht : t < 4) (hw : w ≤ 16) (hl : p_X9_laysTable s e kk (nI row) (nI t) (nI w) = some (v', k', nI t, nI w)) :
    p_X9_guesses s e kk (nI row) (nI t) (nI w) = p_X9_guesses_L63 (v', k', nI t, nI w) 300 (nI (stepN t)) (nI (stepN t)) (-5) (if w = 0 then nanC else s (16 * row + w - 1)) nanC := by
  unfold p_X9_guesses
  rw [hl, Option.bind_some, ixM]
  by_cases w0 : w = 0
  · subst w0
    rw [if_pos (show nI 0 = 0 from rfl), if_pos rfl]
    by_cases t2 : 2 ≤ t
    · rw [if_pos (show 2 ≤ nI t from nI_le (a := 2) t2 (by omega)), show stepN t = 1 from if_pos t2]
      rfl
    · rw [if_neg (show ¬ 2 ≤ nI t from nI_ge (b := 2) (by omega) (by decide)), show stepN t = 2 from if_neg t2]
      rfl
  · rw [if_neg (nI_ne0 (by omega) (by omega)), if_neg w0, nI_s1 (by omega), gD_t _ (inb_nI (by omega) (by decide)), nI_clamp (by omega)]
    by_cases t2 : 2 ≤ t
    · rw [if_pos (show 2 ≤ nI t from nI_le (a := 2) t2 (by omega)), show stepN t = 1 from if_pos t2]
      rfl
    · rw [if_neg (show ¬ 2 ≤ nI t from nI_ge (b := 2) (by omega) (by decide)), show stepN t = 2 from if_neg t2]
      rfl
