/-! the law -/
theorem puts0 : (p_L_puts (fun _ => 0) 0 (211194883637 : Int64)).map (fun x => (x.1, x.2.2)) = some ((1 : Int32), nI 5) := by decide +kernel
theorem puts_ok : ∃ T, p_L_puts (fun _ => 0) 0 (211194883637 : Int64) = some ((1 : Int32), T, nI 5) := by
  have h := puts0
  cases e : p_L_puts (fun _ => 0) 0 (211194883637 : Int64) with
  | none =>
    rw [e] at h
    cases h
  | some x =>
    rw [e] at h
    obtain ⟨a, T, n⟩ := x
    have h2 := Prod.mk.inj (Option.some.inj h)
    exact ⟨T, by rw [← h2.1, ← h2.2]⟩
theorem law_ok {L : Nat} (hL : L ≤ 260) (xs : Nat → Int32) : p_L_law L xs = some 1 := by
  obtain ⟨T, hT⟩ := puts_ok
  unfold p_L_law
  rw [texts_ok, Option.bind_some, if_neg one0, halves_ok, Option.bind_some, if_neg one0, same_ok, Option.bind_some, if_neg one0, hT, Option.bind_some]
  try dsimp only
  rw [if_neg one0]
  exact loop_ok hL (fun c w st r0 r1 r2 r3 old size ta td v kk tb gu ra br le gc gE gV dr hc hI => s403_ok c w st r0 r1 r2 r3 old size ta td v kk tb gu ra br le gc gE gV dr _ _ _ hc hI) 36 0 263 0 _ _ _ _ _ _ _ _ _ _ _ _ _ _ _ _ _ _ _ _ _ rfl (Nat.le_refl _) ⟨⟨_, fun _ => 0, 0, rel0, 0, 0, by decide, by decide, rfl, rfl, rfl, fun j hj => absurd hj (Nat.not_lt_zero _)⟩, 0, 0, by decide, by decide, rfl, rfl, Nat.le_refl _, fun j hj => absurd hj (Nat.not_lt_zero _)⟩
