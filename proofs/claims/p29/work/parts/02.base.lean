/-! base: what every walk shares: guards of the mirrors, the worlds' words, calls of a contract -/
def gD {α : Type} (b : Bool) (k : Option α) : Option α := match b with
  | true => k
  | false => none
theorem gD_h {α : Type} {b : Bool} {k : Option α} {o : α} (h : gD b k = some o) : b = true ∧ k = some o := by
  cases b
  · exact absurd h (by simp [gD])
  · exact ⟨rfl, h⟩
theorem gD_t {α : Type} {b : Bool} (k : Option α) (h : b = true) : gD b k = k := by subst h; rfl
def inb (i : Int32) (n : Nat) : Bool := decide (0 ≤ i) && decide (i.toNatClampNeg < n)
theorem inb_in {i : Int32} {n : Nat} (h : inb i n = true) : vp_in i n := by
  have h2 : 0 ≤ i ∧ i.toNatClampNeg < n := by simpa [inb] using h
  intro q
  rcases q with q | q
  · exact absurd h2.1 (Int32.not_le.mpr q)
  · omega
def nn (r : UInt64) : Bool := decide (r &&& 0x7fffffffffffffff ≤ 0x7ff0000000000000)
theorem nn_n {r : UInt64} (h : nn r = true) : vf_n64 r := @of_decide_eq_true (r &&& 0x7fffffffffffffff ≤ 0x7ff0000000000000) _ h
def dop {α : Type} (r : UInt64) (k : UInt64 → Option α) : Option α := gD (nn r) (k r)
theorem dop_h {α : Type} {r : UInt64} {k : UInt64 → Option α} {o : α} (h : dop r k = some o) : vf_n64 r := nn_n (gD_h h).1
theorem dop_at {α : Type} {r y : UInt64} {k : UInt64 → Option α} {o : α} (e : y = r) (h : dop r k = some o) : k y = some o := by
  subst e
  exact (gD_h h).2
theorem if_t {c : Prop} [Decidable c] {α : Type} {a b o : α} (hc : c) (h : (if c then a else b) = o) : a = o := (if_pos hc).symm.trans h
theorem if_f {c : Prop} [Decidable c] {α : Type} {a b o : α} (hc : ¬ c) (h : (if c then a else b) = o) : b = o := (if_neg hc).symm.trans h
theorem bind_s {α β : Type} {x : Option α} {k : α → Option β} {o : β} (h : x.bind k = some o) : ∃ y, x = some y ∧ k y = some o := by
  cases x with
  | none => exact absurd h (by simp)
  | some y => exact ⟨y, rfl, h⟩
def isB (x : Int32) : Bool := decide (x = 0) || decide (x = 1)
theorem isB_h {x : Int32} (h : isB x = true) : x = 0 ∨ x = 1 := by simpa [isB] using h
theorem isB_n {x : Int32} (h : isB x = true) : narrow .boolean (.int x) = .int x := by rcases isB_h h with rfl | rfl <;> rfl
theorem isB_f {x : Int32} (h : isB x = true) : fits .boolean (.int x) = true := by rcases isB_h h with rfl | rfl <;> rfl
theorem tb_0 {x : Int32} : ∀ k : Nat, k < 0 → ¬ x = nI k := fun _ h => absurd h (Nat.not_lt_zero _)
theorem tb_s {x y : Int32} {n : Nat} (h : ∀ k : Nat, k < n → ¬ x = nI k) (e : nI n = y) (h2 : ¬ x = y) : ∀ k : Nat, k < n + 1 → ¬ x = nI k := by
  intro k hk
  by_cases hn : k = n
  · subst hn; rw [e]; exact h2
  · exact h k (by omega)
theorem tb_out {x : Int32} {n : Nat} {hi : Int} (h : ∀ k : Nat, k < n → ¬ x = nI k) (hn : n < 2 ^ 31) (e : hi = (n : Int) - 1) : x.toInt < 0 ∨ hi < x.toInt := by
  by_cases h0 : x.toInt < 0
  · exact Or.inl h0
  · refine Or.inr ?_
    by_cases h1 : hi < x.toInt
    · exact h1
    · refine absurd ?_ (h x.toInt.toNat (by omega))
      apply Int32.toInt_inj.mp
      rw [nI_toInt (by omega)]
      omega
-- the worlds
abbrev tyK (k : Nat → ClassId) : List (ClassId × FieldType) := [(k 0, .char), (k 1, .double), (k 2, .int), (k 3, .object "LimitTables$State"), (k 4, .long)]
abbrev bW (D : va_G) (k : Nat → ClassId) (sz : Nat) (ws : va_W) : State → Prop := fun U => U.heap.size = sz ∧ va_P D vwCl ws U.heap ∧ va_K D vwCl (tyK k) U ∧ va_D (fun _ => True) ws
abbrev bO (D : va_G) (k : Nat → ClassId) (A : Nat → Prop) (ws : va_W) : State → Prop := fun t => va_P D vwCl ws t.heap ∧ va_K D vwCl (tyK k) t ∧ va_D A ws
abbrev aD (f : Nat → UInt64) : (Nat → Int32) ⊕ (Nat → Int64) ⊕ (Nat → UInt32) ⊕ (Nat → UInt64) ⊕ (Nat → Option Nat) := .inr (.inr (.inr (.inl f)))
abbrev aI (f : Nat → Int32) : (Nat → Int32) ⊕ (Nat → Int64) ⊕ (Nat → UInt32) ⊕ (Nat → UInt64) ⊕ (Nat → Option Nat) := .inl f
abbrev aR (f : Nat → Option Nat) : (Nat → Int32) ⊕ (Nat → Int64) ⊕ (Nat → UInt32) ⊕ (Nat → UInt64) ⊕ (Nat → Option Nat) := .inr (.inr (.inr (.inr f)))
def ring4 (a b c d : Nat) : Nat → Option Nat := va_up (va_up (va_up (va_up (fun _ => none) 0 (some a)) 1 (some b)) 2 (some c)) 3 (some d)
/-- words of private constructors, as the states' tables have them -/
def zN (l : List (String × Nat × MethodName × String)) (U : State) : Prop := ∀ q ∈ l, va_Nw (.methodLinkNest q.1 q.2.1 q.2.2.1 q.2.2.2) U
theorem zN.call {l : List (String × Nat × MethodName × String)} {U : State} {g : JFrame} {mk : MethodId} {a : Array Value} (h : zN l U) : zN l (U.calling g mk a) := fun q hq => va_Nw.same rfl rfl (h q hq)
theorem zN.warm {l : List (String × Nat × MethodName × String)} {s U : State} (hW : s.WarmedH U.vm) (h : zN l s) : zN l U := fun q hq => va_Nw.warmM hW (h q hq)
theorem zN.sub {l l' : List (String × Nat × MethodName × String)} {s : State} (h : zN l s) (hs : ∀ q ∈ l', q ∈ l) : zN l' s := fun q hq => h q (hs q hq)
def zZ (l : List (String × Nat × MethodName × String)) (U : State) : Prop := zN l U ∧ va_AO "LimitTables$State" U
theorem zZ.sub {l l' : List (String × Nat × MethodName × String)} {s : State} (h : zZ l s) (hs : ∀ q ∈ l', q ∈ l) : zZ l' s := ⟨h.1.sub hs, h.2⟩
section CC
variable {p : Program} {l : Launch} {e : Env} {R : Room} {s : State} {m : MethodId} {args : Array Value} {below : List Frame} {meth : Method} {c : Code} {H H0 : Heap} {locs : List Loc} {cells slots : Nat} {Q : State → Prop} {pc : Nat} {ls : Array Slot} {st0 rest : List Value} {a : Array Value} {A : Nat → Prop} {D : va_G} {k : Nat → ClassId} {ws wc wr w1 : va_W}
theorem cc_bl {av : List Value} {sz : Nat} : FrameBlind (va_Pc av (bW D k sz wc)) := fun a U g mk q => by
  obtain ⟨q0, q1, qP, qK, qD⟩ := q
  exact ⟨q0, q1, qP, va_K.moved (u := U) (U := U.calling g mk a) (Vm.Alike.refl U.vm) qK, qD⟩
theorem cc_ps {As : List Value} (hK : va_K D vwCl (tyK k) s) (hP : va_P D vwCl ws H) (hD : va_D A ws) (isC : List Nat) (hn : va_nd isC = true) (hC : isC.map (fun i => ws[i]?) = wc.map some) (hC2 : isC.filterMap (fun i => ws[i]?) = wc) : PreS s H (va_Pc As (bW D k H.size wc)) As := by
  refine ⟨cc_bl, fun U hU hW => ⟨rfl, by rw [hU], ?_, va_K.moved hW.alike hK, (hD.sub isC hn hC).weaken (fun _ _ _ _ => trivial)⟩⟩
  rw [hU]
  exact hP.sub isC hC2
theorem cc_pv {As : List Value} {b : Addr} {C : String} (hK : va_K D vwCl (tyK k) s) (hP : va_P D vwCl ws H) (hD : va_D A ws) (isC : List Nat) (hn : va_nd isC = true) (hC : isC.map (fun i => ws[i]?) = wc.map some) (hC2 : isC.filterMap (fun i => ws[i]?) = wc) (ci q0 : Nat) {q : vw_C} {fs : List Value} (hc : vwCl[ci]? = some q) (hq : q.1 = C) (he : ws[q0]? = some (b, .inr (ci, fs))) : PreV s H C b (va_Pc (.ref b :: As) (bW D k H.size wc)) As := by
  refine ⟨cc_bl, ?_, (cc_ps hK hP hD isC hn hC hC2).2⟩
  subst hq
  exact va_recv hK hP hc he
theorem lv_vv {x y : Value} (h : x = y) (kk : W p l e R s m args below meth c H locs cells slots Q (F0 m pc ls (y :: rest))) : W p l e R s m args below meth c H locs cells slots Q (F0 m pc ls (x :: rest)) := by
  subst h
  exact kk
theorem lv_iv {x y : Int32} (h : x = y) (kk : W p l e R s m args below meth c H locs cells slots Q (F0 m pc ls (.int y :: rest))) : W p l e R s m args below meth c H locs cells slots Q (F0 m pc ls (.int x :: rest)) := by
  subst h
  exact kk
theorem cc_psZ {As : List Value} {z : List (String × Nat × MethodName × String)} (hZ : zZ z s) (hK : va_K D vwCl (tyK k) s) (hP : va_P D vwCl ws H) (hD : va_D A ws) (isC : List Nat) (hn : va_nd isC = true) (hC : isC.map (fun i => ws[i]?) = wc.map some) (hC2 : isC.filterMap (fun i => ws[i]?) = wc) : PreS s H (va_Pc As (fun U => bW D k H.size wc U ∧ zZ z U)) As := by
  have h := cc_ps (As := As) hK hP hD isC hn hC hC2
  exact ⟨fun a U g mk q => ⟨(h.1 a U g mk ⟨q.1, q.2.1⟩).1, (h.1 a U g mk ⟨q.1, q.2.1⟩).2, q.2.2.1.call, va_AO.moved (u := U) (U := U.calling g mk a) (Vm.Alike.refl U.vm) q.2.2.2⟩, fun U hU hW => ⟨(h.2 U hU hW).1, (h.2 U hU hW).2, zN.warm hW hZ.1, va_AO.moved hW.alike hZ.2⟩⟩
theorem ra_eq {cA c0 : ClassId} {ty : FieldType} (h1 : va_RA s cA ty) (h2 : va_RA s c0 ty) : cA = c0 := by
  cases ty with
  | object C =>
    obtain ⟨_, _, _, _, _, h1⟩ := h1
    obtain ⟨_, _, _, _, _, h2⟩ := h2
    exact Option.some.inj (h1.symm.trans h2)
  | _ => exact Option.some.inj ((show s.vm.findClass _ = some cA from h1).symm.trans h2)
theorem kc_eq {tys : List (ClassId × FieldType)} {cA c0 : ClassId} {ty : FieldType} (hK : va_K D vwCl (tys ++ [(cA, ty)]) s) (t0 : Nat) (ht : tys[t0]? = some (c0, ty)) : cA = c0 :=
  ra_eq (hK.2 tys.length (cA, ty) (by simp)).2 (hK.2 t0 (c0, ty) (by rw [List.getElem?_append_left (List.getElem?_eq_some_iff.mp ht).1]; exact ht)).2
theorem cc_i {r : Int32} (hr : va_Run p l e R s m args below meth c H locs cells slots 0 0 (F0 m pc ls st0) rest (va_Qi (fun (r' : Int32) (_ : Unit) => r' = r) (fun _ => bO D k (va_A wc H.size) w1) (va_A wc H.size) a) (va_A wc H.size)) (hP : va_P D vwCl ws H) (hD : va_D A ws) (hS : va_S A H0 H locs) (hA : ∀ q, H0.size ≤ q → A q) (isC isR : List Nat) (hC : isC.map (fun i => ws[i]?) = wc.map some) (hR : isR.map (fun i => ws[i]?) = wr.map some) (hn : va_nd isR = true) (hdis : ∀ i ∈ isR, i ∉ isC)
    (kk : ∀ (H1 : Heap) (locs1 : List Loc), va_P D vwCl (wr ++ w1) H1 → va_D A (wr ++ w1) → va_S A H0 H1 locs1 → W p l e R s m args below meth c H1 locs1 cells slots Q (F0 m (pc + 3) ls (.int r :: rest))) : W p l e R s m args below meth c H locs cells slots Q (F0 m pc ls st0) := by
  have hFc := va_free (wc := wc) hD hS hA isC hC
  refine va_calli hr hS (fun q _ h => hFc q h) hFc (fun r' u t H1 locs ht hvm hw hB hz1 hk1 hS => ?_)
  obtain ⟨hP1, hK1, hD1⟩ := hB
  rw [ht] at hP1
  obtain ⟨hP, hD⟩ := va_join (wr := wr) (w1 := w1) hP hD isC isR hC hR hn hdis hk1 hFc hP1 hD1
  subst hw
  exact kk H1 locs hP hD hS
theorem cc_d {r : UInt64} (hr : va_Run p l e R s m args below meth c H locs cells slots 0 0 (F0 m pc ls st0) rest (va_Qd (fun (r' : UInt64) (_ : Unit) => r' = r) (fun _ => bO D k (va_A wc H.size) w1) (va_A wc H.size) a) (va_A wc H.size)) (hP : va_P D vwCl ws H) (hD : va_D A ws) (hS : va_S A H0 H locs) (hA : ∀ q, H0.size ≤ q → A q) (isC isR : List Nat) (hC : isC.map (fun i => ws[i]?) = wc.map some) (hR : isR.map (fun i => ws[i]?) = wr.map some) (hn : va_nd isR = true) (hdis : ∀ i ∈ isR, i ∉ isC)
    (kk : ∀ (H1 : Heap) (locs1 : List Loc), va_P D vwCl (wr ++ w1) H1 → va_D A (wr ++ w1) → va_S A H0 H1 locs1 → W p l e R s m args below meth c H1 locs1 cells slots Q (F0 m (pc + 3) ls (.double r :: rest))) : W p l e R s m args below meth c H locs cells slots Q (F0 m pc ls st0) := by
  have hFc := va_free (wc := wc) hD hS hA isC hC
  refine va_calld hr hS (fun q _ h => hFc q h) hFc (fun r' u t H1 locs ht hvm hw hB hz1 hk1 hS => ?_)
  obtain ⟨hP1, hK1, hD1⟩ := hB
  rw [ht] at hP1
  obtain ⟨hP, hD⟩ := va_join (wr := wr) (w1 := w1) hP hD isC isR hC hR hn hdis hk1 hFc hP1 hD1
  subst hw
  exact kk H1 locs hP hD hS
theorem cc_l {r : Int64} (hr : va_Run p l e R s m args below meth c H locs cells slots 0 0 (F0 m pc ls st0) rest (va_Ql (fun (r' : Int64) (_ : Unit) => r' = r) (fun _ => bO D k (va_A wc H.size) w1) (va_A wc H.size) a) (va_A wc H.size)) (hP : va_P D vwCl ws H) (hD : va_D A ws) (hS : va_S A H0 H locs) (hA : ∀ q, H0.size ≤ q → A q) (isC isR : List Nat) (hC : isC.map (fun i => ws[i]?) = wc.map some) (hR : isR.map (fun i => ws[i]?) = wr.map some) (hn : va_nd isR = true) (hdis : ∀ i ∈ isR, i ∉ isC)
    (kk : ∀ (H1 : Heap) (locs1 : List Loc), va_P D vwCl (wr ++ w1) H1 → va_D A (wr ++ w1) → va_S A H0 H1 locs1 → W p l e R s m args below meth c H1 locs1 cells slots Q (F0 m (pc + 3) ls (.long r :: rest))) : W p l e R s m args below meth c H locs cells slots Q (F0 m pc ls st0) := by
  have hFc := va_free (wc := wc) hD hS hA isC hC
  refine va_calll hr hS (fun q _ h => hFc q h) hFc (fun r' u t H1 locs ht hvm hw hB hz1 hk1 hS => ?_)
  obtain ⟨hP1, hK1, hD1⟩ := hB
  rw [ht] at hP1
  obtain ⟨hP, hD⟩ := va_join (wr := wr) (w1 := w1) hP hD isC isR hC hR hn hdis hk1 hFc hP1 hD1
  subst hw
  exact kk H1 locs hP hD hS
theorem cc_v (hr : va_Run p l e R s m args below meth c H locs cells slots 0 0 (F0 m pc ls st0) rest (va_Qv (fun (_ : Unit) => True) (fun _ => bO D k (va_A wc H.size) w1) (va_A wc H.size) a) (va_A wc H.size)) (hP : va_P D vwCl ws H) (hD : va_D A ws) (hS : va_S A H0 H locs) (hA : ∀ q, H0.size ≤ q → A q) (isC isR : List Nat) (hC : isC.map (fun i => ws[i]?) = wc.map some) (hR : isR.map (fun i => ws[i]?) = wr.map some) (hn : va_nd isR = true) (hdis : ∀ i ∈ isR, i ∉ isC)
    (kk : ∀ (H1 : Heap) (locs1 : List Loc), va_P D vwCl (wr ++ w1) H1 → va_D A (wr ++ w1) → va_S A H0 H1 locs1 → W p l e R s m args below meth c H1 locs1 cells slots Q (F0 m (pc + 3) ls (rest))) : W p l e R s m args below meth c H locs cells slots Q (F0 m pc ls st0) := by
  have hFc := va_free (wc := wc) hD hS hA isC hC
  refine va_callv hr hS (fun q _ h => hFc q h) hFc (fun u t H1 locs ht hvm hw hB hz1 hk1 hS => ?_)
  obtain ⟨hP1, hK1, hD1⟩ := hB
  rw [ht] at hP1
  obtain ⟨hP, hD⟩ := va_join (wr := wr) (w1 := w1) hP hD isC isR hC hR hn hdis hk1 hFc hP1 hD1
  exact kk H1 locs hP hD hS
theorem cc_r {r : Nat} (hr : va_Run p l e R s m args below meth c H locs cells slots 0 0 (F0 m pc ls st0) rest (va_Qr (fun (_ : Unit) => True) (fun _ ra t => ra = r ∧ bO D k (va_A wc H.size) w1 t) (va_A wc H.size) a) (va_A wc H.size)) (hP : va_P D vwCl ws H) (hD : va_D A ws) (hS : va_S A H0 H locs) (hA : ∀ q, H0.size ≤ q → A q) (isC isR : List Nat) (hC : isC.map (fun i => ws[i]?) = wc.map some) (hR : isR.map (fun i => ws[i]?) = wr.map some) (hn : va_nd isR = true) (hdis : ∀ i ∈ isR, i ∉ isC)
    (kk : ∀ (H1 : Heap) (locs1 : List Loc), va_P D vwCl (wr ++ w1) H1 → va_D A (wr ++ w1) → va_S A H0 H1 locs1 → W p l e R s m args below meth c H1 locs1 cells slots Q (F0 m (pc + 3) ls (.ref r :: rest))) : W p l e R s m args below meth c H locs cells slots Q (F0 m pc ls st0) := by
  have hFc := va_free (wc := wc) hD hS hA isC hC
  refine va_callr hr hS (fun q _ h => hFc q h) hFc (fun u ra t H1 locs ht hvm hw hB hz1 hk1 hS => ?_)
  obtain ⟨rfl, hP1, hK1, hD1⟩ := hB
  rw [ht] at hP1
  obtain ⟨hP, hD⟩ := va_join (wr := wr) (w1 := w1) hP hD isC isR hC hR hn hdis hk1 hFc hP1 hD1
  exact kk H1 locs hP hD hS
end CC
/-- what the tables say of the classes of arrays -/
theorem ra_prim {s : State} {av : Array Value} {ty : FieldType} (h : (Cond.arrayClass ty).before av s = true) : ∃ cA, ArrOfT s cA ty ∧ s.vm.findClass ("[" ++ ty.toString) = some cA := by
  obtain ⟨cA, kA, comp, h1, h2, h3⟩ := Cond.arrayClass_spec h
  exact ⟨cA, fun n z => ⟨fun k h => (by cases h), kA, h2, comp, h3⟩, h1⟩
theorem ra_ref {s : State} {C : String} (h : va_AO C s) : ∃ cA, ArrOfT s cA (.object C) ∧ va_RA s cA (.object C) := by
  obtain ⟨comp, cA, kA, h1, h2, h3, h4, h5⟩ := Cond.arrayOver_spec h
  exact ⟨cA, fun n z => ⟨fun k h => (by cases h), kA, h3, comp, h4⟩, kA, comp, h3, h4, h1, h5⟩
theorem ra_all {s : State} {b : Addr} (hts : ∀ w ∈ lw_tbl, w.before #[Value.ref b] s = true) (hA : va_AO "LimitTables$State" s) : ∃ k : Nat → ClassId, ∀ (j : Nat) (q : ClassId × FieldType), (tyK k)[j]? = some q → ArrOfT s q.1 q.2 ∧ va_RA s q.1 q.2 := by
  obtain ⟨c0, a0, b0⟩ := ra_prim (hts (.arrayClass .char) (by decide +kernel))
  obtain ⟨c1, a1, b1⟩ := ra_prim (hts (.arrayClass .double) (by decide +kernel))
  obtain ⟨c2, a2, b2⟩ := ra_prim (hts (.arrayClass .int) (by decide +kernel))
  obtain ⟨c3, a3, b3⟩ := ra_ref hA
  obtain ⟨c4, a4, b4⟩ := ra_prim (hts (.arrayClass .long) (by decide +kernel))
  refine ⟨fun j => if j = 0 then c0 else if j = 1 then c1 else if j = 2 then c2 else if j = 3 then c3 else c4, ?_⟩
  intro j q hq
  match j, hq with
  | 0, hq => cases hq; exact ⟨a0, b0⟩
  | 1, hq => cases hq; exact ⟨a1, b1⟩
  | 2, hq => cases hq; exact ⟨a2, b2⟩
  | 3, hq => cases hq; exact ⟨a3, b3⟩
  | 4, hq => cases hq; exact ⟨a4, b4⟩
  | j + 5, hq => simp [tyK] at hq
