/-! laid by program: mirrors and contracts -/
def p_X0_exponentOf  (p1 : Int64) : Option (Int32) := some (((p1.toUInt64 >>> ((52 : Int32).toInt64.toUInt64 &&& Int64.toUInt64 63)).toInt64 &&& (2047 : Int64))).toInt32
abbrev rm_X0_exponentOf : Room := { frames := 0, cells := 0, slots := 0, locals := 0 }
set_option maxHeartbeats 4000000 in
set_option maxRecDepth 100000 in
theorem mt_X0_exponentOf (l : Launch) (D : va_G) (k : Nat → ClassId)  (sz : Nat)  (p1 : Int64) (o : Int32) (hf : p_X0_exponentOf p1 = some o)  : Met l yX0_exponentOf wsX0_exponentOf rm_X0_exponentOf (va_Pc [.long p1] (bW D k sz [])) (va_Qi (fun (r : Int32) (_ : Unit) => r = o) (fun _ => bO D k (va_A [] sz) []) (va_A [] sz)) 0 0 (va_A [] sz) := by
  unfold p_X0_exponentOf at hf
  refine Met.ofW (cc := cX0_exponentOf) (maxL := 2) (ret := (some .int)) (by decide) rfl ?_
  intro p e s m args below meth c s₁ B hml hv
  obtain ⟨rfl, hsz, hP, hK, hD0⟩ := hv
  have hx := B.exec
  have hb := B.bytes
  have hr := B.returns
  have hts := atoms_spec (ws := wsX0_exponentOf) B.pre
  have hown : s.vm.findClass RX0 = some m.cls := findClass_of_methodNamed B.named
  have hlocks := B.notSynchronized
  subst hsz
  have hD := hD0.self (sz := s.heap.size)
  generalize hAe : va_A [] s.heap.size = A at hD ⊢
  have hA : ∀ q : Nat, s.heap.size ≤ q → A q := fun q h => by rw [← hAe]; exact Or.inr h
  have hS : va_S A s.heap s.heap [] := va_S.rf
  have hl := lv_entry [.long p1] (n := 2) (Nat.le_of_ble_eq_true rfl)
  rw [lg_entry_eq]
  generalize (lg_sl [.long p1] ++ List.replicate (2 - (lg_sl [.long p1]).length) Slot.unset).toArray = ls at hl ⊢
  have hl : lv_has ls 2 [(0, .long p1)] := hl
  obtain ⟨H, hHe⟩ : ∃ H, H = s.heap := ⟨_, rfl⟩
  have hP : va_P D vwCl [] H := by rw [hHe]; exact hP
  have hS : va_S A s.heap H [] := by rw [hHe]; exact hS
  rw [← hHe]
  obtain ⟨locs, hLe⟩ : ∃ locs : List Loc, locs = [] := ⟨_, rfl⟩
  rw [← hLe] at hS ⊢
  clear hLe
  refine lv_lload_n hx hb dX0_exponentOf_0 rfl (lv_at hl 0 rfl) ?_
  refine lv_bipush (v := 52) hx hb dX0_exponentOf_1 (by decide) ?_
  refine lv_lushr hx hb dX0_exponentOf_3 rfl ?_
  refine lv_ldc2 (v := 2047) hx hb hown (hts (.constantLong RX0 7 (2047)) (by decide +kernel)) dX0_exponentOf_4 ?_
  refine lv_land hx hb dX0_exponentOf_7 ?_
  refine lv_l2i hx hb dX0_exponentOf_8 rfl ?_
  have ho := Option.some.inj hf
  subst ho
  exact W.iret (v := (((p1.toUInt64 >>> ((52 : Int32).toInt64.toUInt64 &&& Int64.toUInt64 63)).toInt64 &&& (2047 : Int64))).toInt32) hx hb hr (fun t ht hW => ⟨⟨(((p1.toUInt64 >>> ((52 : Int32).toInt64.toUInt64 &&& Int64.toUInt64 63)).toInt64 &&& (2047 : Int64))).toInt32, (), rfl, rfl, by rw [ht]; exact hP.sub (ws' := []) [] rfl, va_K.moved hW.alike hK, hD.sub (ws' := []) [] (by decide) rfl⟩, hS.F ht⟩) hS.2.2 dX0_exponentOf_9
def p_X0_isNan  (p1 : Int64) : Option (Int32) := (p_X0_exponentOf p1).bind fun x1 => (if x1 = (2047 : Int32) then (if (lg_cmp (p1 &&& (4503599627370495 : Int64)) (0 : Int64)) = 0 then some (0 : Int32) else some (1 : Int32)) else some (0 : Int32))
abbrev rm_X0_isNan : Room := { frames := 1, cells := 0, slots := 0, locals := 21 }
set_option maxHeartbeats 4000000 in
set_option maxRecDepth 100000 in
theorem mt_X0_isNan (l : Launch) (D : va_G) (k : Nat → ClassId)  (sz : Nat)  (p1 : Int64) (o : Int32) (hf : p_X0_isNan p1 = some o)  : Met l yX0_isNan wsX0_isNan rm_X0_isNan (va_Pc [.long p1] (bW D k sz [])) (va_Qi (fun (r : Int32) (_ : Unit) => r = o) (fun _ => bO D k (va_A [] sz) []) (va_A [] sz)) 0 0 (va_A [] sz) := by
  unfold p_X0_isNan at hf
  refine Met.ofW (cc := cX0_isNan) (maxL := 2) (ret := (some .boolean)) (by decide) rfl ?_
  intro p e s m args below meth c s₁ B hml hv
  obtain ⟨rfl, hsz, hP, hK, hD0⟩ := hv
  have hx := B.exec
  have hb := B.bytes
  have hr := B.returns
  have hts := atoms_spec (ws := wsX0_isNan) B.pre
  have hown : s.vm.findClass RX0 = some m.cls := findClass_of_methodNamed B.named
  have hlocks := B.notSynchronized
  subst hsz
  have hD := hD0.self (sz := s.heap.size)
  generalize hAe : va_A [] s.heap.size = A at hD ⊢
  have hA : ∀ q : Nat, s.heap.size ≤ q → A q := fun q h => by rw [← hAe]; exact Or.inr h
  have hS : va_S A s.heap s.heap [] := va_S.rf
  have hl := lv_entry [.long p1] (n := 2) (Nat.le_of_ble_eq_true rfl)
  rw [lg_entry_eq]
  generalize (lg_sl [.long p1] ++ List.replicate (2 - (lg_sl [.long p1]).length) Slot.unset).toArray = ls at hl ⊢
  have hl : lv_has ls 2 [(0, .long p1)] := hl
  obtain ⟨H, hHe⟩ : ∃ H, H = s.heap := ⟨_, rfl⟩
  have hP : va_P D vwCl [] H := by rw [hHe]; exact hP
  have hS : va_S A s.heap H [] := by rw [hHe]; exact hS
  rw [← hHe]
  obtain ⟨locs, hLe⟩ : ∃ locs : List Loc, locs = [] := ⟨_, rfl⟩
  rw [← hLe] at hS ⊢
  clear hLe
  refine lv_lload_n hx hb dX0_isNan_0 rfl (lv_at hl 0 rfl) ?_
  obtain ⟨x1, hx1, hf⟩ := bind_s hf
  refine cc_i (r := x1) (wc := []) (wr := []) (w1 := []) (va_runS (As := [.long p1]) (rest := []) ⟨hx, hb, hml, hown, hts⟩ (mt_X0_exponentOf l D k  _  p1 x1 hx1) (va_cwS 1 hts gX0_isNan_X0_exponentOf rfl rfl rfl (by decide +kernel) ⟨(Nat.le_of_ble_eq_true rfl), (Nat.le_of_ble_eq_true rfl)⟩) (cc_ps (wc := []) hK hP hD [] (by decide) rfl rfl) rfl rfl hl.1 rfl (lv_room (Nat.le_of_ble_eq_true rfl)) dX0_isNan_1 ⟨Nat.zero_le _, Nat.zero_le _⟩) hP hD hS hA [] [] rfl rfl (by decide) (by decide) (fun H locs hP hD hS => ?_)
  have hP : va_P D vwCl [] H := hP
  have hD : va_D A [] := hD
  refine lv_sipush (v := 2047) hx hb dX0_isNan_4 (by decide) ?_
  refine lv_icmp_ne (tgt := 24) hx hb dX0_isNan_7 (by decide) (fun c2 => ?_) (fun c2 => ?_)
  · skip
    have hf := if_f c2 hf
    refine lv_iconst (v := 0) hx hb dX0_isNan_24 (by decide) ?_
    have ho := Option.some.inj hf
    subst ho
    exact W.zret (v := (0 : Int32)) (ty := .boolean) hx hb hr rfl (fun t ht hW => ⟨⟨(0 : Int32), (), rfl, rfl, by rw [ht]; exact hP.sub (ws' := []) [] rfl, va_K.moved hW.alike hK, hD.sub (ws' := []) [] (by decide) rfl⟩, hS.F ht⟩) hS.2.2 dX0_isNan_25
  · skip
    have hf := if_t c2 hf
    refine lv_lload_n hx hb dX0_isNan_10 rfl (lv_at hl 0 rfl) ?_
    refine lv_ldc2 (v := 4503599627370495) hx hb hown (hts (.constantLong RX0 15 (4503599627370495)) (by decide +kernel)) dX0_isNan_11 ?_
    refine lv_land hx hb dX0_isNan_14 ?_
    refine lv_lconst (v := 0) hx hb dX0_isNan_15 (by decide) ?_
    refine W.lcmp hx hb dX0_isNan_16 ?_
    refine lv_if_eq (tgt := 24) hx hb dX0_isNan_17 (by decide) (fun c3 => ?_) (fun c3 => ?_)
    · skip
      have hf := if_t c3 hf
      refine lv_iconst (v := 0) hx hb dX0_isNan_24 (by decide) ?_
      have ho := Option.some.inj hf
      subst ho
      exact W.zret (v := (0 : Int32)) (ty := .boolean) hx hb hr rfl (fun t ht hW => ⟨⟨(0 : Int32), (), rfl, rfl, by rw [ht]; exact hP.sub (ws' := []) [] rfl, va_K.moved hW.alike hK, hD.sub (ws' := []) [] (by decide) rfl⟩, hS.F ht⟩) hS.2.2 dX0_isNan_25
    · skip
      have hf := if_f c3 hf
      refine lv_iconst (v := 1) hx hb dX0_isNan_20 (by decide) ?_
      refine lv_goto (tgt := 25) hx hb dX0_isNan_21 (by decide) ?_
      have ho := Option.some.inj hf
      subst ho
      exact W.zret (v := (1 : Int32)) (ty := .boolean) hx hb hr rfl (fun t ht hW => ⟨⟨(1 : Int32), (), rfl, rfl, by rw [ht]; exact hP.sub (ws' := []) [] rfl, va_K.moved hW.alike hK, hD.sub (ws' := []) [] (by decide) rfl⟩, hS.F ht⟩) hS.2.2 dX0_isNan_25
def p_X0_isMinusZero  (p1 : Int64) : Option (Int32) := (if (lg_cmp p1 (-9223372036854775808 : Int64)) = 0 then some (1 : Int32) else some (0 : Int32))
abbrev rm_X0_isMinusZero : Room := { frames := 0, cells := 0, slots := 0, locals := 0 }
set_option maxHeartbeats 4000000 in
set_option maxRecDepth 100000 in
theorem mt_X0_isMinusZero (l : Launch) (D : va_G) (k : Nat → ClassId)  (sz : Nat)  (p1 : Int64) (o : Int32) (hf : p_X0_isMinusZero p1 = some o)  : Met l yX0_isMinusZero wsX0_isMinusZero rm_X0_isMinusZero (va_Pc [.long p1] (bW D k sz [])) (va_Qi (fun (r : Int32) (_ : Unit) => r = o) (fun _ => bO D k (va_A [] sz) []) (va_A [] sz)) 0 0 (va_A [] sz) := by
  unfold p_X0_isMinusZero at hf
  refine Met.ofW (cc := cX0_isMinusZero) (maxL := 2) (ret := (some .boolean)) (by decide) rfl ?_
  intro p e s m args below meth c s₁ B hml hv
  obtain ⟨rfl, hsz, hP, hK, hD0⟩ := hv
  have hx := B.exec
  have hb := B.bytes
  have hr := B.returns
  have hts := atoms_spec (ws := wsX0_isMinusZero) B.pre
  have hown : s.vm.findClass RX0 = some m.cls := findClass_of_methodNamed B.named
  have hlocks := B.notSynchronized
  subst hsz
  have hD := hD0.self (sz := s.heap.size)
  generalize hAe : va_A [] s.heap.size = A at hD ⊢
  have hA : ∀ q : Nat, s.heap.size ≤ q → A q := fun q h => by rw [← hAe]; exact Or.inr h
  have hS : va_S A s.heap s.heap [] := va_S.rf
  have hl := lv_entry [.long p1] (n := 2) (Nat.le_of_ble_eq_true rfl)
  rw [lg_entry_eq]
  generalize (lg_sl [.long p1] ++ List.replicate (2 - (lg_sl [.long p1]).length) Slot.unset).toArray = ls at hl ⊢
  have hl : lv_has ls 2 [(0, .long p1)] := hl
  obtain ⟨H, hHe⟩ : ∃ H, H = s.heap := ⟨_, rfl⟩
  have hP : va_P D vwCl [] H := by rw [hHe]; exact hP
  have hS : va_S A s.heap H [] := by rw [hHe]; exact hS
  rw [← hHe]
  obtain ⟨locs, hLe⟩ : ∃ locs : List Loc, locs = [] := ⟨_, rfl⟩
  rw [← hLe] at hS ⊢
  clear hLe
  refine lv_lload_n hx hb dX0_isMinusZero_0 rfl (lv_at hl 0 rfl) ?_
  refine lv_ldc2 (v := -9223372036854775808) hx hb hown (hts (.constantLong RX0 17 (-9223372036854775808)) (by decide +kernel)) dX0_isMinusZero_1 ?_
  refine W.lcmp hx hb dX0_isMinusZero_4 ?_
  refine lv_if_ne (tgt := 12) hx hb dX0_isMinusZero_5 (by decide) (fun c1 => ?_) (fun c1 => ?_)
  · skip
    have hf := if_f c1 hf
    refine lv_iconst (v := 0) hx hb dX0_isMinusZero_12 (by decide) ?_
    have ho := Option.some.inj hf
    subst ho
    exact W.zret (v := (0 : Int32)) (ty := .boolean) hx hb hr rfl (fun t ht hW => ⟨⟨(0 : Int32), (), rfl, rfl, by rw [ht]; exact hP.sub (ws' := []) [] rfl, va_K.moved hW.alike hK, hD.sub (ws' := []) [] (by decide) rfl⟩, hS.F ht⟩) hS.2.2 dX0_isMinusZero_13
  · skip
    have hf := if_t c1 hf
    refine lv_iconst (v := 1) hx hb dX0_isMinusZero_8 (by decide) ?_
    refine lv_goto (tgt := 13) hx hb dX0_isMinusZero_9 (by decide) ?_
    have ho := Option.some.inj hf
    subst ho
    exact W.zret (v := (1 : Int32)) (ty := .boolean) hx hb hr rfl (fun t ht hW => ⟨⟨(1 : Int32), (), rfl, rfl, by rw [ht]; exact hP.sub (ws' := []) [] rfl, va_K.moved hW.alike hK, hD.sub (ws' := []) [] (by decide) rfl⟩, hS.F ht⟩) hS.2.2 dX0_isMinusZero_13
def p_X0_scaled_L32 : Nat → Int32 → UInt64 → UInt64 → Int32 → Option (UInt64)
  | 0, _, _, _, _ => none
  | n32 + 1, x32_3, x32_4, x32_6, x32_8 => (if (11 : Int32) ≤ x32_8 then some x32_6 else (if ((x32_3 >>> (x32_8 &&& 31)) &&& (1 : Int32)) = (1 : Int32) then dop (FP.dmul x32_6 x32_4) fun d1004 => dop (FP.dmul x32_4 x32_4) fun d1005 => p_X0_scaled_L32 n32 x32_3 d1005 d1004 (x32_8 + 1) else dop (FP.dmul x32_4 x32_4) fun d1003 => p_X0_scaled_L32 n32 x32_3 d1003 x32_6 (x32_8 + 1)))

def p_X0_scaled  (p1 : UInt64) (p2 : Int32) : Option (UInt64) := (if 0 ≤ p2 then (p_X0_scaled_L32 300 p2 (4611686018427387904 : UInt64) p1 (0 : Int32) ).bind fun x2 => some x2 else (p_X0_scaled_L32 300 (-p2) (4602678819172646912 : UInt64) p1 (0 : Int32) ).bind fun x3 => some x3)
abbrev rm_X0_scaled : Room := { frames := 0, cells := 0, slots := 0, locals := 0 }
set_option maxHeartbeats 4000000 in
set_option maxRecDepth 100000 in
theorem mt_X0_scaled (l : Launch) (D : va_G) (k : Nat → ClassId)  (sz : Nat)  (p1 : UInt64) (p2 : Int32) (o : UInt64) (hf : p_X0_scaled p1 p2 = some o)  : Met l yX0_scaled wsX0_scaled rm_X0_scaled (va_Pc [.double p1, .int p2] (bW D k sz [])) (va_Qd (fun (r : UInt64) (_ : Unit) => r = o) (fun _ => bO D k (va_A [] sz) []) (va_A [] sz)) 0 0 (va_A [] sz) := by
  unfold p_X0_scaled at hf
  refine Met.ofW (cc := cX0_scaled) (maxL := 9) (ret := (some .double)) (by decide) rfl ?_
  intro p e s m args below meth c s₁ B hml hv
  obtain ⟨rfl, hsz, hP, hK, hD0⟩ := hv
  have hx := B.exec
  have hb := B.bytes
  have hr := B.returns
  have hts := atoms_spec (ws := wsX0_scaled) B.pre
  have hown : s.vm.findClass RX0 = some m.cls := findClass_of_methodNamed B.named
  have hlocks := B.notSynchronized
  subst hsz
  have hD := hD0.self (sz := s.heap.size)
  generalize hAe : va_A [] s.heap.size = A at hD ⊢
  have hA : ∀ q : Nat, s.heap.size ≤ q → A q := fun q h => by rw [← hAe]; exact Or.inr h
  have hS : va_S A s.heap s.heap [] := va_S.rf
  obtain ⟨Q, hQ⟩ : ∃ Q, Q = MQ below (va_Qd (fun (r : UInt64) (_ : Unit) => r = o) (fun _ => bO D k (A) []) (A)) ([.double p1, .int p2] : List Value).toArray s 0 0 A := ⟨_, rfl⟩
  rw [← hQ]
  have hl := lv_entry [.double p1, .int p2] (n := 9) (Nat.le_of_ble_eq_true rfl)
  rw [lg_entry_eq]
  generalize (lg_sl [.double p1, .int p2] ++ List.replicate (9 - (lg_sl [.double p1, .int p2]).length) Slot.unset).toArray = ls at hl ⊢
  have hl : lv_has ls 9 [(0, .double p1), (2, .int p2)] := hl
  obtain ⟨H, hHe⟩ : ∃ H, H = s.heap := ⟨_, rfl⟩
  have hP : va_P D vwCl [] H := by rw [hHe]; exact hP
  have hS : va_S A s.heap H [] := by rw [hHe]; exact hS
  rw [← hHe]
  obtain ⟨locs, hLe⟩ : ∃ locs : List Loc, locs = [] := ⟨_, rfl⟩
  rw [← hLe] at hS ⊢
  clear hLe
  refine lv_iload_n hx hb dX0_scaled_0 rfl (lv_at hl 1 rfl) ?_
  refine lv_if_ge (tgt := 9) hx hb dX0_scaled_1 (by decide) (fun c1 => ?_) (fun c1 => ?_)
  · skip
    have hf := if_t c1 hf
    refine lv_iload_n hx hb dX0_scaled_9 rfl (lv_at hl 1 rfl) ?_
    refine lv_istore_n (lv' := [(3, .int p2), (0, .double p1), (2, .int p2)]) hx hb dX0_scaled_10 rfl hl (by decide) rfl (fun ls hl => ?_)
    refine lv_iload_n hx hb dX0_scaled_11 rfl (lv_at hl 2 rfl) ?_
    refine lv_if_ge (tgt := 21) hx hb dX0_scaled_12 (by decide) (fun _ => ?_) (fun h9 => absurd c1 h9)
    refine lv_ldc2d (v := 4611686018427387904) hx hb hown (hts (.constantDouble RX0 41 (4611686018427387904)) (by decide +kernel)) dX0_scaled_21 ?_
    refine lv_dstore (lv' := [(4, .double (4611686018427387904 : UInt64)), (3, .int p2), (0, .double p1), (2, .int p2)]) hx hb dX0_scaled_24 hl (by decide) rfl (fun ls hl => ?_)
    refine lv_dload_n hx hb dX0_scaled_26 rfl (lv_at hl 2 rfl) ?_
    refine lv_dstore (lv' := [(6, .double p1), (4, .double (4611686018427387904 : UInt64)), (3, .int p2), (0, .double p1), (2, .int p2)]) hx hb dX0_scaled_27 hl (by decide) rfl (fun ls hl => ?_)
    refine lv_iconst (v := 0) hx hb dX0_scaled_29 (by decide) ?_
    refine lv_istore (lv' := [(8, .int (0 : Int32)), (6, .double p1), (4, .double (4611686018427387904 : UInt64)), (3, .int p2), (0, .double p1), (2, .int p2)]) hx hb dX0_scaled_30 hl (by decide) rfl (fun ls hl => ?_)
    obtain ⟨x2, hx2, hf⟩ := bind_s hf
    have X69 : ∀ (H : Heap) (locs : List Loc) (ls : Array Slot), va_P D vwCl [] H → va_D A [] → va_S A s.heap H locs → lv_has ls 9 [(6, .double x2)] → W p l e (headSpec wsX0_scaled rm_X0_scaled).room s m ([.double p1, .int p2] : List Value).toArray below meth c H locs 0 0 Q (F0 m 69 ls []) := by
      intro H locs ls hP hD hS hl
      refine lv_dload hx hb dX0_scaled_69 (lv_at hl 0 rfl) ?_
      have ho := Option.some.inj hf
      subst ho
      rw [hQ]
      exact W.dret (v := x2) hx hb hr (fun t ht hW => ⟨⟨x2, (), rfl, rfl, by rw [ht]; exact hP.sub (ws' := []) [] rfl, va_K.moved hW.alike hK, hD.sub (ws' := []) [] (by decide) rfl⟩, hS.F ht⟩) hS.2.2 dX0_scaled_71
    have L32 : ∀ (n32 : Nat) (x32_3 : Int32) (x32_4 : UInt64) (x32_6 : UInt64) (x32_8 : Int32)  (H : Heap) (locs : List Loc) (ls : Array Slot), va_P D vwCl [] H → va_D A [] → va_S A s.heap H locs → lv_has ls 9 [(3, .int x32_3), (4, .double x32_4), (6, .double x32_6), (8, .int x32_8)] → p_X0_scaled_L32 n32 x32_3 x32_4 x32_6 x32_8 = some x2 → W p l e (headSpec wsX0_scaled rm_X0_scaled).room s m ([.double p1, .int p2] : List Value).toArray below meth c H locs 0 0 Q (F0 m 32 ls []) := by
      intro n32
      induction n32 with
      | zero =>
        intro x32_3 x32_4 x32_6 x32_8 H locs ls hP hD hS hl hx2
        exact absurd hx2 (by simp [p_X0_scaled_L32])
      | succ n32 ih32 =>
        intro x32_3 x32_4 x32_6 x32_8 H locs ls hP hD hS hl hx2
        rw [p_X0_scaled_L32] at hx2
        refine lv_iload hx hb dX0_scaled_32 (lv_at hl 3 rfl) ?_
        refine lv_bipush (v := 11) hx hb dX0_scaled_34 (by decide) ?_
        refine lv_icmp_ge (tgt := 69) hx hb dX0_scaled_36 (by decide) (fun c1001 => ?_) (fun c1001 => ?_)
        · skip
          have hx2 := if_t c1001 hx2
          have ho := Option.some.inj hx2
          subst ho
          exact X69 H locs ls hP hD hS (lv_sub hl [2] rfl)
        · skip
          have hx2 := if_f c1001 hx2
          refine lv_iload_n hx hb dX0_scaled_39 rfl (lv_at hl 0 rfl) ?_
          refine lv_iload hx hb dX0_scaled_40 (lv_at hl 3 rfl) ?_
          refine lv_ishr hx hb dX0_scaled_42 ?_
          refine lv_iconst (v := 1) hx hb dX0_scaled_43 (by decide) ?_
          refine lv_iand hx hb dX0_scaled_44 ?_
          refine lv_iconst (v := 1) hx hb dX0_scaled_45 (by decide) ?_
          refine lv_icmp_ne (tgt := 56) hx hb dX0_scaled_46 (by decide) (fun c1002 => ?_) (fun c1002 => ?_)
          · skip
            have hx2 := if_f c1002 hx2
            refine lv_dload hx hb dX0_scaled_56 (lv_at hl 1 rfl) ?_
            refine lv_dload hx hb dX0_scaled_58 (lv_at hl 1 rfl) ?_
            refine lv_dmul hx hb dX0_scaled_60 (dop_h hx2) ?_
            refine lv_topd (fun d1003 ed1003 => ?_)
            have hx2 := dop_at ed1003 hx2
            refine lv_dstore (lv' := [(4, .double d1003), (3, .int x32_3), (6, .double x32_6), (8, .int x32_8)]) hx hb dX0_scaled_61 hl (by decide) rfl (fun ls hl => ?_)
            refine lv_iinc (v := (x32_8 + 1)) (lv' := [(8, .int (x32_8 + 1)), (4, .double d1003), (3, .int x32_3), (6, .double x32_6)]) hx hb dX0_scaled_63 hl (k := 3) rfl rfl (by decide) rfl (fun ls hl => ?_)
            refine lv_goto (tgt := 32) hx hb dX0_scaled_66 (by decide) ?_
            exact ih32 x32_3 d1003 x32_6 (x32_8 + 1) H locs ls hP hD hS (lv_sub hl [2, 1, 3, 0] rfl) hx2
          · skip
            have hx2 := if_t c1002 hx2
            refine lv_dload hx hb dX0_scaled_49 (lv_at hl 2 rfl) ?_
            refine lv_dload hx hb dX0_scaled_51 (lv_at hl 1 rfl) ?_
            refine lv_dmul hx hb dX0_scaled_53 (dop_h hx2) ?_
            refine lv_topd (fun d1004 ed1004 => ?_)
            have hx2 := dop_at ed1004 hx2
            refine lv_dstore (lv' := [(6, .double d1004), (3, .int x32_3), (4, .double x32_4), (8, .int x32_8)]) hx hb dX0_scaled_54 hl (by decide) rfl (fun ls hl => ?_)
            refine lv_dload hx hb dX0_scaled_56 (lv_at hl 2 rfl) ?_
            refine lv_dload hx hb dX0_scaled_58 (lv_at hl 2 rfl) ?_
            refine lv_dmul hx hb dX0_scaled_60 (dop_h hx2) ?_
            refine lv_topd (fun d1005 ed1005 => ?_)
            have hx2 := dop_at ed1005 hx2
            refine lv_dstore (lv' := [(4, .double d1005), (6, .double d1004), (3, .int x32_3), (8, .int x32_8)]) hx hb dX0_scaled_61 hl (by decide) rfl (fun ls hl => ?_)
            refine lv_iinc (v := (x32_8 + 1)) (lv' := [(8, .int (x32_8 + 1)), (4, .double d1005), (6, .double d1004), (3, .int x32_3)]) hx hb dX0_scaled_63 hl (k := 3) rfl rfl (by decide) rfl (fun ls hl => ?_)
            refine lv_goto (tgt := 32) hx hb dX0_scaled_66 (by decide) ?_
            exact ih32 x32_3 d1005 d1004 (x32_8 + 1) H locs ls hP hD hS (lv_sub hl [3, 1, 2, 0] rfl) hx2
    exact L32 300 p2 (4611686018427387904 : UInt64) p1 (0 : Int32)  H locs ls hP hD hS (lv_sub hl [3, 2, 1, 0] rfl) hx2
  · skip
    have hf := if_f c1 hf
    refine lv_iload_n hx hb dX0_scaled_4 rfl (lv_at hl 1 rfl) ?_
    refine lv_ineg hx hb dX0_scaled_5 ?_
    refine lv_goto (tgt := 10) hx hb dX0_scaled_6 (by decide) ?_
    refine lv_istore_n (lv' := [(3, .int (-p2)), (0, .double p1), (2, .int p2)]) hx hb dX0_scaled_10 rfl hl (by decide) rfl (fun ls hl => ?_)
    refine lv_iload_n hx hb dX0_scaled_11 rfl (lv_at hl 2 rfl) ?_
    refine lv_if_ge (tgt := 21) hx hb dX0_scaled_12 (by decide) (fun h9 => absurd h9 c1) (fun _ => ?_)
    refine lv_ldc2d (v := 4602678819172646912) hx hb hown (hts (.constantDouble RX0 39 (4602678819172646912)) (by decide +kernel)) dX0_scaled_15 ?_
    refine lv_goto (tgt := 24) hx hb dX0_scaled_18 (by decide) ?_
    refine lv_dstore (lv' := [(4, .double (4602678819172646912 : UInt64)), (3, .int (-p2)), (0, .double p1), (2, .int p2)]) hx hb dX0_scaled_24 hl (by decide) rfl (fun ls hl => ?_)
    refine lv_dload_n hx hb dX0_scaled_26 rfl (lv_at hl 2 rfl) ?_
    refine lv_dstore (lv' := [(6, .double p1), (4, .double (4602678819172646912 : UInt64)), (3, .int (-p2)), (0, .double p1), (2, .int p2)]) hx hb dX0_scaled_27 hl (by decide) rfl (fun ls hl => ?_)
    refine lv_iconst (v := 0) hx hb dX0_scaled_29 (by decide) ?_
    refine lv_istore (lv' := [(8, .int (0 : Int32)), (6, .double p1), (4, .double (4602678819172646912 : UInt64)), (3, .int (-p2)), (0, .double p1), (2, .int p2)]) hx hb dX0_scaled_30 hl (by decide) rfl (fun ls hl => ?_)
    obtain ⟨x3, hx3, hf⟩ := bind_s hf
    have X69 : ∀ (H : Heap) (locs : List Loc) (ls : Array Slot), va_P D vwCl [] H → va_D A [] → va_S A s.heap H locs → lv_has ls 9 [(6, .double x3)] → W p l e (headSpec wsX0_scaled rm_X0_scaled).room s m ([.double p1, .int p2] : List Value).toArray below meth c H locs 0 0 Q (F0 m 69 ls []) := by
      intro H locs ls hP hD hS hl
      refine lv_dload hx hb dX0_scaled_69 (lv_at hl 0 rfl) ?_
      have ho := Option.some.inj hf
      subst ho
      rw [hQ]
      exact W.dret (v := x3) hx hb hr (fun t ht hW => ⟨⟨x3, (), rfl, rfl, by rw [ht]; exact hP.sub (ws' := []) [] rfl, va_K.moved hW.alike hK, hD.sub (ws' := []) [] (by decide) rfl⟩, hS.F ht⟩) hS.2.2 dX0_scaled_71
    have L32 : ∀ (n32 : Nat) (x32_3 : Int32) (x32_4 : UInt64) (x32_6 : UInt64) (x32_8 : Int32)  (H : Heap) (locs : List Loc) (ls : Array Slot), va_P D vwCl [] H → va_D A [] → va_S A s.heap H locs → lv_has ls 9 [(3, .int x32_3), (4, .double x32_4), (6, .double x32_6), (8, .int x32_8)] → p_X0_scaled_L32 n32 x32_3 x32_4 x32_6 x32_8 = some x3 → W p l e (headSpec wsX0_scaled rm_X0_scaled).room s m ([.double p1, .int p2] : List Value).toArray below meth c H locs 0 0 Q (F0 m 32 ls []) := by
      intro n32
      induction n32 with
      | zero =>
        intro x32_3 x32_4 x32_6 x32_8 H locs ls hP hD hS hl hx3
        exact absurd hx3 (by simp [p_X0_scaled_L32])
      | succ n32 ih32 =>
        intro x32_3 x32_4 x32_6 x32_8 H locs ls hP hD hS hl hx3
        rw [p_X0_scaled_L32] at hx3
        refine lv_iload hx hb dX0_scaled_32 (lv_at hl 3 rfl) ?_
        refine lv_bipush (v := 11) hx hb dX0_scaled_34 (by decide) ?_
        refine lv_icmp_ge (tgt := 69) hx hb dX0_scaled_36 (by decide) (fun c1001 => ?_) (fun c1001 => ?_)
        · skip
          have hx3 := if_t c1001 hx3
          have ho := Option.some.inj hx3
          subst ho
          exact X69 H locs ls hP hD hS (lv_sub hl [2] rfl)
        · skip
          have hx3 := if_f c1001 hx3
          refine lv_iload_n hx hb dX0_scaled_39 rfl (lv_at hl 0 rfl) ?_
          refine lv_iload hx hb dX0_scaled_40 (lv_at hl 3 rfl) ?_
          refine lv_ishr hx hb dX0_scaled_42 ?_
          refine lv_iconst (v := 1) hx hb dX0_scaled_43 (by decide) ?_
          refine lv_iand hx hb dX0_scaled_44 ?_
          refine lv_iconst (v := 1) hx hb dX0_scaled_45 (by decide) ?_
          refine lv_icmp_ne (tgt := 56) hx hb dX0_scaled_46 (by decide) (fun c1002 => ?_) (fun c1002 => ?_)
          · skip
            have hx3 := if_f c1002 hx3
            refine lv_dload hx hb dX0_scaled_56 (lv_at hl 1 rfl) ?_
            refine lv_dload hx hb dX0_scaled_58 (lv_at hl 1 rfl) ?_
            refine lv_dmul hx hb dX0_scaled_60 (dop_h hx3) ?_
            refine lv_topd (fun d1003 ed1003 => ?_)
            have hx3 := dop_at ed1003 hx3
            refine lv_dstore (lv' := [(4, .double d1003), (3, .int x32_3), (6, .double x32_6), (8, .int x32_8)]) hx hb dX0_scaled_61 hl (by decide) rfl (fun ls hl => ?_)
            refine lv_iinc (v := (x32_8 + 1)) (lv' := [(8, .int (x32_8 + 1)), (4, .double d1003), (3, .int x32_3), (6, .double x32_6)]) hx hb dX0_scaled_63 hl (k := 3) rfl rfl (by decide) rfl (fun ls hl => ?_)
            refine lv_goto (tgt := 32) hx hb dX0_scaled_66 (by decide) ?_
            exact ih32 x32_3 d1003 x32_6 (x32_8 + 1) H locs ls hP hD hS (lv_sub hl [2, 1, 3, 0] rfl) hx3
          · skip
            have hx3 := if_t c1002 hx3
            refine lv_dload hx hb dX0_scaled_49 (lv_at hl 2 rfl) ?_
            refine lv_dload hx hb dX0_scaled_51 (lv_at hl 1 rfl) ?_
            refine lv_dmul hx hb dX0_scaled_53 (dop_h hx3) ?_
            refine lv_topd (fun d1004 ed1004 => ?_)
            have hx3 := dop_at ed1004 hx3
            refine lv_dstore (lv' := [(6, .double d1004), (3, .int x32_3), (4, .double x32_4), (8, .int x32_8)]) hx hb dX0_scaled_54 hl (by decide) rfl (fun ls hl => ?_)
            refine lv_dload hx hb dX0_scaled_56 (lv_at hl 2 rfl) ?_
            refine lv_dload hx hb dX0_scaled_58 (lv_at hl 2 rfl) ?_
            refine lv_dmul hx hb dX0_scaled_60 (dop_h hx3) ?_
            refine lv_topd (fun d1005 ed1005 => ?_)
            have hx3 := dop_at ed1005 hx3
            refine lv_dstore (lv' := [(4, .double d1005), (6, .double d1004), (3, .int x32_3), (8, .int x32_8)]) hx hb dX0_scaled_61 hl (by decide) rfl (fun ls hl => ?_)
            refine lv_iinc (v := (x32_8 + 1)) (lv' := [(8, .int (x32_8 + 1)), (4, .double d1005), (6, .double d1004), (3, .int x32_3)]) hx hb dX0_scaled_63 hl (k := 3) rfl rfl (by decide) rfl (fun ls hl => ?_)
            refine lv_goto (tgt := 32) hx hb dX0_scaled_66 (by decide) ?_
            exact ih32 x32_3 d1005 d1004 (x32_8 + 1) H locs ls hP hD hS (lv_sub hl [3, 1, 2, 0] rfl) hx3
    exact L32 300 (-p2) (4602678819172646912 : UInt64) p1 (0 : Int32)  H locs ls hP hD hS (lv_sub hl [3, 2, 1, 0] rfl) hx3
def p_X0_decoded  (p1 : Int64) : Option (UInt64) := (p_X0_exponentOf p1).bind fun x1 => (if x1 = 0 then (p_X0_scaled (FP.l2d (p1 &&& (4503599627370495 : Int64))) (-1074 : Int32)).bind fun x5 => (if 0 ≤ (lg_cmp p1 (0 : Int64)) then some x5 else some (FP.dneg x5)) else (p_X0_scaled (FP.l2d ((p1 &&& (4503599627370495 : Int64)) ||| (4503599627370496 : Int64))) (x1 - (1075 : Int32))).bind fun x3 => (if 0 ≤ (lg_cmp p1 (0 : Int64)) then some x3 else some (FP.dneg x3)))
abbrev rm_X0_decoded : Room := { frames := 1, cells := 0, slots := 0, locals := 28 }
set_option maxHeartbeats 4000000 in
set_option maxRecDepth 100000 in
theorem mt_X0_decoded (l : Launch) (D : va_G) (k : Nat → ClassId)  (sz : Nat)  (p1 : Int64) (o : UInt64) (hf : p_X0_decoded p1 = some o)  : Met l yX0_decoded wsX0_decoded rm_X0_decoded (va_Pc [.long p1] (bW D k sz [])) (va_Qd (fun (r : UInt64) (_ : Unit) => r = o) (fun _ => bO D k (va_A [] sz) []) (va_A [] sz)) 0 0 (va_A [] sz) := by
  unfold p_X0_decoded at hf
  refine Met.ofW (cc := cX0_decoded) (maxL := 7) (ret := (some .double)) (by decide) rfl ?_
  intro p e s m args below meth c s₁ B hml hv
  obtain ⟨rfl, hsz, hP, hK, hD0⟩ := hv
  have hx := B.exec
  have hb := B.bytes
  have hr := B.returns
  have hts := atoms_spec (ws := wsX0_decoded) B.pre
  have hown : s.vm.findClass RX0 = some m.cls := findClass_of_methodNamed B.named
  have hlocks := B.notSynchronized
  subst hsz
  have hD := hD0.self (sz := s.heap.size)
  generalize hAe : va_A [] s.heap.size = A at hD ⊢
  have hA : ∀ q : Nat, s.heap.size ≤ q → A q := fun q h => by rw [← hAe]; exact Or.inr h
  have hS : va_S A s.heap s.heap [] := va_S.rf
  have hl := lv_entry [.long p1] (n := 7) (Nat.le_of_ble_eq_true rfl)
  rw [lg_entry_eq]
  generalize (lg_sl [.long p1] ++ List.replicate (7 - (lg_sl [.long p1]).length) Slot.unset).toArray = ls at hl ⊢
  have hl : lv_has ls 7 [(0, .long p1)] := hl
  obtain ⟨H, hHe⟩ : ∃ H, H = s.heap := ⟨_, rfl⟩
  have hP : va_P D vwCl [] H := by rw [hHe]; exact hP
  have hS : va_S A s.heap H [] := by rw [hHe]; exact hS
  rw [← hHe]
  obtain ⟨locs, hLe⟩ : ∃ locs : List Loc, locs = [] := ⟨_, rfl⟩
  rw [← hLe] at hS ⊢
  clear hLe
  refine lv_lload_n hx hb dX0_decoded_0 rfl (lv_at hl 0 rfl) ?_
  obtain ⟨x1, hx1, hf⟩ := bind_s hf
  refine cc_i (r := x1) (wc := []) (wr := []) (w1 := []) (va_runS (As := [.long p1]) (rest := []) ⟨hx, hb, hml, hown, hts⟩ (mt_X0_exponentOf l D k  _  p1 x1 hx1) (va_cwS 1 hts gX0_decoded_X0_exponentOf rfl rfl rfl (by decide +kernel) ⟨(Nat.le_of_ble_eq_true rfl), (Nat.le_of_ble_eq_true rfl)⟩) (cc_ps (wc := []) hK hP hD [] (by decide) rfl rfl) rfl rfl hl.1 rfl (lv_room (Nat.le_of_ble_eq_true rfl)) dX0_decoded_1 ⟨Nat.zero_le _, Nat.zero_le _⟩) hP hD hS hA [] [] rfl rfl (by decide) (by decide) (fun H locs hP hD hS => ?_)
  have hP : va_P D vwCl [] H := hP
  have hD : va_D A [] := hD
  refine lv_istore_n (lv' := [(2, .int x1), (0, .long p1)]) hx hb dX0_decoded_4 rfl hl (by decide) rfl (fun ls hl => ?_)
  refine lv_lload_n hx hb dX0_decoded_5 rfl (lv_at hl 1 rfl) ?_
  refine lv_ldc2 (v := 4503599627370495) hx hb hown (hts (.constantLong RX0 15 (4503599627370495)) (by decide +kernel)) dX0_decoded_6 ?_
  refine lv_land hx hb dX0_decoded_9 ?_
  refine lv_lstore_n (lv' := [(3, .long (p1 &&& (4503599627370495 : Int64))), (2, .int x1), (0, .long p1)]) hx hb dX0_decoded_10 rfl hl (by decide) rfl (fun ls hl => ?_)
  refine lv_iload_n hx hb dX0_decoded_11 rfl (lv_at hl 1 rfl) ?_
  refine lv_if_ne (tgt := 26) hx hb dX0_decoded_12 (by decide) (fun c2 => ?_) (fun c2 => ?_)
  · skip
    have hf := if_f c2 hf
    refine lv_lload_n hx hb dX0_decoded_26 rfl (lv_at hl 0 rfl) ?_
    refine lv_ldc2 (v := 4503599627370496) hx hb hown (hts (.constantLong RX0 37 (4503599627370496)) (by decide +kernel)) dX0_decoded_27 ?_
    refine lv_lor hx hb dX0_decoded_30 ?_
    refine lv_l2d hx hb dX0_decoded_31 ?_
    refine lv_iload_n hx hb dX0_decoded_32 rfl (lv_at hl 1 rfl) ?_
    refine lv_sipush (v := 1075) hx hb dX0_decoded_33 (by decide) ?_
    refine lv_isub hx hb dX0_decoded_36 ?_
    obtain ⟨x3, hx3, hf⟩ := bind_s hf
    refine cc_d (r := x3) (wc := []) (wr := []) (w1 := []) (va_runS (As := [.double (FP.l2d ((p1 &&& (4503599627370495 : Int64)) ||| (4503599627370496 : Int64))), .int (x1 - (1075 : Int32))]) (rest := []) ⟨hx, hb, hml, hown, hts⟩ (mt_X0_scaled l D k  _  (FP.l2d ((p1 &&& (4503599627370495 : Int64)) ||| (4503599627370496 : Int64))) (x1 - (1075 : Int32)) x3 hx3) (va_cwS 2 hts gX0_decoded_X0_scaled rfl rfl rfl (by decide +kernel) ⟨(Nat.le_of_ble_eq_true rfl), (Nat.le_of_ble_eq_true rfl)⟩) (cc_ps (wc := []) hK hP hD [] (by decide) rfl rfl) rfl rfl hl.1 rfl (lv_room (Nat.le_of_ble_eq_true rfl)) dX0_decoded_37 ⟨Nat.zero_le _, Nat.zero_le _⟩) hP hD hS hA [] [] rfl rfl (by decide) (by decide) (fun H locs hP hD hS => ?_)
    have hP : va_P D vwCl [] H := hP
    have hD : va_D A [] := hD
    refine lv_dstore (lv' := [(5, .double x3), (3, .long (p1 &&& (4503599627370495 : Int64))), (2, .int x1), (0, .long p1)]) hx hb dX0_decoded_40 hl (by decide) rfl (fun ls hl => ?_)
    refine lv_lload_n hx hb dX0_decoded_42 rfl (lv_at hl 3 rfl) ?_
    refine lv_lconst (v := 0) hx hb dX0_decoded_43 (by decide) ?_
    refine W.lcmp hx hb dX0_decoded_44 ?_
    refine lv_if_ge (tgt := 54) hx hb dX0_decoded_45 (by decide) (fun c4 => ?_) (fun c4 => ?_)
    · skip
      have hf := if_t c4 hf
      refine lv_dload hx hb dX0_decoded_54 (lv_at hl 0 rfl) ?_
      have ho := Option.some.inj hf
      subst ho
      exact W.dret (v := x3) hx hb hr (fun t ht hW => ⟨⟨x3, (), rfl, rfl, by rw [ht]; exact hP.sub (ws' := []) [] rfl, va_K.moved hW.alike hK, hD.sub (ws' := []) [] (by decide) rfl⟩, hS.F ht⟩) hS.2.2 dX0_decoded_56
    · skip
      have hf := if_f c4 hf
      refine lv_dload hx hb dX0_decoded_48 (lv_at hl 0 rfl) ?_
      refine lv_dneg hx hb dX0_decoded_50 ?_
      refine lv_goto (tgt := 56) hx hb dX0_decoded_51 (by decide) ?_
      have ho := Option.some.inj hf
      subst ho
      exact W.dret (v := (FP.dneg x3)) hx hb hr (fun t ht hW => ⟨⟨(FP.dneg x3), (), rfl, rfl, by rw [ht]; exact hP.sub (ws' := []) [] rfl, va_K.moved hW.alike hK, hD.sub (ws' := []) [] (by decide) rfl⟩, hS.F ht⟩) hS.2.2 dX0_decoded_56
  · skip
    have hf := if_t c2 hf
    refine lv_lload_n hx hb dX0_decoded_15 rfl (lv_at hl 0 rfl) ?_
    refine lv_l2d hx hb dX0_decoded_16 ?_
    refine lv_sipush (v := -1074) hx hb dX0_decoded_17 (by decide) ?_
    obtain ⟨x5, hx5, hf⟩ := bind_s hf
    refine cc_d (r := x5) (wc := []) (wr := []) (w1 := []) (va_runS (As := [.double (FP.l2d (p1 &&& (4503599627370495 : Int64))), .int (-1074 : Int32)]) (rest := []) ⟨hx, hb, hml, hown, hts⟩ (mt_X0_scaled l D k  _  (FP.l2d (p1 &&& (4503599627370495 : Int64))) (-1074 : Int32) x5 hx5) (va_cwS 2 hts gX0_decoded_X0_scaled rfl rfl rfl (by decide +kernel) ⟨(Nat.le_of_ble_eq_true rfl), (Nat.le_of_ble_eq_true rfl)⟩) (cc_ps (wc := []) hK hP hD [] (by decide) rfl rfl) rfl rfl hl.1 rfl (lv_room (Nat.le_of_ble_eq_true rfl)) dX0_decoded_20 ⟨Nat.zero_le _, Nat.zero_le _⟩) hP hD hS hA [] [] rfl rfl (by decide) (by decide) (fun H locs hP hD hS => ?_)
    have hP : va_P D vwCl [] H := hP
    have hD : va_D A [] := hD
    refine lv_goto (tgt := 40) hx hb dX0_decoded_23 (by decide) ?_
    refine lv_dstore (lv' := [(5, .double x5), (3, .long (p1 &&& (4503599627370495 : Int64))), (2, .int x1), (0, .long p1)]) hx hb dX0_decoded_40 hl (by decide) rfl (fun ls hl => ?_)
    refine lv_lload_n hx hb dX0_decoded_42 rfl (lv_at hl 3 rfl) ?_
    refine lv_lconst (v := 0) hx hb dX0_decoded_43 (by decide) ?_
    refine W.lcmp hx hb dX0_decoded_44 ?_
    refine lv_if_ge (tgt := 54) hx hb dX0_decoded_45 (by decide) (fun c6 => ?_) (fun c6 => ?_)
    · skip
      have hf := if_t c6 hf
      refine lv_dload hx hb dX0_decoded_54 (lv_at hl 0 rfl) ?_
      have ho := Option.some.inj hf
      subst ho
      exact W.dret (v := x5) hx hb hr (fun t ht hW => ⟨⟨x5, (), rfl, rfl, by rw [ht]; exact hP.sub (ws' := []) [] rfl, va_K.moved hW.alike hK, hD.sub (ws' := []) [] (by decide) rfl⟩, hS.F ht⟩) hS.2.2 dX0_decoded_56
    · skip
      have hf := if_f c6 hf
      refine lv_dload hx hb dX0_decoded_48 (lv_at hl 0 rfl) ?_
      refine lv_dneg hx hb dX0_decoded_50 ?_
      refine lv_goto (tgt := 56) hx hb dX0_decoded_51 (by decide) ?_
      have ho := Option.some.inj hf
      subst ho
      exact W.dret (v := (FP.dneg x5)) hx hb hr (fun t ht hW => ⟨⟨(FP.dneg x5), (), rfl, rfl, by rw [ht]; exact hP.sub (ws' := []) [] rfl, va_K.moved hW.alike hK, hD.sub (ws' := []) [] (by decide) rfl⟩, hS.F ht⟩) hS.2.2 dX0_decoded_56
def p_X3_fitsRow  (p1 : UInt64) : Option (Int32) := (if (Op.cmpValue (FP.dcmp p1 (13965043853221167104 : UInt64)) CmpOp.l) < 0 then some (0 : Int32) else (if 0 < (Op.cmpValue (FP.dcmp p1 (4741671816366391296 : UInt64)) CmpOp.g) then some (0 : Int32) else some (1 : Int32)))
abbrev rm_X3_fitsRow : Room := { frames := 0, cells := 0, slots := 0, locals := 0 }
set_option maxHeartbeats 4000000 in
set_option maxRecDepth 100000 in
theorem mt_X3_fitsRow (l : Launch) (D : va_G) (k : Nat → ClassId)  (sz : Nat)  (p1 : UInt64) (o : Int32) (hf : p_X3_fitsRow p1 = some o)  : Met l yX3_fitsRow wsX3_fitsRow rm_X3_fitsRow (va_Pc [.double p1] (bW D k sz [])) (va_Qi (fun (r : Int32) (_ : Unit) => r = o) (fun _ => bO D k (va_A [] sz) []) (va_A [] sz)) 0 0 (va_A [] sz) := by
  unfold p_X3_fitsRow at hf
  refine Met.ofW (cc := cX3_fitsRow) (maxL := 2) (ret := (some .boolean)) (by decide) rfl ?_
  intro p e s m args below meth c s₁ B hml hv
  obtain ⟨rfl, hsz, hP, hK, hD0⟩ := hv
  have hx := B.exec
  have hb := B.bytes
  have hr := B.returns
  have hts := atoms_spec (ws := wsX3_fitsRow) B.pre
  have hown : s.vm.findClass RX3 = some m.cls := findClass_of_methodNamed B.named
  have hlocks := B.notSynchronized
  subst hsz
  have hD := hD0.self (sz := s.heap.size)
  generalize hAe : va_A [] s.heap.size = A at hD ⊢
  have hA : ∀ q : Nat, s.heap.size ≤ q → A q := fun q h => by rw [← hAe]; exact Or.inr h
  have hS : va_S A s.heap s.heap [] := va_S.rf
  have hl := lv_entry [.double p1] (n := 2) (Nat.le_of_ble_eq_true rfl)
  rw [lg_entry_eq]
  generalize (lg_sl [.double p1] ++ List.replicate (2 - (lg_sl [.double p1]).length) Slot.unset).toArray = ls at hl ⊢
  have hl : lv_has ls 2 [(0, .double p1)] := hl
  obtain ⟨H, hHe⟩ : ∃ H, H = s.heap := ⟨_, rfl⟩
  have hP : va_P D vwCl [] H := by rw [hHe]; exact hP
  have hS : va_S A s.heap H [] := by rw [hHe]; exact hS
  rw [← hHe]
  obtain ⟨locs, hLe⟩ : ∃ locs : List Loc, locs = [] := ⟨_, rfl⟩
  rw [← hLe] at hS ⊢
  clear hLe
  refine lv_dload_n hx hb dX3_fitsRow_0 rfl (lv_at hl 0 rfl) ?_
  refine lv_ldc2d (v := 13965043853221167104) hx hb hown (hts (.constantDouble RX3 11 (13965043853221167104)) (by decide +kernel)) dX3_fitsRow_1 ?_
  refine lv_dcmp hx hb dX3_fitsRow_4 ?_
  refine lv_if_lt (tgt := 20) hx hb dX3_fitsRow_5 (by decide) (fun c1 => ?_) (fun c1 => ?_)
  · skip
    have hf := if_t c1 hf
    refine lv_iconst (v := 0) hx hb dX3_fitsRow_20 (by decide) ?_
    have ho := Option.some.inj hf
    subst ho
    exact W.zret (v := (0 : Int32)) (ty := .boolean) hx hb hr rfl (fun t ht hW => ⟨⟨(0 : Int32), (), rfl, rfl, by rw [ht]; exact hP.sub (ws' := []) [] rfl, va_K.moved hW.alike hK, hD.sub (ws' := []) [] (by decide) rfl⟩, hS.F ht⟩) hS.2.2 dX3_fitsRow_21
  · skip
    have hf := if_f c1 hf
    refine lv_dload_n hx hb dX3_fitsRow_8 rfl (lv_at hl 0 rfl) ?_
    refine lv_ldc2d (v := 4741671816366391296) hx hb hown (hts (.constantDouble RX3 13 (4741671816366391296)) (by decide +kernel)) dX3_fitsRow_9 ?_
    refine lv_dcmp hx hb dX3_fitsRow_12 ?_
    refine lv_if_gt (tgt := 20) hx hb dX3_fitsRow_13 (by decide) (fun c2 => ?_) (fun c2 => ?_)
    · skip
      have hf := if_t c2 hf
      refine lv_iconst (v := 0) hx hb dX3_fitsRow_20 (by decide) ?_
      have ho := Option.some.inj hf
      subst ho
      exact W.zret (v := (0 : Int32)) (ty := .boolean) hx hb hr rfl (fun t ht hW => ⟨⟨(0 : Int32), (), rfl, rfl, by rw [ht]; exact hP.sub (ws' := []) [] rfl, va_K.moved hW.alike hK, hD.sub (ws' := []) [] (by decide) rfl⟩, hS.F ht⟩) hS.2.2 dX3_fitsRow_21
    · skip
      have hf := if_f c2 hf
      refine lv_iconst (v := 1) hx hb dX3_fitsRow_16 (by decide) ?_
      refine lv_goto (tgt := 21) hx hb dX3_fitsRow_17 (by decide) ?_
      have ho := Option.some.inj hf
      subst ho
      exact W.zret (v := (1 : Int32)) (ty := .boolean) hx hb hr rfl (fun t ht hW => ⟨⟨(1 : Int32), (), rfl, rfl, by rw [ht]; exact hP.sub (ws' := []) [] rfl, va_K.moved hW.alike hK, hD.sub (ws' := []) [] (by decide) rfl⟩, hS.F ht⟩) hS.2.2 dX3_fitsRow_21
def p_X0_fitRow  (p1 : Int64) : Option (Int32) := (p_X0_isNan p1).bind fun x1 => (if x1 = 0 then (p_X0_decoded p1).bind fun x3 => (p_X3_fitsRow x3).bind fun x4 => (if x4 = 0 then some (0 : Int32) else some (1 : Int32)) else some (0 : Int32))
abbrev rm_X0_fitRow : Room := { frames := 2, cells := 0, slots := 0, locals := 54 }
set_option maxHeartbeats 4000000 in
set_option maxRecDepth 100000 in
theorem mt_X0_fitRow (l : Launch) (D : va_G) (k : Nat → ClassId)  (sz : Nat)  (p1 : Int64) (o : Int32) (hf : p_X0_fitRow p1 = some o)  : Met l yX0_fitRow wsX0_fitRow rm_X0_fitRow (va_Pc [.long p1] (bW D k sz [])) (va_Qi (fun (r : Int32) (_ : Unit) => r = o) (fun _ => bO D k (va_A [] sz) []) (va_A [] sz)) 0 0 (va_A [] sz) := by
  unfold p_X0_fitRow at hf
  refine Met.ofW (cc := cX0_fitRow) (maxL := 2) (ret := (some .boolean)) (by decide) rfl ?_
  intro p e s m args below meth c s₁ B hml hv
  obtain ⟨rfl, hsz, hP, hK, hD0⟩ := hv
  have hx := B.exec
  have hb := B.bytes
  have hr := B.returns
  have hts := atoms_spec (ws := wsX0_fitRow) B.pre
  have hown : s.vm.findClass RX0 = some m.cls := findClass_of_methodNamed B.named
  have hlocks := B.notSynchronized
  subst hsz
  have hD := hD0.self (sz := s.heap.size)
  generalize hAe : va_A [] s.heap.size = A at hD ⊢
  have hA : ∀ q : Nat, s.heap.size ≤ q → A q := fun q h => by rw [← hAe]; exact Or.inr h
  have hS : va_S A s.heap s.heap [] := va_S.rf
  have hl := lv_entry [.long p1] (n := 2) (Nat.le_of_ble_eq_true rfl)
  rw [lg_entry_eq]
  generalize (lg_sl [.long p1] ++ List.replicate (2 - (lg_sl [.long p1]).length) Slot.unset).toArray = ls at hl ⊢
  have hl : lv_has ls 2 [(0, .long p1)] := hl
  obtain ⟨H, hHe⟩ : ∃ H, H = s.heap := ⟨_, rfl⟩
  have hP : va_P D vwCl [] H := by rw [hHe]; exact hP
  have hS : va_S A s.heap H [] := by rw [hHe]; exact hS
  rw [← hHe]
  obtain ⟨locs, hLe⟩ : ∃ locs : List Loc, locs = [] := ⟨_, rfl⟩
  rw [← hLe] at hS ⊢
  clear hLe
  refine lv_lload_n hx hb dX0_fitRow_0 rfl (lv_at hl 0 rfl) ?_
  obtain ⟨x1, hx1, hf⟩ := bind_s hf
  refine cc_i (r := x1) (wc := []) (wr := []) (w1 := []) (va_runS (As := [.long p1]) (rest := []) ⟨hx, hb, hml, hown, hts⟩ (mt_X0_isNan l D k  _  p1 x1 hx1) (va_cwS 1 hts gX0_fitRow_X0_isNan rfl rfl rfl (by decide +kernel) ⟨(Nat.le_of_ble_eq_true rfl), (Nat.le_of_ble_eq_true rfl)⟩) (cc_ps (wc := []) hK hP hD [] (by decide) rfl rfl) rfl rfl hl.1 rfl (lv_room (Nat.le_of_ble_eq_true rfl)) dX0_fitRow_1 ⟨Nat.zero_le _, Nat.zero_le _⟩) hP hD hS hA [] [] rfl rfl (by decide) (by decide) (fun H locs hP hD hS => ?_)
  have hP : va_P D vwCl [] H := hP
  have hD : va_D A [] := hD
  refine lv_if_ne (tgt := 21) hx hb dX0_fitRow_4 (by decide) (fun c2 => ?_) (fun c2 => ?_)
  · skip
    have hf := if_f c2 hf
    refine lv_iconst (v := 0) hx hb dX0_fitRow_21 (by decide) ?_
    have ho := Option.some.inj hf
    subst ho
    exact W.zret (v := (0 : Int32)) (ty := .boolean) hx hb hr rfl (fun t ht hW => ⟨⟨(0 : Int32), (), rfl, rfl, by rw [ht]; exact hP.sub (ws' := []) [] rfl, va_K.moved hW.alike hK, hD.sub (ws' := []) [] (by decide) rfl⟩, hS.F ht⟩) hS.2.2 dX0_fitRow_22
  · skip
    have hf := if_t c2 hf
    refine lv_lload_n hx hb dX0_fitRow_7 rfl (lv_at hl 0 rfl) ?_
    obtain ⟨x3, hx3, hf⟩ := bind_s hf
    refine cc_d (r := x3) (wc := []) (wr := []) (w1 := []) (va_runS (As := [.long p1]) (rest := []) ⟨hx, hb, hml, hown, hts⟩ (mt_X0_decoded l D k  _  p1 x3 hx3) (va_cwS 1 hts gX0_fitRow_X0_decoded rfl rfl rfl (by decide +kernel) ⟨(Nat.le_of_ble_eq_true rfl), (Nat.le_of_ble_eq_true rfl)⟩) (cc_ps (wc := []) hK hP hD [] (by decide) rfl rfl) rfl rfl hl.1 rfl (lv_room (Nat.le_of_ble_eq_true rfl)) dX0_fitRow_8 ⟨Nat.zero_le _, Nat.zero_le _⟩) hP hD hS hA [] [] rfl rfl (by decide) (by decide) (fun H locs hP hD hS => ?_)
    have hP : va_P D vwCl [] H := hP
    have hD : va_D A [] := hD
    obtain ⟨x4, hx4, hf⟩ := bind_s hf
    refine cc_i (r := x4) (wc := []) (wr := []) (w1 := []) (va_runS (As := [.double x3]) (rest := []) ⟨hx, hb, hml, hown, hts⟩ (mt_X3_fitsRow l D k  _  x3 x4 hx4) (va_cwS 1 hts gX0_fitRow_X3_fitsRow rfl rfl rfl (by decide +kernel) ⟨(Nat.le_of_ble_eq_true rfl), (Nat.le_of_ble_eq_true rfl)⟩) (cc_ps (wc := []) hK hP hD [] (by decide) rfl rfl) rfl rfl hl.1 rfl (lv_room (Nat.le_of_ble_eq_true rfl)) dX0_fitRow_11 ⟨Nat.zero_le _, Nat.zero_le _⟩) hP hD hS hA [] [] rfl rfl (by decide) (by decide) (fun H locs hP hD hS => ?_)
    have hP : va_P D vwCl [] H := hP
    have hD : va_D A [] := hD
    refine lv_if_eq (tgt := 21) hx hb dX0_fitRow_14 (by decide) (fun c5 => ?_) (fun c5 => ?_)
    · skip
      have hf := if_t c5 hf
      refine lv_iconst (v := 0) hx hb dX0_fitRow_21 (by decide) ?_
      have ho := Option.some.inj hf
      subst ho
      exact W.zret (v := (0 : Int32)) (ty := .boolean) hx hb hr rfl (fun t ht hW => ⟨⟨(0 : Int32), (), rfl, rfl, by rw [ht]; exact hP.sub (ws' := []) [] rfl, va_K.moved hW.alike hK, hD.sub (ws' := []) [] (by decide) rfl⟩, hS.F ht⟩) hS.2.2 dX0_fitRow_22
    · skip
      have hf := if_f c5 hf
      refine lv_iconst (v := 1) hx hb dX0_fitRow_17 (by decide) ?_
      refine lv_goto (tgt := 22) hx hb dX0_fitRow_18 (by decide) ?_
      have ho := Option.some.inj hf
      subst ho
      exact W.zret (v := (1 : Int32)) (ty := .boolean) hx hb hr rfl (fun t ht hW => ⟨⟨(1 : Int32), (), rfl, rfl, by rw [ht]; exact hP.sub (ws' := []) [] rfl, va_K.moved hW.alike hK, hD.sub (ws' := []) [] (by decide) rfl⟩, hS.F ht⟩) hS.2.2 dX0_fitRow_22
def p_X3_sizeOf  (p1 : UInt64) : Option (UInt64) := (if 0 < (Op.cmpValue (FP.dcmp p1 FP.dconst0) CmpOp.g) then some p1 else dop (FP.dsub FP.dconst0 p1) fun d2 => some d2)
abbrev rm_X3_sizeOf : Room := { frames := 0, cells := 0, slots := 0, locals := 0 }
set_option maxHeartbeats 4000000 in
set_option maxRecDepth 100000 in
theorem mt_X3_sizeOf (l : Launch) (D : va_G) (k : Nat → ClassId)  (sz : Nat)  (p1 : UInt64) (o : UInt64) (hf : p_X3_sizeOf p1 = some o)  : Met l yX3_sizeOf wsX3_sizeOf rm_X3_sizeOf (va_Pc [.double p1] (bW D k sz [])) (va_Qd (fun (r : UInt64) (_ : Unit) => r = o) (fun _ => bO D k (va_A [] sz) []) (va_A [] sz)) 0 0 (va_A [] sz) := by
  unfold p_X3_sizeOf at hf
  refine Met.ofW (cc := cX3_sizeOf) (maxL := 2) (ret := (some .double)) (by decide) rfl ?_
  intro p e s m args below meth c s₁ B hml hv
  obtain ⟨rfl, hsz, hP, hK, hD0⟩ := hv
  have hx := B.exec
  have hb := B.bytes
  have hr := B.returns
  have hts := atoms_spec (ws := wsX3_sizeOf) B.pre
  have hown : s.vm.findClass RX3 = some m.cls := findClass_of_methodNamed B.named
  have hlocks := B.notSynchronized
  subst hsz
  have hD := hD0.self (sz := s.heap.size)
  generalize hAe : va_A [] s.heap.size = A at hD ⊢
  have hA : ∀ q : Nat, s.heap.size ≤ q → A q := fun q h => by rw [← hAe]; exact Or.inr h
  have hS : va_S A s.heap s.heap [] := va_S.rf
  have hl := lv_entry [.double p1] (n := 2) (Nat.le_of_ble_eq_true rfl)
  rw [lg_entry_eq]
  generalize (lg_sl [.double p1] ++ List.replicate (2 - (lg_sl [.double p1]).length) Slot.unset).toArray = ls at hl ⊢
  have hl : lv_has ls 2 [(0, .double p1)] := hl
  obtain ⟨H, hHe⟩ : ∃ H, H = s.heap := ⟨_, rfl⟩
  have hP : va_P D vwCl [] H := by rw [hHe]; exact hP
  have hS : va_S A s.heap H [] := by rw [hHe]; exact hS
  rw [← hHe]
  obtain ⟨locs, hLe⟩ : ∃ locs : List Loc, locs = [] := ⟨_, rfl⟩
  rw [← hLe] at hS ⊢
  clear hLe
  refine lv_dload_n hx hb dX3_sizeOf_0 rfl (lv_at hl 0 rfl) ?_
  refine lv_dconst0 hx hb dX3_sizeOf_1 ?_
  refine lv_dcmp hx hb dX3_sizeOf_2 ?_
  refine lv_if_gt (tgt := 12) hx hb dX3_sizeOf_3 (by decide) (fun c1 => ?_) (fun c1 => ?_)
  · skip
    have hf := if_t c1 hf
    refine lv_dload_n hx hb dX3_sizeOf_12 rfl (lv_at hl 0 rfl) ?_
    have ho := Option.some.inj hf
    subst ho
    exact W.dret (v := p1) hx hb hr (fun t ht hW => ⟨⟨p1, (), rfl, rfl, by rw [ht]; exact hP.sub (ws' := []) [] rfl, va_K.moved hW.alike hK, hD.sub (ws' := []) [] (by decide) rfl⟩, hS.F ht⟩) hS.2.2 dX3_sizeOf_13
  · skip
    have hf := if_f c1 hf
    refine lv_dconst0 hx hb dX3_sizeOf_6 ?_
    refine lv_dload_n hx hb dX3_sizeOf_7 rfl (lv_at hl 0 rfl) ?_
    refine lv_dsub hx hb dX3_sizeOf_8 (dop_h hf) ?_
    refine lv_topd (fun d2 ed2 => ?_)
    have hf := dop_at ed2 hf
    refine lv_goto (tgt := 13) hx hb dX3_sizeOf_9 (by decide) ?_
    have ho := Option.some.inj hf
    subst ho
    exact W.dret (v := d2) hx hb hr (fun t ht hW => ⟨⟨d2, (), rfl, rfl, by rw [ht]; exact hP.sub (ws' := []) [] rfl, va_K.moved hW.alike hK, hD.sub (ws' := []) [] (by decide) rfl⟩, hS.F ht⟩) hS.2.2 dX3_sizeOf_13
def p_X3_isFinite  (p1 : UInt64) : Option (Int32) := (if (Op.cmpValue (FP.dcmp p1 (18442240474082181119 : UInt64)) CmpOp.l) < 0 then some (0 : Int32) else (if 0 < (Op.cmpValue (FP.dcmp p1 (9218868437227405311 : UInt64)) CmpOp.g) then some (0 : Int32) else some (1 : Int32)))
abbrev rm_X3_isFinite : Room := { frames := 0, cells := 0, slots := 0, locals := 0 }
set_option maxHeartbeats 4000000 in
set_option maxRecDepth 100000 in
theorem mt_X3_isFinite (l : Launch) (D : va_G) (k : Nat → ClassId)  (sz : Nat)  (p1 : UInt64) (o : Int32) (hf : p_X3_isFinite p1 = some o)  : Met l yX3_isFinite wsX3_isFinite rm_X3_isFinite (va_Pc [.double p1] (bW D k sz [])) (va_Qi (fun (r : Int32) (_ : Unit) => r = o) (fun _ => bO D k (va_A [] sz) []) (va_A [] sz)) 0 0 (va_A [] sz) := by
  unfold p_X3_isFinite at hf
  refine Met.ofW (cc := cX3_isFinite) (maxL := 2) (ret := (some .boolean)) (by decide) rfl ?_
  intro p e s m args below meth c s₁ B hml hv
  obtain ⟨rfl, hsz, hP, hK, hD0⟩ := hv
  have hx := B.exec
  have hb := B.bytes
  have hr := B.returns
  have hts := atoms_spec (ws := wsX3_isFinite) B.pre
  have hown : s.vm.findClass RX3 = some m.cls := findClass_of_methodNamed B.named
  have hlocks := B.notSynchronized
  subst hsz
  have hD := hD0.self (sz := s.heap.size)
  generalize hAe : va_A [] s.heap.size = A at hD ⊢
  have hA : ∀ q : Nat, s.heap.size ≤ q → A q := fun q h => by rw [← hAe]; exact Or.inr h
  have hS : va_S A s.heap s.heap [] := va_S.rf
  have hl := lv_entry [.double p1] (n := 2) (Nat.le_of_ble_eq_true rfl)
  rw [lg_entry_eq]
  generalize (lg_sl [.double p1] ++ List.replicate (2 - (lg_sl [.double p1]).length) Slot.unset).toArray = ls at hl ⊢
  have hl : lv_has ls 2 [(0, .double p1)] := hl
  obtain ⟨H, hHe⟩ : ∃ H, H = s.heap := ⟨_, rfl⟩
  have hP : va_P D vwCl [] H := by rw [hHe]; exact hP
  have hS : va_S A s.heap H [] := by rw [hHe]; exact hS
  rw [← hHe]
  obtain ⟨locs, hLe⟩ : ∃ locs : List Loc, locs = [] := ⟨_, rfl⟩
  rw [← hLe] at hS ⊢
  clear hLe
  refine lv_dload_n hx hb dX3_isFinite_0 rfl (lv_at hl 0 rfl) ?_
  refine lv_ldc2d (v := 18442240474082181119) hx hb hown (hts (.constantDouble RX3 7 (18442240474082181119)) (by decide +kernel)) dX3_isFinite_1 ?_
  refine lv_dcmp hx hb dX3_isFinite_4 ?_
  refine lv_if_lt (tgt := 20) hx hb dX3_isFinite_5 (by decide) (fun c1 => ?_) (fun c1 => ?_)
  · skip
    have hf := if_t c1 hf
    refine lv_iconst (v := 0) hx hb dX3_isFinite_20 (by decide) ?_
    have ho := Option.some.inj hf
    subst ho
    exact W.zret (v := (0 : Int32)) (ty := .boolean) hx hb hr rfl (fun t ht hW => ⟨⟨(0 : Int32), (), rfl, rfl, by rw [ht]; exact hP.sub (ws' := []) [] rfl, va_K.moved hW.alike hK, hD.sub (ws' := []) [] (by decide) rfl⟩, hS.F ht⟩) hS.2.2 dX3_isFinite_21
  · skip
    have hf := if_f c1 hf
    refine lv_dload_n hx hb dX3_isFinite_8 rfl (lv_at hl 0 rfl) ?_
    refine lv_ldc2d (v := 9218868437227405311) hx hb hown (hts (.constantDouble RX3 9 (9218868437227405311)) (by decide +kernel)) dX3_isFinite_9 ?_
    refine lv_dcmp hx hb dX3_isFinite_12 ?_
    refine lv_if_gt (tgt := 20) hx hb dX3_isFinite_13 (by decide) (fun c2 => ?_) (fun c2 => ?_)
    · skip
      have hf := if_t c2 hf
      refine lv_iconst (v := 0) hx hb dX3_isFinite_20 (by decide) ?_
      have ho := Option.some.inj hf
      subst ho
      exact W.zret (v := (0 : Int32)) (ty := .boolean) hx hb hr rfl (fun t ht hW => ⟨⟨(0 : Int32), (), rfl, rfl, by rw [ht]; exact hP.sub (ws' := []) [] rfl, va_K.moved hW.alike hK, hD.sub (ws' := []) [] (by decide) rfl⟩, hS.F ht⟩) hS.2.2 dX3_isFinite_21
    · skip
      have hf := if_f c2 hf
      refine lv_iconst (v := 1) hx hb dX3_isFinite_16 (by decide) ?_
      refine lv_goto (tgt := 21) hx hb dX3_isFinite_17 (by decide) ?_
      have ho := Option.some.inj hf
      subst ho
      exact W.zret (v := (1 : Int32)) (ty := .boolean) hx hb hr rfl (fun t ht hW => ⟨⟨(1 : Int32), (), rfl, rfl, by rw [ht]; exact hP.sub (ws' := []) [] rfl, va_K.moved hW.alike hK, hD.sub (ws' := []) [] (by decide) rfl⟩, hS.F ht⟩) hS.2.2 dX3_isFinite_21
theorem hinX5_X5_rowAt : ∀ w ∈ wsX50, w ∈ wsX5_rowAt := by decide +kernel
abbrev rm_X5_rowAt_0 : Room := { frames := 0, cells := 0, slots := 0, locals := 0 }
set_option maxHeartbeats 4000000 in
set_option maxRecDepth 100000 in
theorem mt_X5_rowAt_0 (l : Launch) (D : va_G) (k : Nat → ClassId) (a_this a_this_first a_this_second a_this_settings : Nat) (sz : Nat) (v_this : (((Nat → UInt64) × Int32) × ((Nat → UInt64) × Int32) × (Nat → UInt64) × Int32)) (p1 : Int32)  (ha : p1 = 0) : Met l yX5_rowAt wsX5_rowAt rm_X5_rowAt_0 (va_Pc [.ref a_this, .int p1] (bW D k sz [(a_this, .inr (3, [.ref a_this_first, .ref a_this_second, .ref a_this_settings, .int v_this.2.2.2]))])) (va_Qr (fun (_ : Unit) => True) (fun _ ra t => ra = a_this_first ∧ bO D k (va_A [(a_this, .inr (3, [.ref a_this_first, .ref a_this_second, .ref a_this_settings, .int v_this.2.2.2]))] sz) [(a_this, .inr (3, [.ref a_this_first, .ref a_this_second, .ref a_this_settings, .int v_this.2.2.2]))] t) (va_A [(a_this, .inr (3, [.ref a_this_first, .ref a_this_second, .ref a_this_settings, .int v_this.2.2.2]))] sz)) 0 0 (va_A [(a_this, .inr (3, [.ref a_this_first, .ref a_this_second, .ref a_this_settings, .int v_this.2.2.2]))] sz) := by
  refine Met.ofW (cc := cX5_rowAt) (maxL := 2) (ret := (some (.object "LimitTables$Row"))) (by decide) rfl ?_
  intro p e s m args below meth c s₁ B hml hv
  obtain ⟨rfl, hsz, hP, hK, hD0⟩ := hv
  have hx := B.exec
  have hb := B.bytes
  have hr := B.returns
  have hts := atoms_spec (ws := wsX5_rowAt) B.pre
  have hown : s.vm.findClass RX5 = some m.cls := findClass_of_methodNamed B.named
  have hlocks := B.notSynchronized
  subst hsz
  have hD := hD0.self (sz := s.heap.size)
  generalize hAe : va_A [(a_this, .inr (3, [.ref a_this_first, .ref a_this_second, .ref a_this_settings, .int v_this.2.2.2]))] s.heap.size = A at hD ⊢
  have hA : ∀ q : Nat, s.heap.size ≤ q → A q := fun q h => by rw [← hAe]; exact Or.inr h
  have hS : va_S A s.heap s.heap [] := va_S.rf
  have hl := lv_entry [.ref a_this, .int p1] (n := 2) (Nat.le_of_ble_eq_true rfl)
  rw [lg_entry_eq]
  generalize (lg_sl [.ref a_this, .int p1] ++ List.replicate (2 - (lg_sl [.ref a_this, .int p1]).length) Slot.unset).toArray = ls at hl ⊢
  have hl : lv_has ls 2 [(0, .ref a_this), (1, .int p1)] := hl
  obtain ⟨H, hHe⟩ : ∃ H, H = s.heap := ⟨_, rfl⟩
  have hP : va_P D vwCl [(a_this, .inr (3, [.ref a_this_first, .ref a_this_second, .ref a_this_settings, .int v_this.2.2.2]))] H := by rw [hHe]; exact hP
  have hS : va_S A s.heap H [] := by rw [hHe]; exact hS
  rw [← hHe]
  obtain ⟨locs, hLe⟩ : ∃ locs : List Loc, locs = [] := ⟨_, rfl⟩
  rw [← hLe] at hS ⊢
  clear hLe
  refine lv_iload_n hx hb dX5_rowAt_0 rfl (lv_at hl 1 rfl) ?_
  refine lv_if_ne (tgt := 11) hx hb dX5_rowAt_1 (by decide) (fun h9 => absurd ha h9) (fun _ => ?_)
  refine lv_aload_n hx hb dX5_rowAt_4 rfl (lv_at hl 0 rfl) ?_
  refine va_get (D := D) (ci := 3) (v := .ref a_this_first) (C := RX5) (T := TX5) (N := 4) hx hb hts hinX5_X5_rowAt hown hK hP 0 rfl rfl 0 (by decide) (hts (.fieldLink RX5 10 "LimitTables$State" "first" "LLimitTables$Row;") (by decide +kernel)) (fun _ h9 => h9) rfl dX5_rowAt_5 ?_
  refine lv_goto (tgt := 15) hx hb dX5_rowAt_8 (by decide) ?_
  exact W.aret (v := .ref a_this_first) hx hb hr (Or.inl ⟨_, rfl⟩) (Or.inr ⟨_, rfl⟩) (fun t ht hW => ⟨⟨(), a_this_first, rfl, trivial, rfl, by rw [ht]; exact hP.sub (ws' := [(a_this, .inr (3, [.ref a_this_first, .ref a_this_second, .ref a_this_settings, .int v_this.2.2.2]))]) [0] rfl, va_K.moved hW.alike hK, hD.sub (ws' := [(a_this, .inr (3, [.ref a_this_first, .ref a_this_second, .ref a_this_settings, .int v_this.2.2.2]))]) [0] (by decide) rfl⟩, hS.F ht⟩) hS.2.2 dX5_rowAt_15
abbrev rm_X5_rowAt_1 : Room := { frames := 0, cells := 0, slots := 0, locals := 0 }
set_option maxHeartbeats 4000000 in
set_option maxRecDepth 100000 in
theorem mt_X5_rowAt_1 (l : Launch) (D : va_G) (k : Nat → ClassId) (a_this a_this_first a_this_second a_this_settings : Nat) (sz : Nat) (v_this : (((Nat → UInt64) × Int32) × ((Nat → UInt64) × Int32) × (Nat → UInt64) × Int32)) (p1 : Int32)  (ha : ¬ p1 = 0) : Met l yX5_rowAt wsX5_rowAt rm_X5_rowAt_1 (va_Pc [.ref a_this, .int p1] (bW D k sz [(a_this, .inr (3, [.ref a_this_first, .ref a_this_second, .ref a_this_settings, .int v_this.2.2.2]))])) (va_Qr (fun (_ : Unit) => True) (fun _ ra t => ra = a_this_second ∧ bO D k (va_A [(a_this, .inr (3, [.ref a_this_first, .ref a_this_second, .ref a_this_settings, .int v_this.2.2.2]))] sz) [(a_this, .inr (3, [.ref a_this_first, .ref a_this_second, .ref a_this_settings, .int v_this.2.2.2]))] t) (va_A [(a_this, .inr (3, [.ref a_this_first, .ref a_this_second, .ref a_this_settings, .int v_this.2.2.2]))] sz)) 0 0 (va_A [(a_this, .inr (3, [.ref a_this_first, .ref a_this_second, .ref a_this_settings, .int v_this.2.2.2]))] sz) := by
  refine Met.ofW (cc := cX5_rowAt) (maxL := 2) (ret := (some (.object "LimitTables$Row"))) (by decide) rfl ?_
  intro p e s m args below meth c s₁ B hml hv
  obtain ⟨rfl, hsz, hP, hK, hD0⟩ := hv
  have hx := B.exec
  have hb := B.bytes
  have hr := B.returns
  have hts := atoms_spec (ws := wsX5_rowAt) B.pre
  have hown : s.vm.findClass RX5 = some m.cls := findClass_of_methodNamed B.named
  have hlocks := B.notSynchronized
  subst hsz
  have hD := hD0.self (sz := s.heap.size)
  generalize hAe : va_A [(a_this, .inr (3, [.ref a_this_first, .ref a_this_second, .ref a_this_settings, .int v_this.2.2.2]))] s.heap.size = A at hD ⊢
  have hA : ∀ q : Nat, s.heap.size ≤ q → A q := fun q h => by rw [← hAe]; exact Or.inr h
  have hS : va_S A s.heap s.heap [] := va_S.rf
  have hl := lv_entry [.ref a_this, .int p1] (n := 2) (Nat.le_of_ble_eq_true rfl)
  rw [lg_entry_eq]
  generalize (lg_sl [.ref a_this, .int p1] ++ List.replicate (2 - (lg_sl [.ref a_this, .int p1]).length) Slot.unset).toArray = ls at hl ⊢
  have hl : lv_has ls 2 [(0, .ref a_this), (1, .int p1)] := hl
  obtain ⟨H, hHe⟩ : ∃ H, H = s.heap := ⟨_, rfl⟩
  have hP : va_P D vwCl [(a_this, .inr (3, [.ref a_this_first, .ref a_this_second, .ref a_this_settings, .int v_this.2.2.2]))] H := by rw [hHe]; exact hP
  have hS : va_S A s.heap H [] := by rw [hHe]; exact hS
  rw [← hHe]
  obtain ⟨locs, hLe⟩ : ∃ locs : List Loc, locs = [] := ⟨_, rfl⟩
  rw [← hLe] at hS ⊢
  clear hLe
  refine lv_iload_n hx hb dX5_rowAt_0 rfl (lv_at hl 1 rfl) ?_
  refine lv_if_ne (tgt := 11) hx hb dX5_rowAt_1 (by decide) (fun _ => ?_) (fun h9 => absurd h9 ha)
  refine lv_aload_n hx hb dX5_rowAt_11 rfl (lv_at hl 0 rfl) ?_
  refine va_get (D := D) (ci := 3) (v := .ref a_this_second) (C := RX5) (T := TX5) (N := 4) hx hb hts hinX5_X5_rowAt hown hK hP 0 rfl rfl 1 (by decide) (hts (.fieldLink RX5 16 "LimitTables$State" "second" "LLimitTables$Row;") (by decide +kernel)) (fun _ h9 => h9) rfl dX5_rowAt_12 ?_
  exact W.aret (v := .ref a_this_second) hx hb hr (Or.inl ⟨_, rfl⟩) (Or.inr ⟨_, rfl⟩) (fun t ht hW => ⟨⟨(), a_this_second, rfl, trivial, rfl, by rw [ht]; exact hP.sub (ws' := [(a_this, .inr (3, [.ref a_this_first, .ref a_this_second, .ref a_this_settings, .int v_this.2.2.2]))]) [0] rfl, va_K.moved hW.alike hK, hD.sub (ws' := [(a_this, .inr (3, [.ref a_this_first, .ref a_this_second, .ref a_this_settings, .int v_this.2.2.2]))]) [0] (by decide) rfl⟩, hS.F ht⟩) hS.2.2 dX5_rowAt_15
theorem hinX4_X4_append : ∀ w ∈ wsX40, w ∈ wsX4_append := by decide +kernel
def p_X4_append (v_this : ((Nat → UInt64) × Int32)) (p1 : UInt64) : Option (((Nat → UInt64) × Int32)) := (if (16 : Int32) ≤ v_this.2 then some v_this else gD (inb v_this.2 16) (some ((vf_upd v_this.1 v_this.2.toNatClampNeg p1), (v_this.2 + (1 : Int32)))))
abbrev rm_X4_append : Room := { frames := 0, cells := 0, slots := 0, locals := 0 }
set_option maxHeartbeats 4000000 in
set_option maxRecDepth 100000 in
theorem mt_X4_append (l : Launch) (D : va_G) (k : Nat → ClassId) (a_this a_this_numbers : Nat) (sz : Nat) (v_this : ((Nat → UInt64) × Int32)) (p1 : UInt64) (o : ((Nat → UInt64) × Int32)) (hf : p_X4_append v_this p1 = some o)  : Met l yX4_append wsX4_append rm_X4_append (va_Pc [.ref a_this, .double p1] (bW D k sz [(a_this, .inr (2, [.ref a_this_numbers, .int v_this.2])), (a_this_numbers, .inl (k 1, 16, aD v_this.1))])) (va_Qv (fun (_ : Unit) => True) (fun _ => bO D k (va_A [(a_this, .inr (2, [.ref a_this_numbers, .int v_this.2])), (a_this_numbers, .inl (k 1, 16, aD v_this.1))] sz) [(a_this, .inr (2, [.ref a_this_numbers, .int o.2])), (a_this_numbers, .inl (k 1, 16, aD o.1))]) (va_A [(a_this, .inr (2, [.ref a_this_numbers, .int v_this.2])), (a_this_numbers, .inl (k 1, 16, aD v_this.1))] sz)) 0 0 (va_A [(a_this, .inr (2, [.ref a_this_numbers, .int v_this.2])), (a_this_numbers, .inl (k 1, 16, aD v_this.1))] sz) := by
  unfold p_X4_append at hf
  refine Met.ofW (cc := cX4_append) (maxL := 3) (ret := none) (by decide) rfl ?_
  intro p e s m args below meth c s₁ B hml hv
  obtain ⟨rfl, hsz, hP, hK, hD0⟩ := hv
  have hx := B.exec
  have hb := B.bytes
  have hr := B.returns
  have hts := atoms_spec (ws := wsX4_append) B.pre
  have hown : s.vm.findClass RX4 = some m.cls := findClass_of_methodNamed B.named
  have hlocks := B.notSynchronized
  subst hsz
  have hD := hD0.self (sz := s.heap.size)
  generalize hAe : va_A [(a_this, .inr (2, [.ref a_this_numbers, .int v_this.2])), (a_this_numbers, .inl (k 1, 16, aD v_this.1))] s.heap.size = A at hD ⊢
  have hA : ∀ q : Nat, s.heap.size ≤ q → A q := fun q h => by rw [← hAe]; exact Or.inr h
  have hS : va_S A s.heap s.heap [] := va_S.rf
  have hl := lv_entry [.ref a_this, .double p1] (n := 3) (Nat.le_of_ble_eq_true rfl)
  rw [lg_entry_eq]
  generalize (lg_sl [.ref a_this, .double p1] ++ List.replicate (3 - (lg_sl [.ref a_this, .double p1]).length) Slot.unset).toArray = ls at hl ⊢
  have hl : lv_has ls 3 [(0, .ref a_this), (1, .double p1)] := hl
  obtain ⟨H, hHe⟩ : ∃ H, H = s.heap := ⟨_, rfl⟩
  have hP : va_P D vwCl [(a_this, .inr (2, [.ref a_this_numbers, .int v_this.2])), (a_this_numbers, .inl (k 1, 16, aD v_this.1))] H := by rw [hHe]; exact hP
  have hS : va_S A s.heap H [] := by rw [hHe]; exact hS
  rw [← hHe]
  obtain ⟨locs, hLe⟩ : ∃ locs : List Loc, locs = [] := ⟨_, rfl⟩
  rw [← hLe] at hS ⊢
  clear hLe
  refine lv_aload_n hx hb dX4_append_0 rfl (lv_at hl 0 rfl) ?_
  refine va_get (D := D) (ci := 2) (v := .int v_this.2) (C := RX4) (T := TX4) (N := 2) hx hb hts hinX4_X4_append hown hK hP 0 rfl rfl 1 (by decide) (hts (.fieldLink RX4 15 "LimitTables$Row" "length" "I") (by decide +kernel)) (fun _ h9 => h9) rfl dX4_append_1 ?_
  refine lv_bipush (v := 16) hx hb dX4_append_4 (by decide) ?_
  refine lv_icmp_ge (tgt := 29) hx hb dX4_append_6 (by decide) (fun c1 => ?_) (fun c1 => ?_)
  · skip
    have hf := if_t c1 hf
    have ho := Option.some.inj hf
    subst ho
    exact W.vret hx hb hr (fun t ht hW => ⟨⟨(), rfl, trivial, by rw [ht]; exact hP.sub (ws' := [(a_this, .inr (2, [.ref a_this_numbers, .int v_this.2])), (a_this_numbers, .inl (k 1, 16, aD v_this.1))]) [0, 1] rfl, va_K.moved hW.alike hK, hD.sub (ws' := [(a_this, .inr (2, [.ref a_this_numbers, .int v_this.2])), (a_this_numbers, .inl (k 1, 16, aD v_this.1))]) [0, 1] (by decide) rfl⟩, hS.F ht⟩) hS.2.2 dX4_append_29
  · skip
    have hf := if_f c1 hf
    refine lv_aload_n hx hb dX4_append_9 rfl (lv_at hl 0 rfl) ?_
    refine va_get (D := D) (ci := 2) (v := .ref a_this_numbers) (C := RX4) (T := TX4) (N := 2) hx hb hts hinX4_X4_append hown hK hP 0 rfl rfl 0 (by decide) (hts (.fieldLink RX4 9 "LimitTables$Row" "numbers" "[D") (by decide +kernel)) (fun _ h9 => h9) rfl dX4_append_10 ?_
    refine lv_aload_n hx hb dX4_append_13 rfl (lv_at hl 0 rfl) ?_
    refine va_get (D := D) (ci := 2) (v := .int v_this.2) (C := RX4) (T := TX4) (N := 2) hx hb hts hinX4_X4_append hown hK hP 0 rfl rfl 1 (by decide) (hts (.fieldLink RX4 15 "LimitTables$Row" "length" "I") (by decide +kernel)) (fun _ h9 => h9) rfl dX4_append_14 ?_
    refine lv_dload_n hx hb dX4_append_17 rfl (lv_at hl 1 rfl) ?_
    obtain ⟨g2, hf⟩ := gD_h hf
    refine va_dast hx hb hK hP hD hS 1 1 rfl rfl (inb_in g2) dX4_append_18 (fun H locs hP hD hS => ?_)
    have hP : va_P D vwCl [(a_this, .inr (2, [.ref a_this_numbers, .int v_this.2])), (a_this_numbers, .inl (k 1, 16, aD (vf_upd v_this.1 v_this.2.toNatClampNeg p1)))] H := hP
    have hD : va_D A [(a_this, .inr (2, [.ref a_this_numbers, .int v_this.2])), (a_this_numbers, .inl (k 1, 16, aD (vf_upd v_this.1 v_this.2.toNatClampNeg p1)))] := hD
    refine lv_aload_n hx hb dX4_append_19 rfl (lv_at hl 0 rfl) ?_
    refine lv_dup hx hb dX4_append_20 rfl ?_
    refine va_get (D := D) (ci := 2) (v := .int v_this.2) (C := RX4) (T := TX4) (N := 2) hx hb hts hinX4_X4_append hown hK hP 0 rfl rfl 1 (by decide) (hts (.fieldLink RX4 15 "LimitTables$Row" "length" "I") (by decide +kernel)) (fun _ h9 => h9) rfl dX4_append_21 ?_
    refine lv_iconst (v := 1) hx hb dX4_append_24 (by decide) ?_
    refine lv_iadd hx hb dX4_append_25 ?_
    refine va_put (D := D) (ci := 2) (v := .int (v_this.2 + (1 : Int32))) (ty := .int) (C := RX4) (T := TX4) (N := 2) hx hb hts hinX4_X4_append tyX4 tyX4_ok nmX4 hown hK hP hD hS 0 rfl rfl 1 (by decide) (hts (.fieldLink RX4 15 "LimitTables$Row" "length" "I") (by decide +kernel)) (fun _ h9 => h9) rfl (by decide +kernel) rfl rfl (Nat.le_of_ble_eq_true rfl) dX4_append_26 (fun H locs hP hD hS => ?_)
    have hP : va_P D vwCl [(a_this, .inr (2, [.ref a_this_numbers, .int (v_this.2 + (1 : Int32))])), (a_this_numbers, .inl (k 1, 16, aD (vf_upd v_this.1 v_this.2.toNatClampNeg p1)))] H := hP
    have hD : va_D A [(a_this, .inr (2, [.ref a_this_numbers, .int (v_this.2 + (1 : Int32))])), (a_this_numbers, .inl (k 1, 16, aD (vf_upd v_this.1 v_this.2.toNatClampNeg p1)))] := hD
    have ho := Option.some.inj hf
    subst ho
    exact W.vret hx hb hr (fun t ht hW => ⟨⟨(), rfl, trivial, by rw [ht]; exact hP.sub (ws' := [(a_this, .inr (2, [.ref a_this_numbers, .int (v_this.2 + (1 : Int32))])), (a_this_numbers, .inl (k 1, 16, aD (vf_upd v_this.1 v_this.2.toNatClampNeg p1)))]) [0, 1] rfl, va_K.moved hW.alike hK, hD.sub (ws' := [(a_this, .inr (2, [.ref a_this_numbers, .int (v_this.2 + (1 : Int32))])), (a_this_numbers, .inl (k 1, 16, aD (vf_upd v_this.1 v_this.2.toNatClampNeg p1)))]) [0, 1] (by decide) rfl⟩, hS.F ht⟩) hS.2.2 dX4_append_29
theorem hinX4_X4_copyFrom : ∀ w ∈ wsX40, w ∈ wsX4_copyFrom := by decide +kernel
def p_X4_copyFrom (v_this : ((Nat → UInt64) × Int32)) (v_p1 : ((Nat → UInt64) × Int32))  : Option (((Nat → UInt64) × Int32)) := some ((va_cpy v_p1.1 v_this.1 0 0 16), v_p1.2)
abbrev rm_X4_copyFrom : Room := { frames := 1, cells := 0, slots := 0, locals := 40 }
set_option maxHeartbeats 4000000 in
set_option maxRecDepth 100000 in
theorem mt_X4_copyFrom (l : Launch) (D : va_G) (k : Nat → ClassId) (a_this a_this_numbers a_p1 a_p1_numbers : Nat) (sz : Nat) (v_this : ((Nat → UInt64) × Int32)) (v_p1 : ((Nat → UInt64) × Int32))  (o : ((Nat → UInt64) × Int32)) (hf : p_X4_copyFrom v_this v_p1 = some o)  : Met l yX4_copyFrom wsX4_copyFrom rm_X4_copyFrom (va_Pc [.ref a_this, .ref a_p1] (bW D k sz [(a_this, .inr (2, [.ref a_this_numbers, .int v_this.2])), (a_this_numbers, .inl (k 1, 16, aD v_this.1)), (a_p1, .inr (2, [.ref a_p1_numbers, .int v_p1.2])), (a_p1_numbers, .inl (k 1, 16, aD v_p1.1))])) (va_Qv (fun (_ : Unit) => True) (fun _ => bO D k (va_A [(a_this, .inr (2, [.ref a_this_numbers, .int v_this.2])), (a_this_numbers, .inl (k 1, 16, aD v_this.1)), (a_p1, .inr (2, [.ref a_p1_numbers, .int v_p1.2])), (a_p1_numbers, .inl (k 1, 16, aD v_p1.1))] sz) [(a_this, .inr (2, [.ref a_this_numbers, .int o.2])), (a_this_numbers, .inl (k 1, 16, aD o.1)), (a_p1, .inr (2, [.ref a_p1_numbers, .int v_p1.2])), (a_p1_numbers, .inl (k 1, 16, aD v_p1.1))]) (va_A [(a_this, .inr (2, [.ref a_this_numbers, .int v_this.2])), (a_this_numbers, .inl (k 1, 16, aD v_this.1)), (a_p1, .inr (2, [.ref a_p1_numbers, .int v_p1.2])), (a_p1_numbers, .inl (k 1, 16, aD v_p1.1))] sz)) 0 0 (va_A [(a_this, .inr (2, [.ref a_this_numbers, .int v_this.2])), (a_this_numbers, .inl (k 1, 16, aD v_this.1)), (a_p1, .inr (2, [.ref a_p1_numbers, .int v_p1.2])), (a_p1_numbers, .inl (k 1, 16, aD v_p1.1))] sz) := by
  unfold p_X4_copyFrom at hf
  refine Met.ofW (cc := cX4_copyFrom) (maxL := 2) (ret := none) (by decide) rfl ?_
  intro p e s m args below meth c s₁ B hml hv
  obtain ⟨rfl, hsz, hP, hK, hD0⟩ := hv
  have hx := B.exec
  have hb := B.bytes
  have hr := B.returns
  have hts := atoms_spec (ws := wsX4_copyFrom) B.pre
  have hown : s.vm.findClass RX4 = some m.cls := findClass_of_methodNamed B.named
  have hlocks := B.notSynchronized
  subst hsz
  have hD := hD0.self (sz := s.heap.size)
  generalize hAe : va_A [(a_this, .inr (2, [.ref a_this_numbers, .int v_this.2])), (a_this_numbers, .inl (k 1, 16, aD v_this.1)), (a_p1, .inr (2, [.ref a_p1_numbers, .int v_p1.2])), (a_p1_numbers, .inl (k 1, 16, aD v_p1.1))] s.heap.size = A at hD ⊢
  have hA : ∀ q : Nat, s.heap.size ≤ q → A q := fun q h => by rw [← hAe]; exact Or.inr h
  have hS : va_S A s.heap s.heap [] := va_S.rf
  have hl := lv_entry [.ref a_this, .ref a_p1] (n := 2) (Nat.le_of_ble_eq_true rfl)
  rw [lg_entry_eq]
  generalize (lg_sl [.ref a_this, .ref a_p1] ++ List.replicate (2 - (lg_sl [.ref a_this, .ref a_p1]).length) Slot.unset).toArray = ls at hl ⊢
  have hl : lv_has ls 2 [(0, .ref a_this), (1, .ref a_p1)] := hl
  obtain ⟨H, hHe⟩ : ∃ H, H = s.heap := ⟨_, rfl⟩
  have hP : va_P D vwCl [(a_this, .inr (2, [.ref a_this_numbers, .int v_this.2])), (a_this_numbers, .inl (k 1, 16, aD v_this.1)), (a_p1, .inr (2, [.ref a_p1_numbers, .int v_p1.2])), (a_p1_numbers, .inl (k 1, 16, aD v_p1.1))] H := by rw [hHe]; exact hP
  have hS : va_S A s.heap H [] := by rw [hHe]; exact hS
  rw [← hHe]
  obtain ⟨locs, hLe⟩ : ∃ locs : List Loc, locs = [] := ⟨_, rfl⟩
  rw [← hLe] at hS ⊢
  clear hLe
  refine lv_aload_n hx hb dX4_copyFrom_0 rfl (lv_at hl 1 rfl) ?_
  refine va_get (D := D) (ci := 2) (v := .ref a_p1_numbers) (C := RX4) (T := TX4) (N := 2) hx hb hts hinX4_X4_copyFrom hown hK hP 2 rfl rfl 0 (by decide) (hts (.fieldLink RX4 9 "LimitTables$Row" "numbers" "[D") (by decide +kernel)) (fun _ h9 => h9) rfl dX4_copyFrom_1 ?_
  refine lv_iconst (v := 0) hx hb dX4_copyFrom_4 (by decide) ?_
  refine lv_aload_n hx hb dX4_copyFrom_5 rfl (lv_at hl 0 rfl) ?_
  refine va_get (D := D) (ci := 2) (v := .ref a_this_numbers) (C := RX4) (T := TX4) (N := 2) hx hb hts hinX4_X4_copyFrom hown hK hP 0 rfl rfl 0 (by decide) (hts (.fieldLink RX4 9 "LimitTables$Row" "numbers" "[D") (by decide +kernel)) (fun _ h9 => h9) rfl dX4_copyFrom_6 ?_
  refine lv_iconst (v := 0) hx hb dX4_copyFrom_9 (by decide) ?_
  refine lv_bipush (v := 16) hx hb dX4_copyFrom_10 (by decide) ?_
  refine va_copyd hx hb (by rw [hml]; exact hl.1.symm) hown (hts (.methodLink RX4 19 arraycopyName) (by decide +kernel)) (hts (.native arraycopyName) (by decide +kernel)) (hts (.static arraycopyName) (by decide +kernel)) (hts (.initialized "java/lang/System") (by decide +kernel)) hK hP hD hS 3 1 1 1 rfl rfl rfl rfl rfl (by decide) (by decide) (by decide) (by decide) (by decide) (fun _ _ => rfl) (Nat.le_of_ble_eq_true rfl) (by decide +kernel) dX4_copyFrom_12 (fun H locs hP hD hS => ?_)
  have hP : va_P D vwCl [(a_this, .inr (2, [.ref a_this_numbers, .int v_this.2])), (a_this_numbers, .inl (k 1, 16, aD (va_cpy v_p1.1 v_this.1 0 0 16))), (a_p1, .inr (2, [.ref a_p1_numbers, .int v_p1.2])), (a_p1_numbers, .inl (k 1, 16, aD v_p1.1))] H := hP
  have hD : va_D A [(a_this, .inr (2, [.ref a_this_numbers, .int v_this.2])), (a_this_numbers, .inl (k 1, 16, aD (va_cpy v_p1.1 v_this.1 0 0 16))), (a_p1, .inr (2, [.ref a_p1_numbers, .int v_p1.2])), (a_p1_numbers, .inl (k 1, 16, aD v_p1.1))] := hD
  refine lv_aload_n hx hb dX4_copyFrom_15 rfl (lv_at hl 0 rfl) ?_
  refine lv_aload_n hx hb dX4_copyFrom_16 rfl (lv_at hl 1 rfl) ?_
  refine va_get (D := D) (ci := 2) (v := .int v_p1.2) (C := RX4) (T := TX4) (N := 2) hx hb hts hinX4_X4_copyFrom hown hK hP 2 rfl rfl 1 (by decide) (hts (.fieldLink RX4 15 "LimitTables$Row" "length" "I") (by decide +kernel)) (fun _ h9 => h9) rfl dX4_copyFrom_17 ?_
  refine va_put (D := D) (ci := 2) (v := .int v_p1.2) (ty := .int) (C := RX4) (T := TX4) (N := 2) hx hb hts hinX4_X4_copyFrom tyX4 tyX4_ok nmX4 hown hK hP hD hS 0 rfl rfl 1 (by decide) (hts (.fieldLink RX4 15 "LimitTables$Row" "length" "I") (by decide +kernel)) (fun _ h9 => h9) rfl (by decide +kernel) rfl rfl (Nat.le_of_ble_eq_true rfl) dX4_copyFrom_20 (fun H locs hP hD hS => ?_)
  have hP : va_P D vwCl [(a_this, .inr (2, [.ref a_this_numbers, .int v_p1.2])), (a_this_numbers, .inl (k 1, 16, aD (va_cpy v_p1.1 v_this.1 0 0 16))), (a_p1, .inr (2, [.ref a_p1_numbers, .int v_p1.2])), (a_p1_numbers, .inl (k 1, 16, aD v_p1.1))] H := hP
  have hD : va_D A [(a_this, .inr (2, [.ref a_this_numbers, .int v_p1.2])), (a_this_numbers, .inl (k 1, 16, aD (va_cpy v_p1.1 v_this.1 0 0 16))), (a_p1, .inr (2, [.ref a_p1_numbers, .int v_p1.2])), (a_p1_numbers, .inl (k 1, 16, aD v_p1.1))] := hD
  have ho := Option.some.inj hf
  subst ho
  exact W.vret hx hb hr (fun t ht hW => ⟨⟨(), rfl, trivial, by rw [ht]; exact hP.sub (ws' := [(a_this, .inr (2, [.ref a_this_numbers, .int v_p1.2])), (a_this_numbers, .inl (k 1, 16, aD (va_cpy v_p1.1 v_this.1 0 0 16))), (a_p1, .inr (2, [.ref a_p1_numbers, .int v_p1.2])), (a_p1_numbers, .inl (k 1, 16, aD v_p1.1))]) [0, 1, 2, 3] rfl, va_K.moved hW.alike hK, hD.sub (ws' := [(a_this, .inr (2, [.ref a_this_numbers, .int v_p1.2])), (a_this_numbers, .inl (k 1, 16, aD (va_cpy v_p1.1 v_this.1 0 0 16))), (a_p1, .inr (2, [.ref a_p1_numbers, .int v_p1.2])), (a_p1_numbers, .inl (k 1, 16, aD v_p1.1))]) [0, 1, 2, 3] (by decide) rfl⟩, hS.F ht⟩) hS.2.2 dX4_copyFrom_23
theorem hinX5_X5_copyFrom : ∀ w ∈ wsX50, w ∈ wsX5_copyFrom := by decide +kernel
def p_X5_copyFrom (v_this : (((Nat → UInt64) × Int32) × ((Nat → UInt64) × Int32) × (Nat → UInt64) × Int32)) (v_p1 : (((Nat → UInt64) × Int32) × ((Nat → UInt64) × Int32) × (Nat → UInt64) × Int32))  : Option ((((Nat → UInt64) × Int32) × ((Nat → UInt64) × Int32) × (Nat → UInt64) × Int32)) := (p_X4_copyFrom v_this.1 v_p1.1).bind fun x1 => (p_X4_copyFrom v_this.2.1 v_p1.2.1).bind fun x2 => gD (isB v_p1.2.2.2) (some (x1, x2, (va_cpy v_p1.2.2.1 v_this.2.2.1 0 0 3), v_p1.2.2.2))
abbrev rm_X5_copyFrom : Room := { frames := 2, cells := 0, slots := 0, locals := 61 }
set_option maxHeartbeats 4000000 in
set_option maxRecDepth 100000 in
theorem mt_X5_copyFrom (l : Launch) (D : va_G) (k : Nat → ClassId) (a_this a_this_first a_this_first_numbers a_this_second a_this_second_numbers a_this_settings a_p1 a_p1_first a_p1_first_numbers a_p1_second a_p1_second_numbers a_p1_settings : Nat) (sz : Nat) (v_this : (((Nat → UInt64) × Int32) × ((Nat → UInt64) × Int32) × (Nat → UInt64) × Int32)) (v_p1 : (((Nat → UInt64) × Int32) × ((Nat → UInt64) × Int32) × (Nat → UInt64) × Int32))  (o : (((Nat → UInt64) × Int32) × ((Nat → UInt64) × Int32) × (Nat → UInt64) × Int32)) (hf : p_X5_copyFrom v_this v_p1 = some o)  : Met l yX5_copyFrom wsX5_copyFrom rm_X5_copyFrom (va_Pc [.ref a_this, .ref a_p1] (bW D k sz [(a_this, .inr (3, [.ref a_this_first, .ref a_this_second, .ref a_this_settings, .int v_this.2.2.2])), (a_this_first, .inr (2, [.ref a_this_first_numbers, .int v_this.1.2])), (a_this_first_numbers, .inl (k 1, 16, aD v_this.1.1)), (a_this_second, .inr (2, [.ref a_this_second_numbers, .int v_this.2.1.2])), (a_this_second_numbers, .inl (k 1, 16, aD v_this.2.1.1)), (a_this_settings, .inl (k 1, 3, aD v_this.2.2.1)), (a_p1, .inr (3, [.ref a_p1_first, .ref a_p1_second, .ref a_p1_settings, .int v_p1.2.2.2])), (a_p1_first, .inr (2, [.ref a_p1_first_numbers, .int v_p1.1.2])), (a_p1_first_numbers, .inl (k 1, 16, aD v_p1.1.1)), (a_p1_second, .inr (2, [.ref a_p1_second_numbers, .int v_p1.2.1.2])), (a_p1_second_numbers, .inl (k 1, 16, aD v_p1.2.1.1)), (a_p1_settings, .inl (k 1, 3, aD v_p1.2.2.1))])) (va_Qv (fun (_ : Unit) => True) (fun _ => bO D k (va_A [(a_this, .inr (3, [.ref a_this_first, .ref a_this_second, .ref a_this_settings, .int v_this.2.2.2])), (a_this_first, .inr (2, [.ref a_this_first_numbers, .int v_this.1.2])), (a_this_first_numbers, .inl (k 1, 16, aD v_this.1.1)), (a_this_second, .inr (2, [.ref a_this_second_numbers, .int v_this.2.1.2])), (a_this_second_numbers, .inl (k 1, 16, aD v_this.2.1.1)), (a_this_settings, .inl (k 1, 3, aD v_this.2.2.1)), (a_p1, .inr (3, [.ref a_p1_first, .ref a_p1_second, .ref a_p1_settings, .int v_p1.2.2.2])), (a_p1_first, .inr (2, [.ref a_p1_first_numbers, .int v_p1.1.2])), (a_p1_first_numbers, .inl (k 1, 16, aD v_p1.1.1)), (a_p1_second, .inr (2, [.ref a_p1_second_numbers, .int v_p1.2.1.2])), (a_p1_second_numbers, .inl (k 1, 16, aD v_p1.2.1.1)), (a_p1_settings, .inl (k 1, 3, aD v_p1.2.2.1))] sz) [(a_this, .inr (3, [.ref a_this_first, .ref a_this_second, .ref a_this_settings, .int o.2.2.2])), (a_this_first, .inr (2, [.ref a_this_first_numbers, .int o.1.2])), (a_this_first_numbers, .inl (k 1, 16, aD o.1.1)), (a_this_second, .inr (2, [.ref a_this_second_numbers, .int o.2.1.2])), (a_this_second_numbers, .inl (k 1, 16, aD o.2.1.1)), (a_this_settings, .inl (k 1, 3, aD o.2.2.1)), (a_p1, .inr (3, [.ref a_p1_first, .ref a_p1_second, .ref a_p1_settings, .int v_p1.2.2.2])), (a_p1_first, .inr (2, [.ref a_p1_first_numbers, .int v_p1.1.2])), (a_p1_first_numbers, .inl (k 1, 16, aD v_p1.1.1)), (a_p1_second, .inr (2, [.ref a_p1_second_numbers, .int v_p1.2.1.2])), (a_p1_second_numbers, .inl (k 1, 16, aD v_p1.2.1.1)), (a_p1_settings, .inl (k 1, 3, aD v_p1.2.2.1))]) (va_A [(a_this, .inr (3, [.ref a_this_first, .ref a_this_second, .ref a_this_settings, .int v_this.2.2.2])), (a_this_first, .inr (2, [.ref a_this_first_numbers, .int v_this.1.2])), (a_this_first_numbers, .inl (k 1, 16, aD v_this.1.1)), (a_this_second, .inr (2, [.ref a_this_second_numbers, .int v_this.2.1.2])), (a_this_second_numbers, .inl (k 1, 16, aD v_this.2.1.1)), (a_this_settings, .inl (k 1, 3, aD v_this.2.2.1)), (a_p1, .inr (3, [.ref a_p1_first, .ref a_p1_second, .ref a_p1_settings, .int v_p1.2.2.2])), (a_p1_first, .inr (2, [.ref a_p1_first_numbers, .int v_p1.1.2])), (a_p1_first_numbers, .inl (k 1, 16, aD v_p1.1.1)), (a_p1_second, .inr (2, [.ref a_p1_second_numbers, .int v_p1.2.1.2])), (a_p1_second_numbers, .inl (k 1, 16, aD v_p1.2.1.1)), (a_p1_settings, .inl (k 1, 3, aD v_p1.2.2.1))] sz)) 0 0 (va_A [(a_this, .inr (3, [.ref a_this_first, .ref a_this_second, .ref a_this_settings, .int v_this.2.2.2])), (a_this_first, .inr (2, [.ref a_this_first_numbers, .int v_this.1.2])), (a_this_first_numbers, .inl (k 1, 16, aD v_this.1.1)), (a_this_second, .inr (2, [.ref a_this_second_numbers, .int v_this.2.1.2])), (a_this_second_numbers, .inl (k 1, 16, aD v_this.2.1.1)), (a_this_settings, .inl (k 1, 3, aD v_this.2.2.1)), (a_p1, .inr (3, [.ref a_p1_first, .ref a_p1_second, .ref a_p1_settings, .int v_p1.2.2.2])), (a_p1_first, .inr (2, [.ref a_p1_first_numbers, .int v_p1.1.2])), (a_p1_first_numbers, .inl (k 1, 16, aD v_p1.1.1)), (a_p1_second, .inr (2, [.ref a_p1_second_numbers, .int v_p1.2.1.2])), (a_p1_second_numbers, .inl (k 1, 16, aD v_p1.2.1.1)), (a_p1_settings, .inl (k 1, 3, aD v_p1.2.2.1))] sz) := by
  unfold p_X5_copyFrom at hf
  refine Met.ofW (cc := cX5_copyFrom) (maxL := 2) (ret := none) (by decide) rfl ?_
  intro p e s m args below meth c s₁ B hml hv
  obtain ⟨rfl, hsz, hP, hK, hD0⟩ := hv
  have hx := B.exec
  have hb := B.bytes
  have hr := B.returns
  have hts := atoms_spec (ws := wsX5_copyFrom) B.pre
  have hown : s.vm.findClass RX5 = some m.cls := findClass_of_methodNamed B.named
  have hlocks := B.notSynchronized
  subst hsz
  have hD := hD0.self (sz := s.heap.size)
  generalize hAe : va_A [(a_this, .inr (3, [.ref a_this_first, .ref a_this_second, .ref a_this_settings, .int v_this.2.2.2])), (a_this_first, .inr (2, [.ref a_this_first_numbers, .int v_this.1.2])), (a_this_first_numbers, .inl (k 1, 16, aD v_this.1.1)), (a_this_second, .inr (2, [.ref a_this_second_numbers, .int v_this.2.1.2])), (a_this_second_numbers, .inl (k 1, 16, aD v_this.2.1.1)), (a_this_settings, .inl (k 1, 3, aD v_this.2.2.1)), (a_p1, .inr (3, [.ref a_p1_first, .ref a_p1_second, .ref a_p1_settings, .int v_p1.2.2.2])), (a_p1_first, .inr (2, [.ref a_p1_first_numbers, .int v_p1.1.2])), (a_p1_first_numbers, .inl (k 1, 16, aD v_p1.1.1)), (a_p1_second, .inr (2, [.ref a_p1_second_numbers, .int v_p1.2.1.2])), (a_p1_second_numbers, .inl (k 1, 16, aD v_p1.2.1.1)), (a_p1_settings, .inl (k 1, 3, aD v_p1.2.2.1))] s.heap.size = A at hD ⊢
  have hA : ∀ q : Nat, s.heap.size ≤ q → A q := fun q h => by rw [← hAe]; exact Or.inr h
  have hS : va_S A s.heap s.heap [] := va_S.rf
  have hl := lv_entry [.ref a_this, .ref a_p1] (n := 2) (Nat.le_of_ble_eq_true rfl)
  rw [lg_entry_eq]
  generalize (lg_sl [.ref a_this, .ref a_p1] ++ List.replicate (2 - (lg_sl [.ref a_this, .ref a_p1]).length) Slot.unset).toArray = ls at hl ⊢
  have hl : lv_has ls 2 [(0, .ref a_this), (1, .ref a_p1)] := hl
  obtain ⟨H, hHe⟩ : ∃ H, H = s.heap := ⟨_, rfl⟩
  have hP : va_P D vwCl [(a_this, .inr (3, [.ref a_this_first, .ref a_this_second, .ref a_this_settings, .int v_this.2.2.2])), (a_this_first, .inr (2, [.ref a_this_first_numbers, .int v_this.1.2])), (a_this_first_numbers, .inl (k 1, 16, aD v_this.1.1)), (a_this_second, .inr (2, [.ref a_this_second_numbers, .int v_this.2.1.2])), (a_this_second_numbers, .inl (k 1, 16, aD v_this.2.1.1)), (a_this_settings, .inl (k 1, 3, aD v_this.2.2.1)), (a_p1, .inr (3, [.ref a_p1_first, .ref a_p1_second, .ref a_p1_settings, .int v_p1.2.2.2])), (a_p1_first, .inr (2, [.ref a_p1_first_numbers, .int v_p1.1.2])), (a_p1_first_numbers, .inl (k 1, 16, aD v_p1.1.1)), (a_p1_second, .inr (2, [.ref a_p1_second_numbers, .int v_p1.2.1.2])), (a_p1_second_numbers, .inl (k 1, 16, aD v_p1.2.1.1)), (a_p1_settings, .inl (k 1, 3, aD v_p1.2.2.1))] H := by rw [hHe]; exact hP
  have hS : va_S A s.heap H [] := by rw [hHe]; exact hS
  rw [← hHe]
  obtain ⟨locs, hLe⟩ : ∃ locs : List Loc, locs = [] := ⟨_, rfl⟩
  rw [← hLe] at hS ⊢
  clear hLe
  refine lv_aload_n hx hb dX5_copyFrom_0 rfl (lv_at hl 0 rfl) ?_
  refine va_get (D := D) (ci := 3) (v := .ref a_this_first) (C := RX5) (T := TX5) (N := 4) hx hb hts hinX5_X5_copyFrom hown hK hP 0 rfl rfl 0 (by decide) (hts (.fieldLink RX5 10 "LimitTables$State" "first" "LLimitTables$Row;") (by decide +kernel)) (fun _ h9 => h9) rfl dX5_copyFrom_1 ?_
  refine lv_aload_n hx hb dX5_copyFrom_4 rfl (lv_at hl 1 rfl) ?_
  refine va_get (D := D) (ci := 3) (v := .ref a_p1_first) (C := RX5) (T := TX5) (N := 4) hx hb hts hinX5_X5_copyFrom hown hK hP 6 rfl rfl 0 (by decide) (hts (.fieldLink RX5 10 "LimitTables$State" "first" "LLimitTables$Row;") (by decide +kernel)) (fun _ h9 => h9) rfl dX5_copyFrom_5 ?_
  obtain ⟨x1, hx1, hf⟩ := bind_s hf
  refine cc_v (wc := [(a_this_first, .inr (2, [.ref a_this_first_numbers, .int v_this.1.2])), (a_this_first_numbers, .inl (k 1, 16, aD v_this.1.1)), (a_p1_first, .inr (2, [.ref a_p1_first_numbers, .int v_p1.1.2])), (a_p1_first_numbers, .inl (k 1, 16, aD v_p1.1.1))]) (wr := [(a_this, .inr (3, [.ref a_this_first, .ref a_this_second, .ref a_this_settings, .int v_this.2.2.2])), (a_this_second, .inr (2, [.ref a_this_second_numbers, .int v_this.2.1.2])), (a_this_second_numbers, .inl (k 1, 16, aD v_this.2.1.1)), (a_this_settings, .inl (k 1, 3, aD v_this.2.2.1)), (a_p1, .inr (3, [.ref a_p1_first, .ref a_p1_second, .ref a_p1_settings, .int v_p1.2.2.2])), (a_p1_second, .inr (2, [.ref a_p1_second_numbers, .int v_p1.2.1.2])), (a_p1_second_numbers, .inl (k 1, 16, aD v_p1.2.1.1)), (a_p1_settings, .inl (k 1, 3, aD v_p1.2.2.1))]) (w1 := [(a_this_first, .inr (2, [.ref a_this_first_numbers, .int x1.2])), (a_this_first_numbers, .inl (k 1, 16, aD x1.1)), (a_p1_first, .inr (2, [.ref a_p1_first_numbers, .int v_p1.1.2])), (a_p1_first_numbers, .inl (k 1, 16, aD v_p1.1.1))]) (va_runV (As := [.ref a_p1_first]) (rest := []) ⟨hx, hb, hml, hown, hts⟩ (mt_X4_copyFrom l D k a_this_first a_this_first_numbers a_p1_first a_p1_first_numbers _ v_this.1 v_p1.1  x1 hx1) (cwV 1 hts gX5_copyFrom_X4_copyFrom rfl rfl rfl (by decide +kernel) ⟨(Nat.le_of_ble_eq_true rfl), (Nat.le_of_ble_eq_true rfl)⟩) (cc_pv (wc := [(a_this_first, .inr (2, [.ref a_this_first_numbers, .int v_this.1.2])), (a_this_first_numbers, .inl (k 1, 16, aD v_this.1.1)), (a_p1_first, .inr (2, [.ref a_p1_first_numbers, .int v_p1.1.2])), (a_p1_first_numbers, .inl (k 1, 16, aD v_p1.1.1))]) hK hP hD [1, 2, 7, 8] (by decide) rfl rfl 2 1 rfl rfl rfl) rfl rfl hl.1 rfl (lv_room (Nat.le_of_ble_eq_true rfl)) dX5_copyFrom_8 ⟨Nat.zero_le _, Nat.zero_le _⟩) hP hD hS hA [1, 2, 7, 8] [0, 3, 4, 5, 6, 9, 10, 11] rfl rfl (by decide) (by decide) (fun H locs hP hD hS => ?_)
  have hP : va_P D vwCl [(a_this, .inr (3, [.ref a_this_first, .ref a_this_second, .ref a_this_settings, .int v_this.2.2.2])), (a_this_second, .inr (2, [.ref a_this_second_numbers, .int v_this.2.1.2])), (a_this_second_numbers, .inl (k 1, 16, aD v_this.2.1.1)), (a_this_settings, .inl (k 1, 3, aD v_this.2.2.1)), (a_p1, .inr (3, [.ref a_p1_first, .ref a_p1_second, .ref a_p1_settings, .int v_p1.2.2.2])), (a_p1_second, .inr (2, [.ref a_p1_second_numbers, .int v_p1.2.1.2])), (a_p1_second_numbers, .inl (k 1, 16, aD v_p1.2.1.1)), (a_p1_settings, .inl (k 1, 3, aD v_p1.2.2.1)), (a_this_first, .inr (2, [.ref a_this_first_numbers, .int x1.2])), (a_this_first_numbers, .inl (k 1, 16, aD x1.1)), (a_p1_first, .inr (2, [.ref a_p1_first_numbers, .int v_p1.1.2])), (a_p1_first_numbers, .inl (k 1, 16, aD v_p1.1.1))] H := hP
  have hD : va_D A [(a_this, .inr (3, [.ref a_this_first, .ref a_this_second, .ref a_this_settings, .int v_this.2.2.2])), (a_this_second, .inr (2, [.ref a_this_second_numbers, .int v_this.2.1.2])), (a_this_second_numbers, .inl (k 1, 16, aD v_this.2.1.1)), (a_this_settings, .inl (k 1, 3, aD v_this.2.2.1)), (a_p1, .inr (3, [.ref a_p1_first, .ref a_p1_second, .ref a_p1_settings, .int v_p1.2.2.2])), (a_p1_second, .inr (2, [.ref a_p1_second_numbers, .int v_p1.2.1.2])), (a_p1_second_numbers, .inl (k 1, 16, aD v_p1.2.1.1)), (a_p1_settings, .inl (k 1, 3, aD v_p1.2.2.1)), (a_this_first, .inr (2, [.ref a_this_first_numbers, .int x1.2])), (a_this_first_numbers, .inl (k 1, 16, aD x1.1)), (a_p1_first, .inr (2, [.ref a_p1_first_numbers, .int v_p1.1.2])), (a_p1_first_numbers, .inl (k 1, 16, aD v_p1.1.1))] := hD
  refine lv_aload_n hx hb dX5_copyFrom_11 rfl (lv_at hl 0 rfl) ?_
  refine va_get (D := D) (ci := 3) (v := .ref a_this_second) (C := RX5) (T := TX5) (N := 4) hx hb hts hinX5_X5_copyFrom hown hK hP 0 rfl rfl 1 (by decide) (hts (.fieldLink RX5 16 "LimitTables$State" "second" "LLimitTables$Row;") (by decide +kernel)) (fun _ h9 => h9) rfl dX5_copyFrom_12 ?_
  refine lv_aload_n hx hb dX5_copyFrom_15 rfl (lv_at hl 1 rfl) ?_
  refine va_get (D := D) (ci := 3) (v := .ref a_p1_second) (C := RX5) (T := TX5) (N := 4) hx hb hts hinX5_X5_copyFrom hown hK hP 4 rfl rfl 1 (by decide) (hts (.fieldLink RX5 16 "LimitTables$State" "second" "LLimitTables$Row;") (by decide +kernel)) (fun _ h9 => h9) rfl dX5_copyFrom_16 ?_
  obtain ⟨x2, hx2, hf⟩ := bind_s hf
  refine cc_v (wc := [(a_this_second, .inr (2, [.ref a_this_second_numbers, .int v_this.2.1.2])), (a_this_second_numbers, .inl (k 1, 16, aD v_this.2.1.1)), (a_p1_second, .inr (2, [.ref a_p1_second_numbers, .int v_p1.2.1.2])), (a_p1_second_numbers, .inl (k 1, 16, aD v_p1.2.1.1))]) (wr := [(a_this, .inr (3, [.ref a_this_first, .ref a_this_second, .ref a_this_settings, .int v_this.2.2.2])), (a_this_settings, .inl (k 1, 3, aD v_this.2.2.1)), (a_p1, .inr (3, [.ref a_p1_first, .ref a_p1_second, .ref a_p1_settings, .int v_p1.2.2.2])), (a_p1_settings, .inl (k 1, 3, aD v_p1.2.2.1)), (a_this_first, .inr (2, [.ref a_this_first_numbers, .int x1.2])), (a_this_first_numbers, .inl (k 1, 16, aD x1.1)), (a_p1_first, .inr (2, [.ref a_p1_first_numbers, .int v_p1.1.2])), (a_p1_first_numbers, .inl (k 1, 16, aD v_p1.1.1))]) (w1 := [(a_this_second, .inr (2, [.ref a_this_second_numbers, .int x2.2])), (a_this_second_numbers, .inl (k 1, 16, aD x2.1)), (a_p1_second, .inr (2, [.ref a_p1_second_numbers, .int v_p1.2.1.2])), (a_p1_second_numbers, .inl (k 1, 16, aD v_p1.2.1.1))]) (va_runV (As := [.ref a_p1_second]) (rest := []) ⟨hx, hb, hml, hown, hts⟩ (mt_X4_copyFrom l D k a_this_second a_this_second_numbers a_p1_second a_p1_second_numbers _ v_this.2.1 v_p1.2.1  x2 hx2) (cwV 1 hts gX5_copyFrom_X4_copyFrom rfl rfl rfl (by decide +kernel) ⟨(Nat.le_of_ble_eq_true rfl), (Nat.le_of_ble_eq_true rfl)⟩) (cc_pv (wc := [(a_this_second, .inr (2, [.ref a_this_second_numbers, .int v_this.2.1.2])), (a_this_second_numbers, .inl (k 1, 16, aD v_this.2.1.1)), (a_p1_second, .inr (2, [.ref a_p1_second_numbers, .int v_p1.2.1.2])), (a_p1_second_numbers, .inl (k 1, 16, aD v_p1.2.1.1))]) hK hP hD [1, 2, 5, 6] (by decide) rfl rfl 2 1 rfl rfl rfl) rfl rfl hl.1 rfl (lv_room (Nat.le_of_ble_eq_true rfl)) dX5_copyFrom_19 ⟨Nat.zero_le _, Nat.zero_le _⟩) hP hD hS hA [1, 2, 5, 6] [0, 3, 4, 7, 8, 9, 10, 11] rfl rfl (by decide) (by decide) (fun H locs hP hD hS => ?_)
  have hP : va_P D vwCl [(a_this, .inr (3, [.ref a_this_first, .ref a_this_second, .ref a_this_settings, .int v_this.2.2.2])), (a_this_settings, .inl (k 1, 3, aD v_this.2.2.1)), (a_p1, .inr (3, [.ref a_p1_first, .ref a_p1_second, .ref a_p1_settings, .int v_p1.2.2.2])), (a_p1_settings, .inl (k 1, 3, aD v_p1.2.2.1)), (a_this_first, .inr (2, [.ref a_this_first_numbers, .int x1.2])), (a_this_first_numbers, .inl (k 1, 16, aD x1.1)), (a_p1_first, .inr (2, [.ref a_p1_first_numbers, .int v_p1.1.2])), (a_p1_first_numbers, .inl (k 1, 16, aD v_p1.1.1)), (a_this_second, .inr (2, [.ref a_this_second_numbers, .int x2.2])), (a_this_second_numbers, .inl (k 1, 16, aD x2.1)), (a_p1_second, .inr (2, [.ref a_p1_second_numbers, .int v_p1.2.1.2])), (a_p1_second_numbers, .inl (k 1, 16, aD v_p1.2.1.1))] H := hP
  have hD : va_D A [(a_this, .inr (3, [.ref a_this_first, .ref a_this_second, .ref a_this_settings, .int v_this.2.2.2])), (a_this_settings, .inl (k 1, 3, aD v_this.2.2.1)), (a_p1, .inr (3, [.ref a_p1_first, .ref a_p1_second, .ref a_p1_settings, .int v_p1.2.2.2])), (a_p1_settings, .inl (k 1, 3, aD v_p1.2.2.1)), (a_this_first, .inr (2, [.ref a_this_first_numbers, .int x1.2])), (a_this_first_numbers, .inl (k 1, 16, aD x1.1)), (a_p1_first, .inr (2, [.ref a_p1_first_numbers, .int v_p1.1.2])), (a_p1_first_numbers, .inl (k 1, 16, aD v_p1.1.1)), (a_this_second, .inr (2, [.ref a_this_second_numbers, .int x2.2])), (a_this_second_numbers, .inl (k 1, 16, aD x2.1)), (a_p1_second, .inr (2, [.ref a_p1_second_numbers, .int v_p1.2.1.2])), (a_p1_second_numbers, .inl (k 1, 16, aD v_p1.2.1.1))] := hD
  refine lv_aload_n hx hb dX5_copyFrom_22 rfl (lv_at hl 1 rfl) ?_
  refine va_get (D := D) (ci := 3) (v := .ref a_p1_settings) (C := RX5) (T := TX5) (N := 4) hx hb hts hinX5_X5_copyFrom hown hK hP 2 rfl rfl 2 (by decide) (hts (.fieldLink RX5 19 "LimitTables$State" "settings" "[D") (by decide +kernel)) (fun _ h9 => h9) rfl dX5_copyFrom_23 ?_
  refine lv_iconst (v := 0) hx hb dX5_copyFrom_26 (by decide) ?_
  refine lv_aload_n hx hb dX5_copyFrom_27 rfl (lv_at hl 0 rfl) ?_
  refine va_get (D := D) (ci := 3) (v := .ref a_this_settings) (C := RX5) (T := TX5) (N := 4) hx hb hts hinX5_X5_copyFrom hown hK hP 0 rfl rfl 2 (by decide) (hts (.fieldLink RX5 19 "LimitTables$State" "settings" "[D") (by decide +kernel)) (fun _ h9 => h9) rfl dX5_copyFrom_28 ?_
  refine lv_iconst (v := 0) hx hb dX5_copyFrom_31 (by decide) ?_
  refine lv_iconst (v := 3) hx hb dX5_copyFrom_32 (by decide) ?_
  refine va_copyd hx hb (by rw [hml]; exact hl.1.symm) hown (hts (.methodLink RX5 49 arraycopyName) (by decide +kernel)) (hts (.native arraycopyName) (by decide +kernel)) (hts (.static arraycopyName) (by decide +kernel)) (hts (.initialized "java/lang/System") (by decide +kernel)) hK hP hD hS 3 1 1 1 rfl rfl rfl rfl rfl (by decide) (by decide) (by decide) (by decide) (by decide) (fun _ _ => rfl) (Nat.le_of_ble_eq_true rfl) (by decide +kernel) dX5_copyFrom_33 (fun H locs hP hD hS => ?_)
  have hP : va_P D vwCl [(a_this, .inr (3, [.ref a_this_first, .ref a_this_second, .ref a_this_settings, .int v_this.2.2.2])), (a_this_settings, .inl (k 1, 3, aD (va_cpy v_p1.2.2.1 v_this.2.2.1 0 0 3))), (a_p1, .inr (3, [.ref a_p1_first, .ref a_p1_second, .ref a_p1_settings, .int v_p1.2.2.2])), (a_p1_settings, .inl (k 1, 3, aD v_p1.2.2.1)), (a_this_first, .inr (2, [.ref a_this_first_numbers, .int x1.2])), (a_this_first_numbers, .inl (k 1, 16, aD x1.1)), (a_p1_first, .inr (2, [.ref a_p1_first_numbers, .int v_p1.1.2])), (a_p1_first_numbers, .inl (k 1, 16, aD v_p1.1.1)), (a_this_second, .inr (2, [.ref a_this_second_numbers, .int x2.2])), (a_this_second_numbers, .inl (k 1, 16, aD x2.1)), (a_p1_second, .inr (2, [.ref a_p1_second_numbers, .int v_p1.2.1.2])), (a_p1_second_numbers, .inl (k 1, 16, aD v_p1.2.1.1))] H := hP
  have hD : va_D A [(a_this, .inr (3, [.ref a_this_first, .ref a_this_second, .ref a_this_settings, .int v_this.2.2.2])), (a_this_settings, .inl (k 1, 3, aD (va_cpy v_p1.2.2.1 v_this.2.2.1 0 0 3))), (a_p1, .inr (3, [.ref a_p1_first, .ref a_p1_second, .ref a_p1_settings, .int v_p1.2.2.2])), (a_p1_settings, .inl (k 1, 3, aD v_p1.2.2.1)), (a_this_first, .inr (2, [.ref a_this_first_numbers, .int x1.2])), (a_this_first_numbers, .inl (k 1, 16, aD x1.1)), (a_p1_first, .inr (2, [.ref a_p1_first_numbers, .int v_p1.1.2])), (a_p1_first_numbers, .inl (k 1, 16, aD v_p1.1.1)), (a_this_second, .inr (2, [.ref a_this_second_numbers, .int x2.2])), (a_this_second_numbers, .inl (k 1, 16, aD x2.1)), (a_p1_second, .inr (2, [.ref a_p1_second_numbers, .int v_p1.2.1.2])), (a_p1_second_numbers, .inl (k 1, 16, aD v_p1.2.1.1))] := hD
  refine lv_aload_n hx hb dX5_copyFrom_36 rfl (lv_at hl 0 rfl) ?_
  refine lv_aload_n hx hb dX5_copyFrom_37 rfl (lv_at hl 1 rfl) ?_
  refine va_get (D := D) (ci := 3) (v := .int v_p1.2.2.2) (C := RX5) (T := TX5) (N := 4) hx hb hts hinX5_X5_copyFrom hown hK hP 2 rfl rfl 3 (by decide) (hts (.fieldLink RX5 23 "LimitTables$State" "bridging" "Z") (by decide +kernel)) (fun _ h9 => h9) rfl dX5_copyFrom_38 ?_
  obtain ⟨g3, hf⟩ := gD_h hf
  refine va_put (D := D) (ci := 3) (v := .int v_p1.2.2.2) (ty := .boolean) (C := RX5) (T := TX5) (N := 4) hx hb hts hinX5_X5_copyFrom tyX5 tyX5_ok nmX5 hown hK hP hD hS 0 rfl rfl 3 (by decide) (hts (.fieldLink RX5 23 "LimitTables$State" "bridging" "Z") (by decide +kernel)) (fun _ h9 => h9) rfl (by decide +kernel) (isB_n g3) (isB_f g3) (Nat.le_of_ble_eq_true rfl) dX5_copyFrom_41 (fun H locs hP hD hS => ?_)
  have hP : va_P D vwCl [(a_this, .inr (3, [.ref a_this_first, .ref a_this_second, .ref a_this_settings, .int v_p1.2.2.2])), (a_this_settings, .inl (k 1, 3, aD (va_cpy v_p1.2.2.1 v_this.2.2.1 0 0 3))), (a_p1, .inr (3, [.ref a_p1_first, .ref a_p1_second, .ref a_p1_settings, .int v_p1.2.2.2])), (a_p1_settings, .inl (k 1, 3, aD v_p1.2.2.1)), (a_this_first, .inr (2, [.ref a_this_first_numbers, .int x1.2])), (a_this_first_numbers, .inl (k 1, 16, aD x1.1)), (a_p1_first, .inr (2, [.ref a_p1_first_numbers, .int v_p1.1.2])), (a_p1_first_numbers, .inl (k 1, 16, aD v_p1.1.1)), (a_this_second, .inr (2, [.ref a_this_second_numbers, .int x2.2])), (a_this_second_numbers, .inl (k 1, 16, aD x2.1)), (a_p1_second, .inr (2, [.ref a_p1_second_numbers, .int v_p1.2.1.2])), (a_p1_second_numbers, .inl (k 1, 16, aD v_p1.2.1.1))] H := hP
  have hD : va_D A [(a_this, .inr (3, [.ref a_this_first, .ref a_this_second, .ref a_this_settings, .int v_p1.2.2.2])), (a_this_settings, .inl (k 1, 3, aD (va_cpy v_p1.2.2.1 v_this.2.2.1 0 0 3))), (a_p1, .inr (3, [.ref a_p1_first, .ref a_p1_second, .ref a_p1_settings, .int v_p1.2.2.2])), (a_p1_settings, .inl (k 1, 3, aD v_p1.2.2.1)), (a_this_first, .inr (2, [.ref a_this_first_numbers, .int x1.2])), (a_this_first_numbers, .inl (k 1, 16, aD x1.1)), (a_p1_first, .inr (2, [.ref a_p1_first_numbers, .int v_p1.1.2])), (a_p1_first_numbers, .inl (k 1, 16, aD v_p1.1.1)), (a_this_second, .inr (2, [.ref a_this_second_numbers, .int x2.2])), (a_this_second_numbers, .inl (k 1, 16, aD x2.1)), (a_p1_second, .inr (2, [.ref a_p1_second_numbers, .int v_p1.2.1.2])), (a_p1_second_numbers, .inl (k 1, 16, aD v_p1.2.1.1))] := hD
  have ho := Option.some.inj hf
  subst ho
  exact W.vret hx hb hr (fun t ht hW => ⟨⟨(), rfl, trivial, by rw [ht]; exact hP.sub (ws' := [(a_this, .inr (3, [.ref a_this_first, .ref a_this_second, .ref a_this_settings, .int v_p1.2.2.2])), (a_this_first, .inr (2, [.ref a_this_first_numbers, .int x1.2])), (a_this_first_numbers, .inl (k 1, 16, aD x1.1)), (a_this_second, .inr (2, [.ref a_this_second_numbers, .int x2.2])), (a_this_second_numbers, .inl (k 1, 16, aD x2.1)), (a_this_settings, .inl (k 1, 3, aD (va_cpy v_p1.2.2.1 v_this.2.2.1 0 0 3))), (a_p1, .inr (3, [.ref a_p1_first, .ref a_p1_second, .ref a_p1_settings, .int v_p1.2.2.2])), (a_p1_first, .inr (2, [.ref a_p1_first_numbers, .int v_p1.1.2])), (a_p1_first_numbers, .inl (k 1, 16, aD v_p1.1.1)), (a_p1_second, .inr (2, [.ref a_p1_second_numbers, .int v_p1.2.1.2])), (a_p1_second_numbers, .inl (k 1, 16, aD v_p1.2.1.1)), (a_p1_settings, .inl (k 1, 3, aD v_p1.2.2.1))]) [0, 4, 5, 8, 9, 1, 2, 6, 7, 10, 11, 3] rfl, va_K.moved hW.alike hK, hD.sub (ws' := [(a_this, .inr (3, [.ref a_this_first, .ref a_this_second, .ref a_this_settings, .int v_p1.2.2.2])), (a_this_first, .inr (2, [.ref a_this_first_numbers, .int x1.2])), (a_this_first_numbers, .inl (k 1, 16, aD x1.1)), (a_this_second, .inr (2, [.ref a_this_second_numbers, .int x2.2])), (a_this_second_numbers, .inl (k 1, 16, aD x2.1)), (a_this_settings, .inl (k 1, 3, aD (va_cpy v_p1.2.2.1 v_this.2.2.1 0 0 3))), (a_p1, .inr (3, [.ref a_p1_first, .ref a_p1_second, .ref a_p1_settings, .int v_p1.2.2.2])), (a_p1_first, .inr (2, [.ref a_p1_first_numbers, .int v_p1.1.2])), (a_p1_first_numbers, .inl (k 1, 16, aD v_p1.1.1)), (a_p1_second, .inr (2, [.ref a_p1_second_numbers, .int v_p1.2.1.2])), (a_p1_second_numbers, .inl (k 1, 16, aD v_p1.2.1.1)), (a_p1_settings, .inl (k 1, 3, aD v_p1.2.2.1))]) [0, 4, 5, 8, 9, 1, 2, 6, 7, 10, 11, 3] (by decide) rfl⟩, hS.F ht⟩) hS.2.2 dX5_copyFrom_44
def p_X3_sameBits  (p1 : UInt64) (p2 : UInt64) : Option (Int32) := (if (Op.cmpValue (FP.dcmp p1 p2) CmpOp.l) = 0 then (if (Op.cmpValue (FP.dcmp p1 FP.dconst0) CmpOp.l) = 0 then dop (FP.ddiv FP.dconst1 p1) fun d3 => (if 0 ≤ (Op.cmpValue (FP.dcmp d3 FP.dconst0) CmpOp.g) then dop (FP.ddiv FP.dconst1 p2) fun d5 => (if 0 ≤ (Op.cmpValue (FP.dcmp d5 FP.dconst0) CmpOp.g) then some (1 : Int32) else some (0 : Int32)) else dop (FP.ddiv FP.dconst1 p2) fun d7 => (if 0 ≤ (Op.cmpValue (FP.dcmp d7 FP.dconst0) CmpOp.g) then some (0 : Int32) else some (1 : Int32))) else some (1 : Int32)) else some (0 : Int32))
abbrev rm_X3_sameBits : Room := { frames := 0, cells := 0, slots := 0, locals := 0 }
set_option maxHeartbeats 4000000 in
set_option maxRecDepth 100000 in
theorem mt_X3_sameBits (l : Launch) (D : va_G) (k : Nat → ClassId)  (sz : Nat)  (p1 : UInt64) (p2 : UInt64) (o : Int32) (hf : p_X3_sameBits p1 p2 = some o)  : Met l yX3_sameBits wsX3_sameBits rm_X3_sameBits (va_Pc [.double p1, .double p2] (bW D k sz [])) (va_Qi (fun (r : Int32) (_ : Unit) => r = o) (fun _ => bO D k (va_A [] sz) []) (va_A [] sz)) 0 0 (va_A [] sz) := by
  unfold p_X3_sameBits at hf
  refine Met.ofW (cc := cX3_sameBits) (maxL := 4) (ret := (some .boolean)) (by decide) rfl ?_
  intro p e s m args below meth c s₁ B hml hv
  obtain ⟨rfl, hsz, hP, hK, hD0⟩ := hv
  have hx := B.exec
  have hb := B.bytes
  have hr := B.returns
  have hts := atoms_spec (ws := wsX3_sameBits) B.pre
  have hown : s.vm.findClass RX3 = some m.cls := findClass_of_methodNamed B.named
  have hlocks := B.notSynchronized
  subst hsz
  have hD := hD0.self (sz := s.heap.size)
  generalize hAe : va_A [] s.heap.size = A at hD ⊢
  have hA : ∀ q : Nat, s.heap.size ≤ q → A q := fun q h => by rw [← hAe]; exact Or.inr h
  have hS : va_S A s.heap s.heap [] := va_S.rf
  have hl := lv_entry [.double p1, .double p2] (n := 4) (Nat.le_of_ble_eq_true rfl)
  rw [lg_entry_eq]
  generalize (lg_sl [.double p1, .double p2] ++ List.replicate (4 - (lg_sl [.double p1, .double p2]).length) Slot.unset).toArray = ls at hl ⊢
  have hl : lv_has ls 4 [(0, .double p1), (2, .double p2)] := hl
  obtain ⟨H, hHe⟩ : ∃ H, H = s.heap := ⟨_, rfl⟩
  have hP : va_P D vwCl [] H := by rw [hHe]; exact hP
  have hS : va_S A s.heap H [] := by rw [hHe]; exact hS
  rw [← hHe]
  obtain ⟨locs, hLe⟩ : ∃ locs : List Loc, locs = [] := ⟨_, rfl⟩
  rw [← hLe] at hS ⊢
  clear hLe
  refine lv_dload_n hx hb dX3_sameBits_0 rfl (lv_at hl 0 rfl) ?_
  refine lv_dload_n hx hb dX3_sameBits_1 rfl (lv_at hl 1 rfl) ?_
  refine lv_dcmp hx hb dX3_sameBits_2 ?_
  refine lv_if_eq (tgt := 8) hx hb dX3_sameBits_3 (by decide) (fun c1 => ?_) (fun c1 => ?_)
  · skip
    have hf := if_t c1 hf
    refine lv_dload_n hx hb dX3_sameBits_8 rfl (lv_at hl 0 rfl) ?_
    refine lv_dconst0 hx hb dX3_sameBits_9 ?_
    refine lv_dcmp hx hb dX3_sameBits_10 ?_
    refine lv_if_ne (tgt := 43) hx hb dX3_sameBits_11 (by decide) (fun c2 => ?_) (fun c2 => ?_)
    · skip
      have hf := if_f c2 hf
      refine lv_iconst (v := 1) hx hb dX3_sameBits_43 (by decide) ?_
      refine lv_goto (tgt := 48) hx hb dX3_sameBits_44 (by decide) ?_
      have ho := Option.some.inj hf
      subst ho
      exact W.zret (v := (1 : Int32)) (ty := .boolean) hx hb hr rfl (fun t ht hW => ⟨⟨(1 : Int32), (), rfl, rfl, by rw [ht]; exact hP.sub (ws' := []) [] rfl, va_K.moved hW.alike hK, hD.sub (ws' := []) [] (by decide) rfl⟩, hS.F ht⟩) hS.2.2 dX3_sameBits_48
    · skip
      have hf := if_t c2 hf
      refine lv_dconst1 hx hb dX3_sameBits_14 ?_
      refine lv_dload_n hx hb dX3_sameBits_15 rfl (lv_at hl 0 rfl) ?_
      refine lv_ddiv hx hb dX3_sameBits_16 (dop_h hf) ?_
      refine lv_topd (fun d3 ed3 => ?_)
      have hf := dop_at ed3 hf
      refine lv_dconst0 hx hb dX3_sameBits_17 ?_
      refine lv_dcmp hx hb dX3_sameBits_18 ?_
      refine lv_if_ge (tgt := 26) hx hb dX3_sameBits_19 (by decide) (fun c4 => ?_) (fun c4 => ?_)
      · skip
        have hf := if_t c4 hf
        refine lv_iconst (v := 0) hx hb dX3_sameBits_26 (by decide) ?_
        refine lv_dconst1 hx hb dX3_sameBits_27 ?_
        refine lv_dload_n hx hb dX3_sameBits_28 rfl (lv_at hl 1 rfl) ?_
        refine lv_ddiv hx hb dX3_sameBits_29 (dop_h hf) ?_
        refine lv_topd (fun d5 ed5 => ?_)
        have hf := dop_at ed5 hf
        refine lv_dconst0 hx hb dX3_sameBits_30 ?_
        refine lv_dcmp hx hb dX3_sameBits_31 ?_
        refine lv_if_ge (tgt := 39) hx hb dX3_sameBits_32 (by decide) (fun c6 => ?_) (fun c6 => ?_)
        · skip
          have hf := if_t c6 hf
          refine lv_iconst (v := 0) hx hb dX3_sameBits_39 (by decide) ?_
          refine lv_icmp_ne (tgt := 47) hx hb dX3_sameBits_40 (by decide) (fun h9 => absurd (by decide) h9) (fun _ => ?_)
          refine lv_iconst (v := 1) hx hb dX3_sameBits_43 (by decide) ?_
          refine lv_goto (tgt := 48) hx hb dX3_sameBits_44 (by decide) ?_
          have ho := Option.some.inj hf
          subst ho
          exact W.zret (v := (1 : Int32)) (ty := .boolean) hx hb hr rfl (fun t ht hW => ⟨⟨(1 : Int32), (), rfl, rfl, by rw [ht]; exact hP.sub (ws' := []) [] rfl, va_K.moved hW.alike hK, hD.sub (ws' := []) [] (by decide) rfl⟩, hS.F ht⟩) hS.2.2 dX3_sameBits_48
        · skip
          have hf := if_f c6 hf
          refine lv_iconst (v := 1) hx hb dX3_sameBits_35 (by decide) ?_
          refine lv_goto (tgt := 40) hx hb dX3_sameBits_36 (by decide) ?_
          refine lv_icmp_ne (tgt := 47) hx hb dX3_sameBits_40 (by decide) (fun _ => ?_) (fun h9 => absurd h9 (by decide))
          refine lv_iconst (v := 0) hx hb dX3_sameBits_47 (by decide) ?_
          have ho := Option.some.inj hf
          subst ho
          exact W.zret (v := (0 : Int32)) (ty := .boolean) hx hb hr rfl (fun t ht hW => ⟨⟨(0 : Int32), (), rfl, rfl, by rw [ht]; exact hP.sub (ws' := []) [] rfl, va_K.moved hW.alike hK, hD.sub (ws' := []) [] (by decide) rfl⟩, hS.F ht⟩) hS.2.2 dX3_sameBits_48
      · skip
        have hf := if_f c4 hf
        refine lv_iconst (v := 1) hx hb dX3_sameBits_22 (by decide) ?_
        refine lv_goto (tgt := 27) hx hb dX3_sameBits_23 (by decide) ?_
        refine lv_dconst1 hx hb dX3_sameBits_27 ?_
        refine lv_dload_n hx hb dX3_sameBits_28 rfl (lv_at hl 1 rfl) ?_
        refine lv_ddiv hx hb dX3_sameBits_29 (dop_h hf) ?_
        refine lv_topd (fun d7 ed7 => ?_)
        have hf := dop_at ed7 hf
        refine lv_dconst0 hx hb dX3_sameBits_30 ?_
        refine lv_dcmp hx hb dX3_sameBits_31 ?_
        refine lv_if_ge (tgt := 39) hx hb dX3_sameBits_32 (by decide) (fun c8 => ?_) (fun c8 => ?_)
        · skip
          have hf := if_t c8 hf
          refine lv_iconst (v := 0) hx hb dX3_sameBits_39 (by decide) ?_
          refine lv_icmp_ne (tgt := 47) hx hb dX3_sameBits_40 (by decide) (fun _ => ?_) (fun h9 => absurd h9 (by decide))
          refine lv_iconst (v := 0) hx hb dX3_sameBits_47 (by decide) ?_
          have ho := Option.some.inj hf
          subst ho
          exact W.zret (v := (0 : Int32)) (ty := .boolean) hx hb hr rfl (fun t ht hW => ⟨⟨(0 : Int32), (), rfl, rfl, by rw [ht]; exact hP.sub (ws' := []) [] rfl, va_K.moved hW.alike hK, hD.sub (ws' := []) [] (by decide) rfl⟩, hS.F ht⟩) hS.2.2 dX3_sameBits_48
        · skip
          have hf := if_f c8 hf
          refine lv_iconst (v := 1) hx hb dX3_sameBits_35 (by decide) ?_
          refine lv_goto (tgt := 40) hx hb dX3_sameBits_36 (by decide) ?_
          refine lv_icmp_ne (tgt := 47) hx hb dX3_sameBits_40 (by decide) (fun h9 => absurd (by decide) h9) (fun _ => ?_)
          refine lv_iconst (v := 1) hx hb dX3_sameBits_43 (by decide) ?_
          refine lv_goto (tgt := 48) hx hb dX3_sameBits_44 (by decide) ?_
          have ho := Option.some.inj hf
          subst ho
          exact W.zret (v := (1 : Int32)) (ty := .boolean) hx hb hr rfl (fun t ht hW => ⟨⟨(1 : Int32), (), rfl, rfl, by rw [ht]; exact hP.sub (ws' := []) [] rfl, va_K.moved hW.alike hK, hD.sub (ws' := []) [] (by decide) rfl⟩, hS.F ht⟩) hS.2.2 dX3_sameBits_48
  · skip
    have hf := if_f c1 hf
    refine lv_iconst (v := 0) hx hb dX3_sameBits_6 (by decide) ?_
    have ho := Option.some.inj hf
    subst ho
    exact W.zret (v := (0 : Int32)) (ty := .boolean) hx hb hr rfl (fun t ht hW => ⟨⟨(0 : Int32), (), rfl, rfl, by rw [ht]; exact hP.sub (ws' := []) [] rfl, va_K.moved hW.alike hK, hD.sub (ws' := []) [] (by decide) rfl⟩, hS.F ht⟩) hS.2.2 dX3_sameBits_7
theorem hinX4_X4_hasPlace : ∀ w ∈ wsX40, w ∈ wsX4_hasPlace := by decide +kernel
def p_X4_hasPlace (v_this : ((Nat → UInt64) × Int32)) (p1 : Int32) : Option (Int32) := (if p1 < 0 then some (0 : Int32) else (if v_this.2 ≤ p1 then some (0 : Int32) else some (1 : Int32)))
abbrev rm_X4_hasPlace : Room := { frames := 0, cells := 0, slots := 0, locals := 0 }
set_option maxHeartbeats 4000000 in
set_option maxRecDepth 100000 in
theorem mt_X4_hasPlace (l : Launch) (D : va_G) (k : Nat → ClassId) (a_this a_this_numbers : Nat) (sz : Nat) (v_this : ((Nat → UInt64) × Int32)) (p1 : Int32) (o : Int32) (hf : p_X4_hasPlace v_this p1 = some o)  : Met l yX4_hasPlace wsX4_hasPlace rm_X4_hasPlace (va_Pc [.ref a_this, .int p1] (bW D k sz [(a_this, .inr (2, [.ref a_this_numbers, .int v_this.2]))])) (va_Qi (fun (r : Int32) (_ : Unit) => r = o) (fun _ => bO D k (va_A [(a_this, .inr (2, [.ref a_this_numbers, .int v_this.2]))] sz) [(a_this, .inr (2, [.ref a_this_numbers, .int v_this.2]))]) (va_A [(a_this, .inr (2, [.ref a_this_numbers, .int v_this.2]))] sz)) 0 0 (va_A [(a_this, .inr (2, [.ref a_this_numbers, .int v_this.2]))] sz) := by
  unfold p_X4_hasPlace at hf
  refine Met.ofW (cc := cX4_hasPlace) (maxL := 2) (ret := (some .boolean)) (by decide) rfl ?_
  intro p e s m args below meth c s₁ B hml hv
  obtain ⟨rfl, hsz, hP, hK, hD0⟩ := hv
  have hx := B.exec
  have hb := B.bytes
  have hr := B.returns
  have hts := atoms_spec (ws := wsX4_hasPlace) B.pre
  have hown : s.vm.findClass RX4 = some m.cls := findClass_of_methodNamed B.named
  have hlocks := B.notSynchronized
  subst hsz
  have hD := hD0.self (sz := s.heap.size)
  generalize hAe : va_A [(a_this, .inr (2, [.ref a_this_numbers, .int v_this.2]))] s.heap.size = A at hD ⊢
  have hA : ∀ q : Nat, s.heap.size ≤ q → A q := fun q h => by rw [← hAe]; exact Or.inr h
  have hS : va_S A s.heap s.heap [] := va_S.rf
  have hl := lv_entry [.ref a_this, .int p1] (n := 2) (Nat.le_of_ble_eq_true rfl)
  rw [lg_entry_eq]
  generalize (lg_sl [.ref a_this, .int p1] ++ List.replicate (2 - (lg_sl [.ref a_this, .int p1]).length) Slot.unset).toArray = ls at hl ⊢
  have hl : lv_has ls 2 [(0, .ref a_this), (1, .int p1)] := hl
  obtain ⟨H, hHe⟩ : ∃ H, H = s.heap := ⟨_, rfl⟩
  have hP : va_P D vwCl [(a_this, .inr (2, [.ref a_this_numbers, .int v_this.2]))] H := by rw [hHe]; exact hP
  have hS : va_S A s.heap H [] := by rw [hHe]; exact hS
  rw [← hHe]
  obtain ⟨locs, hLe⟩ : ∃ locs : List Loc, locs = [] := ⟨_, rfl⟩
  rw [← hLe] at hS ⊢
  clear hLe
  refine lv_iload_n hx hb dX4_hasPlace_0 rfl (lv_at hl 1 rfl) ?_
  refine lv_if_lt (tgt := 16) hx hb dX4_hasPlace_1 (by decide) (fun c1 => ?_) (fun c1 => ?_)
  · skip
    have hf := if_t c1 hf
    refine lv_iconst (v := 0) hx hb dX4_hasPlace_16 (by decide) ?_
    have ho := Option.some.inj hf
    subst ho
    exact W.zret (v := (0 : Int32)) (ty := .boolean) hx hb hr rfl (fun t ht hW => ⟨⟨(0 : Int32), (), rfl, rfl, by rw [ht]; exact hP.sub (ws' := [(a_this, .inr (2, [.ref a_this_numbers, .int v_this.2]))]) [0] rfl, va_K.moved hW.alike hK, hD.sub (ws' := [(a_this, .inr (2, [.ref a_this_numbers, .int v_this.2]))]) [0] (by decide) rfl⟩, hS.F ht⟩) hS.2.2 dX4_hasPlace_17
  · skip
    have hf := if_f c1 hf
    refine lv_iload_n hx hb dX4_hasPlace_4 rfl (lv_at hl 1 rfl) ?_
    refine lv_aload_n hx hb dX4_hasPlace_5 rfl (lv_at hl 0 rfl) ?_
    refine va_get (D := D) (ci := 2) (v := .int v_this.2) (C := RX4) (T := TX4) (N := 2) hx hb hts hinX4_X4_hasPlace hown hK hP 0 rfl rfl 1 (by decide) (hts (.fieldLink RX4 15 "LimitTables$Row" "length" "I") (by decide +kernel)) (fun _ h9 => h9) rfl dX4_hasPlace_6 ?_
    refine lv_icmp_ge (tgt := 16) hx hb dX4_hasPlace_9 (by decide) (fun c2 => ?_) (fun c2 => ?_)
    · skip
      have hf := if_t c2 hf
      refine lv_iconst (v := 0) hx hb dX4_hasPlace_16 (by decide) ?_
      have ho := Option.some.inj hf
      subst ho
      exact W.zret (v := (0 : Int32)) (ty := .boolean) hx hb hr rfl (fun t ht hW => ⟨⟨(0 : Int32), (), rfl, rfl, by rw [ht]; exact hP.sub (ws' := [(a_this, .inr (2, [.ref a_this_numbers, .int v_this.2]))]) [0] rfl, va_K.moved hW.alike hK, hD.sub (ws' := [(a_this, .inr (2, [.ref a_this_numbers, .int v_this.2]))]) [0] (by decide) rfl⟩, hS.F ht⟩) hS.2.2 dX4_hasPlace_17
    · skip
      have hf := if_f c2 hf
      refine lv_iconst (v := 1) hx hb dX4_hasPlace_12 (by decide) ?_
      refine lv_goto (tgt := 17) hx hb dX4_hasPlace_13 (by decide) ?_
      have ho := Option.some.inj hf
      subst ho
      exact W.zret (v := (1 : Int32)) (ty := .boolean) hx hb hr rfl (fun t ht hW => ⟨⟨(1 : Int32), (), rfl, rfl, by rw [ht]; exact hP.sub (ws' := [(a_this, .inr (2, [.ref a_this_numbers, .int v_this.2]))]) [0] rfl, va_K.moved hW.alike hK, hD.sub (ws' := [(a_this, .inr (2, [.ref a_this_numbers, .int v_this.2]))]) [0] (by decide) rfl⟩, hS.F ht⟩) hS.2.2 dX4_hasPlace_17
def p_X5_isSetting  (p1 : Int32) : Option (Int32) := (if p1 < 0 then some (0 : Int32) else (if (3 : Int32) ≤ p1 then some (0 : Int32) else some (1 : Int32)))
abbrev rm_X5_isSetting : Room := { frames := 0, cells := 0, slots := 0, locals := 0 }
set_option maxHeartbeats 4000000 in
set_option maxRecDepth 100000 in
theorem mt_X5_isSetting (l : Launch) (D : va_G) (k : Nat → ClassId)  (sz : Nat)  (p1 : Int32) (o : Int32) (hf : p_X5_isSetting p1 = some o)  : Met l yX5_isSetting wsX5_isSetting rm_X5_isSetting (va_Pc [.int p1] (bW D k sz [])) (va_Qi (fun (r : Int32) (_ : Unit) => r = o) (fun _ => bO D k (va_A [] sz) []) (va_A [] sz)) 0 0 (va_A [] sz) := by
  unfold p_X5_isSetting at hf
  refine Met.ofW (cc := cX5_isSetting) (maxL := 1) (ret := (some .boolean)) (by decide) rfl ?_
  intro p e s m args below meth c s₁ B hml hv
  obtain ⟨rfl, hsz, hP, hK, hD0⟩ := hv
  have hx := B.exec
  have hb := B.bytes
  have hr := B.returns
  have hts := atoms_spec (ws := wsX5_isSetting) B.pre
  have hown : s.vm.findClass RX5 = some m.cls := findClass_of_methodNamed B.named
  have hlocks := B.notSynchronized
  subst hsz
  have hD := hD0.self (sz := s.heap.size)
  generalize hAe : va_A [] s.heap.size = A at hD ⊢
  have hA : ∀ q : Nat, s.heap.size ≤ q → A q := fun q h => by rw [← hAe]; exact Or.inr h
  have hS : va_S A s.heap s.heap [] := va_S.rf
  have hl := lv_entry [.int p1] (n := 1) (Nat.le_of_ble_eq_true rfl)
  rw [lg_entry_eq]
  generalize (lg_sl [.int p1] ++ List.replicate (1 - (lg_sl [.int p1]).length) Slot.unset).toArray = ls at hl ⊢
  have hl : lv_has ls 1 [(0, .int p1)] := hl
  obtain ⟨H, hHe⟩ : ∃ H, H = s.heap := ⟨_, rfl⟩
  have hP : va_P D vwCl [] H := by rw [hHe]; exact hP
  have hS : va_S A s.heap H [] := by rw [hHe]; exact hS
  rw [← hHe]
  obtain ⟨locs, hLe⟩ : ∃ locs : List Loc, locs = [] := ⟨_, rfl⟩
  rw [← hLe] at hS ⊢
  clear hLe
  refine lv_iload_n hx hb dX5_isSetting_0 rfl (lv_at hl 0 rfl) ?_
  refine lv_if_lt (tgt := 13) hx hb dX5_isSetting_1 (by decide) (fun c1 => ?_) (fun c1 => ?_)
  · skip
    have hf := if_t c1 hf
    refine lv_iconst (v := 0) hx hb dX5_isSetting_13 (by decide) ?_
    have ho := Option.some.inj hf
    subst ho
    exact W.zret (v := (0 : Int32)) (ty := .boolean) hx hb hr rfl (fun t ht hW => ⟨⟨(0 : Int32), (), rfl, rfl, by rw [ht]; exact hP.sub (ws' := []) [] rfl, va_K.moved hW.alike hK, hD.sub (ws' := []) [] (by decide) rfl⟩, hS.F ht⟩) hS.2.2 dX5_isSetting_14
  · skip
    have hf := if_f c1 hf
    refine lv_iload_n hx hb dX5_isSetting_4 rfl (lv_at hl 0 rfl) ?_
    refine lv_iconst (v := 3) hx hb dX5_isSetting_5 (by decide) ?_
    refine lv_icmp_ge (tgt := 13) hx hb dX5_isSetting_6 (by decide) (fun c2 => ?_) (fun c2 => ?_)
    · skip
      have hf := if_t c2 hf
      refine lv_iconst (v := 0) hx hb dX5_isSetting_13 (by decide) ?_
      have ho := Option.some.inj hf
      subst ho
      exact W.zret (v := (0 : Int32)) (ty := .boolean) hx hb hr rfl (fun t ht hW => ⟨⟨(0 : Int32), (), rfl, rfl, by rw [ht]; exact hP.sub (ws' := []) [] rfl, va_K.moved hW.alike hK, hD.sub (ws' := []) [] (by decide) rfl⟩, hS.F ht⟩) hS.2.2 dX5_isSetting_14
    · skip
      have hf := if_f c2 hf
      refine lv_iconst (v := 1) hx hb dX5_isSetting_9 (by decide) ?_
      refine lv_goto (tgt := 14) hx hb dX5_isSetting_10 (by decide) ?_
      have ho := Option.some.inj hf
      subst ho
      exact W.zret (v := (1 : Int32)) (ty := .boolean) hx hb hr rfl (fun t ht hW => ⟨⟨(1 : Int32), (), rfl, rfl, by rw [ht]; exact hP.sub (ws' := []) [] rfl, va_K.moved hW.alike hK, hD.sub (ws' := []) [] (by decide) rfl⟩, hS.F ht⟩) hS.2.2 dX5_isSetting_14
def p_X5_inRange  (p1 : Int32) (p2 : UInt64) : Option (Int32) := (if p1 = 0 then (if (Op.cmpValue (FP.dcmp p2 FP.dconst0) CmpOp.l) < 0 then some (0 : Int32) else (if 0 < (Op.cmpValue (FP.dcmp p2 FP.dconst1) CmpOp.g) then some (0 : Int32) else some (1 : Int32))) else (if p1 = 1 then (if (Op.cmpValue (FP.dcmp p2 (4609434218613702656 : UInt64)) CmpOp.l) < 0 then some (0 : Int32) else (if 0 < (Op.cmpValue (FP.dcmp p2 (4621819117588971520 : UInt64)) CmpOp.g) then some (0 : Int32) else some (1 : Int32))) else (if (Op.cmpValue (FP.dcmp p2 (13830104095692056166 : UInt64)) CmpOp.l) < 0 then some (0 : Int32) else (if 0 < (Op.cmpValue (FP.dcmp p2 (4606732058837280358 : UInt64)) CmpOp.g) then some (0 : Int32) else some (1 : Int32)))))
abbrev rm_X5_inRange : Room := { frames := 0, cells := 0, slots := 0, locals := 0 }
set_option maxHeartbeats 4000000 in
set_option maxRecDepth 100000 in
theorem mt_X5_inRange (l : Launch) (D : va_G) (k : Nat → ClassId)  (sz : Nat)  (p1 : Int32) (p2 : UInt64) (o : Int32) (hf : p_X5_inRange p1 p2 = some o)  : Met l yX5_inRange wsX5_inRange rm_X5_inRange (va_Pc [.int p1, .double p2] (bW D k sz [])) (va_Qi (fun (r : Int32) (_ : Unit) => r = o) (fun _ => bO D k (va_A [] sz) []) (va_A [] sz)) 0 0 (va_A [] sz) := by
  unfold p_X5_inRange at hf
  refine Met.ofW (cc := cX5_inRange) (maxL := 3) (ret := (some .boolean)) (by decide) rfl ?_
  intro p e s m args below meth c s₁ B hml hv
  obtain ⟨rfl, hsz, hP, hK, hD0⟩ := hv
  have hx := B.exec
  have hb := B.bytes
  have hr := B.returns
  have hts := atoms_spec (ws := wsX5_inRange) B.pre
  have hown : s.vm.findClass RX5 = some m.cls := findClass_of_methodNamed B.named
  have hlocks := B.notSynchronized
  subst hsz
  have hD := hD0.self (sz := s.heap.size)
  generalize hAe : va_A [] s.heap.size = A at hD ⊢
  have hA : ∀ q : Nat, s.heap.size ≤ q → A q := fun q h => by rw [← hAe]; exact Or.inr h
  have hS : va_S A s.heap s.heap [] := va_S.rf
  have hl := lv_entry [.int p1, .double p2] (n := 3) (Nat.le_of_ble_eq_true rfl)
  rw [lg_entry_eq]
  generalize (lg_sl [.int p1, .double p2] ++ List.replicate (3 - (lg_sl [.int p1, .double p2]).length) Slot.unset).toArray = ls at hl ⊢
  have hl : lv_has ls 3 [(0, .int p1), (1, .double p2)] := hl
  obtain ⟨H, hHe⟩ : ∃ H, H = s.heap := ⟨_, rfl⟩
  have hP : va_P D vwCl [] H := by rw [hHe]; exact hP
  have hS : va_S A s.heap H [] := by rw [hHe]; exact hS
  rw [← hHe]
  obtain ⟨locs, hLe⟩ : ∃ locs : List Loc, locs = [] := ⟨_, rfl⟩
  rw [← hLe] at hS ⊢
  clear hLe
  refine lv_iload_n hx hb dX5_inRange_0 rfl (lv_at hl 0 rfl) ?_
  by_cases c1 : p1 = 0
  · skip
    have hf := if_t c1 hf
    refine lv_lookup (off := 27) (tgt := 28) hx hb dX5_inRange_1 (by decide) (by rw [c1]; rfl) (by decide) ?_
    refine lv_dload_n hx hb dX5_inRange_28 rfl (lv_at hl 1 rfl) ?_
    refine lv_dconst0 hx hb dX5_inRange_29 ?_
    refine lv_dcmp hx hb dX5_inRange_30 ?_
    refine lv_if_lt (tgt := 44) hx hb dX5_inRange_31 (by decide) (fun c2 => ?_) (fun c2 => ?_)
    · skip
      have hf := if_t c2 hf
      refine lv_iconst (v := 0) hx hb dX5_inRange_44 (by decide) ?_
      have ho := Option.some.inj hf
      subst ho
      exact W.zret (v := (0 : Int32)) (ty := .boolean) hx hb hr rfl (fun t ht hW => ⟨⟨(0 : Int32), (), rfl, rfl, by rw [ht]; exact hP.sub (ws' := []) [] rfl, va_K.moved hW.alike hK, hD.sub (ws' := []) [] (by decide) rfl⟩, hS.F ht⟩) hS.2.2 dX5_inRange_45
    · skip
      have hf := if_f c2 hf
      refine lv_dload_n hx hb dX5_inRange_34 rfl (lv_at hl 1 rfl) ?_
      refine lv_dconst1 hx hb dX5_inRange_35 ?_
      refine lv_dcmp hx hb dX5_inRange_36 ?_
      refine lv_if_gt (tgt := 44) hx hb dX5_inRange_37 (by decide) (fun c3 => ?_) (fun c3 => ?_)
      · skip
        have hf := if_t c3 hf
        refine lv_iconst (v := 0) hx hb dX5_inRange_44 (by decide) ?_
        have ho := Option.some.inj hf
        subst ho
        exact W.zret (v := (0 : Int32)) (ty := .boolean) hx hb hr rfl (fun t ht hW => ⟨⟨(0 : Int32), (), rfl, rfl, by rw [ht]; exact hP.sub (ws' := []) [] rfl, va_K.moved hW.alike hK, hD.sub (ws' := []) [] (by decide) rfl⟩, hS.F ht⟩) hS.2.2 dX5_inRange_45
      · skip
        have hf := if_f c3 hf
        refine lv_iconst (v := 1) hx hb dX5_inRange_40 (by decide) ?_
        refine lv_goto (tgt := 45) hx hb dX5_inRange_41 (by decide) ?_
        have ho := Option.some.inj hf
        subst ho
        exact W.zret (v := (1 : Int32)) (ty := .boolean) hx hb hr rfl (fun t ht hW => ⟨⟨(1 : Int32), (), rfl, rfl, by rw [ht]; exact hP.sub (ws' := []) [] rfl, va_K.moved hW.alike hK, hD.sub (ws' := []) [] (by decide) rfl⟩, hS.F ht⟩) hS.2.2 dX5_inRange_45
  have hf := if_f c1 hf
  by_cases c4 : p1 = 1
  · skip
    have hf := if_t c4 hf
    refine lv_lookup (off := 45) (tgt := 46) hx hb dX5_inRange_1 (by decide) (by rw [c4]; rfl) (by decide) ?_
    refine lv_dload_n hx hb dX5_inRange_46 rfl (lv_at hl 1 rfl) ?_
    refine lv_ldc2d (v := 4609434218613702656) hx hb hown (hts (.constantDouble RX5 33 (4609434218613702656)) (by decide +kernel)) dX5_inRange_47 ?_
    refine lv_dcmp hx hb dX5_inRange_50 ?_
    refine lv_if_lt (tgt := 66) hx hb dX5_inRange_51 (by decide) (fun c5 => ?_) (fun c5 => ?_)
    · skip
      have hf := if_t c5 hf
      refine lv_iconst (v := 0) hx hb dX5_inRange_66 (by decide) ?_
      have ho := Option.some.inj hf
      subst ho
      exact W.zret (v := (0 : Int32)) (ty := .boolean) hx hb hr rfl (fun t ht hW => ⟨⟨(0 : Int32), (), rfl, rfl, by rw [ht]; exact hP.sub (ws' := []) [] rfl, va_K.moved hW.alike hK, hD.sub (ws' := []) [] (by decide) rfl⟩, hS.F ht⟩) hS.2.2 dX5_inRange_67
    · skip
      have hf := if_f c5 hf
      refine lv_dload_n hx hb dX5_inRange_54 rfl (lv_at hl 1 rfl) ?_
      refine lv_ldc2d (v := 4621819117588971520) hx hb hown (hts (.constantDouble RX5 35 (4621819117588971520)) (by decide +kernel)) dX5_inRange_55 ?_
      refine lv_dcmp hx hb dX5_inRange_58 ?_
      refine lv_if_gt (tgt := 66) hx hb dX5_inRange_59 (by decide) (fun c6 => ?_) (fun c6 => ?_)
      · skip
        have hf := if_t c6 hf
        refine lv_iconst (v := 0) hx hb dX5_inRange_66 (by decide) ?_
        have ho := Option.some.inj hf
        subst ho
        exact W.zret (v := (0 : Int32)) (ty := .boolean) hx hb hr rfl (fun t ht hW => ⟨⟨(0 : Int32), (), rfl, rfl, by rw [ht]; exact hP.sub (ws' := []) [] rfl, va_K.moved hW.alike hK, hD.sub (ws' := []) [] (by decide) rfl⟩, hS.F ht⟩) hS.2.2 dX5_inRange_67
      · skip
        have hf := if_f c6 hf
        refine lv_iconst (v := 1) hx hb dX5_inRange_62 (by decide) ?_
        refine lv_goto (tgt := 67) hx hb dX5_inRange_63 (by decide) ?_
        have ho := Option.some.inj hf
        subst ho
        exact W.zret (v := (1 : Int32)) (ty := .boolean) hx hb hr rfl (fun t ht hW => ⟨⟨(1 : Int32), (), rfl, rfl, by rw [ht]; exact hP.sub (ws' := []) [] rfl, va_K.moved hW.alike hK, hD.sub (ws' := []) [] (by decide) rfl⟩, hS.F ht⟩) hS.2.2 dX5_inRange_67
  have hf := if_f c4 hf
  refine lv_lookup (off := 67) (tgt := 68) hx hb dX5_inRange_1 (by decide) ((lv_osw c1 rfl).trans ((lv_osw c4 rfl).trans rfl)) (by decide) ?_
  refine lv_dload_n hx hb dX5_inRange_68 rfl (lv_at hl 1 rfl) ?_
  refine lv_ldc2d (v := 13830104095692056166) hx hb hown (hts (.constantDouble RX5 37 (13830104095692056166)) (by decide +kernel)) dX5_inRange_69 ?_
  refine lv_dcmp hx hb dX5_inRange_72 ?_
  refine lv_if_lt (tgt := 88) hx hb dX5_inRange_73 (by decide) (fun c7 => ?_) (fun c7 => ?_)
  · skip
    have hf := if_t c7 hf
    refine lv_iconst (v := 0) hx hb dX5_inRange_88 (by decide) ?_
    have ho := Option.some.inj hf
    subst ho
    exact W.zret (v := (0 : Int32)) (ty := .boolean) hx hb hr rfl (fun t ht hW => ⟨⟨(0 : Int32), (), rfl, rfl, by rw [ht]; exact hP.sub (ws' := []) [] rfl, va_K.moved hW.alike hK, hD.sub (ws' := []) [] (by decide) rfl⟩, hS.F ht⟩) hS.2.2 dX5_inRange_89
  · skip
    have hf := if_f c7 hf
    refine lv_dload_n hx hb dX5_inRange_76 rfl (lv_at hl 1 rfl) ?_
    refine lv_ldc2d (v := 4606732058837280358) hx hb hown (hts (.constantDouble RX5 39 (4606732058837280358)) (by decide +kernel)) dX5_inRange_77 ?_
    refine lv_dcmp hx hb dX5_inRange_80 ?_
    refine lv_if_gt (tgt := 88) hx hb dX5_inRange_81 (by decide) (fun c8 => ?_) (fun c8 => ?_)
    · skip
      have hf := if_t c8 hf
      refine lv_iconst (v := 0) hx hb dX5_inRange_88 (by decide) ?_
      have ho := Option.some.inj hf
      subst ho
      exact W.zret (v := (0 : Int32)) (ty := .boolean) hx hb hr rfl (fun t ht hW => ⟨⟨(0 : Int32), (), rfl, rfl, by rw [ht]; exact hP.sub (ws' := []) [] rfl, va_K.moved hW.alike hK, hD.sub (ws' := []) [] (by decide) rfl⟩, hS.F ht⟩) hS.2.2 dX5_inRange_89
    · skip
      have hf := if_f c8 hf
      refine lv_iconst (v := 1) hx hb dX5_inRange_84 (by decide) ?_
      refine lv_goto (tgt := 89) hx hb dX5_inRange_85 (by decide) ?_
      have ho := Option.some.inj hf
      subst ho
      exact W.zret (v := (1 : Int32)) (ty := .boolean) hx hb hr rfl (fun t ht hW => ⟨⟨(1 : Int32), (), rfl, rfl, by rw [ht]; exact hP.sub (ws' := []) [] rfl, va_K.moved hW.alike hK, hD.sub (ws' := []) [] (by decide) rfl⟩, hS.F ht⟩) hS.2.2 dX5_inRange_89
theorem hinX5_X5_manyNumbers : ∀ w ∈ wsX50, w ∈ wsX5_manyNumbers := by decide +kernel
theorem hinX4_X5_manyNumbers : ∀ w ∈ wsX40, w ∈ wsX5_manyNumbers := by decide +kernel
def p_X5_manyNumbers (v_this : (((Nat → UInt64) × Int32) × ((Nat → UInt64) × Int32) × (Nat → UInt64) × Int32))  : Option (Int32) := some (v_this.1.2 + v_this.2.1.2)
abbrev rm_X5_manyNumbers : Room := { frames := 0, cells := 0, slots := 0, locals := 0 }
set_option maxHeartbeats 4000000 in
set_option maxRecDepth 100000 in
theorem mt_X5_manyNumbers (l : Launch) (D : va_G) (k : Nat → ClassId) (a_this a_this_first a_this_first_numbers a_this_second a_this_second_numbers a_this_settings : Nat) (sz : Nat) (v_this : (((Nat → UInt64) × Int32) × ((Nat → UInt64) × Int32) × (Nat → UInt64) × Int32))  (o : Int32) (hf : p_X5_manyNumbers v_this = some o)  : Met l yX5_manyNumbers wsX5_manyNumbers rm_X5_manyNumbers (va_Pc [.ref a_this] (bW D k sz [(a_this, .inr (3, [.ref a_this_first, .ref a_this_second, .ref a_this_settings, .int v_this.2.2.2])), (a_this_first, .inr (2, [.ref a_this_first_numbers, .int v_this.1.2])), (a_this_second, .inr (2, [.ref a_this_second_numbers, .int v_this.2.1.2]))])) (va_Qi (fun (r : Int32) (_ : Unit) => r = o) (fun _ => bO D k (va_A [(a_this, .inr (3, [.ref a_this_first, .ref a_this_second, .ref a_this_settings, .int v_this.2.2.2])), (a_this_first, .inr (2, [.ref a_this_first_numbers, .int v_this.1.2])), (a_this_second, .inr (2, [.ref a_this_second_numbers, .int v_this.2.1.2]))] sz) [(a_this, .inr (3, [.ref a_this_first, .ref a_this_second, .ref a_this_settings, .int v_this.2.2.2])), (a_this_first, .inr (2, [.ref a_this_first_numbers, .int v_this.1.2])), (a_this_second, .inr (2, [.ref a_this_second_numbers, .int v_this.2.1.2]))]) (va_A [(a_this, .inr (3, [.ref a_this_first, .ref a_this_second, .ref a_this_settings, .int v_this.2.2.2])), (a_this_first, .inr (2, [.ref a_this_first_numbers, .int v_this.1.2])), (a_this_second, .inr (2, [.ref a_this_second_numbers, .int v_this.2.1.2]))] sz)) 0 0 (va_A [(a_this, .inr (3, [.ref a_this_first, .ref a_this_second, .ref a_this_settings, .int v_this.2.2.2])), (a_this_first, .inr (2, [.ref a_this_first_numbers, .int v_this.1.2])), (a_this_second, .inr (2, [.ref a_this_second_numbers, .int v_this.2.1.2]))] sz) := by
  unfold p_X5_manyNumbers at hf
  refine Met.ofW (cc := cX5_manyNumbers) (maxL := 1) (ret := (some .int)) (by decide) rfl ?_
  intro p e s m args below meth c s₁ B hml hv
  obtain ⟨rfl, hsz, hP, hK, hD0⟩ := hv
  have hx := B.exec
  have hb := B.bytes
  have hr := B.returns
  have hts := atoms_spec (ws := wsX5_manyNumbers) B.pre
  have hown : s.vm.findClass RX5 = some m.cls := findClass_of_methodNamed B.named
  have hlocks := B.notSynchronized
  subst hsz
  have hD := hD0.self (sz := s.heap.size)
  generalize hAe : va_A [(a_this, .inr (3, [.ref a_this_first, .ref a_this_second, .ref a_this_settings, .int v_this.2.2.2])), (a_this_first, .inr (2, [.ref a_this_first_numbers, .int v_this.1.2])), (a_this_second, .inr (2, [.ref a_this_second_numbers, .int v_this.2.1.2]))] s.heap.size = A at hD ⊢
  have hA : ∀ q : Nat, s.heap.size ≤ q → A q := fun q h => by rw [← hAe]; exact Or.inr h
  have hS : va_S A s.heap s.heap [] := va_S.rf
  have hl := lv_entry [.ref a_this] (n := 1) (Nat.le_of_ble_eq_true rfl)
  rw [lg_entry_eq]
  generalize (lg_sl [.ref a_this] ++ List.replicate (1 - (lg_sl [.ref a_this]).length) Slot.unset).toArray = ls at hl ⊢
  have hl : lv_has ls 1 [(0, .ref a_this)] := hl
  obtain ⟨H, hHe⟩ : ∃ H, H = s.heap := ⟨_, rfl⟩
  have hP : va_P D vwCl [(a_this, .inr (3, [.ref a_this_first, .ref a_this_second, .ref a_this_settings, .int v_this.2.2.2])), (a_this_first, .inr (2, [.ref a_this_first_numbers, .int v_this.1.2])), (a_this_second, .inr (2, [.ref a_this_second_numbers, .int v_this.2.1.2]))] H := by rw [hHe]; exact hP
  have hS : va_S A s.heap H [] := by rw [hHe]; exact hS
  rw [← hHe]
  obtain ⟨locs, hLe⟩ : ∃ locs : List Loc, locs = [] := ⟨_, rfl⟩
  rw [← hLe] at hS ⊢
  clear hLe
  refine lv_aload_n hx hb dX5_manyNumbers_0 rfl (lv_at hl 0 rfl) ?_
  refine va_get (D := D) (ci := 3) (v := .ref a_this_first) (C := RX5) (T := TX5) (N := 4) hx hb hts hinX5_X5_manyNumbers hown hK hP 0 rfl rfl 0 (by decide) (hts (.fieldLink RX5 10 "LimitTables$State" "first" "LLimitTables$Row;") (by decide +kernel)) (fun _ h9 => h9) rfl dX5_manyNumbers_1 ?_
  refine va_get (D := D) (ci := 2) (v := .int v_this.1.2) (C := RX4) (T := TX4) (N := 2) hx hb hts hinX4_X5_manyNumbers hown hK hP 1 rfl rfl 1 (by decide) (hts (.fieldLink RX5 41 "LimitTables$Row" "length" "I") (by decide +kernel)) (fun _ h9 => h9) rfl dX5_manyNumbers_4 ?_
  refine lv_aload_n hx hb dX5_manyNumbers_7 rfl (lv_at hl 0 rfl) ?_
  refine va_get (D := D) (ci := 3) (v := .ref a_this_second) (C := RX5) (T := TX5) (N := 4) hx hb hts hinX5_X5_manyNumbers hown hK hP 0 rfl rfl 1 (by decide) (hts (.fieldLink RX5 16 "LimitTables$State" "second" "LLimitTables$Row;") (by decide +kernel)) (fun _ h9 => h9) rfl dX5_manyNumbers_8 ?_
  refine va_get (D := D) (ci := 2) (v := .int v_this.2.1.2) (C := RX4) (T := TX4) (N := 2) hx hb hts hinX4_X5_manyNumbers hown hK hP 2 rfl rfl 1 (by decide) (hts (.fieldLink RX5 41 "LimitTables$Row" "length" "I") (by decide +kernel)) (fun _ h9 => h9) rfl dX5_manyNumbers_11 ?_
  refine lv_iadd hx hb dX5_manyNumbers_14 ?_
  have ho := Option.some.inj hf
  subst ho
  exact W.iret (v := (v_this.1.2 + v_this.2.1.2)) hx hb hr (fun t ht hW => ⟨⟨(v_this.1.2 + v_this.2.1.2), (), rfl, rfl, by rw [ht]; exact hP.sub (ws' := [(a_this, .inr (3, [.ref a_this_first, .ref a_this_second, .ref a_this_settings, .int v_this.2.2.2])), (a_this_first, .inr (2, [.ref a_this_first_numbers, .int v_this.1.2])), (a_this_second, .inr (2, [.ref a_this_second_numbers, .int v_this.2.1.2]))]) [0, 1, 2] rfl, va_K.moved hW.alike hK, hD.sub (ws' := [(a_this, .inr (3, [.ref a_this_first, .ref a_this_second, .ref a_this_settings, .int v_this.2.2.2])), (a_this_first, .inr (2, [.ref a_this_first_numbers, .int v_this.1.2])), (a_this_second, .inr (2, [.ref a_this_second_numbers, .int v_this.2.1.2]))]) [0, 1, 2] (by decide) rfl⟩, hS.F ht⟩) hS.2.2 dX5_manyNumbers_15
def p_X6_termOf  (p1 : Int32) (p2 : Int32) (p3 : UInt64) : Option (UInt64) := (if p1 = 0 then dop (FP.dmul (FP.i2d p2) (FP.i2d p2)) fun d2 => dop (FP.ddiv FP.dconst1 d2) fun d3 => some d3 else (if p1 = 1 then dop (FP.ddiv FP.dconst1 (FP.i2d p2)) fun d5 => some d5 else (if p1 = 2 then dop (FP.dmul (4611686018427387904 : UInt64) (FP.i2d p2)) fun d7 => dop (FP.dsub d7 FP.dconst1) fun d8 => dop (FP.ddiv FP.dconst1 d8) fun d9 => some d9 else (if p1 = 3 then some p3 else dop (FP.ddiv p3 (FP.i2d p2)) fun d11 => some d11))))
abbrev rm_X6_termOf : Room := { frames := 0, cells := 0, slots := 0, locals := 0 }
set_option maxHeartbeats 4000000 in
set_option maxRecDepth 100000 in
theorem mt_X6_termOf (l : Launch) (D : va_G) (k : Nat → ClassId)  (sz : Nat)  (p1 : Int32) (p2 : Int32) (p3 : UInt64) (o : UInt64) (hf : p_X6_termOf p1 p2 p3 = some o)  : Met l yX6_termOf wsX6_termOf rm_X6_termOf (va_Pc [.int p1, .int p2, .double p3] (bW D k sz [])) (va_Qd (fun (r : UInt64) (_ : Unit) => r = o) (fun _ => bO D k (va_A [] sz) []) (va_A [] sz)) 0 0 (va_A [] sz) := by
  unfold p_X6_termOf at hf
  refine Met.ofW (cc := cX6_termOf) (maxL := 6) (ret := (some .double)) (by decide) rfl ?_
  intro p e s m args below meth c s₁ B hml hv
  obtain ⟨rfl, hsz, hP, hK, hD0⟩ := hv
  have hx := B.exec
  have hb := B.bytes
  have hr := B.returns
  have hts := atoms_spec (ws := wsX6_termOf) B.pre
  have hown : s.vm.findClass RX6 = some m.cls := findClass_of_methodNamed B.named
  have hlocks := B.notSynchronized
  subst hsz
  have hD := hD0.self (sz := s.heap.size)
  generalize hAe : va_A [] s.heap.size = A at hD ⊢
  have hA : ∀ q : Nat, s.heap.size ≤ q → A q := fun q h => by rw [← hAe]; exact Or.inr h
  have hS : va_S A s.heap s.heap [] := va_S.rf
  have hl := lv_entry [.int p1, .int p2, .double p3] (n := 6) (Nat.le_of_ble_eq_true rfl)
  rw [lg_entry_eq]
  generalize (lg_sl [.int p1, .int p2, .double p3] ++ List.replicate (6 - (lg_sl [.int p1, .int p2, .double p3]).length) Slot.unset).toArray = ls at hl ⊢
  have hl : lv_has ls 6 [(0, .int p1), (1, .int p2), (2, .double p3)] := hl
  obtain ⟨H, hHe⟩ : ∃ H, H = s.heap := ⟨_, rfl⟩
  have hP : va_P D vwCl [] H := by rw [hHe]; exact hP
  have hS : va_S A s.heap H [] := by rw [hHe]; exact hS
  rw [← hHe]
  obtain ⟨locs, hLe⟩ : ∃ locs : List Loc, locs = [] := ⟨_, rfl⟩
  rw [← hLe] at hS ⊢
  clear hLe
  refine lv_iload_n hx hb dX6_termOf_0 rfl (lv_at hl 1 rfl) ?_
  refine lv_i2d hx hb dX6_termOf_1 ?_
  refine lv_dstore (lv' := [(4, .double (FP.i2d p2)), (0, .int p1), (1, .int p2), (2, .double p3)]) hx hb dX6_termOf_2 hl (by decide) rfl (fun ls hl => ?_)
  refine lv_iload_n hx hb dX6_termOf_4 rfl (lv_at hl 1 rfl) ?_
  by_cases c1 : p1 = 0
  · skip
    have hf := if_t c1 hf
    refine lv_tableIn (off := 31) (tgt := 36) hx hb dX6_termOf_5 (by rw [c1]; decide) (by rw [c1]; decide) (by rw [c1]; rfl) (by decide) ?_
    refine lv_dconst1 hx hb dX6_termOf_36 ?_
    refine lv_dload hx hb dX6_termOf_37 (lv_at hl 0 rfl) ?_
    refine lv_dload hx hb dX6_termOf_39 (lv_at hl 0 rfl) ?_
    refine lv_dmul hx hb dX6_termOf_41 (dop_h hf) ?_
    refine lv_topd (fun d2 ed2 => ?_)
    have hf := dop_at ed2 hf
    refine lv_ddiv hx hb dX6_termOf_42 (dop_h hf) ?_
    refine lv_topd (fun d3 ed3 => ?_)
    have hf := dop_at ed3 hf
    have ho := Option.some.inj hf
    subst ho
    exact W.dret (v := d3) hx hb hr (fun t ht hW => ⟨⟨d3, (), rfl, rfl, by rw [ht]; exact hP.sub (ws' := []) [] rfl, va_K.moved hW.alike hK, hD.sub (ws' := []) [] (by decide) rfl⟩, hS.F ht⟩) hS.2.2 dX6_termOf_43
  have hf := if_f c1 hf
  by_cases c4 : p1 = 1
  · skip
    have hf := if_t c4 hf
    refine lv_tableIn (off := 39) (tgt := 44) hx hb dX6_termOf_5 (by rw [c4]; decide) (by rw [c4]; decide) (by rw [c4]; rfl) (by decide) ?_
    refine lv_dconst1 hx hb dX6_termOf_44 ?_
    refine lv_dload hx hb dX6_termOf_45 (lv_at hl 0 rfl) ?_
    refine lv_ddiv hx hb dX6_termOf_47 (dop_h hf) ?_
    refine lv_topd (fun d5 ed5 => ?_)
    have hf := dop_at ed5 hf
    have ho := Option.some.inj hf
    subst ho
    exact W.dret (v := d5) hx hb hr (fun t ht hW => ⟨⟨d5, (), rfl, rfl, by rw [ht]; exact hP.sub (ws' := []) [] rfl, va_K.moved hW.alike hK, hD.sub (ws' := []) [] (by decide) rfl⟩, hS.F ht⟩) hS.2.2 dX6_termOf_48
  have hf := if_f c4 hf
  by_cases c6 : p1 = 2
  · skip
    have hf := if_t c6 hf
    refine lv_tableIn (off := 44) (tgt := 49) hx hb dX6_termOf_5 (by rw [c6]; decide) (by rw [c6]; decide) (by rw [c6]; rfl) (by decide) ?_
    refine lv_dconst1 hx hb dX6_termOf_49 ?_
    refine lv_ldc2d (v := 4611686018427387904) hx hb hown (hts (.constantDouble RX6 23 (4611686018427387904)) (by decide +kernel)) dX6_termOf_50 ?_
    refine lv_dload hx hb dX6_termOf_53 (lv_at hl 0 rfl) ?_
    refine lv_dmul hx hb dX6_termOf_55 (dop_h hf) ?_
    refine lv_topd (fun d7 ed7 => ?_)
    have hf := dop_at ed7 hf
    refine lv_dconst1 hx hb dX6_termOf_56 ?_
    refine lv_dsub hx hb dX6_termOf_57 (dop_h hf) ?_
    refine lv_topd (fun d8 ed8 => ?_)
    have hf := dop_at ed8 hf
    refine lv_ddiv hx hb dX6_termOf_58 (dop_h hf) ?_
    refine lv_topd (fun d9 ed9 => ?_)
    have hf := dop_at ed9 hf
    have ho := Option.some.inj hf
    subst ho
    exact W.dret (v := d9) hx hb hr (fun t ht hW => ⟨⟨d9, (), rfl, rfl, by rw [ht]; exact hP.sub (ws' := []) [] rfl, va_K.moved hW.alike hK, hD.sub (ws' := []) [] (by decide) rfl⟩, hS.F ht⟩) hS.2.2 dX6_termOf_59
  have hf := if_f c6 hf
  by_cases c10 : p1 = 3
  · skip
    have hf := if_t c10 hf
    refine lv_tableIn (off := 55) (tgt := 60) hx hb dX6_termOf_5 (by rw [c10]; decide) (by rw [c10]; decide) (by rw [c10]; rfl) (by decide) ?_
    refine lv_dload_n hx hb dX6_termOf_60 rfl (lv_at hl 3 rfl) ?_
    have ho := Option.some.inj hf
    subst ho
    exact W.dret (v := p3) hx hb hr (fun t ht hW => ⟨⟨p3, (), rfl, rfl, by rw [ht]; exact hP.sub (ws' := []) [] rfl, va_K.moved hW.alike hK, hD.sub (ws' := []) [] (by decide) rfl⟩, hS.F ht⟩) hS.2.2 dX6_termOf_61
  have hf := if_f c10 hf
  refine lv_tableOut (tgt := 62) hx hb dX6_termOf_5 (tb_out (n := 4) (tb_s (tb_s (tb_s (tb_s tb_0 rfl c1) rfl c4) rfl c6) rfl c10) (by decide) rfl) (by decide) ?_
  refine lv_dload_n hx hb dX6_termOf_62 rfl (lv_at hl 3 rfl) ?_
  refine lv_dload hx hb dX6_termOf_63 (lv_at hl 0 rfl) ?_
  refine lv_ddiv hx hb dX6_termOf_65 (dop_h hf) ?_
  refine lv_topd (fun d11 ed11 => ?_)
  have hf := dop_at ed11 hf
  have ho := Option.some.inj hf
  subst ho
  exact W.dret (v := d11) hx hb hr (fun t ht hW => ⟨⟨d11, (), rfl, rfl, by rw [ht]; exact hP.sub (ws' := []) [] rfl, va_K.moved hW.alike hK, hD.sub (ws' := []) [] (by decide) rfl⟩, hS.F ht⟩) hS.2.2 dX6_termOf_66
theorem hinX4_X6_fillSeries : ∀ w ∈ wsX40, w ∈ wsX6_fillSeries := by decide +kernel
def p_X6_fillSeries_L14 (p2 : Int32) (p3 : Int32) (p4 : UInt64) : Nat → UInt64 → UInt64 → Int32 → (((Nat → UInt64) × Int32)) → Option (((Nat → UInt64) × Int32))
  | 0, _, _, _, _ => none
  | n14 + 1, x14_5, x14_7, x14_9, w14_p1 => (if p3 < x14_9 then some w14_p1 else (p_X6_termOf p2 x14_9 x14_7).bind fun x1002 => (if p2 = (1 : Int32) then (if (x14_9 - x14_9 / (2 : Int32) * (2 : Int32)) = 0 then dop (FP.dsub x14_5 x1002) fun d1008 => (p_X4_append w14_p1 d1008).bind fun x1009 => dop (FP.dmul x14_7 p4) fun d1010 => p_X6_fillSeries_L14 p2 p3 p4 n14 d1008 d1010 (x14_9 + 1) x1009 else dop (FP.dadd x14_5 x1002) fun d1005 => (p_X4_append w14_p1 d1005).bind fun x1006 => dop (FP.dmul x14_7 p4) fun d1007 => p_X6_fillSeries_L14 p2 p3 p4 n14 d1005 d1007 (x14_9 + 1) x1006) else (if p2 = (2 : Int32) then (if (x14_9 - x14_9 / (2 : Int32) * (2 : Int32)) = 0 then dop (FP.dsub x14_5 x1002) fun d1019 => (p_X4_append w14_p1 d1019).bind fun x1020 => dop (FP.dmul x14_7 p4) fun d1021 => p_X6_fillSeries_L14 p2 p3 p4 n14 d1019 d1021 (x14_9 + 1) x1020 else dop (FP.dadd x14_5 x1002) fun d1016 => (p_X4_append w14_p1 d1016).bind fun x1017 => dop (FP.dmul x14_7 p4) fun d1018 => p_X6_fillSeries_L14 p2 p3 p4 n14 d1016 d1018 (x14_9 + 1) x1017) else dop (FP.dadd x14_5 x1002) fun d1012 => (p_X4_append w14_p1 d1012).bind fun x1013 => dop (FP.dmul x14_7 p4) fun d1014 => p_X6_fillSeries_L14 p2 p3 p4 n14 d1012 d1014 (x14_9 + 1) x1013)))

def p_X6_fillSeries (v_p1 : ((Nat → UInt64) × Int32)) (p2 : Int32) (p3 : Int32) (p4 : UInt64) : Option (((Nat → UInt64) × Int32)) := p_X6_fillSeries_L14 p2 p3 p4 300 FP.dconst0 FP.dconst1 (1 : Int32) (v_p1.1, (0 : Int32))
abbrev rm_X6_fillSeries : Room := { frames := 1, cells := 0, slots := 0, locals := 25 }
set_option maxHeartbeats 4000000 in
set_option maxRecDepth 100000 in
theorem mt_X6_fillSeries (l : Launch) (D : va_G) (k : Nat → ClassId) (a_p1 a_p1_numbers : Nat) (sz : Nat) (v_p1 : ((Nat → UInt64) × Int32)) (p2 : Int32) (p3 : Int32) (p4 : UInt64) (o : ((Nat → UInt64) × Int32)) (hf : p_X6_fillSeries v_p1 p2 p3 p4 = some o)  : Met l yX6_fillSeries wsX6_fillSeries rm_X6_fillSeries (va_Pc [.ref a_p1, .int p2, .int p3, .double p4] (bW D k sz [(a_p1, .inr (2, [.ref a_p1_numbers, .int v_p1.2])), (a_p1_numbers, .inl (k 1, 16, aD v_p1.1))])) (va_Qv (fun (_ : Unit) => True) (fun _ => bO D k (va_A [(a_p1, .inr (2, [.ref a_p1_numbers, .int v_p1.2])), (a_p1_numbers, .inl (k 1, 16, aD v_p1.1))] sz) [(a_p1, .inr (2, [.ref a_p1_numbers, .int o.2])), (a_p1_numbers, .inl (k 1, 16, aD o.1))]) (va_A [(a_p1, .inr (2, [.ref a_p1_numbers, .int v_p1.2])), (a_p1_numbers, .inl (k 1, 16, aD v_p1.1))] sz)) 0 0 (va_A [(a_p1, .inr (2, [.ref a_p1_numbers, .int v_p1.2])), (a_p1_numbers, .inl (k 1, 16, aD v_p1.1))] sz) := by
  unfold p_X6_fillSeries at hf
  refine Met.ofW (cc := cX6_fillSeries) (maxL := 13) (ret := none) (by decide) rfl ?_
  intro p e s m args below meth c s₁ B hml hv
  obtain ⟨rfl, hsz, hP, hK, hD0⟩ := hv
  have hx := B.exec
  have hb := B.bytes
  have hr := B.returns
  have hts := atoms_spec (ws := wsX6_fillSeries) B.pre
  have hown : s.vm.findClass RX6 = some m.cls := findClass_of_methodNamed B.named
  have hlocks := B.notSynchronized
  subst hsz
  have hD := hD0.self (sz := s.heap.size)
  generalize hAe : va_A [(a_p1, .inr (2, [.ref a_p1_numbers, .int v_p1.2])), (a_p1_numbers, .inl (k 1, 16, aD v_p1.1))] s.heap.size = A at hD ⊢
  have hA : ∀ q : Nat, s.heap.size ≤ q → A q := fun q h => by rw [← hAe]; exact Or.inr h
  have hS : va_S A s.heap s.heap [] := va_S.rf
  obtain ⟨Q, hQ⟩ : ∃ Q, Q = MQ below (va_Qv (fun (_ : Unit) => True) (fun _ => bO D k (A) [(a_p1, .inr (2, [.ref a_p1_numbers, .int o.2])), (a_p1_numbers, .inl (k 1, 16, aD o.1))]) (A)) ([.ref a_p1, .int p2, .int p3, .double p4] : List Value).toArray s 0 0 A := ⟨_, rfl⟩
  rw [← hQ]
  have hl := lv_entry [.ref a_p1, .int p2, .int p3, .double p4] (n := 13) (Nat.le_of_ble_eq_true rfl)
  rw [lg_entry_eq]
  generalize (lg_sl [.ref a_p1, .int p2, .int p3, .double p4] ++ List.replicate (13 - (lg_sl [.ref a_p1, .int p2, .int p3, .double p4]).length) Slot.unset).toArray = ls at hl ⊢
  have hl : lv_has ls 13 [(0, .ref a_p1), (1, .int p2), (2, .int p3), (3, .double p4)] := hl
  obtain ⟨H, hHe⟩ : ∃ H, H = s.heap := ⟨_, rfl⟩
  have hP : va_P D vwCl [(a_p1, .inr (2, [.ref a_p1_numbers, .int v_p1.2])), (a_p1_numbers, .inl (k 1, 16, aD v_p1.1))] H := by rw [hHe]; exact hP
  have hS : va_S A s.heap H [] := by rw [hHe]; exact hS
  rw [← hHe]
  obtain ⟨locs, hLe⟩ : ∃ locs : List Loc, locs = [] := ⟨_, rfl⟩
  rw [← hLe] at hS ⊢
  clear hLe
  refine lv_aload_n hx hb dX6_fillSeries_0 rfl (lv_at hl 0 rfl) ?_
  refine lv_iconst (v := 0) hx hb dX6_fillSeries_1 (by decide) ?_
  refine va_put (D := D) (ci := 2) (v := .int (0 : Int32)) (ty := .int) (C := RX4) (T := TX4) (N := 2) hx hb hts hinX4_X6_fillSeries tyX4 tyX4_ok nmX4 hown hK hP hD hS 0 rfl rfl 1 (by decide) (hts (.fieldLink RX6 7 "LimitTables$Row" "length" "I") (by decide +kernel)) (fun _ h9 => h9) rfl (by decide +kernel) rfl rfl (Nat.le_of_ble_eq_true rfl) dX6_fillSeries_2 (fun H locs hP hD hS => ?_)
  have hP : va_P D vwCl [(a_p1, .inr (2, [.ref a_p1_numbers, .int (0 : Int32)])), (a_p1_numbers, .inl (k 1, 16, aD v_p1.1))] H := hP
  have hD : va_D A [(a_p1, .inr (2, [.ref a_p1_numbers, .int (0 : Int32)])), (a_p1_numbers, .inl (k 1, 16, aD v_p1.1))] := hD
  refine lv_dconst0 hx hb dX6_fillSeries_5 ?_
  refine lv_dstore (lv' := [(5, .double FP.dconst0), (0, .ref a_p1), (1, .int p2), (2, .int p3), (3, .double p4)]) hx hb dX6_fillSeries_6 hl (by decide) rfl (fun ls hl => ?_)
  refine lv_dconst1 hx hb dX6_fillSeries_8 ?_
  refine lv_dstore (lv' := [(7, .double FP.dconst1), (5, .double FP.dconst0), (0, .ref a_p1), (1, .int p2), (2, .int p3), (3, .double p4)]) hx hb dX6_fillSeries_9 hl (by decide) rfl (fun ls hl => ?_)
  refine lv_iconst (v := 1) hx hb dX6_fillSeries_11 (by decide) ?_
  refine lv_istore (lv' := [(9, .int (1 : Int32)), (7, .double FP.dconst1), (5, .double FP.dconst0), (0, .ref a_p1), (1, .int p2), (2, .int p3), (3, .double p4)]) hx hb dX6_fillSeries_12 hl (by decide) rfl (fun ls hl => ?_)
  have L14 : ∀ (n14 : Nat) (x14_5 : UInt64) (x14_7 : UInt64) (x14_9 : Int32) (w14_p1 : ((Nat → UInt64) × Int32)) (H : Heap) (locs : List Loc) (ls : Array Slot), va_P D vwCl [(a_p1, .inr (2, [.ref a_p1_numbers, .int w14_p1.2])), (a_p1_numbers, .inl (k 1, 16, aD w14_p1.1))] H → va_D A [(a_p1, .inr (2, [.ref a_p1_numbers, .int w14_p1.2])), (a_p1_numbers, .inl (k 1, 16, aD w14_p1.1))] → va_S A s.heap H locs → lv_has ls 13 [(0, .ref a_p1), (1, .int p2), (2, .int p3), (3, .double p4), (5, .double x14_5), (7, .double x14_7), (9, .int x14_9)] → p_X6_fillSeries_L14 p2 p3 p4 n14 x14_5 x14_7 x14_9 w14_p1 = some o → W p l e (headSpec wsX6_fillSeries rm_X6_fillSeries).room s m ([.ref a_p1, .int p2, .int p3, .double p4] : List Value).toArray below meth c H locs 0 0 Q (F0 m 14 ls []) := by
    intro n14
    induction n14 with
    | zero =>
      intro x14_5 x14_7 x14_9 w14_p1 H locs ls hP hD hS hl hf
      exact absurd hf (by simp [p_X6_fillSeries_L14])
    | succ n14 ih14 =>
      intro x14_5 x14_7 x14_9 w14_p1 H locs ls hP hD hS hl hf
      rw [p_X6_fillSeries_L14] at hf
      refine lv_iload hx hb dX6_fillSeries_14 (lv_at hl 6 rfl) ?_
      refine lv_iload_n hx hb dX6_fillSeries_16 rfl (lv_at hl 2 rfl) ?_
      refine lv_icmp_gt (tgt := 92) hx hb dX6_fillSeries_17 (by decide) (fun c1001 => ?_) (fun c1001 => ?_)
      · skip
        have hf := if_t c1001 hf
        have ho := Option.some.inj hf
        subst ho
        rw [hQ]
        exact W.vret hx hb hr (fun t ht hW => ⟨⟨(), rfl, trivial, by rw [ht]; exact hP.sub (ws' := [(a_p1, .inr (2, [.ref a_p1_numbers, .int w14_p1.2])), (a_p1_numbers, .inl (k 1, 16, aD w14_p1.1))]) [0, 1] rfl, va_K.moved hW.alike hK, hD.sub (ws' := [(a_p1, .inr (2, [.ref a_p1_numbers, .int w14_p1.2])), (a_p1_numbers, .inl (k 1, 16, aD w14_p1.1))]) [0, 1] (by decide) rfl⟩, hS.F ht⟩) hS.2.2 dX6_fillSeries_92
      · skip
        have hf := if_f c1001 hf
        refine lv_iload_n hx hb dX6_fillSeries_20 rfl (lv_at hl 1 rfl) ?_
        refine lv_iload hx hb dX6_fillSeries_21 (lv_at hl 6 rfl) ?_
        refine lv_dload hx hb dX6_fillSeries_23 (lv_at hl 5 rfl) ?_
        obtain ⟨x1002, hx1002, hf⟩ := bind_s hf
        refine cc_d (r := x1002) (wc := []) (wr := [(a_p1, .inr (2, [.ref a_p1_numbers, .int w14_p1.2])), (a_p1_numbers, .inl (k 1, 16, aD w14_p1.1))]) (w1 := []) (va_runS (As := [.int p2, .int x14_9, .double x14_7]) (rest := []) ⟨hx, hb, hml, hown, hts⟩ (mt_X6_termOf l D k  _  p2 x14_9 x14_7 x1002 hx1002) (va_cwS 3 hts gX6_fillSeries_X6_termOf rfl rfl rfl (by decide +kernel) ⟨(Nat.le_of_ble_eq_true rfl), (Nat.le_of_ble_eq_true rfl)⟩) (cc_ps (wc := []) hK hP hD [] (by decide) rfl rfl) rfl rfl hl.1 rfl (lv_room (Nat.le_of_ble_eq_true rfl)) dX6_fillSeries_25 ⟨Nat.zero_le _, Nat.zero_le _⟩) hP hD hS hA [] [0, 1] rfl rfl (by decide) (by decide) (fun H locs hP hD hS => ?_)
        have hP : va_P D vwCl [(a_p1, .inr (2, [.ref a_p1_numbers, .int w14_p1.2])), (a_p1_numbers, .inl (k 1, 16, aD w14_p1.1))] H := hP
        have hD : va_D A [(a_p1, .inr (2, [.ref a_p1_numbers, .int w14_p1.2])), (a_p1_numbers, .inl (k 1, 16, aD w14_p1.1))] := hD
        refine lv_dstore (lv' := [(10, .double x1002), (0, .ref a_p1), (1, .int p2), (2, .int p3), (3, .double p4), (5, .double x14_5), (7, .double x14_7), (9, .int x14_9)]) hx hb dX6_fillSeries_28 hl (by decide) rfl (fun ls hl => ?_)
        refine lv_iload_n hx hb dX6_fillSeries_30 rfl (lv_at hl 2 rfl) ?_
        refine lv_iconst (v := 1) hx hb dX6_fillSeries_31 (by decide) ?_
        refine lv_icmp_eq (tgt := 40) hx hb dX6_fillSeries_32 (by decide) (fun c1003 => ?_) (fun c1003 => ?_)
        · skip
          have hf := if_t c1003 hf
          refine lv_iload hx hb dX6_fillSeries_40 (lv_at hl 7 rfl) ?_
          refine lv_iconst (v := 2) hx hb dX6_fillSeries_42 (by decide) ?_
          refine lv_irem hx hb dX6_fillSeries_43 (by decide) ?_
          refine lv_if_ne (tgt := 51) hx hb dX6_fillSeries_44 (by decide) (fun c1004 => ?_) (fun c1004 => ?_)
          · skip
            have hf := if_f c1004 hf
            refine lv_iconst (v := 0) hx hb dX6_fillSeries_51 (by decide) ?_
            refine lv_istore (lv' := [(12, .int (0 : Int32)), (10, .double x1002), (0, .ref a_p1), (1, .int p2), (2, .int p3), (3, .double p4), (5, .double x14_5), (7, .double x14_7), (9, .int x14_9)]) hx hb dX6_fillSeries_52 hl (by decide) rfl (fun ls hl => ?_)
            refine lv_iload hx hb dX6_fillSeries_54 (lv_at hl 0 rfl) ?_
            refine lv_if_eq (tgt := 67) hx hb dX6_fillSeries_56 (by decide) (fun _ => ?_) (fun h9 => absurd (by decide) h9)
            refine lv_dload hx hb dX6_fillSeries_67 (lv_at hl 6 rfl) ?_
            refine lv_dload hx hb dX6_fillSeries_69 (lv_at hl 1 rfl) ?_
            refine lv_dadd hx hb dX6_fillSeries_71 (dop_h hf) ?_
            refine lv_topd (fun d1005 ed1005 => ?_)
            have hf := dop_at ed1005 hf
            refine lv_dstore (lv' := [(5, .double d1005), (12, .int (0 : Int32)), (10, .double x1002), (0, .ref a_p1), (1, .int p2), (2, .int p3), (3, .double p4), (7, .double x14_7), (9, .int x14_9)]) hx hb dX6_fillSeries_72 hl (by decide) rfl (fun ls hl => ?_)
            refine lv_aload_n hx hb dX6_fillSeries_74 rfl (lv_at hl 3 rfl) ?_
            refine lv_dload hx hb dX6_fillSeries_75 (lv_at hl 0 rfl) ?_
            obtain ⟨x1006, hx1006, hf⟩ := bind_s hf
            refine cc_v (wc := [(a_p1, .inr (2, [.ref a_p1_numbers, .int w14_p1.2])), (a_p1_numbers, .inl (k 1, 16, aD w14_p1.1))]) (wr := []) (w1 := [(a_p1, .inr (2, [.ref a_p1_numbers, .int x1006.2])), (a_p1_numbers, .inl (k 1, 16, aD x1006.1))]) (va_runV (As := [.double d1005]) (rest := []) ⟨hx, hb, hml, hown, hts⟩ (mt_X4_append l D k a_p1 a_p1_numbers _ w14_p1 d1005 x1006 hx1006) (cwV 1 hts gX6_fillSeries_X4_append rfl rfl rfl (by decide +kernel) ⟨(Nat.le_of_ble_eq_true rfl), (Nat.le_of_ble_eq_true rfl)⟩) (cc_pv (wc := [(a_p1, .inr (2, [.ref a_p1_numbers, .int w14_p1.2])), (a_p1_numbers, .inl (k 1, 16, aD w14_p1.1))]) hK hP hD [0, 1] (by decide) rfl rfl 2 0 rfl rfl rfl) rfl rfl hl.1 rfl (lv_room (Nat.le_of_ble_eq_true rfl)) dX6_fillSeries_77 ⟨Nat.zero_le _, Nat.zero_le _⟩) hP hD hS hA [0, 1] [] rfl rfl (by decide) (by decide) (fun H locs hP hD hS => ?_)
            have hP : va_P D vwCl [(a_p1, .inr (2, [.ref a_p1_numbers, .int x1006.2])), (a_p1_numbers, .inl (k 1, 16, aD x1006.1))] H := hP
            have hD : va_D A [(a_p1, .inr (2, [.ref a_p1_numbers, .int x1006.2])), (a_p1_numbers, .inl (k 1, 16, aD x1006.1))] := hD
            refine lv_dload hx hb dX6_fillSeries_80 (lv_at hl 7 rfl) ?_
            refine lv_dload_n hx hb dX6_fillSeries_82 rfl (lv_at hl 6 rfl) ?_
            refine lv_dmul hx hb dX6_fillSeries_83 (dop_h hf) ?_
            refine lv_topd (fun d1007 ed1007 => ?_)
            have hf := dop_at ed1007 hf
            refine lv_dstore (lv' := [(7, .double d1007), (5, .double d1005), (12, .int (0 : Int32)), (10, .double x1002), (0, .ref a_p1), (1, .int p2), (2, .int p3), (3, .double p4), (9, .int x14_9)]) hx hb dX6_fillSeries_84 hl (by decide) rfl (fun ls hl => ?_)
            refine lv_iinc (v := (x14_9 + 1)) (lv' := [(9, .int (x14_9 + 1)), (7, .double d1007), (5, .double d1005), (12, .int (0 : Int32)), (10, .double x1002), (0, .ref a_p1), (1, .int p2), (2, .int p3), (3, .double p4)]) hx hb dX6_fillSeries_86 hl (k := 8) rfl rfl (by decide) rfl (fun ls hl => ?_)
            refine lv_goto (tgt := 14) hx hb dX6_fillSeries_89 (by decide) ?_
            exact ih14 d1005 d1007 (x14_9 + 1) x1006 H locs ls hP hD hS (lv_sub hl [5, 6, 7, 8, 2, 1, 0] rfl) hf
          · skip
            have hf := if_t c1004 hf
            refine lv_iconst (v := 1) hx hb dX6_fillSeries_47 (by decide) ?_
            refine lv_goto (tgt := 52) hx hb dX6_fillSeries_48 (by decide) ?_
            refine lv_istore (lv' := [(12, .int (1 : Int32)), (10, .double x1002), (0, .ref a_p1), (1, .int p2), (2, .int p3), (3, .double p4), (5, .double x14_5), (7, .double x14_7), (9, .int x14_9)]) hx hb dX6_fillSeries_52 hl (by decide) rfl (fun ls hl => ?_)
            refine lv_iload hx hb dX6_fillSeries_54 (lv_at hl 0 rfl) ?_
            refine lv_if_eq (tgt := 67) hx hb dX6_fillSeries_56 (by decide) (fun h9 => absurd h9 (by decide)) (fun _ => ?_)
            refine lv_dload hx hb dX6_fillSeries_59 (lv_at hl 6 rfl) ?_
            refine lv_dload hx hb dX6_fillSeries_61 (lv_at hl 1 rfl) ?_
            refine lv_dsub hx hb dX6_fillSeries_63 (dop_h hf) ?_
            refine lv_topd (fun d1008 ed1008 => ?_)
            have hf := dop_at ed1008 hf
            refine lv_goto (tgt := 72) hx hb dX6_fillSeries_64 (by decide) ?_
            refine lv_dstore (lv' := [(5, .double d1008), (12, .int (1 : Int32)), (10, .double x1002), (0, .ref a_p1), (1, .int p2), (2, .int p3), (3, .double p4), (7, .double x14_7), (9, .int x14_9)]) hx hb dX6_fillSeries_72 hl (by decide) rfl (fun ls hl => ?_)
            refine lv_aload_n hx hb dX6_fillSeries_74 rfl (lv_at hl 3 rfl) ?_
            refine lv_dload hx hb dX6_fillSeries_75 (lv_at hl 0 rfl) ?_
            obtain ⟨x1009, hx1009, hf⟩ := bind_s hf
            refine cc_v (wc := [(a_p1, .inr (2, [.ref a_p1_numbers, .int w14_p1.2])), (a_p1_numbers, .inl (k 1, 16, aD w14_p1.1))]) (wr := []) (w1 := [(a_p1, .inr (2, [.ref a_p1_numbers, .int x1009.2])), (a_p1_numbers, .inl (k 1, 16, aD x1009.1))]) (va_runV (As := [.double d1008]) (rest := []) ⟨hx, hb, hml, hown, hts⟩ (mt_X4_append l D k a_p1 a_p1_numbers _ w14_p1 d1008 x1009 hx1009) (cwV 1 hts gX6_fillSeries_X4_append rfl rfl rfl (by decide +kernel) ⟨(Nat.le_of_ble_eq_true rfl), (Nat.le_of_ble_eq_true rfl)⟩) (cc_pv (wc := [(a_p1, .inr (2, [.ref a_p1_numbers, .int w14_p1.2])), (a_p1_numbers, .inl (k 1, 16, aD w14_p1.1))]) hK hP hD [0, 1] (by decide) rfl rfl 2 0 rfl rfl rfl) rfl rfl hl.1 rfl (lv_room (Nat.le_of_ble_eq_true rfl)) dX6_fillSeries_77 ⟨Nat.zero_le _, Nat.zero_le _⟩) hP hD hS hA [0, 1] [] rfl rfl (by decide) (by decide) (fun H locs hP hD hS => ?_)
            have hP : va_P D vwCl [(a_p1, .inr (2, [.ref a_p1_numbers, .int x1009.2])), (a_p1_numbers, .inl (k 1, 16, aD x1009.1))] H := hP
            have hD : va_D A [(a_p1, .inr (2, [.ref a_p1_numbers, .int x1009.2])), (a_p1_numbers, .inl (k 1, 16, aD x1009.1))] := hD
            refine lv_dload hx hb dX6_fillSeries_80 (lv_at hl 7 rfl) ?_
            refine lv_dload_n hx hb dX6_fillSeries_82 rfl (lv_at hl 6 rfl) ?_
            refine lv_dmul hx hb dX6_fillSeries_83 (dop_h hf) ?_
            refine lv_topd (fun d1010 ed1010 => ?_)
            have hf := dop_at ed1010 hf
            refine lv_dstore (lv' := [(7, .double d1010), (5, .double d1008), (12, .int (1 : Int32)), (10, .double x1002), (0, .ref a_p1), (1, .int p2), (2, .int p3), (3, .double p4), (9, .int x14_9)]) hx hb dX6_fillSeries_84 hl (by decide) rfl (fun ls hl => ?_)
            refine lv_iinc (v := (x14_9 + 1)) (lv' := [(9, .int (x14_9 + 1)), (7, .double d1010), (5, .double d1008), (12, .int (1 : Int32)), (10, .double x1002), (0, .ref a_p1), (1, .int p2), (2, .int p3), (3, .double p4)]) hx hb dX6_fillSeries_86 hl (k := 8) rfl rfl (by decide) rfl (fun ls hl => ?_)
            refine lv_goto (tgt := 14) hx hb dX6_fillSeries_89 (by decide) ?_
            exact ih14 d1008 d1010 (x14_9 + 1) x1009 H locs ls hP hD hS (lv_sub hl [5, 6, 7, 8, 2, 1, 0] rfl) hf
        · skip
          have hf := if_f c1003 hf
          refine lv_iload_n hx hb dX6_fillSeries_35 rfl (lv_at hl 2 rfl) ?_
          refine lv_iconst (v := 2) hx hb dX6_fillSeries_36 (by decide) ?_
          refine lv_icmp_ne (tgt := 51) hx hb dX6_fillSeries_37 (by decide) (fun c1011 => ?_) (fun c1011 => ?_)
          · skip
            have hf := if_f c1011 hf
            refine lv_iconst (v := 0) hx hb dX6_fillSeries_51 (by decide) ?_
            refine lv_istore (lv' := [(12, .int (0 : Int32)), (10, .double x1002), (0, .ref a_p1), (1, .int p2), (2, .int p3), (3, .double p4), (5, .double x14_5), (7, .double x14_7), (9, .int x14_9)]) hx hb dX6_fillSeries_52 hl (by decide) rfl (fun ls hl => ?_)
            refine lv_iload hx hb dX6_fillSeries_54 (lv_at hl 0 rfl) ?_
            refine lv_if_eq (tgt := 67) hx hb dX6_fillSeries_56 (by decide) (fun _ => ?_) (fun h9 => absurd (by decide) h9)
            refine lv_dload hx hb dX6_fillSeries_67 (lv_at hl 6 rfl) ?_
            refine lv_dload hx hb dX6_fillSeries_69 (lv_at hl 1 rfl) ?_
            refine lv_dadd hx hb dX6_fillSeries_71 (dop_h hf) ?_
            refine lv_topd (fun d1012 ed1012 => ?_)
            have hf := dop_at ed1012 hf
            refine lv_dstore (lv' := [(5, .double d1012), (12, .int (0 : Int32)), (10, .double x1002), (0, .ref a_p1), (1, .int p2), (2, .int p3), (3, .double p4), (7, .double x14_7), (9, .int x14_9)]) hx hb dX6_fillSeries_72 hl (by decide) rfl (fun ls hl => ?_)
            refine lv_aload_n hx hb dX6_fillSeries_74 rfl (lv_at hl 3 rfl) ?_
            refine lv_dload hx hb dX6_fillSeries_75 (lv_at hl 0 rfl) ?_
            obtain ⟨x1013, hx1013, hf⟩ := bind_s hf
            refine cc_v (wc := [(a_p1, .inr (2, [.ref a_p1_numbers, .int w14_p1.2])), (a_p1_numbers, .inl (k 1, 16, aD w14_p1.1))]) (wr := []) (w1 := [(a_p1, .inr (2, [.ref a_p1_numbers, .int x1013.2])), (a_p1_numbers, .inl (k 1, 16, aD x1013.1))]) (va_runV (As := [.double d1012]) (rest := []) ⟨hx, hb, hml, hown, hts⟩ (mt_X4_append l D k a_p1 a_p1_numbers _ w14_p1 d1012 x1013 hx1013) (cwV 1 hts gX6_fillSeries_X4_append rfl rfl rfl (by decide +kernel) ⟨(Nat.le_of_ble_eq_true rfl), (Nat.le_of_ble_eq_true rfl)⟩) (cc_pv (wc := [(a_p1, .inr (2, [.ref a_p1_numbers, .int w14_p1.2])), (a_p1_numbers, .inl (k 1, 16, aD w14_p1.1))]) hK hP hD [0, 1] (by decide) rfl rfl 2 0 rfl rfl rfl) rfl rfl hl.1 rfl (lv_room (Nat.le_of_ble_eq_true rfl)) dX6_fillSeries_77 ⟨Nat.zero_le _, Nat.zero_le _⟩) hP hD hS hA [0, 1] [] rfl rfl (by decide) (by decide) (fun H locs hP hD hS => ?_)
            have hP : va_P D vwCl [(a_p1, .inr (2, [.ref a_p1_numbers, .int x1013.2])), (a_p1_numbers, .inl (k 1, 16, aD x1013.1))] H := hP
            have hD : va_D A [(a_p1, .inr (2, [.ref a_p1_numbers, .int x1013.2])), (a_p1_numbers, .inl (k 1, 16, aD x1013.1))] := hD
            refine lv_dload hx hb dX6_fillSeries_80 (lv_at hl 7 rfl) ?_
            refine lv_dload_n hx hb dX6_fillSeries_82 rfl (lv_at hl 6 rfl) ?_
            refine lv_dmul hx hb dX6_fillSeries_83 (dop_h hf) ?_
            refine lv_topd (fun d1014 ed1014 => ?_)
            have hf := dop_at ed1014 hf
            refine lv_dstore (lv' := [(7, .double d1014), (5, .double d1012), (12, .int (0 : Int32)), (10, .double x1002), (0, .ref a_p1), (1, .int p2), (2, .int p3), (3, .double p4), (9, .int x14_9)]) hx hb dX6_fillSeries_84 hl (by decide) rfl (fun ls hl => ?_)
            refine lv_iinc (v := (x14_9 + 1)) (lv' := [(9, .int (x14_9 + 1)), (7, .double d1014), (5, .double d1012), (12, .int (0 : Int32)), (10, .double x1002), (0, .ref a_p1), (1, .int p2), (2, .int p3), (3, .double p4)]) hx hb dX6_fillSeries_86 hl (k := 8) rfl rfl (by decide) rfl (fun ls hl => ?_)
            refine lv_goto (tgt := 14) hx hb dX6_fillSeries_89 (by decide) ?_
            exact ih14 d1012 d1014 (x14_9 + 1) x1013 H locs ls hP hD hS (lv_sub hl [5, 6, 7, 8, 2, 1, 0] rfl) hf
          · skip
            have hf := if_t c1011 hf
            refine lv_iload hx hb dX6_fillSeries_40 (lv_at hl 7 rfl) ?_
            refine lv_iconst (v := 2) hx hb dX6_fillSeries_42 (by decide) ?_
            refine lv_irem hx hb dX6_fillSeries_43 (by decide) ?_
            refine lv_if_ne (tgt := 51) hx hb dX6_fillSeries_44 (by decide) (fun c1015 => ?_) (fun c1015 => ?_)
            · skip
              have hf := if_f c1015 hf
              refine lv_iconst (v := 0) hx hb dX6_fillSeries_51 (by decide) ?_
              refine lv_istore (lv' := [(12, .int (0 : Int32)), (10, .double x1002), (0, .ref a_p1), (1, .int p2), (2, .int p3), (3, .double p4), (5, .double x14_5), (7, .double x14_7), (9, .int x14_9)]) hx hb dX6_fillSeries_52 hl (by decide) rfl (fun ls hl => ?_)
              refine lv_iload hx hb dX6_fillSeries_54 (lv_at hl 0 rfl) ?_
              refine lv_if_eq (tgt := 67) hx hb dX6_fillSeries_56 (by decide) (fun _ => ?_) (fun h9 => absurd (by decide) h9)
              refine lv_dload hx hb dX6_fillSeries_67 (lv_at hl 6 rfl) ?_
              refine lv_dload hx hb dX6_fillSeries_69 (lv_at hl 1 rfl) ?_
              refine lv_dadd hx hb dX6_fillSeries_71 (dop_h hf) ?_
              refine lv_topd (fun d1016 ed1016 => ?_)
              have hf := dop_at ed1016 hf
              refine lv_dstore (lv' := [(5, .double d1016), (12, .int (0 : Int32)), (10, .double x1002), (0, .ref a_p1), (1, .int p2), (2, .int p3), (3, .double p4), (7, .double x14_7), (9, .int x14_9)]) hx hb dX6_fillSeries_72 hl (by decide) rfl (fun ls hl => ?_)
              refine lv_aload_n hx hb dX6_fillSeries_74 rfl (lv_at hl 3 rfl) ?_
              refine lv_dload hx hb dX6_fillSeries_75 (lv_at hl 0 rfl) ?_
              obtain ⟨x1017, hx1017, hf⟩ := bind_s hf
              refine cc_v (wc := [(a_p1, .inr (2, [.ref a_p1_numbers, .int w14_p1.2])), (a_p1_numbers, .inl (k 1, 16, aD w14_p1.1))]) (wr := []) (w1 := [(a_p1, .inr (2, [.ref a_p1_numbers, .int x1017.2])), (a_p1_numbers, .inl (k 1, 16, aD x1017.1))]) (va_runV (As := [.double d1016]) (rest := []) ⟨hx, hb, hml, hown, hts⟩ (mt_X4_append l D k a_p1 a_p1_numbers _ w14_p1 d1016 x1017 hx1017) (cwV 1 hts gX6_fillSeries_X4_append rfl rfl rfl (by decide +kernel) ⟨(Nat.le_of_ble_eq_true rfl), (Nat.le_of_ble_eq_true rfl)⟩) (cc_pv (wc := [(a_p1, .inr (2, [.ref a_p1_numbers, .int w14_p1.2])), (a_p1_numbers, .inl (k 1, 16, aD w14_p1.1))]) hK hP hD [0, 1] (by decide) rfl rfl 2 0 rfl rfl rfl) rfl rfl hl.1 rfl (lv_room (Nat.le_of_ble_eq_true rfl)) dX6_fillSeries_77 ⟨Nat.zero_le _, Nat.zero_le _⟩) hP hD hS hA [0, 1] [] rfl rfl (by decide) (by decide) (fun H locs hP hD hS => ?_)
              have hP : va_P D vwCl [(a_p1, .inr (2, [.ref a_p1_numbers, .int x1017.2])), (a_p1_numbers, .inl (k 1, 16, aD x1017.1))] H := hP
              have hD : va_D A [(a_p1, .inr (2, [.ref a_p1_numbers, .int x1017.2])), (a_p1_numbers, .inl (k 1, 16, aD x1017.1))] := hD
              refine lv_dload hx hb dX6_fillSeries_80 (lv_at hl 7 rfl) ?_
              refine lv_dload_n hx hb dX6_fillSeries_82 rfl (lv_at hl 6 rfl) ?_
              refine lv_dmul hx hb dX6_fillSeries_83 (dop_h hf) ?_
              refine lv_topd (fun d1018 ed1018 => ?_)
              have hf := dop_at ed1018 hf
              refine lv_dstore (lv' := [(7, .double d1018), (5, .double d1016), (12, .int (0 : Int32)), (10, .double x1002), (0, .ref a_p1), (1, .int p2), (2, .int p3), (3, .double p4), (9, .int x14_9)]) hx hb dX6_fillSeries_84 hl (by decide) rfl (fun ls hl => ?_)
              refine lv_iinc (v := (x14_9 + 1)) (lv' := [(9, .int (x14_9 + 1)), (7, .double d1018), (5, .double d1016), (12, .int (0 : Int32)), (10, .double x1002), (0, .ref a_p1), (1, .int p2), (2, .int p3), (3, .double p4)]) hx hb dX6_fillSeries_86 hl (k := 8) rfl rfl (by decide) rfl (fun ls hl => ?_)
              refine lv_goto (tgt := 14) hx hb dX6_fillSeries_89 (by decide) ?_
              exact ih14 d1016 d1018 (x14_9 + 1) x1017 H locs ls hP hD hS (lv_sub hl [5, 6, 7, 8, 2, 1, 0] rfl) hf
            · skip
              have hf := if_t c1015 hf
              refine lv_iconst (v := 1) hx hb dX6_fillSeries_47 (by decide) ?_
              refine lv_goto (tgt := 52) hx hb dX6_fillSeries_48 (by decide) ?_
              refine lv_istore (lv' := [(12, .int (1 : Int32)), (10, .double x1002), (0, .ref a_p1), (1, .int p2), (2, .int p3), (3, .double p4), (5, .double x14_5), (7, .double x14_7), (9, .int x14_9)]) hx hb dX6_fillSeries_52 hl (by decide) rfl (fun ls hl => ?_)
              refine lv_iload hx hb dX6_fillSeries_54 (lv_at hl 0 rfl) ?_
              refine lv_if_eq (tgt := 67) hx hb dX6_fillSeries_56 (by decide) (fun h9 => absurd h9 (by decide)) (fun _ => ?_)
              refine lv_dload hx hb dX6_fillSeries_59 (lv_at hl 6 rfl) ?_
              refine lv_dload hx hb dX6_fillSeries_61 (lv_at hl 1 rfl) ?_
              refine lv_dsub hx hb dX6_fillSeries_63 (dop_h hf) ?_
              refine lv_topd (fun d1019 ed1019 => ?_)
              have hf := dop_at ed1019 hf
              refine lv_goto (tgt := 72) hx hb dX6_fillSeries_64 (by decide) ?_
              refine lv_dstore (lv' := [(5, .double d1019), (12, .int (1 : Int32)), (10, .double x1002), (0, .ref a_p1), (1, .int p2), (2, .int p3), (3, .double p4), (7, .double x14_7), (9, .int x14_9)]) hx hb dX6_fillSeries_72 hl (by decide) rfl (fun ls hl => ?_)
              refine lv_aload_n hx hb dX6_fillSeries_74 rfl (lv_at hl 3 rfl) ?_
              refine lv_dload hx hb dX6_fillSeries_75 (lv_at hl 0 rfl) ?_
              obtain ⟨x1020, hx1020, hf⟩ := bind_s hf
              refine cc_v (wc := [(a_p1, .inr (2, [.ref a_p1_numbers, .int w14_p1.2])), (a_p1_numbers, .inl (k 1, 16, aD w14_p1.1))]) (wr := []) (w1 := [(a_p1, .inr (2, [.ref a_p1_numbers, .int x1020.2])), (a_p1_numbers, .inl (k 1, 16, aD x1020.1))]) (va_runV (As := [.double d1019]) (rest := []) ⟨hx, hb, hml, hown, hts⟩ (mt_X4_append l D k a_p1 a_p1_numbers _ w14_p1 d1019 x1020 hx1020) (cwV 1 hts gX6_fillSeries_X4_append rfl rfl rfl (by decide +kernel) ⟨(Nat.le_of_ble_eq_true rfl), (Nat.le_of_ble_eq_true rfl)⟩) (cc_pv (wc := [(a_p1, .inr (2, [.ref a_p1_numbers, .int w14_p1.2])), (a_p1_numbers, .inl (k 1, 16, aD w14_p1.1))]) hK hP hD [0, 1] (by decide) rfl rfl 2 0 rfl rfl rfl) rfl rfl hl.1 rfl (lv_room (Nat.le_of_ble_eq_true rfl)) dX6_fillSeries_77 ⟨Nat.zero_le _, Nat.zero_le _⟩) hP hD hS hA [0, 1] [] rfl rfl (by decide) (by decide) (fun H locs hP hD hS => ?_)
              have hP : va_P D vwCl [(a_p1, .inr (2, [.ref a_p1_numbers, .int x1020.2])), (a_p1_numbers, .inl (k 1, 16, aD x1020.1))] H := hP
              have hD : va_D A [(a_p1, .inr (2, [.ref a_p1_numbers, .int x1020.2])), (a_p1_numbers, .inl (k 1, 16, aD x1020.1))] := hD
              refine lv_dload hx hb dX6_fillSeries_80 (lv_at hl 7 rfl) ?_
              refine lv_dload_n hx hb dX6_fillSeries_82 rfl (lv_at hl 6 rfl) ?_
              refine lv_dmul hx hb dX6_fillSeries_83 (dop_h hf) ?_
              refine lv_topd (fun d1021 ed1021 => ?_)
              have hf := dop_at ed1021 hf
              refine lv_dstore (lv' := [(7, .double d1021), (5, .double d1019), (12, .int (1 : Int32)), (10, .double x1002), (0, .ref a_p1), (1, .int p2), (2, .int p3), (3, .double p4), (9, .int x14_9)]) hx hb dX6_fillSeries_84 hl (by decide) rfl (fun ls hl => ?_)
              refine lv_iinc (v := (x14_9 + 1)) (lv' := [(9, .int (x14_9 + 1)), (7, .double d1021), (5, .double d1019), (12, .int (1 : Int32)), (10, .double x1002), (0, .ref a_p1), (1, .int p2), (2, .int p3), (3, .double p4)]) hx hb dX6_fillSeries_86 hl (k := 8) rfl rfl (by decide) rfl (fun ls hl => ?_)
              refine lv_goto (tgt := 14) hx hb dX6_fillSeries_89 (by decide) ?_
              exact ih14 d1019 d1021 (x14_9 + 1) x1020 H locs ls hP hD hS (lv_sub hl [5, 6, 7, 8, 2, 1, 0] rfl) hf
  exact L14 300 FP.dconst0 FP.dconst1 (1 : Int32) (v_p1.1, (0 : Int32)) H locs ls hP hD hS (lv_sub hl [3, 4, 5, 6, 2, 1, 0] rfl) hf
theorem hinX4_X6_sumUp : ∀ w ∈ wsX40, w ∈ wsX6_sumUp := by decide +kernel
def p_X6_sumUp_L10 (v_p1 : ((Nat → UInt64) × Int32)) : Nat → UInt64 → Int32 → (((Nat → UInt64) × Int32)) → Option (Int32 × ((Nat → UInt64) × Int32))
  | 0, _, _, _ => none
  | n10 + 1, x10_2, x10_4, w10_p2 => (if v_p1.2 ≤ x10_4 then some ((1 : Int32), w10_p2) else gD (inb x10_4 16) (dop (FP.dadd x10_2 (v_p1.1 x10_4.toNatClampNeg)) fun d1003 => (p_X3_fitsRow d1003).bind fun x1004 => (if x1004 = 0 then some ((0 : Int32), w10_p2) else (p_X4_append w10_p2 d1003).bind fun x1006 => p_X6_sumUp_L10 v_p1 n10 d1003 (x10_4 + 1) x1006)))

def p_X6_sumUp (v_p1 : ((Nat → UInt64) × Int32)) (v_p2 : ((Nat → UInt64) × Int32))  : Option (Int32 × ((Nat → UInt64) × Int32)) := p_X6_sumUp_L10 v_p1 300 FP.dconst0 (0 : Int32) (v_p2.1, (0 : Int32))
abbrev rm_X6_sumUp : Room := { frames := 1, cells := 0, slots := 0, locals := 22 }
set_option maxHeartbeats 4000000 in
set_option maxRecDepth 100000 in
theorem mt_X6_sumUp (l : Launch) (D : va_G) (k : Nat → ClassId) (a_p1 a_p1_numbers a_p2 a_p2_numbers : Nat) (sz : Nat) (v_p1 : ((Nat → UInt64) × Int32)) (v_p2 : ((Nat → UInt64) × Int32))  (o : Int32 × ((Nat → UInt64) × Int32)) (hf : p_X6_sumUp v_p1 v_p2 = some o)  : Met l yX6_sumUp wsX6_sumUp rm_X6_sumUp (va_Pc [.ref a_p1, .ref a_p2] (bW D k sz [(a_p1, .inr (2, [.ref a_p1_numbers, .int v_p1.2])), (a_p1_numbers, .inl (k 1, 16, aD v_p1.1)), (a_p2, .inr (2, [.ref a_p2_numbers, .int v_p2.2])), (a_p2_numbers, .inl (k 1, 16, aD v_p2.1))])) (va_Qi (fun (r : Int32) (_ : Unit) => r = o.1) (fun _ => bO D k (va_A [(a_p1, .inr (2, [.ref a_p1_numbers, .int v_p1.2])), (a_p1_numbers, .inl (k 1, 16, aD v_p1.1)), (a_p2, .inr (2, [.ref a_p2_numbers, .int v_p2.2])), (a_p2_numbers, .inl (k 1, 16, aD v_p2.1))] sz) [(a_p1, .inr (2, [.ref a_p1_numbers, .int v_p1.2])), (a_p1_numbers, .inl (k 1, 16, aD v_p1.1)), (a_p2, .inr (2, [.ref a_p2_numbers, .int o.2.2])), (a_p2_numbers, .inl (k 1, 16, aD o.2.1))]) (va_A [(a_p1, .inr (2, [.ref a_p1_numbers, .int v_p1.2])), (a_p1_numbers, .inl (k 1, 16, aD v_p1.1)), (a_p2, .inr (2, [.ref a_p2_numbers, .int v_p2.2])), (a_p2_numbers, .inl (k 1, 16, aD v_p2.1))] sz)) 0 0 (va_A [(a_p1, .inr (2, [.ref a_p1_numbers, .int v_p1.2])), (a_p1_numbers, .inl (k 1, 16, aD v_p1.1)), (a_p2, .inr (2, [.ref a_p2_numbers, .int v_p2.2])), (a_p2_numbers, .inl (k 1, 16, aD v_p2.1))] sz) := by
  unfold p_X6_sumUp at hf
  refine Met.ofW (cc := cX6_sumUp) (maxL := 5) (ret := (some .boolean)) (by decide) rfl ?_
  intro p e s m args below meth c s₁ B hml hv
  obtain ⟨rfl, hsz, hP, hK, hD0⟩ := hv
  have hx := B.exec
  have hb := B.bytes
  have hr := B.returns
  have hts := atoms_spec (ws := wsX6_sumUp) B.pre
  have hown : s.vm.findClass RX6 = some m.cls := findClass_of_methodNamed B.named
  have hlocks := B.notSynchronized
  subst hsz
  have hD := hD0.self (sz := s.heap.size)
  generalize hAe : va_A [(a_p1, .inr (2, [.ref a_p1_numbers, .int v_p1.2])), (a_p1_numbers, .inl (k 1, 16, aD v_p1.1)), (a_p2, .inr (2, [.ref a_p2_numbers, .int v_p2.2])), (a_p2_numbers, .inl (k 1, 16, aD v_p2.1))] s.heap.size = A at hD ⊢
  have hA : ∀ q : Nat, s.heap.size ≤ q → A q := fun q h => by rw [← hAe]; exact Or.inr h
  have hS : va_S A s.heap s.heap [] := va_S.rf
  obtain ⟨Q, hQ⟩ : ∃ Q, Q = MQ below (va_Qi (fun (r : Int32) (_ : Unit) => r = o.1) (fun _ => bO D k (A) [(a_p1, .inr (2, [.ref a_p1_numbers, .int v_p1.2])), (a_p1_numbers, .inl (k 1, 16, aD v_p1.1)), (a_p2, .inr (2, [.ref a_p2_numbers, .int o.2.2])), (a_p2_numbers, .inl (k 1, 16, aD o.2.1))]) (A)) ([.ref a_p1, .ref a_p2] : List Value).toArray s 0 0 A := ⟨_, rfl⟩
  rw [← hQ]
  have hl := lv_entry [.ref a_p1, .ref a_p2] (n := 5) (Nat.le_of_ble_eq_true rfl)
  rw [lg_entry_eq]
  generalize (lg_sl [.ref a_p1, .ref a_p2] ++ List.replicate (5 - (lg_sl [.ref a_p1, .ref a_p2]).length) Slot.unset).toArray = ls at hl ⊢
  have hl : lv_has ls 5 [(0, .ref a_p1), (1, .ref a_p2)] := hl
  obtain ⟨H, hHe⟩ : ∃ H, H = s.heap := ⟨_, rfl⟩
  have hP : va_P D vwCl [(a_p1, .inr (2, [.ref a_p1_numbers, .int v_p1.2])), (a_p1_numbers, .inl (k 1, 16, aD v_p1.1)), (a_p2, .inr (2, [.ref a_p2_numbers, .int v_p2.2])), (a_p2_numbers, .inl (k 1, 16, aD v_p2.1))] H := by rw [hHe]; exact hP
  have hS : va_S A s.heap H [] := by rw [hHe]; exact hS
  rw [← hHe]
  obtain ⟨locs, hLe⟩ : ∃ locs : List Loc, locs = [] := ⟨_, rfl⟩
  rw [← hLe] at hS ⊢
  clear hLe
  refine lv_aload_n hx hb dX6_sumUp_0 rfl (lv_at hl 1 rfl) ?_
  refine lv_iconst (v := 0) hx hb dX6_sumUp_1 (by decide) ?_
  refine va_put (D := D) (ci := 2) (v := .int (0 : Int32)) (ty := .int) (C := RX4) (T := TX4) (N := 2) hx hb hts hinX4_X6_sumUp tyX4 tyX4_ok nmX4 hown hK hP hD hS 2 rfl rfl 1 (by decide) (hts (.fieldLink RX6 7 "LimitTables$Row" "length" "I") (by decide +kernel)) (fun _ h9 => h9) rfl (by decide +kernel) rfl rfl (Nat.le_of_ble_eq_true rfl) dX6_sumUp_2 (fun H locs hP hD hS => ?_)
  have hP : va_P D vwCl [(a_p1, .inr (2, [.ref a_p1_numbers, .int v_p1.2])), (a_p1_numbers, .inl (k 1, 16, aD v_p1.1)), (a_p2, .inr (2, [.ref a_p2_numbers, .int (0 : Int32)])), (a_p2_numbers, .inl (k 1, 16, aD v_p2.1))] H := hP
  have hD : va_D A [(a_p1, .inr (2, [.ref a_p1_numbers, .int v_p1.2])), (a_p1_numbers, .inl (k 1, 16, aD v_p1.1)), (a_p2, .inr (2, [.ref a_p2_numbers, .int (0 : Int32)])), (a_p2_numbers, .inl (k 1, 16, aD v_p2.1))] := hD
  refine lv_dconst0 hx hb dX6_sumUp_5 ?_
  refine lv_dstore_n (lv' := [(2, .double FP.dconst0), (0, .ref a_p1), (1, .ref a_p2)]) hx hb dX6_sumUp_6 rfl hl (by decide) rfl (fun ls hl => ?_)
  refine lv_iconst (v := 0) hx hb dX6_sumUp_7 (by decide) ?_
  refine lv_istore (lv' := [(4, .int (0 : Int32)), (2, .double FP.dconst0), (0, .ref a_p1), (1, .ref a_p2)]) hx hb dX6_sumUp_8 hl (by decide) rfl (fun ls hl => ?_)
  have L10 : ∀ (n10 : Nat) (x10_2 : UInt64) (x10_4 : Int32) (w10_p2 : ((Nat → UInt64) × Int32)) (H : Heap) (locs : List Loc) (ls : Array Slot), va_P D vwCl [(a_p1, .inr (2, [.ref a_p1_numbers, .int v_p1.2])), (a_p1_numbers, .inl (k 1, 16, aD v_p1.1)), (a_p2, .inr (2, [.ref a_p2_numbers, .int w10_p2.2])), (a_p2_numbers, .inl (k 1, 16, aD w10_p2.1))] H → va_D A [(a_p1, .inr (2, [.ref a_p1_numbers, .int v_p1.2])), (a_p1_numbers, .inl (k 1, 16, aD v_p1.1)), (a_p2, .inr (2, [.ref a_p2_numbers, .int w10_p2.2])), (a_p2_numbers, .inl (k 1, 16, aD w10_p2.1))] → va_S A s.heap H locs → lv_has ls 5 [(0, .ref a_p1), (1, .ref a_p2), (2, .double x10_2), (4, .int x10_4)] → p_X6_sumUp_L10 v_p1 n10 x10_2 x10_4 w10_p2 = some o → W p l e (headSpec wsX6_sumUp rm_X6_sumUp).room s m ([.ref a_p1, .ref a_p2] : List Value).toArray below meth c H locs 0 0 Q (F0 m 10 ls []) := by
    intro n10
    induction n10 with
    | zero =>
      intro x10_2 x10_4 w10_p2 H locs ls hP hD hS hl hf
      exact absurd hf (by simp [p_X6_sumUp_L10])
    | succ n10 ih10 =>
      intro x10_2 x10_4 w10_p2 H locs ls hP hD hS hl hf
      rw [p_X6_sumUp_L10] at hf
      refine lv_iload hx hb dX6_sumUp_10 (lv_at hl 3 rfl) ?_
      refine lv_aload_n hx hb dX6_sumUp_12 rfl (lv_at hl 0 rfl) ?_
      refine va_get (D := D) (ci := 2) (v := .int v_p1.2) (C := RX4) (T := TX4) (N := 2) hx hb hts hinX4_X6_sumUp hown hK hP 0 rfl rfl 1 (by decide) (hts (.fieldLink RX6 7 "LimitTables$Row" "length" "I") (by decide +kernel)) (fun _ h9 => h9) rfl dX6_sumUp_13 ?_
      refine lv_icmp_ge (tgt := 49) hx hb dX6_sumUp_16 (by decide) (fun c1001 => ?_) (fun c1001 => ?_)
      · skip
        have hf := if_t c1001 hf
        refine lv_iconst (v := 1) hx hb dX6_sumUp_49 (by decide) ?_
        have ho := Option.some.inj hf
        subst ho
        rw [hQ]
        exact W.zret (v := (1 : Int32)) (ty := .boolean) hx hb hr rfl (fun t ht hW => ⟨⟨(1 : Int32), (), rfl, rfl, by rw [ht]; exact hP.sub (ws' := [(a_p1, .inr (2, [.ref a_p1_numbers, .int v_p1.2])), (a_p1_numbers, .inl (k 1, 16, aD v_p1.1)), (a_p2, .inr (2, [.ref a_p2_numbers, .int w10_p2.2])), (a_p2_numbers, .inl (k 1, 16, aD w10_p2.1))]) [0, 1, 2, 3] rfl, va_K.moved hW.alike hK, hD.sub (ws' := [(a_p1, .inr (2, [.ref a_p1_numbers, .int v_p1.2])), (a_p1_numbers, .inl (k 1, 16, aD v_p1.1)), (a_p2, .inr (2, [.ref a_p2_numbers, .int w10_p2.2])), (a_p2_numbers, .inl (k 1, 16, aD w10_p2.1))]) [0, 1, 2, 3] (by decide) rfl⟩, hS.F ht⟩) hS.2.2 dX6_sumUp_50
      · skip
        have hf := if_f c1001 hf
        refine lv_dload_n hx hb dX6_sumUp_19 rfl (lv_at hl 2 rfl) ?_
        refine lv_aload_n hx hb dX6_sumUp_20 rfl (lv_at hl 0 rfl) ?_
        refine va_get (D := D) (ci := 2) (v := .ref a_p1_numbers) (C := RX4) (T := TX4) (N := 2) hx hb hts hinX4_X6_sumUp hown hK hP 0 rfl rfl 0 (by decide) (hts (.fieldLink RX6 25 "LimitTables$Row" "numbers" "[D") (by decide +kernel)) (fun _ h9 => h9) rfl dX6_sumUp_21 ?_
        refine lv_iload hx hb dX6_sumUp_24 (lv_at hl 3 rfl) ?_
        obtain ⟨g1002, hf⟩ := gD_h hf
        refine va_dald hx hb hK hP 1 1 rfl rfl (inb_in g1002) dX6_sumUp_26 ?_
        refine lv_dadd hx hb dX6_sumUp_27 (dop_h hf) ?_
        refine lv_topd (fun d1003 ed1003 => ?_)
        have hf := dop_at ed1003 hf
        refine lv_dstore_n (lv' := [(2, .double d1003), (0, .ref a_p1), (1, .ref a_p2), (4, .int x10_4)]) hx hb dX6_sumUp_28 rfl hl (by decide) rfl (fun ls hl => ?_)
        refine lv_dload_n hx hb dX6_sumUp_29 rfl (lv_at hl 0 rfl) ?_
        obtain ⟨x1004, hx1004, hf⟩ := bind_s hf
        refine cc_i (r := x1004) (wc := []) (wr := [(a_p1, .inr (2, [.ref a_p1_numbers, .int v_p1.2])), (a_p1_numbers, .inl (k 1, 16, aD v_p1.1)), (a_p2, .inr (2, [.ref a_p2_numbers, .int w10_p2.2])), (a_p2_numbers, .inl (k 1, 16, aD w10_p2.1))]) (w1 := []) (va_runS (As := [.double d1003]) (rest := []) ⟨hx, hb, hml, hown, hts⟩ (mt_X3_fitsRow l D k  _  d1003 x1004 hx1004) (va_cwS 1 hts gX6_sumUp_X3_fitsRow rfl rfl rfl (by decide +kernel) ⟨(Nat.le_of_ble_eq_true rfl), (Nat.le_of_ble_eq_true rfl)⟩) (cc_ps (wc := []) hK hP hD [] (by decide) rfl rfl) rfl rfl hl.1 rfl (lv_room (Nat.le_of_ble_eq_true rfl)) dX6_sumUp_30 ⟨Nat.zero_le _, Nat.zero_le _⟩) hP hD hS hA [] [0, 1, 2, 3] rfl rfl (by decide) (by decide) (fun H locs hP hD hS => ?_)
        have hP : va_P D vwCl [(a_p1, .inr (2, [.ref a_p1_numbers, .int v_p1.2])), (a_p1_numbers, .inl (k 1, 16, aD v_p1.1)), (a_p2, .inr (2, [.ref a_p2_numbers, .int w10_p2.2])), (a_p2_numbers, .inl (k 1, 16, aD w10_p2.1))] H := hP
        have hD : va_D A [(a_p1, .inr (2, [.ref a_p1_numbers, .int v_p1.2])), (a_p1_numbers, .inl (k 1, 16, aD v_p1.1)), (a_p2, .inr (2, [.ref a_p2_numbers, .int w10_p2.2])), (a_p2_numbers, .inl (k 1, 16, aD w10_p2.1))] := hD
        refine lv_if_ne (tgt := 38) hx hb dX6_sumUp_33 (by decide) (fun c1005 => ?_) (fun c1005 => ?_)
        · skip
          have hf := if_f c1005 hf
          refine lv_aload_n hx hb dX6_sumUp_38 rfl (lv_at hl 2 rfl) ?_
          refine lv_dload_n hx hb dX6_sumUp_39 rfl (lv_at hl 0 rfl) ?_
          obtain ⟨x1006, hx1006, hf⟩ := bind_s hf
          refine cc_v (wc := [(a_p2, .inr (2, [.ref a_p2_numbers, .int w10_p2.2])), (a_p2_numbers, .inl (k 1, 16, aD w10_p2.1))]) (wr := [(a_p1, .inr (2, [.ref a_p1_numbers, .int v_p1.2])), (a_p1_numbers, .inl (k 1, 16, aD v_p1.1))]) (w1 := [(a_p2, .inr (2, [.ref a_p2_numbers, .int x1006.2])), (a_p2_numbers, .inl (k 1, 16, aD x1006.1))]) (va_runV (As := [.double d1003]) (rest := []) ⟨hx, hb, hml, hown, hts⟩ (mt_X4_append l D k a_p2 a_p2_numbers _ w10_p2 d1003 x1006 hx1006) (cwV 1 hts gX6_sumUp_X4_append rfl rfl rfl (by decide +kernel) ⟨(Nat.le_of_ble_eq_true rfl), (Nat.le_of_ble_eq_true rfl)⟩) (cc_pv (wc := [(a_p2, .inr (2, [.ref a_p2_numbers, .int w10_p2.2])), (a_p2_numbers, .inl (k 1, 16, aD w10_p2.1))]) hK hP hD [2, 3] (by decide) rfl rfl 2 2 rfl rfl rfl) rfl rfl hl.1 rfl (lv_room (Nat.le_of_ble_eq_true rfl)) dX6_sumUp_40 ⟨Nat.zero_le _, Nat.zero_le _⟩) hP hD hS hA [2, 3] [0, 1] rfl rfl (by decide) (by decide) (fun H locs hP hD hS => ?_)
          have hP : va_P D vwCl [(a_p1, .inr (2, [.ref a_p1_numbers, .int v_p1.2])), (a_p1_numbers, .inl (k 1, 16, aD v_p1.1)), (a_p2, .inr (2, [.ref a_p2_numbers, .int x1006.2])), (a_p2_numbers, .inl (k 1, 16, aD x1006.1))] H := hP
          have hD : va_D A [(a_p1, .inr (2, [.ref a_p1_numbers, .int v_p1.2])), (a_p1_numbers, .inl (k 1, 16, aD v_p1.1)), (a_p2, .inr (2, [.ref a_p2_numbers, .int x1006.2])), (a_p2_numbers, .inl (k 1, 16, aD x1006.1))] := hD
          refine lv_iinc (v := (x10_4 + 1)) (lv' := [(4, .int (x10_4 + 1)), (2, .double d1003), (0, .ref a_p1), (1, .ref a_p2)]) hx hb dX6_sumUp_43 hl (k := 3) rfl rfl (by decide) rfl (fun ls hl => ?_)
          refine lv_goto (tgt := 10) hx hb dX6_sumUp_46 (by decide) ?_
          exact ih10 d1003 (x10_4 + 1) x1006 H locs ls hP hD hS (lv_sub hl [2, 3, 1, 0] rfl) hf
        · skip
          have hf := if_t c1005 hf
          refine lv_iconst (v := 0) hx hb dX6_sumUp_36 (by decide) ?_
          have ho := Option.some.inj hf
          subst ho
          rw [hQ]
          exact W.zret (v := (0 : Int32)) (ty := .boolean) hx hb hr rfl (fun t ht hW => ⟨⟨(0 : Int32), (), rfl, rfl, by rw [ht]; exact hP.sub (ws' := [(a_p1, .inr (2, [.ref a_p1_numbers, .int v_p1.2])), (a_p1_numbers, .inl (k 1, 16, aD v_p1.1)), (a_p2, .inr (2, [.ref a_p2_numbers, .int w10_p2.2])), (a_p2_numbers, .inl (k 1, 16, aD w10_p2.1))]) [0, 1, 2, 3] rfl, va_K.moved hW.alike hK, hD.sub (ws' := [(a_p1, .inr (2, [.ref a_p1_numbers, .int v_p1.2])), (a_p1_numbers, .inl (k 1, 16, aD v_p1.1)), (a_p2, .inr (2, [.ref a_p2_numbers, .int w10_p2.2])), (a_p2_numbers, .inl (k 1, 16, aD w10_p2.1))]) [0, 1, 2, 3] (by decide) rfl⟩, hS.F ht⟩) hS.2.2 dX6_sumUp_37
  exact L10 300 FP.dconst0 (0 : Int32) (v_p2.1, (0 : Int32)) H locs ls hP hD hS (lv_sub hl [2, 3, 1, 0] rfl) hf
theorem hinX4_X6_takeDifferences : ∀ w ∈ wsX40, w ∈ wsX6_takeDifferences := by decide +kernel
def p_X6_takeDifferences_L7 (v_p1 : ((Nat → UInt64) × Int32)) : Nat → Int32 → (((Nat → UInt64) × Int32)) → Option (Int32 × ((Nat → UInt64) × Int32))
  | 0, _, _ => none
  | n7 + 1, x7_2, w7_p2 => (if v_p1.2 ≤ x7_2 then some ((1 : Int32), w7_p2) else gD (inb x7_2 16) ((if x7_2 ≤ 0 then (p_X3_fitsRow (v_p1.1 x7_2.toNatClampNeg)).bind fun x1004 => (if x1004 = 0 then some ((0 : Int32), w7_p2) else (p_X4_append w7_p2 (v_p1.1 x7_2.toNatClampNeg)).bind fun x1006 => p_X6_takeDifferences_L7 v_p1 n7 (x7_2 + 1) x1006) else gD (inb (x7_2 - (1 : Int32)) 16) (dop (FP.dsub (v_p1.1 x7_2.toNatClampNeg) (v_p1.1 (x7_2 - (1 : Int32)).toNatClampNeg)) fun d1008 => (p_X3_fitsRow d1008).bind fun x1009 => (if x1009 = 0 then some ((0 : Int32), w7_p2) else (p_X4_append w7_p2 d1008).bind fun x1011 => p_X6_takeDifferences_L7 v_p1 n7 (x7_2 + 1) x1011)))))

def p_X6_takeDifferences (v_p1 : ((Nat → UInt64) × Int32)) (v_p2 : ((Nat → UInt64) × Int32))  : Option (Int32 × ((Nat → UInt64) × Int32)) := p_X6_takeDifferences_L7 v_p1 300 (0 : Int32) (v_p2.1, (0 : Int32))
abbrev rm_X6_takeDifferences : Room := { frames := 1, cells := 0, slots := 0, locals := 22 }
set_option maxHeartbeats 4000000 in
set_option maxRecDepth 100000 in
theorem mt_X6_takeDifferences (l : Launch) (D : va_G) (k : Nat → ClassId) (a_p1 a_p1_numbers a_p2 a_p2_numbers : Nat) (sz : Nat) (v_p1 : ((Nat → UInt64) × Int32)) (v_p2 : ((Nat → UInt64) × Int32))  (o : Int32 × ((Nat → UInt64) × Int32)) (hf : p_X6_takeDifferences v_p1 v_p2 = some o)  : Met l yX6_takeDifferences wsX6_takeDifferences rm_X6_takeDifferences (va_Pc [.ref a_p1, .ref a_p2] (bW D k sz [(a_p1, .inr (2, [.ref a_p1_numbers, .int v_p1.2])), (a_p1_numbers, .inl (k 1, 16, aD v_p1.1)), (a_p2, .inr (2, [.ref a_p2_numbers, .int v_p2.2])), (a_p2_numbers, .inl (k 1, 16, aD v_p2.1))])) (va_Qi (fun (r : Int32) (_ : Unit) => r = o.1) (fun _ => bO D k (va_A [(a_p1, .inr (2, [.ref a_p1_numbers, .int v_p1.2])), (a_p1_numbers, .inl (k 1, 16, aD v_p1.1)), (a_p2, .inr (2, [.ref a_p2_numbers, .int v_p2.2])), (a_p2_numbers, .inl (k 1, 16, aD v_p2.1))] sz) [(a_p1, .inr (2, [.ref a_p1_numbers, .int v_p1.2])), (a_p1_numbers, .inl (k 1, 16, aD v_p1.1)), (a_p2, .inr (2, [.ref a_p2_numbers, .int o.2.2])), (a_p2_numbers, .inl (k 1, 16, aD o.2.1))]) (va_A [(a_p1, .inr (2, [.ref a_p1_numbers, .int v_p1.2])), (a_p1_numbers, .inl (k 1, 16, aD v_p1.1)), (a_p2, .inr (2, [.ref a_p2_numbers, .int v_p2.2])), (a_p2_numbers, .inl (k 1, 16, aD v_p2.1))] sz)) 0 0 (va_A [(a_p1, .inr (2, [.ref a_p1_numbers, .int v_p1.2])), (a_p1_numbers, .inl (k 1, 16, aD v_p1.1)), (a_p2, .inr (2, [.ref a_p2_numbers, .int v_p2.2])), (a_p2_numbers, .inl (k 1, 16, aD v_p2.1))] sz) := by
  unfold p_X6_takeDifferences at hf
  refine Met.ofW (cc := cX6_takeDifferences) (maxL := 5) (ret := (some .boolean)) (by decide) rfl ?_
  intro p e s m args below meth c s₁ B hml hv
  obtain ⟨rfl, hsz, hP, hK, hD0⟩ := hv
  have hx := B.exec
  have hb := B.bytes
  have hr := B.returns
  have hts := atoms_spec (ws := wsX6_takeDifferences) B.pre
  have hown : s.vm.findClass RX6 = some m.cls := findClass_of_methodNamed B.named
  have hlocks := B.notSynchronized
  subst hsz
  have hD := hD0.self (sz := s.heap.size)
  generalize hAe : va_A [(a_p1, .inr (2, [.ref a_p1_numbers, .int v_p1.2])), (a_p1_numbers, .inl (k 1, 16, aD v_p1.1)), (a_p2, .inr (2, [.ref a_p2_numbers, .int v_p2.2])), (a_p2_numbers, .inl (k 1, 16, aD v_p2.1))] s.heap.size = A at hD ⊢
  have hA : ∀ q : Nat, s.heap.size ≤ q → A q := fun q h => by rw [← hAe]; exact Or.inr h
  have hS : va_S A s.heap s.heap [] := va_S.rf
  obtain ⟨Q, hQ⟩ : ∃ Q, Q = MQ below (va_Qi (fun (r : Int32) (_ : Unit) => r = o.1) (fun _ => bO D k (A) [(a_p1, .inr (2, [.ref a_p1_numbers, .int v_p1.2])), (a_p1_numbers, .inl (k 1, 16, aD v_p1.1)), (a_p2, .inr (2, [.ref a_p2_numbers, .int o.2.2])), (a_p2_numbers, .inl (k 1, 16, aD o.2.1))]) (A)) ([.ref a_p1, .ref a_p2] : List Value).toArray s 0 0 A := ⟨_, rfl⟩
  rw [← hQ]
  have hl := lv_entry [.ref a_p1, .ref a_p2] (n := 5) (Nat.le_of_ble_eq_true rfl)
  rw [lg_entry_eq]
  generalize (lg_sl [.ref a_p1, .ref a_p2] ++ List.replicate (5 - (lg_sl [.ref a_p1, .ref a_p2]).length) Slot.unset).toArray = ls at hl ⊢
  have hl : lv_has ls 5 [(0, .ref a_p1), (1, .ref a_p2)] := hl
  obtain ⟨H, hHe⟩ : ∃ H, H = s.heap := ⟨_, rfl⟩
  have hP : va_P D vwCl [(a_p1, .inr (2, [.ref a_p1_numbers, .int v_p1.2])), (a_p1_numbers, .inl (k 1, 16, aD v_p1.1)), (a_p2, .inr (2, [.ref a_p2_numbers, .int v_p2.2])), (a_p2_numbers, .inl (k 1, 16, aD v_p2.1))] H := by rw [hHe]; exact hP
  have hS : va_S A s.heap H [] := by rw [hHe]; exact hS
  rw [← hHe]
  obtain ⟨locs, hLe⟩ : ∃ locs : List Loc, locs = [] := ⟨_, rfl⟩
  rw [← hLe] at hS ⊢
  clear hLe
  refine lv_aload_n hx hb dX6_takeDifferences_0 rfl (lv_at hl 1 rfl) ?_
  refine lv_iconst (v := 0) hx hb dX6_takeDifferences_1 (by decide) ?_
  refine va_put (D := D) (ci := 2) (v := .int (0 : Int32)) (ty := .int) (C := RX4) (T := TX4) (N := 2) hx hb hts hinX4_X6_takeDifferences tyX4 tyX4_ok nmX4 hown hK hP hD hS 2 rfl rfl 1 (by decide) (hts (.fieldLink RX6 7 "LimitTables$Row" "length" "I") (by decide +kernel)) (fun _ h9 => h9) rfl (by decide +kernel) rfl rfl (Nat.le_of_ble_eq_true rfl) dX6_takeDifferences_2 (fun H locs hP hD hS => ?_)
  have hP : va_P D vwCl [(a_p1, .inr (2, [.ref a_p1_numbers, .int v_p1.2])), (a_p1_numbers, .inl (k 1, 16, aD v_p1.1)), (a_p2, .inr (2, [.ref a_p2_numbers, .int (0 : Int32)])), (a_p2_numbers, .inl (k 1, 16, aD v_p2.1))] H := hP
  have hD : va_D A [(a_p1, .inr (2, [.ref a_p1_numbers, .int v_p1.2])), (a_p1_numbers, .inl (k 1, 16, aD v_p1.1)), (a_p2, .inr (2, [.ref a_p2_numbers, .int (0 : Int32)])), (a_p2_numbers, .inl (k 1, 16, aD v_p2.1))] := hD
  refine lv_iconst (v := 0) hx hb dX6_takeDifferences_5 (by decide) ?_
  refine lv_istore_n (lv' := [(2, .int (0 : Int32)), (0, .ref a_p1), (1, .ref a_p2)]) hx hb dX6_takeDifferences_6 rfl hl (by decide) rfl (fun ls hl => ?_)
  have L7 : ∀ (n7 : Nat) (x7_2 : Int32) (w7_p2 : ((Nat → UInt64) × Int32)) (H : Heap) (locs : List Loc) (ls : Array Slot), va_P D vwCl [(a_p1, .inr (2, [.ref a_p1_numbers, .int v_p1.2])), (a_p1_numbers, .inl (k 1, 16, aD v_p1.1)), (a_p2, .inr (2, [.ref a_p2_numbers, .int w7_p2.2])), (a_p2_numbers, .inl (k 1, 16, aD w7_p2.1))] H → va_D A [(a_p1, .inr (2, [.ref a_p1_numbers, .int v_p1.2])), (a_p1_numbers, .inl (k 1, 16, aD v_p1.1)), (a_p2, .inr (2, [.ref a_p2_numbers, .int w7_p2.2])), (a_p2_numbers, .inl (k 1, 16, aD w7_p2.1))] → va_S A s.heap H locs → lv_has ls 5 [(0, .ref a_p1), (1, .ref a_p2), (2, .int x7_2)] → p_X6_takeDifferences_L7 v_p1 n7 x7_2 w7_p2 = some o → W p l e (headSpec wsX6_takeDifferences rm_X6_takeDifferences).room s m ([.ref a_p1, .ref a_p2] : List Value).toArray below meth c H locs 0 0 Q (F0 m 7 ls []) := by
    intro n7
    induction n7 with
    | zero =>
      intro x7_2 w7_p2 H locs ls hP hD hS hl hf
      exact absurd hf (by simp [p_X6_takeDifferences_L7])
    | succ n7 ih7 =>
      intro x7_2 w7_p2 H locs ls hP hD hS hl hf
      rw [p_X6_takeDifferences_L7] at hf
      refine lv_iload_n hx hb dX6_takeDifferences_7 rfl (lv_at hl 2 rfl) ?_
      refine lv_aload_n hx hb dX6_takeDifferences_8 rfl (lv_at hl 0 rfl) ?_
      refine va_get (D := D) (ci := 2) (v := .int v_p1.2) (C := RX4) (T := TX4) (N := 2) hx hb hts hinX4_X6_takeDifferences hown hK hP 0 rfl rfl 1 (by decide) (hts (.fieldLink RX6 7 "LimitTables$Row" "length" "I") (by decide +kernel)) (fun _ h9 => h9) rfl dX6_takeDifferences_9 ?_
      refine lv_icmp_ge (tgt := 57) hx hb dX6_takeDifferences_12 (by decide) (fun c1001 => ?_) (fun c1001 => ?_)
      · skip
        have hf := if_t c1001 hf
        refine lv_iconst (v := 1) hx hb dX6_takeDifferences_57 (by decide) ?_
        have ho := Option.some.inj hf
        subst ho
        rw [hQ]
        exact W.zret (v := (1 : Int32)) (ty := .boolean) hx hb hr rfl (fun t ht hW => ⟨⟨(1 : Int32), (), rfl, rfl, by rw [ht]; exact hP.sub (ws' := [(a_p1, .inr (2, [.ref a_p1_numbers, .int v_p1.2])), (a_p1_numbers, .inl (k 1, 16, aD v_p1.1)), (a_p2, .inr (2, [.ref a_p2_numbers, .int w7_p2.2])), (a_p2_numbers, .inl (k 1, 16, aD w7_p2.1))]) [0, 1, 2, 3] rfl, va_K.moved hW.alike hK, hD.sub (ws' := [(a_p1, .inr (2, [.ref a_p1_numbers, .int v_p1.2])), (a_p1_numbers, .inl (k 1, 16, aD v_p1.1)), (a_p2, .inr (2, [.ref a_p2_numbers, .int w7_p2.2])), (a_p2_numbers, .inl (k 1, 16, aD w7_p2.1))]) [0, 1, 2, 3] (by decide) rfl⟩, hS.F ht⟩) hS.2.2 dX6_takeDifferences_58
      · skip
        have hf := if_f c1001 hf
        refine lv_aload_n hx hb dX6_takeDifferences_15 rfl (lv_at hl 0 rfl) ?_
        refine va_get (D := D) (ci := 2) (v := .ref a_p1_numbers) (C := RX4) (T := TX4) (N := 2) hx hb hts hinX4_X6_takeDifferences hown hK hP 0 rfl rfl 0 (by decide) (hts (.fieldLink RX6 25 "LimitTables$Row" "numbers" "[D") (by decide +kernel)) (fun _ h9 => h9) rfl dX6_takeDifferences_16 ?_
        refine lv_iload_n hx hb dX6_takeDifferences_19 rfl (lv_at hl 2 rfl) ?_
        obtain ⟨g1002, hf⟩ := gD_h hf
        refine va_dald hx hb hK hP 1 1 rfl rfl (inb_in g1002) dX6_takeDifferences_20 ?_
        refine lv_dstore_n (lv' := [(3, .double (v_p1.1 x7_2.toNatClampNeg)), (0, .ref a_p1), (1, .ref a_p2), (2, .int x7_2)]) hx hb dX6_takeDifferences_21 rfl hl (by decide) rfl (fun ls hl => ?_)
        refine lv_iload_n hx hb dX6_takeDifferences_22 rfl (lv_at hl 3 rfl) ?_
        refine lv_if_le (tgt := 37) hx hb dX6_takeDifferences_23 (by decide) (fun c1003 => ?_) (fun c1003 => ?_)
        · skip
          have hf := if_t c1003 hf
          refine lv_dload_n hx hb dX6_takeDifferences_37 rfl (lv_at hl 0 rfl) ?_
          obtain ⟨x1004, hx1004, hf⟩ := bind_s hf
          refine cc_i (r := x1004) (wc := []) (wr := [(a_p1, .inr (2, [.ref a_p1_numbers, .int v_p1.2])), (a_p1_numbers, .inl (k 1, 16, aD v_p1.1)), (a_p2, .inr (2, [.ref a_p2_numbers, .int w7_p2.2])), (a_p2_numbers, .inl (k 1, 16, aD w7_p2.1))]) (w1 := []) (va_runS (As := [.double (v_p1.1 x7_2.toNatClampNeg)]) (rest := []) ⟨hx, hb, hml, hown, hts⟩ (mt_X3_fitsRow l D k  _  (v_p1.1 x7_2.toNatClampNeg) x1004 hx1004) (va_cwS 1 hts gX6_takeDifferences_X3_fitsRow rfl rfl rfl (by decide +kernel) ⟨(Nat.le_of_ble_eq_true rfl), (Nat.le_of_ble_eq_true rfl)⟩) (cc_ps (wc := []) hK hP hD [] (by decide) rfl rfl) rfl rfl hl.1 rfl (lv_room (Nat.le_of_ble_eq_true rfl)) dX6_takeDifferences_38 ⟨Nat.zero_le _, Nat.zero_le _⟩) hP hD hS hA [] [0, 1, 2, 3] rfl rfl (by decide) (by decide) (fun H locs hP hD hS => ?_)
          have hP : va_P D vwCl [(a_p1, .inr (2, [.ref a_p1_numbers, .int v_p1.2])), (a_p1_numbers, .inl (k 1, 16, aD v_p1.1)), (a_p2, .inr (2, [.ref a_p2_numbers, .int w7_p2.2])), (a_p2_numbers, .inl (k 1, 16, aD w7_p2.1))] H := hP
          have hD : va_D A [(a_p1, .inr (2, [.ref a_p1_numbers, .int v_p1.2])), (a_p1_numbers, .inl (k 1, 16, aD v_p1.1)), (a_p2, .inr (2, [.ref a_p2_numbers, .int w7_p2.2])), (a_p2_numbers, .inl (k 1, 16, aD w7_p2.1))] := hD
          refine lv_if_ne (tgt := 46) hx hb dX6_takeDifferences_41 (by decide) (fun c1005 => ?_) (fun c1005 => ?_)
          · skip
            have hf := if_f c1005 hf
            refine lv_aload_n hx hb dX6_takeDifferences_46 rfl (lv_at hl 2 rfl) ?_
            refine lv_dload_n hx hb dX6_takeDifferences_47 rfl (lv_at hl 0 rfl) ?_
            obtain ⟨x1006, hx1006, hf⟩ := bind_s hf
            refine cc_v (wc := [(a_p2, .inr (2, [.ref a_p2_numbers, .int w7_p2.2])), (a_p2_numbers, .inl (k 1, 16, aD w7_p2.1))]) (wr := [(a_p1, .inr (2, [.ref a_p1_numbers, .int v_p1.2])), (a_p1_numbers, .inl (k 1, 16, aD v_p1.1))]) (w1 := [(a_p2, .inr (2, [.ref a_p2_numbers, .int x1006.2])), (a_p2_numbers, .inl (k 1, 16, aD x1006.1))]) (va_runV (As := [.double (v_p1.1 x7_2.toNatClampNeg)]) (rest := []) ⟨hx, hb, hml, hown, hts⟩ (mt_X4_append l D k a_p2 a_p2_numbers _ w7_p2 (v_p1.1 x7_2.toNatClampNeg) x1006 hx1006) (cwV 1 hts gX6_takeDifferences_X4_append rfl rfl rfl (by decide +kernel) ⟨(Nat.le_of_ble_eq_true rfl), (Nat.le_of_ble_eq_true rfl)⟩) (cc_pv (wc := [(a_p2, .inr (2, [.ref a_p2_numbers, .int w7_p2.2])), (a_p2_numbers, .inl (k 1, 16, aD w7_p2.1))]) hK hP hD [2, 3] (by decide) rfl rfl 2 2 rfl rfl rfl) rfl rfl hl.1 rfl (lv_room (Nat.le_of_ble_eq_true rfl)) dX6_takeDifferences_48 ⟨Nat.zero_le _, Nat.zero_le _⟩) hP hD hS hA [2, 3] [0, 1] rfl rfl (by decide) (by decide) (fun H locs hP hD hS => ?_)
            have hP : va_P D vwCl [(a_p1, .inr (2, [.ref a_p1_numbers, .int v_p1.2])), (a_p1_numbers, .inl (k 1, 16, aD v_p1.1)), (a_p2, .inr (2, [.ref a_p2_numbers, .int x1006.2])), (a_p2_numbers, .inl (k 1, 16, aD x1006.1))] H := hP
            have hD : va_D A [(a_p1, .inr (2, [.ref a_p1_numbers, .int v_p1.2])), (a_p1_numbers, .inl (k 1, 16, aD v_p1.1)), (a_p2, .inr (2, [.ref a_p2_numbers, .int x1006.2])), (a_p2_numbers, .inl (k 1, 16, aD x1006.1))] := hD
            refine lv_iinc (v := (x7_2 + 1)) (lv' := [(2, .int (x7_2 + 1)), (3, .double (v_p1.1 x7_2.toNatClampNeg)), (0, .ref a_p1), (1, .ref a_p2)]) hx hb dX6_takeDifferences_51 hl (k := 3) rfl rfl (by decide) rfl (fun ls hl => ?_)
            refine lv_goto (tgt := 7) hx hb dX6_takeDifferences_54 (by decide) ?_
            exact ih7 (x7_2 + 1) x1006 H locs ls hP hD hS (lv_sub hl [2, 3, 0] rfl) hf
          · skip
            have hf := if_t c1005 hf
            refine lv_iconst (v := 0) hx hb dX6_takeDifferences_44 (by decide) ?_
            have ho := Option.some.inj hf
            subst ho
            rw [hQ]
            exact W.zret (v := (0 : Int32)) (ty := .boolean) hx hb hr rfl (fun t ht hW => ⟨⟨(0 : Int32), (), rfl, rfl, by rw [ht]; exact hP.sub (ws' := [(a_p1, .inr (2, [.ref a_p1_numbers, .int v_p1.2])), (a_p1_numbers, .inl (k 1, 16, aD v_p1.1)), (a_p2, .inr (2, [.ref a_p2_numbers, .int w7_p2.2])), (a_p2_numbers, .inl (k 1, 16, aD w7_p2.1))]) [0, 1, 2, 3] rfl, va_K.moved hW.alike hK, hD.sub (ws' := [(a_p1, .inr (2, [.ref a_p1_numbers, .int v_p1.2])), (a_p1_numbers, .inl (k 1, 16, aD v_p1.1)), (a_p2, .inr (2, [.ref a_p2_numbers, .int w7_p2.2])), (a_p2_numbers, .inl (k 1, 16, aD w7_p2.1))]) [0, 1, 2, 3] (by decide) rfl⟩, hS.F ht⟩) hS.2.2 dX6_takeDifferences_45
        · skip
          have hf := if_f c1003 hf
          refine lv_dload_n hx hb dX6_takeDifferences_26 rfl (lv_at hl 0 rfl) ?_
          refine lv_aload_n hx hb dX6_takeDifferences_27 rfl (lv_at hl 1 rfl) ?_
          refine va_get (D := D) (ci := 2) (v := .ref a_p1_numbers) (C := RX4) (T := TX4) (N := 2) hx hb hts hinX4_X6_takeDifferences hown hK hP 0 rfl rfl 0 (by decide) (hts (.fieldLink RX6 25 "LimitTables$Row" "numbers" "[D") (by decide +kernel)) (fun _ h9 => h9) rfl dX6_takeDifferences_28 ?_
          refine lv_iload_n hx hb dX6_takeDifferences_31 rfl (lv_at hl 3 rfl) ?_
          refine lv_iconst (v := 1) hx hb dX6_takeDifferences_32 (by decide) ?_
          refine lv_isub hx hb dX6_takeDifferences_33 ?_
          obtain ⟨g1007, hf⟩ := gD_h hf
          refine va_dald hx hb hK hP 1 1 rfl rfl (inb_in g1007) dX6_takeDifferences_34 ?_
          refine lv_dsub hx hb dX6_takeDifferences_35 (dop_h hf) ?_
          refine lv_topd (fun d1008 ed1008 => ?_)
          have hf := dop_at ed1008 hf
          refine lv_dstore_n (lv' := [(3, .double d1008), (0, .ref a_p1), (1, .ref a_p2), (2, .int x7_2)]) hx hb dX6_takeDifferences_36 rfl hl (by decide) rfl (fun ls hl => ?_)
          refine lv_dload_n hx hb dX6_takeDifferences_37 rfl (lv_at hl 0 rfl) ?_
          obtain ⟨x1009, hx1009, hf⟩ := bind_s hf
          refine cc_i (r := x1009) (wc := []) (wr := [(a_p1, .inr (2, [.ref a_p1_numbers, .int v_p1.2])), (a_p1_numbers, .inl (k 1, 16, aD v_p1.1)), (a_p2, .inr (2, [.ref a_p2_numbers, .int w7_p2.2])), (a_p2_numbers, .inl (k 1, 16, aD w7_p2.1))]) (w1 := []) (va_runS (As := [.double d1008]) (rest := []) ⟨hx, hb, hml, hown, hts⟩ (mt_X3_fitsRow l D k  _  d1008 x1009 hx1009) (va_cwS 1 hts gX6_takeDifferences_X3_fitsRow rfl rfl rfl (by decide +kernel) ⟨(Nat.le_of_ble_eq_true rfl), (Nat.le_of_ble_eq_true rfl)⟩) (cc_ps (wc := []) hK hP hD [] (by decide) rfl rfl) rfl rfl hl.1 rfl (lv_room (Nat.le_of_ble_eq_true rfl)) dX6_takeDifferences_38 ⟨Nat.zero_le _, Nat.zero_le _⟩) hP hD hS hA [] [0, 1, 2, 3] rfl rfl (by decide) (by decide) (fun H locs hP hD hS => ?_)
          have hP : va_P D vwCl [(a_p1, .inr (2, [.ref a_p1_numbers, .int v_p1.2])), (a_p1_numbers, .inl (k 1, 16, aD v_p1.1)), (a_p2, .inr (2, [.ref a_p2_numbers, .int w7_p2.2])), (a_p2_numbers, .inl (k 1, 16, aD w7_p2.1))] H := hP
          have hD : va_D A [(a_p1, .inr (2, [.ref a_p1_numbers, .int v_p1.2])), (a_p1_numbers, .inl (k 1, 16, aD v_p1.1)), (a_p2, .inr (2, [.ref a_p2_numbers, .int w7_p2.2])), (a_p2_numbers, .inl (k 1, 16, aD w7_p2.1))] := hD
          refine lv_if_ne (tgt := 46) hx hb dX6_takeDifferences_41 (by decide) (fun c1010 => ?_) (fun c1010 => ?_)
          · skip
            have hf := if_f c1010 hf
            refine lv_aload_n hx hb dX6_takeDifferences_46 rfl (lv_at hl 2 rfl) ?_
            refine lv_dload_n hx hb dX6_takeDifferences_47 rfl (lv_at hl 0 rfl) ?_
            obtain ⟨x1011, hx1011, hf⟩ := bind_s hf
            refine cc_v (wc := [(a_p2, .inr (2, [.ref a_p2_numbers, .int w7_p2.2])), (a_p2_numbers, .inl (k 1, 16, aD w7_p2.1))]) (wr := [(a_p1, .inr (2, [.ref a_p1_numbers, .int v_p1.2])), (a_p1_numbers, .inl (k 1, 16, aD v_p1.1))]) (w1 := [(a_p2, .inr (2, [.ref a_p2_numbers, .int x1011.2])), (a_p2_numbers, .inl (k 1, 16, aD x1011.1))]) (va_runV (As := [.double d1008]) (rest := []) ⟨hx, hb, hml, hown, hts⟩ (mt_X4_append l D k a_p2 a_p2_numbers _ w7_p2 d1008 x1011 hx1011) (cwV 1 hts gX6_takeDifferences_X4_append rfl rfl rfl (by decide +kernel) ⟨(Nat.le_of_ble_eq_true rfl), (Nat.le_of_ble_eq_true rfl)⟩) (cc_pv (wc := [(a_p2, .inr (2, [.ref a_p2_numbers, .int w7_p2.2])), (a_p2_numbers, .inl (k 1, 16, aD w7_p2.1))]) hK hP hD [2, 3] (by decide) rfl rfl 2 2 rfl rfl rfl) rfl rfl hl.1 rfl (lv_room (Nat.le_of_ble_eq_true rfl)) dX6_takeDifferences_48 ⟨Nat.zero_le _, Nat.zero_le _⟩) hP hD hS hA [2, 3] [0, 1] rfl rfl (by decide) (by decide) (fun H locs hP hD hS => ?_)
            have hP : va_P D vwCl [(a_p1, .inr (2, [.ref a_p1_numbers, .int v_p1.2])), (a_p1_numbers, .inl (k 1, 16, aD v_p1.1)), (a_p2, .inr (2, [.ref a_p2_numbers, .int x1011.2])), (a_p2_numbers, .inl (k 1, 16, aD x1011.1))] H := hP
            have hD : va_D A [(a_p1, .inr (2, [.ref a_p1_numbers, .int v_p1.2])), (a_p1_numbers, .inl (k 1, 16, aD v_p1.1)), (a_p2, .inr (2, [.ref a_p2_numbers, .int x1011.2])), (a_p2_numbers, .inl (k 1, 16, aD x1011.1))] := hD
            refine lv_iinc (v := (x7_2 + 1)) (lv' := [(2, .int (x7_2 + 1)), (3, .double d1008), (0, .ref a_p1), (1, .ref a_p2)]) hx hb dX6_takeDifferences_51 hl (k := 3) rfl rfl (by decide) rfl (fun ls hl => ?_)
            refine lv_goto (tgt := 7) hx hb dX6_takeDifferences_54 (by decide) ?_
            exact ih7 (x7_2 + 1) x1011 H locs ls hP hD hS (lv_sub hl [2, 3, 0] rfl) hf
          · skip
            have hf := if_t c1010 hf
            refine lv_iconst (v := 0) hx hb dX6_takeDifferences_44 (by decide) ?_
            have ho := Option.some.inj hf
            subst ho
            rw [hQ]
            exact W.zret (v := (0 : Int32)) (ty := .boolean) hx hb hr rfl (fun t ht hW => ⟨⟨(0 : Int32), (), rfl, rfl, by rw [ht]; exact hP.sub (ws' := [(a_p1, .inr (2, [.ref a_p1_numbers, .int v_p1.2])), (a_p1_numbers, .inl (k 1, 16, aD v_p1.1)), (a_p2, .inr (2, [.ref a_p2_numbers, .int w7_p2.2])), (a_p2_numbers, .inl (k 1, 16, aD w7_p2.1))]) [0, 1, 2, 3] rfl, va_K.moved hW.alike hK, hD.sub (ws' := [(a_p1, .inr (2, [.ref a_p1_numbers, .int v_p1.2])), (a_p1_numbers, .inl (k 1, 16, aD v_p1.1)), (a_p2, .inr (2, [.ref a_p2_numbers, .int w7_p2.2])), (a_p2_numbers, .inl (k 1, 16, aD w7_p2.1))]) [0, 1, 2, 3] (by decide) rfl⟩, hS.F ht⟩) hS.2.2 dX6_takeDifferences_45
  exact L7 300 (0 : Int32) (v_p2.1, (0 : Int32)) H locs ls hP hD hS (lv_sub hl [1, 2, 0] rfl) hf
