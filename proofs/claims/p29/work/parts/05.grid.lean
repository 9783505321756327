/-! laid by program: mirrors and contracts -/
theorem hinX1_X1_isTooSmall : ∀ w ∈ wsX10, w ∈ wsX1_isTooSmall := by decide +kernel
def p_X1_isTooSmall (v_this_guard : UInt64) (p1 : UInt64) : Option (Int32) := (p_X3_sizeOf p1).bind fun x1 => (if 0 < (Op.cmpValue (FP.dcmp x1 v_this_guard) CmpOp.l) then some (0 : Int32) else some (1 : Int32))
abbrev rm_X1_isTooSmall : Room := { frames := 1, cells := 0, slots := 0, locals := 21 }
set_option maxHeartbeats 4000000 in
set_option maxRecDepth 100000 in
theorem mt_X1_isTooSmall (l : Launch) (D : va_G) (k : Nat → ClassId) (a_this a_this_values a_this_kinds : Nat) (sz : Nat) (v_this_table : Int32) (v_this_guard : UInt64) (v_this_ratio : UInt64) (v_this_bridging : Int32) (v_this_length : Int32) (v_this_guessColumn : Int32) (v_this_guessError : UInt64) (v_this_guessValue : UInt64) (p1 : UInt64) (o : Int32) (hf : p_X1_isTooSmall v_this_guard p1 = some o)  : Met l yX1_isTooSmall wsX1_isTooSmall rm_X1_isTooSmall (va_Pc [.ref a_this, .double p1] (bW D k sz [(a_this, .inr (0, [.ref a_this_values, .ref a_this_kinds, .int v_this_table, .double v_this_guard, .double v_this_ratio, .int v_this_bridging, .int v_this_length, .int v_this_guessColumn, .double v_this_guessError, .double v_this_guessValue]))])) (va_Qi (fun (r : Int32) (_ : Unit) => r = o) (fun _ => bO D k (va_A [(a_this, .inr (0, [.ref a_this_values, .ref a_this_kinds, .int v_this_table, .double v_this_guard, .double v_this_ratio, .int v_this_bridging, .int v_this_length, .int v_this_guessColumn, .double v_this_guessError, .double v_this_guessValue]))] sz) [(a_this, .inr (0, [.ref a_this_values, .ref a_this_kinds, .int v_this_table, .double v_this_guard, .double v_this_ratio, .int v_this_bridging, .int v_this_length, .int v_this_guessColumn, .double v_this_guessError, .double v_this_guessValue]))]) (va_A [(a_this, .inr (0, [.ref a_this_values, .ref a_this_kinds, .int v_this_table, .double v_this_guard, .double v_this_ratio, .int v_this_bridging, .int v_this_length, .int v_this_guessColumn, .double v_this_guessError, .double v_this_guessValue]))] sz)) 0 0 (va_A [(a_this, .inr (0, [.ref a_this_values, .ref a_this_kinds, .int v_this_table, .double v_this_guard, .double v_this_ratio, .int v_this_bridging, .int v_this_length, .int v_this_guessColumn, .double v_this_guessError, .double v_this_guessValue]))] sz) := by
  unfold p_X1_isTooSmall at hf
  refine Met.ofW (cc := cX1_isTooSmall) (maxL := 3) (ret := (some .boolean)) (by decide) rfl ?_
  intro p e s m args below meth c s₁ B hml hv
  obtain ⟨rfl, hsz, hP, hK, hD0⟩ := hv
  have hx := B.exec
  have hb := B.bytes
  have hr := B.returns
  have hts := atoms_spec (ws := wsX1_isTooSmall) B.pre
  have hown : s.vm.findClass RX1 = some m.cls := findClass_of_methodNamed B.named
  have hlocks := B.notSynchronized
  subst hsz
  have hD := hD0.self (sz := s.heap.size)
  generalize hAe : va_A [(a_this, .inr (0, [.ref a_this_values, .ref a_this_kinds, .int v_this_table, .double v_this_guard, .double v_this_ratio, .int v_this_bridging, .int v_this_length, .int v_this_guessColumn, .double v_this_guessError, .double v_this_guessValue]))] s.heap.size = A at hD ⊢
  have hA : ∀ q : Nat, s.heap.size ≤ q → A q := fun q h => by rw [← hAe]; exact Or.inr h
  have hS : va_S A s.heap s.heap [] := va_S.rf
  have hl := lv_entry [.ref a_this, .double p1] (n := 3) (Nat.le_of_ble_eq_true rfl)
  rw [lg_entry_eq]
  generalize (lg_sl [.ref a_this, .double p1] ++ List.replicate (3 - (lg_sl [.ref a_this, .double p1]).length) Slot.unset).toArray = ls at hl ⊢
  have hl : lv_has ls 3 [(0, .ref a_this), (1, .double p1)] := hl
  obtain ⟨H, hHe⟩ : ∃ H, H = s.heap := ⟨_, rfl⟩
  have hP : va_P D vwCl [(a_this, .inr (0, [.ref a_this_values, .ref a_this_kinds, .int v_this_table, .double v_this_guard, .double v_this_ratio, .int v_this_bridging, .int v_this_length, .int v_this_guessColumn, .double v_this_guessError, .double v_this_guessValue]))] H := by rw [hHe]; exact hP
  have hS : va_S A s.heap H [] := by rw [hHe]; exact hS
  rw [← hHe]
  obtain ⟨locs, hLe⟩ : ∃ locs : List Loc, locs = [] := ⟨_, rfl⟩
  rw [← hLe] at hS ⊢
  clear hLe
  refine lv_dload_n hx hb dX1_isTooSmall_0 rfl (lv_at hl 1 rfl) ?_
  obtain ⟨x1, hx1, hf⟩ := bind_s hf
  refine cc_d (r := x1) (wc := []) (wr := [(a_this, .inr (0, [.ref a_this_values, .ref a_this_kinds, .int v_this_table, .double v_this_guard, .double v_this_ratio, .int v_this_bridging, .int v_this_length, .int v_this_guessColumn, .double v_this_guessError, .double v_this_guessValue]))]) (w1 := []) (va_runS (As := [.double p1]) (rest := []) ⟨hx, hb, hml, hown, hts⟩ (mt_X3_sizeOf l D k  _  p1 x1 hx1) (va_cwS 1 hts gX1_isTooSmall_X3_sizeOf rfl rfl rfl (by decide +kernel) ⟨(Nat.le_of_ble_eq_true rfl), (Nat.le_of_ble_eq_true rfl)⟩) (cc_ps (wc := []) hK hP hD [] (by decide) rfl rfl) rfl rfl hl.1 rfl (lv_room (Nat.le_of_ble_eq_true rfl)) dX1_isTooSmall_1 ⟨Nat.zero_le _, Nat.zero_le _⟩) hP hD hS hA [] [0] rfl rfl (by decide) (by decide) (fun H locs hP hD hS => ?_)
  have hP : va_P D vwCl [(a_this, .inr (0, [.ref a_this_values, .ref a_this_kinds, .int v_this_table, .double v_this_guard, .double v_this_ratio, .int v_this_bridging, .int v_this_length, .int v_this_guessColumn, .double v_this_guessError, .double v_this_guessValue]))] H := hP
  have hD : va_D A [(a_this, .inr (0, [.ref a_this_values, .ref a_this_kinds, .int v_this_table, .double v_this_guard, .double v_this_ratio, .int v_this_bridging, .int v_this_length, .int v_this_guessColumn, .double v_this_guessError, .double v_this_guessValue]))] := hD
  refine lv_aload_n hx hb dX1_isTooSmall_4 rfl (lv_at hl 0 rfl) ?_
  refine va_get (D := D) (ci := 0) (v := .double v_this_guard) (C := RX1) (T := TX1) (N := 10) hx hb hts hinX1_X1_isTooSmall hown hK hP 0 rfl rfl 3 (by decide) (hts (.fieldLink RX1 23 "LimitTables$Grid" "guard" "D") (by decide +kernel)) (fun _ h9 => h9) rfl dX1_isTooSmall_5 ?_
  refine lv_dcmp hx hb dX1_isTooSmall_8 ?_
  refine lv_if_gt (tgt := 16) hx hb dX1_isTooSmall_9 (by decide) (fun c2 => ?_) (fun c2 => ?_)
  · skip
    have hf := if_t c2 hf
    refine lv_iconst (v := 0) hx hb dX1_isTooSmall_16 (by decide) ?_
    have ho := Option.some.inj hf
    subst ho
    exact W.zret (v := (0 : Int32)) (ty := .boolean) hx hb hr rfl (fun t ht hW => ⟨⟨(0 : Int32), (), rfl, rfl, by rw [ht]; exact hP.sub (ws' := [(a_this, .inr (0, [.ref a_this_values, .ref a_this_kinds, .int v_this_table, .double v_this_guard, .double v_this_ratio, .int v_this_bridging, .int v_this_length, .int v_this_guessColumn, .double v_this_guessError, .double v_this_guessValue]))]) [0] rfl, va_K.moved hW.alike hK, hD.sub (ws' := [(a_this, .inr (0, [.ref a_this_values, .ref a_this_kinds, .int v_this_table, .double v_this_guard, .double v_this_ratio, .int v_this_bridging, .int v_this_length, .int v_this_guessColumn, .double v_this_guessError, .double v_this_guessValue]))]) [0] (by decide) rfl⟩, hS.F ht⟩) hS.2.2 dX1_isTooSmall_17
  · skip
    have hf := if_f c2 hf
    refine lv_iconst (v := 1) hx hb dX1_isTooSmall_12 (by decide) ?_
    refine lv_goto (tgt := 17) hx hb dX1_isTooSmall_13 (by decide) ?_
    have ho := Option.some.inj hf
    subst ho
    exact W.zret (v := (1 : Int32)) (ty := .boolean) hx hb hr rfl (fun t ht hW => ⟨⟨(1 : Int32), (), rfl, rfl, by rw [ht]; exact hP.sub (ws' := [(a_this, .inr (0, [.ref a_this_values, .ref a_this_kinds, .int v_this_table, .double v_this_guard, .double v_this_ratio, .int v_this_bridging, .int v_this_length, .int v_this_guessColumn, .double v_this_guessError, .double v_this_guessValue]))]) [0] rfl, va_K.moved hW.alike hK, hD.sub (ws' := [(a_this, .inr (0, [.ref a_this_values, .ref a_this_kinds, .int v_this_table, .double v_this_guard, .double v_this_ratio, .int v_this_bridging, .int v_this_length, .int v_this_guessColumn, .double v_this_guessError, .double v_this_guessValue]))]) [0] (by decide) rfl⟩, hS.F ht⟩) hS.2.2 dX1_isTooSmall_17
theorem hinX1_X1_put : ∀ w ∈ wsX10, w ∈ wsX1_put := by decide +kernel
def p_X1_put (v_this_values : Nat → UInt64) (v_this_kinds : Nat → Int32) (p1 : Int32) (p2 : UInt64) (p3 : Int32) : Option ((Nat → UInt64) × (Nat → Int32)) := gD (inb p1 256) (gD (inb p1 256) (some ((vf_upd v_this_values p1.toNatClampNeg p2), (upd v_this_kinds p1.toNatClampNeg p3))))
abbrev rm_X1_put : Room := { frames := 0, cells := 0, slots := 0, locals := 0 }
set_option maxHeartbeats 4000000 in
set_option maxRecDepth 100000 in
theorem mt_X1_put (l : Launch) (D : va_G) (k : Nat → ClassId) (a_this a_this_values a_this_kinds : Nat) (sz : Nat) (v_this_values : Nat → UInt64) (v_this_kinds : Nat → Int32) (v_this_table : Int32) (v_this_guard : UInt64) (v_this_ratio : UInt64) (v_this_bridging : Int32) (v_this_length : Int32) (v_this_guessColumn : Int32) (v_this_guessError : UInt64) (v_this_guessValue : UInt64) (p1 : Int32) (p2 : UInt64) (p3 : Int32) (o : (Nat → UInt64) × (Nat → Int32)) (hf : p_X1_put v_this_values v_this_kinds p1 p2 p3 = some o)  : Met l yX1_put wsX1_put rm_X1_put (va_Pc [.ref a_this, .int p1, .double p2, .int p3] (bW D k sz [(a_this, .inr (0, [.ref a_this_values, .ref a_this_kinds, .int v_this_table, .double v_this_guard, .double v_this_ratio, .int v_this_bridging, .int v_this_length, .int v_this_guessColumn, .double v_this_guessError, .double v_this_guessValue])), (a_this_values, .inl (k 1, 256, aD v_this_values)), (a_this_kinds, .inl (k 2, 256, aI v_this_kinds))])) (va_Qv (fun (_ : Unit) => True) (fun _ => bO D k (va_A [(a_this, .inr (0, [.ref a_this_values, .ref a_this_kinds, .int v_this_table, .double v_this_guard, .double v_this_ratio, .int v_this_bridging, .int v_this_length, .int v_this_guessColumn, .double v_this_guessError, .double v_this_guessValue])), (a_this_values, .inl (k 1, 256, aD v_this_values)), (a_this_kinds, .inl (k 2, 256, aI v_this_kinds))] sz) [(a_this, .inr (0, [.ref a_this_values, .ref a_this_kinds, .int v_this_table, .double v_this_guard, .double v_this_ratio, .int v_this_bridging, .int v_this_length, .int v_this_guessColumn, .double v_this_guessError, .double v_this_guessValue])), (a_this_values, .inl (k 1, 256, aD o.1)), (a_this_kinds, .inl (k 2, 256, aI o.2))]) (va_A [(a_this, .inr (0, [.ref a_this_values, .ref a_this_kinds, .int v_this_table, .double v_this_guard, .double v_this_ratio, .int v_this_bridging, .int v_this_length, .int v_this_guessColumn, .double v_this_guessError, .double v_this_guessValue])), (a_this_values, .inl (k 1, 256, aD v_this_values)), (a_this_kinds, .inl (k 2, 256, aI v_this_kinds))] sz)) 0 0 (va_A [(a_this, .inr (0, [.ref a_this_values, .ref a_this_kinds, .int v_this_table, .double v_this_guard, .double v_this_ratio, .int v_this_bridging, .int v_this_length, .int v_this_guessColumn, .double v_this_guessError, .double v_this_guessValue])), (a_this_values, .inl (k 1, 256, aD v_this_values)), (a_this_kinds, .inl (k 2, 256, aI v_this_kinds))] sz) := by
  unfold p_X1_put at hf
  refine Met.ofW (cc := cX1_put) (maxL := 5) (ret := none) (by decide) rfl ?_
  intro p e s m args below meth c s₁ B hml hv
  obtain ⟨rfl, hsz, hP, hK, hD0⟩ := hv
  have hx := B.exec
  have hb := B.bytes
  have hr := B.returns
  have hts := atoms_spec (ws := wsX1_put) B.pre
  have hown : s.vm.findClass RX1 = some m.cls := findClass_of_methodNamed B.named
  have hlocks := B.notSynchronized
  subst hsz
  have hD := hD0.self (sz := s.heap.size)
  generalize hAe : va_A [(a_this, .inr (0, [.ref a_this_values, .ref a_this_kinds, .int v_this_table, .double v_this_guard, .double v_this_ratio, .int v_this_bridging, .int v_this_length, .int v_this_guessColumn, .double v_this_guessError, .double v_this_guessValue])), (a_this_values, .inl (k 1, 256, aD v_this_values)), (a_this_kinds, .inl (k 2, 256, aI v_this_kinds))] s.heap.size = A at hD ⊢
  have hA : ∀ q : Nat, s.heap.size ≤ q → A q := fun q h => by rw [← hAe]; exact Or.inr h
  have hS : va_S A s.heap s.heap [] := va_S.rf
  have hl := lv_entry [.ref a_this, .int p1, .double p2, .int p3] (n := 5) (Nat.le_of_ble_eq_true rfl)
  rw [lg_entry_eq]
  generalize (lg_sl [.ref a_this, .int p1, .double p2, .int p3] ++ List.replicate (5 - (lg_sl [.ref a_this, .int p1, .double p2, .int p3]).length) Slot.unset).toArray = ls at hl ⊢
  have hl : lv_has ls 5 [(0, .ref a_this), (1, .int p1), (2, .double p2), (4, .int p3)] := hl
  obtain ⟨H, hHe⟩ : ∃ H, H = s.heap := ⟨_, rfl⟩
  have hP : va_P D vwCl [(a_this, .inr (0, [.ref a_this_values, .ref a_this_kinds, .int v_this_table, .double v_this_guard, .double v_this_ratio, .int v_this_bridging, .int v_this_length, .int v_this_guessColumn, .double v_this_guessError, .double v_this_guessValue])), (a_this_values, .inl (k 1, 256, aD v_this_values)), (a_this_kinds, .inl (k 2, 256, aI v_this_kinds))] H := by rw [hHe]; exact hP
  have hS : va_S A s.heap H [] := by rw [hHe]; exact hS
  rw [← hHe]
  obtain ⟨locs, hLe⟩ : ∃ locs : List Loc, locs = [] := ⟨_, rfl⟩
  rw [← hLe] at hS ⊢
  clear hLe
  refine lv_aload_n hx hb dX1_put_0 rfl (lv_at hl 0 rfl) ?_
  refine va_get (D := D) (ci := 0) (v := .ref a_this_values) (C := RX1) (T := TX1) (N := 10) hx hb hts hinX1_X1_put hown hK hP 0 rfl rfl 0 (by decide) (hts (.fieldLink RX1 9 "LimitTables$Grid" "values" "[D") (by decide +kernel)) (fun _ h9 => h9) rfl dX1_put_1 ?_
  refine lv_iload_n hx hb dX1_put_4 rfl (lv_at hl 1 rfl) ?_
  refine lv_dload_n hx hb dX1_put_5 rfl (lv_at hl 2 rfl) ?_
  obtain ⟨g1, hf⟩ := gD_h hf
  refine va_dast hx hb hK hP hD hS 1 1 rfl rfl (inb_in g1) dX1_put_6 (fun H locs hP hD hS => ?_)
  have hP : va_P D vwCl [(a_this, .inr (0, [.ref a_this_values, .ref a_this_kinds, .int v_this_table, .double v_this_guard, .double v_this_ratio, .int v_this_bridging, .int v_this_length, .int v_this_guessColumn, .double v_this_guessError, .double v_this_guessValue])), (a_this_values, .inl (k 1, 256, aD (vf_upd v_this_values p1.toNatClampNeg p2))), (a_this_kinds, .inl (k 2, 256, aI v_this_kinds))] H := hP
  have hD : va_D A [(a_this, .inr (0, [.ref a_this_values, .ref a_this_kinds, .int v_this_table, .double v_this_guard, .double v_this_ratio, .int v_this_bridging, .int v_this_length, .int v_this_guessColumn, .double v_this_guessError, .double v_this_guessValue])), (a_this_values, .inl (k 1, 256, aD (vf_upd v_this_values p1.toNatClampNeg p2))), (a_this_kinds, .inl (k 2, 256, aI v_this_kinds))] := hD
  refine lv_aload_n hx hb dX1_put_7 rfl (lv_at hl 0 rfl) ?_
  refine va_get (D := D) (ci := 0) (v := .ref a_this_kinds) (C := RX1) (T := TX1) (N := 10) hx hb hts hinX1_X1_put hown hK hP 0 rfl rfl 1 (by decide) (hts (.fieldLink RX1 15 "LimitTables$Grid" "kinds" "[I") (by decide +kernel)) (fun _ h9 => h9) rfl dX1_put_8 ?_
  refine lv_iload_n hx hb dX1_put_11 rfl (lv_at hl 1 rfl) ?_
  refine lv_iload hx hb dX1_put_12 (lv_at hl 3 rfl) ?_
  obtain ⟨g2, hf⟩ := gD_h hf
  refine va_iast hx hb hK hP hD hS 2 2 rfl rfl (inb_in g2) dX1_put_14 (fun H locs hP hD hS => ?_)
  have hP : va_P D vwCl [(a_this, .inr (0, [.ref a_this_values, .ref a_this_kinds, .int v_this_table, .double v_this_guard, .double v_this_ratio, .int v_this_bridging, .int v_this_length, .int v_this_guessColumn, .double v_this_guessError, .double v_this_guessValue])), (a_this_values, .inl (k 1, 256, aD (vf_upd v_this_values p1.toNatClampNeg p2))), (a_this_kinds, .inl (k 2, 256, aI (upd v_this_kinds p1.toNatClampNeg p3)))] H := hP
  have hD : va_D A [(a_this, .inr (0, [.ref a_this_values, .ref a_this_kinds, .int v_this_table, .double v_this_guard, .double v_this_ratio, .int v_this_bridging, .int v_this_length, .int v_this_guessColumn, .double v_this_guessError, .double v_this_guessValue])), (a_this_values, .inl (k 1, 256, aD (vf_upd v_this_values p1.toNatClampNeg p2))), (a_this_kinds, .inl (k 2, 256, aI (upd v_this_kinds p1.toNatClampNeg p3)))] := hD
  have ho := Option.some.inj hf
  subst ho
  exact W.vret hx hb hr (fun t ht hW => ⟨⟨(), rfl, trivial, by rw [ht]; exact hP.sub (ws' := [(a_this, .inr (0, [.ref a_this_values, .ref a_this_kinds, .int v_this_table, .double v_this_guard, .double v_this_ratio, .int v_this_bridging, .int v_this_length, .int v_this_guessColumn, .double v_this_guessError, .double v_this_guessValue])), (a_this_values, .inl (k 1, 256, aD (vf_upd v_this_values p1.toNatClampNeg p2))), (a_this_kinds, .inl (k 2, 256, aI (upd v_this_kinds p1.toNatClampNeg p3)))]) [0, 1, 2] rfl, va_K.moved hW.alike hK, hD.sub (ws' := [(a_this, .inr (0, [.ref a_this_values, .ref a_this_kinds, .int v_this_table, .double v_this_guard, .double v_this_ratio, .int v_this_bridging, .int v_this_length, .int v_this_guessColumn, .double v_this_guessError, .double v_this_guessValue])), (a_this_values, .inl (k 1, 256, aD (vf_upd v_this_values p1.toNatClampNeg p2))), (a_this_kinds, .inl (k 2, 256, aI (upd v_this_kinds p1.toNatClampNeg p3)))]) [0, 1, 2] (by decide) rfl⟩, hS.F ht⟩) hS.2.2 dX1_put_15
def p_X1_putIfFinite (v_this_values : Nat → UInt64) (v_this_kinds : Nat → Int32) (p1 : Int32) (p2 : UInt64) : Option ((Nat → UInt64) × (Nat → Int32)) := (p_X3_isFinite p2).bind fun x1 => (if x1 = 0 then (p_X1_put v_this_values v_this_kinds p1 FP.dconst0 (2 : Int32)).bind fun x3 => some (x3.1, x3.2) else (p_X1_put v_this_values v_this_kinds p1 p2 (0 : Int32)).bind fun x4 => some (x4.1, x4.2))
abbrev rm_X1_putIfFinite : Room := { frames := 1, cells := 0, slots := 0, locals := 24 }
set_option maxHeartbeats 4000000 in
set_option maxRecDepth 100000 in
theorem mt_X1_putIfFinite (l : Launch) (D : va_G) (k : Nat → ClassId) (a_this a_this_values a_this_kinds : Nat) (sz : Nat) (v_this_values : Nat → UInt64) (v_this_kinds : Nat → Int32) (v_this_table : Int32) (v_this_guard : UInt64) (v_this_ratio : UInt64) (v_this_bridging : Int32) (v_this_length : Int32) (v_this_guessColumn : Int32) (v_this_guessError : UInt64) (v_this_guessValue : UInt64) (p1 : Int32) (p2 : UInt64) (o : (Nat → UInt64) × (Nat → Int32)) (hf : p_X1_putIfFinite v_this_values v_this_kinds p1 p2 = some o)  : Met l yX1_putIfFinite wsX1_putIfFinite rm_X1_putIfFinite (va_Pc [.ref a_this, .int p1, .double p2] (bW D k sz [(a_this, .inr (0, [.ref a_this_values, .ref a_this_kinds, .int v_this_table, .double v_this_guard, .double v_this_ratio, .int v_this_bridging, .int v_this_length, .int v_this_guessColumn, .double v_this_guessError, .double v_this_guessValue])), (a_this_values, .inl (k 1, 256, aD v_this_values)), (a_this_kinds, .inl (k 2, 256, aI v_this_kinds))])) (va_Qv (fun (_ : Unit) => True) (fun _ => bO D k (va_A [(a_this, .inr (0, [.ref a_this_values, .ref a_this_kinds, .int v_this_table, .double v_this_guard, .double v_this_ratio, .int v_this_bridging, .int v_this_length, .int v_this_guessColumn, .double v_this_guessError, .double v_this_guessValue])), (a_this_values, .inl (k 1, 256, aD v_this_values)), (a_this_kinds, .inl (k 2, 256, aI v_this_kinds))] sz) [(a_this, .inr (0, [.ref a_this_values, .ref a_this_kinds, .int v_this_table, .double v_this_guard, .double v_this_ratio, .int v_this_bridging, .int v_this_length, .int v_this_guessColumn, .double v_this_guessError, .double v_this_guessValue])), (a_this_values, .inl (k 1, 256, aD o.1)), (a_this_kinds, .inl (k 2, 256, aI o.2))]) (va_A [(a_this, .inr (0, [.ref a_this_values, .ref a_this_kinds, .int v_this_table, .double v_this_guard, .double v_this_ratio, .int v_this_bridging, .int v_this_length, .int v_this_guessColumn, .double v_this_guessError, .double v_this_guessValue])), (a_this_values, .inl (k 1, 256, aD v_this_values)), (a_this_kinds, .inl (k 2, 256, aI v_this_kinds))] sz)) 0 0 (va_A [(a_this, .inr (0, [.ref a_this_values, .ref a_this_kinds, .int v_this_table, .double v_this_guard, .double v_this_ratio, .int v_this_bridging, .int v_this_length, .int v_this_guessColumn, .double v_this_guessError, .double v_this_guessValue])), (a_this_values, .inl (k 1, 256, aD v_this_values)), (a_this_kinds, .inl (k 2, 256, aI v_this_kinds))] sz) := by
  unfold p_X1_putIfFinite at hf
  refine Met.ofW (cc := cX1_putIfFinite) (maxL := 5) (ret := none) (by decide) rfl ?_
  intro p e s m args below meth c s₁ B hml hv
  obtain ⟨rfl, hsz, hP, hK, hD0⟩ := hv
  have hx := B.exec
  have hb := B.bytes
  have hr := B.returns
  have hts := atoms_spec (ws := wsX1_putIfFinite) B.pre
  have hown : s.vm.findClass RX1 = some m.cls := findClass_of_methodNamed B.named
  have hlocks := B.notSynchronized
  subst hsz
  have hD := hD0.self (sz := s.heap.size)
  generalize hAe : va_A [(a_this, .inr (0, [.ref a_this_values, .ref a_this_kinds, .int v_this_table, .double v_this_guard, .double v_this_ratio, .int v_this_bridging, .int v_this_length, .int v_this_guessColumn, .double v_this_guessError, .double v_this_guessValue])), (a_this_values, .inl (k 1, 256, aD v_this_values)), (a_this_kinds, .inl (k 2, 256, aI v_this_kinds))] s.heap.size = A at hD ⊢
  have hA : ∀ q : Nat, s.heap.size ≤ q → A q := fun q h => by rw [← hAe]; exact Or.inr h
  have hS : va_S A s.heap s.heap [] := va_S.rf
  have hl := lv_entry [.ref a_this, .int p1, .double p2] (n := 5) (Nat.le_of_ble_eq_true rfl)
  rw [lg_entry_eq]
  generalize (lg_sl [.ref a_this, .int p1, .double p2] ++ List.replicate (5 - (lg_sl [.ref a_this, .int p1, .double p2]).length) Slot.unset).toArray = ls at hl ⊢
  have hl : lv_has ls 5 [(0, .ref a_this), (1, .int p1), (2, .double p2)] := hl
  obtain ⟨H, hHe⟩ : ∃ H, H = s.heap := ⟨_, rfl⟩
  have hP : va_P D vwCl [(a_this, .inr (0, [.ref a_this_values, .ref a_this_kinds, .int v_this_table, .double v_this_guard, .double v_this_ratio, .int v_this_bridging, .int v_this_length, .int v_this_guessColumn, .double v_this_guessError, .double v_this_guessValue])), (a_this_values, .inl (k 1, 256, aD v_this_values)), (a_this_kinds, .inl (k 2, 256, aI v_this_kinds))] H := by rw [hHe]; exact hP
  have hS : va_S A s.heap H [] := by rw [hHe]; exact hS
  rw [← hHe]
  obtain ⟨locs, hLe⟩ : ∃ locs : List Loc, locs = [] := ⟨_, rfl⟩
  rw [← hLe] at hS ⊢
  clear hLe
  refine lv_dload_n hx hb dX1_putIfFinite_0 rfl (lv_at hl 2 rfl) ?_
  obtain ⟨x1, hx1, hf⟩ := bind_s hf
  refine cc_i (r := x1) (wc := []) (wr := [(a_this, .inr (0, [.ref a_this_values, .ref a_this_kinds, .int v_this_table, .double v_this_guard, .double v_this_ratio, .int v_this_bridging, .int v_this_length, .int v_this_guessColumn, .double v_this_guessError, .double v_this_guessValue])), (a_this_values, .inl (k 1, 256, aD v_this_values)), (a_this_kinds, .inl (k 2, 256, aI v_this_kinds))]) (w1 := []) (va_runS (As := [.double p2]) (rest := []) ⟨hx, hb, hml, hown, hts⟩ (mt_X3_isFinite l D k  _  p2 x1 hx1) (va_cwS 1 hts gX1_putIfFinite_X3_isFinite rfl rfl rfl (by decide +kernel) ⟨(Nat.le_of_ble_eq_true rfl), (Nat.le_of_ble_eq_true rfl)⟩) (cc_ps (wc := []) hK hP hD [] (by decide) rfl rfl) rfl rfl hl.1 rfl (lv_room (Nat.le_of_ble_eq_true rfl)) dX1_putIfFinite_1 ⟨Nat.zero_le _, Nat.zero_le _⟩) hP hD hS hA [] [0, 1, 2] rfl rfl (by decide) (by decide) (fun H locs hP hD hS => ?_)
  have hP : va_P D vwCl [(a_this, .inr (0, [.ref a_this_values, .ref a_this_kinds, .int v_this_table, .double v_this_guard, .double v_this_ratio, .int v_this_bridging, .int v_this_length, .int v_this_guessColumn, .double v_this_guessError, .double v_this_guessValue])), (a_this_values, .inl (k 1, 256, aD v_this_values)), (a_this_kinds, .inl (k 2, 256, aI v_this_kinds))] H := hP
  have hD : va_D A [(a_this, .inr (0, [.ref a_this_values, .ref a_this_kinds, .int v_this_table, .double v_this_guard, .double v_this_ratio, .int v_this_bridging, .int v_this_length, .int v_this_guessColumn, .double v_this_guessError, .double v_this_guessValue])), (a_this_values, .inl (k 1, 256, aD v_this_values)), (a_this_kinds, .inl (k 2, 256, aI v_this_kinds))] := hD
  refine lv_istore (lv' := [(4, .int x1), (0, .ref a_this), (1, .int p1), (2, .double p2)]) hx hb dX1_putIfFinite_4 hl (by decide) rfl (fun ls hl => ?_)
  refine lv_aload_n hx hb dX1_putIfFinite_6 rfl (lv_at hl 1 rfl) ?_
  refine lv_iload_n hx hb dX1_putIfFinite_7 rfl (lv_at hl 2 rfl) ?_
  refine lv_iload hx hb dX1_putIfFinite_8 (lv_at hl 0 rfl) ?_
  refine lv_if_eq (tgt := 17) hx hb dX1_putIfFinite_10 (by decide) (fun c2 => ?_) (fun c2 => ?_)
  · skip
    have hf := if_t c2 hf
    refine lv_dconst0 hx hb dX1_putIfFinite_17 ?_
    refine lv_iload hx hb dX1_putIfFinite_18 (lv_at hl 0 rfl) ?_
    refine lv_if_eq (tgt := 27) hx hb dX1_putIfFinite_20 (by decide) (fun _ => ?_) (fun h9 => absurd c2 h9)
    refine lv_iconst (v := 2) hx hb dX1_putIfFinite_27 (by decide) ?_
    obtain ⟨x3, hx3, hf⟩ := bind_s hf
    refine cc_v (wc := [(a_this, .inr (0, [.ref a_this_values, .ref a_this_kinds, .int v_this_table, .double v_this_guard, .double v_this_ratio, .int v_this_bridging, .int v_this_length, .int v_this_guessColumn, .double v_this_guessError, .double v_this_guessValue])), (a_this_values, .inl (k 1, 256, aD v_this_values)), (a_this_kinds, .inl (k 2, 256, aI v_this_kinds))]) (wr := []) (w1 := [(a_this, .inr (0, [.ref a_this_values, .ref a_this_kinds, .int v_this_table, .double v_this_guard, .double v_this_ratio, .int v_this_bridging, .int v_this_length, .int v_this_guessColumn, .double v_this_guessError, .double v_this_guessValue])), (a_this_values, .inl (k 1, 256, aD x3.1)), (a_this_kinds, .inl (k 2, 256, aI x3.2))]) (va_runV (As := [.int p1, .double FP.dconst0, .int (2 : Int32)]) (rest := []) ⟨hx, hb, hml, hown, hts⟩ (mt_X1_put l D k a_this a_this_values a_this_kinds _ v_this_values v_this_kinds v_this_table v_this_guard v_this_ratio v_this_bridging v_this_length v_this_guessColumn v_this_guessError v_this_guessValue p1 FP.dconst0 (2 : Int32) x3 hx3) (cwV 3 hts gX1_putIfFinite_X1_put rfl rfl rfl (by decide +kernel) ⟨(Nat.le_of_ble_eq_true rfl), (Nat.le_of_ble_eq_true rfl)⟩) (cc_pv (wc := [(a_this, .inr (0, [.ref a_this_values, .ref a_this_kinds, .int v_this_table, .double v_this_guard, .double v_this_ratio, .int v_this_bridging, .int v_this_length, .int v_this_guessColumn, .double v_this_guessError, .double v_this_guessValue])), (a_this_values, .inl (k 1, 256, aD v_this_values)), (a_this_kinds, .inl (k 2, 256, aI v_this_kinds))]) hK hP hD [0, 1, 2] (by decide) rfl rfl 0 0 rfl rfl rfl) rfl rfl hl.1 rfl (lv_room (Nat.le_of_ble_eq_true rfl)) dX1_putIfFinite_28 ⟨Nat.zero_le _, Nat.zero_le _⟩) hP hD hS hA [0, 1, 2] [] rfl rfl (by decide) (by decide) (fun H locs hP hD hS => ?_)
    have hP : va_P D vwCl [(a_this, .inr (0, [.ref a_this_values, .ref a_this_kinds, .int v_this_table, .double v_this_guard, .double v_this_ratio, .int v_this_bridging, .int v_this_length, .int v_this_guessColumn, .double v_this_guessError, .double v_this_guessValue])), (a_this_values, .inl (k 1, 256, aD x3.1)), (a_this_kinds, .inl (k 2, 256, aI x3.2))] H := hP
    have hD : va_D A [(a_this, .inr (0, [.ref a_this_values, .ref a_this_kinds, .int v_this_table, .double v_this_guard, .double v_this_ratio, .int v_this_bridging, .int v_this_length, .int v_this_guessColumn, .double v_this_guessError, .double v_this_guessValue])), (a_this_values, .inl (k 1, 256, aD x3.1)), (a_this_kinds, .inl (k 2, 256, aI x3.2))] := hD
    have ho := Option.some.inj hf
    subst ho
    exact W.vret hx hb hr (fun t ht hW => ⟨⟨(), rfl, trivial, by rw [ht]; exact hP.sub (ws' := [(a_this, .inr (0, [.ref a_this_values, .ref a_this_kinds, .int v_this_table, .double v_this_guard, .double v_this_ratio, .int v_this_bridging, .int v_this_length, .int v_this_guessColumn, .double v_this_guessError, .double v_this_guessValue])), (a_this_values, .inl (k 1, 256, aD x3.1)), (a_this_kinds, .inl (k 2, 256, aI x3.2))]) [0, 1, 2] rfl, va_K.moved hW.alike hK, hD.sub (ws' := [(a_this, .inr (0, [.ref a_this_values, .ref a_this_kinds, .int v_this_table, .double v_this_guard, .double v_this_ratio, .int v_this_bridging, .int v_this_length, .int v_this_guessColumn, .double v_this_guessError, .double v_this_guessValue])), (a_this_values, .inl (k 1, 256, aD x3.1)), (a_this_kinds, .inl (k 2, 256, aI x3.2))]) [0, 1, 2] (by decide) rfl⟩, hS.F ht⟩) hS.2.2 dX1_putIfFinite_31
  · skip
    have hf := if_f c2 hf
    refine lv_dload_n hx hb dX1_putIfFinite_13 rfl (lv_at hl 3 rfl) ?_
    refine lv_goto (tgt := 18) hx hb dX1_putIfFinite_14 (by decide) ?_
    refine lv_iload hx hb dX1_putIfFinite_18 (lv_at hl 0 rfl) ?_
    refine lv_if_eq (tgt := 27) hx hb dX1_putIfFinite_20 (by decide) (fun h9 => absurd h9 c2) (fun _ => ?_)
    refine lv_iconst (v := 0) hx hb dX1_putIfFinite_23 (by decide) ?_
    refine lv_goto (tgt := 28) hx hb dX1_putIfFinite_24 (by decide) ?_
    obtain ⟨x4, hx4, hf⟩ := bind_s hf
    refine cc_v (wc := [(a_this, .inr (0, [.ref a_this_values, .ref a_this_kinds, .int v_this_table, .double v_this_guard, .double v_this_ratio, .int v_this_bridging, .int v_this_length, .int v_this_guessColumn, .double v_this_guessError, .double v_this_guessValue])), (a_this_values, .inl (k 1, 256, aD v_this_values)), (a_this_kinds, .inl (k 2, 256, aI v_this_kinds))]) (wr := []) (w1 := [(a_this, .inr (0, [.ref a_this_values, .ref a_this_kinds, .int v_this_table, .double v_this_guard, .double v_this_ratio, .int v_this_bridging, .int v_this_length, .int v_this_guessColumn, .double v_this_guessError, .double v_this_guessValue])), (a_this_values, .inl (k 1, 256, aD x4.1)), (a_this_kinds, .inl (k 2, 256, aI x4.2))]) (va_runV (As := [.int p1, .double p2, .int (0 : Int32)]) (rest := []) ⟨hx, hb, hml, hown, hts⟩ (mt_X1_put l D k a_this a_this_values a_this_kinds _ v_this_values v_this_kinds v_this_table v_this_guard v_this_ratio v_this_bridging v_this_length v_this_guessColumn v_this_guessError v_this_guessValue p1 p2 (0 : Int32) x4 hx4) (cwV 3 hts gX1_putIfFinite_X1_put rfl rfl rfl (by decide +kernel) ⟨(Nat.le_of_ble_eq_true rfl), (Nat.le_of_ble_eq_true rfl)⟩) (cc_pv (wc := [(a_this, .inr (0, [.ref a_this_values, .ref a_this_kinds, .int v_this_table, .double v_this_guard, .double v_this_ratio, .int v_this_bridging, .int v_this_length, .int v_this_guessColumn, .double v_this_guessError, .double v_this_guessValue])), (a_this_values, .inl (k 1, 256, aD v_this_values)), (a_this_kinds, .inl (k 2, 256, aI v_this_kinds))]) hK hP hD [0, 1, 2] (by decide) rfl rfl 0 0 rfl rfl rfl) rfl rfl hl.1 rfl (lv_room (Nat.le_of_ble_eq_true rfl)) dX1_putIfFinite_28 ⟨Nat.zero_le _, Nat.zero_le _⟩) hP hD hS hA [0, 1, 2] [] rfl rfl (by decide) (by decide) (fun H locs hP hD hS => ?_)
    have hP : va_P D vwCl [(a_this, .inr (0, [.ref a_this_values, .ref a_this_kinds, .int v_this_table, .double v_this_guard, .double v_this_ratio, .int v_this_bridging, .int v_this_length, .int v_this_guessColumn, .double v_this_guessError, .double v_this_guessValue])), (a_this_values, .inl (k 1, 256, aD x4.1)), (a_this_kinds, .inl (k 2, 256, aI x4.2))] H := hP
    have hD : va_D A [(a_this, .inr (0, [.ref a_this_values, .ref a_this_kinds, .int v_this_table, .double v_this_guard, .double v_this_ratio, .int v_this_bridging, .int v_this_length, .int v_this_guessColumn, .double v_this_guessError, .double v_this_guessValue])), (a_this_values, .inl (k 1, 256, aD x4.1)), (a_this_kinds, .inl (k 2, 256, aI x4.2))] := hD
    have ho := Option.some.inj hf
    subst ho
    exact W.vret hx hb hr (fun t ht hW => ⟨⟨(), rfl, trivial, by rw [ht]; exact hP.sub (ws' := [(a_this, .inr (0, [.ref a_this_values, .ref a_this_kinds, .int v_this_table, .double v_this_guard, .double v_this_ratio, .int v_this_bridging, .int v_this_length, .int v_this_guessColumn, .double v_this_guessError, .double v_this_guessValue])), (a_this_values, .inl (k 1, 256, aD x4.1)), (a_this_kinds, .inl (k 2, 256, aI x4.2))]) [0, 1, 2] rfl, va_K.moved hW.alike hK, hD.sub (ws' := [(a_this, .inr (0, [.ref a_this_values, .ref a_this_kinds, .int v_this_table, .double v_this_guard, .double v_this_ratio, .int v_this_bridging, .int v_this_length, .int v_this_guessColumn, .double v_this_guessError, .double v_this_guessValue])), (a_this_values, .inl (k 1, 256, aD x4.1)), (a_this_kinds, .inl (k 2, 256, aI x4.2))]) [0, 1, 2] (by decide) rfl⟩, hS.F ht⟩) hS.2.2 dX1_putIfFinite_31
theorem hinX1_X1_putUndivided : ∀ w ∈ wsX10, w ∈ wsX1_putUndivided := by decide +kernel
def p_X1_putUndivided (v_this_values : Nat → UInt64) (v_this_kinds : Nat → Int32) (v_this_bridging : Int32) (p1 : Int32) (p2 : UInt64) : Option ((Nat → UInt64) × (Nat → Int32)) := (if v_this_bridging = 0 then (p_X1_put v_this_values v_this_kinds p1 FP.dconst0 (2 : Int32)).bind fun x2 => some (x2.1, x2.2) else (p_X1_put v_this_values v_this_kinds p1 p2 (1 : Int32)).bind fun x3 => some (x3.1, x3.2))
abbrev rm_X1_putUndivided : Room := { frames := 1, cells := 0, slots := 0, locals := 24 }
set_option maxHeartbeats 4000000 in
set_option maxRecDepth 100000 in
theorem mt_X1_putUndivided (l : Launch) (D : va_G) (k : Nat → ClassId) (a_this a_this_values a_this_kinds : Nat) (sz : Nat) (v_this_values : Nat → UInt64) (v_this_kinds : Nat → Int32) (v_this_table : Int32) (v_this_guard : UInt64) (v_this_ratio : UInt64) (v_this_bridging : Int32) (v_this_length : Int32) (v_this_guessColumn : Int32) (v_this_guessError : UInt64) (v_this_guessValue : UInt64) (p1 : Int32) (p2 : UInt64) (o : (Nat → UInt64) × (Nat → Int32)) (hf : p_X1_putUndivided v_this_values v_this_kinds v_this_bridging p1 p2 = some o)  : Met l yX1_putUndivided wsX1_putUndivided rm_X1_putUndivided (va_Pc [.ref a_this, .int p1, .double p2] (bW D k sz [(a_this, .inr (0, [.ref a_this_values, .ref a_this_kinds, .int v_this_table, .double v_this_guard, .double v_this_ratio, .int v_this_bridging, .int v_this_length, .int v_this_guessColumn, .double v_this_guessError, .double v_this_guessValue])), (a_this_values, .inl (k 1, 256, aD v_this_values)), (a_this_kinds, .inl (k 2, 256, aI v_this_kinds))])) (va_Qv (fun (_ : Unit) => True) (fun _ => bO D k (va_A [(a_this, .inr (0, [.ref a_this_values, .ref a_this_kinds, .int v_this_table, .double v_this_guard, .double v_this_ratio, .int v_this_bridging, .int v_this_length, .int v_this_guessColumn, .double v_this_guessError, .double v_this_guessValue])), (a_this_values, .inl (k 1, 256, aD v_this_values)), (a_this_kinds, .inl (k 2, 256, aI v_this_kinds))] sz) [(a_this, .inr (0, [.ref a_this_values, .ref a_this_kinds, .int v_this_table, .double v_this_guard, .double v_this_ratio, .int v_this_bridging, .int v_this_length, .int v_this_guessColumn, .double v_this_guessError, .double v_this_guessValue])), (a_this_values, .inl (k 1, 256, aD o.1)), (a_this_kinds, .inl (k 2, 256, aI o.2))]) (va_A [(a_this, .inr (0, [.ref a_this_values, .ref a_this_kinds, .int v_this_table, .double v_this_guard, .double v_this_ratio, .int v_this_bridging, .int v_this_length, .int v_this_guessColumn, .double v_this_guessError, .double v_this_guessValue])), (a_this_values, .inl (k 1, 256, aD v_this_values)), (a_this_kinds, .inl (k 2, 256, aI v_this_kinds))] sz)) 0 0 (va_A [(a_this, .inr (0, [.ref a_this_values, .ref a_this_kinds, .int v_this_table, .double v_this_guard, .double v_this_ratio, .int v_this_bridging, .int v_this_length, .int v_this_guessColumn, .double v_this_guessError, .double v_this_guessValue])), (a_this_values, .inl (k 1, 256, aD v_this_values)), (a_this_kinds, .inl (k 2, 256, aI v_this_kinds))] sz) := by
  unfold p_X1_putUndivided at hf
  refine Met.ofW (cc := cX1_putUndivided) (maxL := 4) (ret := none) (by decide) rfl ?_
  intro p e s m args below meth c s₁ B hml hv
  obtain ⟨rfl, hsz, hP, hK, hD0⟩ := hv
  have hx := B.exec
  have hb := B.bytes
  have hr := B.returns
  have hts := atoms_spec (ws := wsX1_putUndivided) B.pre
  have hown : s.vm.findClass RX1 = some m.cls := findClass_of_methodNamed B.named
  have hlocks := B.notSynchronized
  subst hsz
  have hD := hD0.self (sz := s.heap.size)
  generalize hAe : va_A [(a_this, .inr (0, [.ref a_this_values, .ref a_this_kinds, .int v_this_table, .double v_this_guard, .double v_this_ratio, .int v_this_bridging, .int v_this_length, .int v_this_guessColumn, .double v_this_guessError, .double v_this_guessValue])), (a_this_values, .inl (k 1, 256, aD v_this_values)), (a_this_kinds, .inl (k 2, 256, aI v_this_kinds))] s.heap.size = A at hD ⊢
  have hA : ∀ q : Nat, s.heap.size ≤ q → A q := fun q h => by rw [← hAe]; exact Or.inr h
  have hS : va_S A s.heap s.heap [] := va_S.rf
  have hl := lv_entry [.ref a_this, .int p1, .double p2] (n := 4) (Nat.le_of_ble_eq_true rfl)
  rw [lg_entry_eq]
  generalize (lg_sl [.ref a_this, .int p1, .double p2] ++ List.replicate (4 - (lg_sl [.ref a_this, .int p1, .double p2]).length) Slot.unset).toArray = ls at hl ⊢
  have hl : lv_has ls 4 [(0, .ref a_this), (1, .int p1), (2, .double p2)] := hl
  obtain ⟨H, hHe⟩ : ∃ H, H = s.heap := ⟨_, rfl⟩
  have hP : va_P D vwCl [(a_this, .inr (0, [.ref a_this_values, .ref a_this_kinds, .int v_this_table, .double v_this_guard, .double v_this_ratio, .int v_this_bridging, .int v_this_length, .int v_this_guessColumn, .double v_this_guessError, .double v_this_guessValue])), (a_this_values, .inl (k 1, 256, aD v_this_values)), (a_this_kinds, .inl (k 2, 256, aI v_this_kinds))] H := by rw [hHe]; exact hP
  have hS : va_S A s.heap H [] := by rw [hHe]; exact hS
  rw [← hHe]
  obtain ⟨locs, hLe⟩ : ∃ locs : List Loc, locs = [] := ⟨_, rfl⟩
  rw [← hLe] at hS ⊢
  clear hLe
  refine lv_aload_n hx hb dX1_putUndivided_0 rfl (lv_at hl 0 rfl) ?_
  refine lv_iload_n hx hb dX1_putUndivided_1 rfl (lv_at hl 1 rfl) ?_
  refine lv_aload_n hx hb dX1_putUndivided_2 rfl (lv_at hl 0 rfl) ?_
  refine va_get (D := D) (ci := 0) (v := .int v_this_bridging) (C := RX1) (T := TX1) (N := 10) hx hb hts hinX1_X1_putUndivided hown hK hP 0 rfl rfl 5 (by decide) (hts (.fieldLink RX1 30 "LimitTables$Grid" "bridging" "Z") (by decide +kernel)) (fun _ h9 => h9) rfl dX1_putUndivided_3 ?_
  refine lv_if_eq (tgt := 13) hx hb dX1_putUndivided_6 (by decide) (fun c1 => ?_) (fun c1 => ?_)
  · skip
    have hf := if_t c1 hf
    refine lv_dconst0 hx hb dX1_putUndivided_13 ?_
    refine lv_aload_n hx hb dX1_putUndivided_14 rfl (lv_at hl 0 rfl) ?_
    refine va_get (D := D) (ci := 0) (v := .int v_this_bridging) (C := RX1) (T := TX1) (N := 10) hx hb hts hinX1_X1_putUndivided hown hK hP 0 rfl rfl 5 (by decide) (hts (.fieldLink RX1 30 "LimitTables$Grid" "bridging" "Z") (by decide +kernel)) (fun _ h9 => h9) rfl dX1_putUndivided_15 ?_
    refine lv_if_eq (tgt := 25) hx hb dX1_putUndivided_18 (by decide) (fun _ => ?_) (fun h9 => absurd c1 h9)
    refine lv_iconst (v := 2) hx hb dX1_putUndivided_25 (by decide) ?_
    obtain ⟨x2, hx2, hf⟩ := bind_s hf
    refine cc_v (wc := [(a_this, .inr (0, [.ref a_this_values, .ref a_this_kinds, .int v_this_table, .double v_this_guard, .double v_this_ratio, .int v_this_bridging, .int v_this_length, .int v_this_guessColumn, .double v_this_guessError, .double v_this_guessValue])), (a_this_values, .inl (k 1, 256, aD v_this_values)), (a_this_kinds, .inl (k 2, 256, aI v_this_kinds))]) (wr := []) (w1 := [(a_this, .inr (0, [.ref a_this_values, .ref a_this_kinds, .int v_this_table, .double v_this_guard, .double v_this_ratio, .int v_this_bridging, .int v_this_length, .int v_this_guessColumn, .double v_this_guessError, .double v_this_guessValue])), (a_this_values, .inl (k 1, 256, aD x2.1)), (a_this_kinds, .inl (k 2, 256, aI x2.2))]) (va_runV (As := [.int p1, .double FP.dconst0, .int (2 : Int32)]) (rest := []) ⟨hx, hb, hml, hown, hts⟩ (mt_X1_put l D k a_this a_this_values a_this_kinds _ v_this_values v_this_kinds v_this_table v_this_guard v_this_ratio v_this_bridging v_this_length v_this_guessColumn v_this_guessError v_this_guessValue p1 FP.dconst0 (2 : Int32) x2 hx2) (cwV 3 hts gX1_putUndivided_X1_put rfl rfl rfl (by decide +kernel) ⟨(Nat.le_of_ble_eq_true rfl), (Nat.le_of_ble_eq_true rfl)⟩) (cc_pv (wc := [(a_this, .inr (0, [.ref a_this_values, .ref a_this_kinds, .int v_this_table, .double v_this_guard, .double v_this_ratio, .int v_this_bridging, .int v_this_length, .int v_this_guessColumn, .double v_this_guessError, .double v_this_guessValue])), (a_this_values, .inl (k 1, 256, aD v_this_values)), (a_this_kinds, .inl (k 2, 256, aI v_this_kinds))]) hK hP hD [0, 1, 2] (by decide) rfl rfl 0 0 rfl rfl rfl) rfl rfl hl.1 rfl (lv_room (Nat.le_of_ble_eq_true rfl)) dX1_putUndivided_26 ⟨Nat.zero_le _, Nat.zero_le _⟩) hP hD hS hA [0, 1, 2] [] rfl rfl (by decide) (by decide) (fun H locs hP hD hS => ?_)
    have hP : va_P D vwCl [(a_this, .inr (0, [.ref a_this_values, .ref a_this_kinds, .int v_this_table, .double v_this_guard, .double v_this_ratio, .int v_this_bridging, .int v_this_length, .int v_this_guessColumn, .double v_this_guessError, .double v_this_guessValue])), (a_this_values, .inl (k 1, 256, aD x2.1)), (a_this_kinds, .inl (k 2, 256, aI x2.2))] H := hP
    have hD : va_D A [(a_this, .inr (0, [.ref a_this_values, .ref a_this_kinds, .int v_this_table, .double v_this_guard, .double v_this_ratio, .int v_this_bridging, .int v_this_length, .int v_this_guessColumn, .double v_this_guessError, .double v_this_guessValue])), (a_this_values, .inl (k 1, 256, aD x2.1)), (a_this_kinds, .inl (k 2, 256, aI x2.2))] := hD
    have ho := Option.some.inj hf
    subst ho
    exact W.vret hx hb hr (fun t ht hW => ⟨⟨(), rfl, trivial, by rw [ht]; exact hP.sub (ws' := [(a_this, .inr (0, [.ref a_this_values, .ref a_this_kinds, .int v_this_table, .double v_this_guard, .double v_this_ratio, .int v_this_bridging, .int v_this_length, .int v_this_guessColumn, .double v_this_guessError, .double v_this_guessValue])), (a_this_values, .inl (k 1, 256, aD x2.1)), (a_this_kinds, .inl (k 2, 256, aI x2.2))]) [0, 1, 2] rfl, va_K.moved hW.alike hK, hD.sub (ws' := [(a_this, .inr (0, [.ref a_this_values, .ref a_this_kinds, .int v_this_table, .double v_this_guard, .double v_this_ratio, .int v_this_bridging, .int v_this_length, .int v_this_guessColumn, .double v_this_guessError, .double v_this_guessValue])), (a_this_values, .inl (k 1, 256, aD x2.1)), (a_this_kinds, .inl (k 2, 256, aI x2.2))]) [0, 1, 2] (by decide) rfl⟩, hS.F ht⟩) hS.2.2 dX1_putUndivided_29
  · skip
    have hf := if_f c1 hf
    refine lv_dload_n hx hb dX1_putUndivided_9 rfl (lv_at hl 2 rfl) ?_
    refine lv_goto (tgt := 14) hx hb dX1_putUndivided_10 (by decide) ?_
    refine lv_aload_n hx hb dX1_putUndivided_14 rfl (lv_at hl 0 rfl) ?_
    refine va_get (D := D) (ci := 0) (v := .int v_this_bridging) (C := RX1) (T := TX1) (N := 10) hx hb hts hinX1_X1_putUndivided hown hK hP 0 rfl rfl 5 (by decide) (hts (.fieldLink RX1 30 "LimitTables$Grid" "bridging" "Z") (by decide +kernel)) (fun _ h9 => h9) rfl dX1_putUndivided_15 ?_
    refine lv_if_eq (tgt := 25) hx hb dX1_putUndivided_18 (by decide) (fun h9 => absurd h9 c1) (fun _ => ?_)
    refine lv_iconst (v := 1) hx hb dX1_putUndivided_21 (by decide) ?_
    refine lv_goto (tgt := 26) hx hb dX1_putUndivided_22 (by decide) ?_
    obtain ⟨x3, hx3, hf⟩ := bind_s hf
    refine cc_v (wc := [(a_this, .inr (0, [.ref a_this_values, .ref a_this_kinds, .int v_this_table, .double v_this_guard, .double v_this_ratio, .int v_this_bridging, .int v_this_length, .int v_this_guessColumn, .double v_this_guessError, .double v_this_guessValue])), (a_this_values, .inl (k 1, 256, aD v_this_values)), (a_this_kinds, .inl (k 2, 256, aI v_this_kinds))]) (wr := []) (w1 := [(a_this, .inr (0, [.ref a_this_values, .ref a_this_kinds, .int v_this_table, .double v_this_guard, .double v_this_ratio, .int v_this_bridging, .int v_this_length, .int v_this_guessColumn, .double v_this_guessError, .double v_this_guessValue])), (a_this_values, .inl (k 1, 256, aD x3.1)), (a_this_kinds, .inl (k 2, 256, aI x3.2))]) (va_runV (As := [.int p1, .double p2, .int (1 : Int32)]) (rest := []) ⟨hx, hb, hml, hown, hts⟩ (mt_X1_put l D k a_this a_this_values a_this_kinds _ v_this_values v_this_kinds v_this_table v_this_guard v_this_ratio v_this_bridging v_this_length v_this_guessColumn v_this_guessError v_this_guessValue p1 p2 (1 : Int32) x3 hx3) (cwV 3 hts gX1_putUndivided_X1_put rfl rfl rfl (by decide +kernel) ⟨(Nat.le_of_ble_eq_true rfl), (Nat.le_of_ble_eq_true rfl)⟩) (cc_pv (wc := [(a_this, .inr (0, [.ref a_this_values, .ref a_this_kinds, .int v_this_table, .double v_this_guard, .double v_this_ratio, .int v_this_bridging, .int v_this_length, .int v_this_guessColumn, .double v_this_guessError, .double v_this_guessValue])), (a_this_values, .inl (k 1, 256, aD v_this_values)), (a_this_kinds, .inl (k 2, 256, aI v_this_kinds))]) hK hP hD [0, 1, 2] (by decide) rfl rfl 0 0 rfl rfl rfl) rfl rfl hl.1 rfl (lv_room (Nat.le_of_ble_eq_true rfl)) dX1_putUndivided_26 ⟨Nat.zero_le _, Nat.zero_le _⟩) hP hD hS hA [0, 1, 2] [] rfl rfl (by decide) (by decide) (fun H locs hP hD hS => ?_)
    have hP : va_P D vwCl [(a_this, .inr (0, [.ref a_this_values, .ref a_this_kinds, .int v_this_table, .double v_this_guard, .double v_this_ratio, .int v_this_bridging, .int v_this_length, .int v_this_guessColumn, .double v_this_guessError, .double v_this_guessValue])), (a_this_values, .inl (k 1, 256, aD x3.1)), (a_this_kinds, .inl (k 2, 256, aI x3.2))] H := hP
    have hD : va_D A [(a_this, .inr (0, [.ref a_this_values, .ref a_this_kinds, .int v_this_table, .double v_this_guard, .double v_this_ratio, .int v_this_bridging, .int v_this_length, .int v_this_guessColumn, .double v_this_guessError, .double v_this_guessValue])), (a_this_values, .inl (k 1, 256, aD x3.1)), (a_this_kinds, .inl (k 2, 256, aI x3.2))] := hD
    have ho := Option.some.inj hf
    subst ho
    exact W.vret hx hb hr (fun t ht hW => ⟨⟨(), rfl, trivial, by rw [ht]; exact hP.sub (ws' := [(a_this, .inr (0, [.ref a_this_values, .ref a_this_kinds, .int v_this_table, .double v_this_guard, .double v_this_ratio, .int v_this_bridging, .int v_this_length, .int v_this_guessColumn, .double v_this_guessError, .double v_this_guessValue])), (a_this_values, .inl (k 1, 256, aD x3.1)), (a_this_kinds, .inl (k 2, 256, aI x3.2))]) [0, 1, 2] rfl, va_K.moved hW.alike hK, hD.sub (ws' := [(a_this, .inr (0, [.ref a_this_values, .ref a_this_kinds, .int v_this_table, .double v_this_guard, .double v_this_ratio, .int v_this_bridging, .int v_this_length, .int v_this_guessColumn, .double v_this_guessError, .double v_this_guessValue])), (a_this_values, .inl (k 1, 256, aD x3.1)), (a_this_kinds, .inl (k 2, 256, aI x3.2))]) [0, 1, 2] (by decide) rfl⟩, hS.F ht⟩) hS.2.2 dX1_putUndivided_29
theorem hinX1_X1_makeByInverse : ∀ w ∈ wsX10, w ∈ wsX1_makeByInverse := by decide +kernel
def p_X1_makeByInverse (v_this_values : Nat → UInt64) (v_this_kinds : Nat → Int32) (v_this_table : Int32) (v_this_guard : UInt64) (v_this_bridging : Int32) (p1 : Int32) (p2 : Int32) : Option ((Nat → UInt64) × (Nat → Int32)) := (if p1 < (2 : Int32) then gD (inb ((p2 - (16 : Int32)) + (1 : Int32)) 256) (gD (inb (p2 - (16 : Int32)) 256) (dop (FP.dsub (v_this_values ((p2 - (16 : Int32)) + (1 : Int32)).toNatClampNeg) (v_this_values (p2 - (16 : Int32)).toNatClampNeg)) fun d4 => (p_X1_isTooSmall v_this_guard d4).bind fun x5 => (if x5 = 0 then (if v_this_table = 0 then dop (FP.ddiv FP.dconst1 d4) fun d11 => dop (FP.dadd FP.dconst0 d11) fun d12 => (p_X1_putIfFinite v_this_values v_this_kinds p2 d12).bind fun x13 => some (x13.1, x13.2) else dop (FP.ddiv (FP.i2d p1) d4) fun d8 => dop (FP.dadd FP.dconst0 d8) fun d9 => (p_X1_putIfFinite v_this_values v_this_kinds p2 d9).bind fun x10 => some (x10.1, x10.2)) else dop (FP.dadd FP.dconst0 FP.dconst0) fun d14 => (p_X1_putUndivided v_this_values v_this_kinds v_this_bridging p2 d14).bind fun x15 => some (x15.1, x15.2)))) else gD (inb (((p2 - (16 : Int32)) - (16 : Int32)) + (1 : Int32)) 256) (gD (inb ((p2 - (16 : Int32)) + (1 : Int32)) 256) (gD (inb (p2 - (16 : Int32)) 256) (dop (FP.dsub (v_this_values ((p2 - (16 : Int32)) + (1 : Int32)).toNatClampNeg) (v_this_values (p2 - (16 : Int32)).toNatClampNeg)) fun d19 => (p_X1_isTooSmall v_this_guard d19).bind fun x20 => (if x20 = 0 then (if v_this_table = 0 then dop (FP.ddiv FP.dconst1 d19) fun d26 => dop (FP.dadd (v_this_values (((p2 - (16 : Int32)) - (16 : Int32)) + (1 : Int32)).toNatClampNeg) d26) fun d27 => (p_X1_putIfFinite v_this_values v_this_kinds p2 d27).bind fun x28 => some (x28.1, x28.2) else dop (FP.ddiv (FP.i2d p1) d19) fun d23 => dop (FP.dadd (v_this_values (((p2 - (16 : Int32)) - (16 : Int32)) + (1 : Int32)).toNatClampNeg) d23) fun d24 => (p_X1_putIfFinite v_this_values v_this_kinds p2 d24).bind fun x25 => some (x25.1, x25.2)) else dop (FP.dadd (v_this_values (((p2 - (16 : Int32)) - (16 : Int32)) + (1 : Int32)).toNatClampNeg) FP.dconst0) fun d29 => (p_X1_putUndivided v_this_values v_this_kinds v_this_bridging p2 d29).bind fun x30 => some (x30.1, x30.2))))))
abbrev rm_X1_makeByInverse : Room := { frames := 2, cells := 0, slots := 0, locals := 48 }
set_option maxHeartbeats 4000000 in
set_option maxRecDepth 100000 in
theorem mt_X1_makeByInverse (l : Launch) (D : va_G) (k : Nat → ClassId) (a_this a_this_values a_this_kinds : Nat) (sz : Nat) (v_this_values : Nat → UInt64) (v_this_kinds : Nat → Int32) (v_this_table : Int32) (v_this_guard : UInt64) (v_this_ratio : UInt64) (v_this_bridging : Int32) (v_this_length : Int32) (v_this_guessColumn : Int32) (v_this_guessError : UInt64) (v_this_guessValue : UInt64) (p1 : Int32) (p2 : Int32) (o : (Nat → UInt64) × (Nat → Int32)) (hf : p_X1_makeByInverse v_this_values v_this_kinds v_this_table v_this_guard v_this_bridging p1 p2 = some o)  : Met l yX1_makeByInverse wsX1_makeByInverse rm_X1_makeByInverse (va_Pc [.ref a_this, .int p1, .int p2] (bW D k sz [(a_this, .inr (0, [.ref a_this_values, .ref a_this_kinds, .int v_this_table, .double v_this_guard, .double v_this_ratio, .int v_this_bridging, .int v_this_length, .int v_this_guessColumn, .double v_this_guessError, .double v_this_guessValue])), (a_this_values, .inl (k 1, 256, aD v_this_values)), (a_this_kinds, .inl (k 2, 256, aI v_this_kinds))])) (va_Qv (fun (_ : Unit) => True) (fun _ => bO D k (va_A [(a_this, .inr (0, [.ref a_this_values, .ref a_this_kinds, .int v_this_table, .double v_this_guard, .double v_this_ratio, .int v_this_bridging, .int v_this_length, .int v_this_guessColumn, .double v_this_guessError, .double v_this_guessValue])), (a_this_values, .inl (k 1, 256, aD v_this_values)), (a_this_kinds, .inl (k 2, 256, aI v_this_kinds))] sz) [(a_this, .inr (0, [.ref a_this_values, .ref a_this_kinds, .int v_this_table, .double v_this_guard, .double v_this_ratio, .int v_this_bridging, .int v_this_length, .int v_this_guessColumn, .double v_this_guessError, .double v_this_guessValue])), (a_this_values, .inl (k 1, 256, aD o.1)), (a_this_kinds, .inl (k 2, 256, aI o.2))]) (va_A [(a_this, .inr (0, [.ref a_this_values, .ref a_this_kinds, .int v_this_table, .double v_this_guard, .double v_this_ratio, .int v_this_bridging, .int v_this_length, .int v_this_guessColumn, .double v_this_guessError, .double v_this_guessValue])), (a_this_values, .inl (k 1, 256, aD v_this_values)), (a_this_kinds, .inl (k 2, 256, aI v_this_kinds))] sz)) 0 0 (va_A [(a_this, .inr (0, [.ref a_this_values, .ref a_this_kinds, .int v_this_table, .double v_this_guard, .double v_this_ratio, .int v_this_bridging, .int v_this_length, .int v_this_guessColumn, .double v_this_guessError, .double v_this_guessValue])), (a_this_values, .inl (k 1, 256, aD v_this_values)), (a_this_kinds, .inl (k 2, 256, aI v_this_kinds))] sz) := by
  unfold p_X1_makeByInverse at hf
  refine Met.ofW (cc := cX1_makeByInverse) (maxL := 10) (ret := none) (by decide) rfl ?_
  intro p e s m args below meth c s₁ B hml hv
  obtain ⟨rfl, hsz, hP, hK, hD0⟩ := hv
  have hx := B.exec
  have hb := B.bytes
  have hr := B.returns
  have hts := atoms_spec (ws := wsX1_makeByInverse) B.pre
  have hown : s.vm.findClass RX1 = some m.cls := findClass_of_methodNamed B.named
  have hlocks := B.notSynchronized
  subst hsz
  have hD := hD0.self (sz := s.heap.size)
  generalize hAe : va_A [(a_this, .inr (0, [.ref a_this_values, .ref a_this_kinds, .int v_this_table, .double v_this_guard, .double v_this_ratio, .int v_this_bridging, .int v_this_length, .int v_this_guessColumn, .double v_this_guessError, .double v_this_guessValue])), (a_this_values, .inl (k 1, 256, aD v_this_values)), (a_this_kinds, .inl (k 2, 256, aI v_this_kinds))] s.heap.size = A at hD ⊢
  have hA : ∀ q : Nat, s.heap.size ≤ q → A q := fun q h => by rw [← hAe]; exact Or.inr h
  have hS : va_S A s.heap s.heap [] := va_S.rf
  have hl := lv_entry [.ref a_this, .int p1, .int p2] (n := 10) (Nat.le_of_ble_eq_true rfl)
  rw [lg_entry_eq]
  generalize (lg_sl [.ref a_this, .int p1, .int p2] ++ List.replicate (10 - (lg_sl [.ref a_this, .int p1, .int p2]).length) Slot.unset).toArray = ls at hl ⊢
  have hl : lv_has ls 10 [(0, .ref a_this), (1, .int p1), (2, .int p2)] := hl
  obtain ⟨H, hHe⟩ : ∃ H, H = s.heap := ⟨_, rfl⟩
  have hP : va_P D vwCl [(a_this, .inr (0, [.ref a_this_values, .ref a_this_kinds, .int v_this_table, .double v_this_guard, .double v_this_ratio, .int v_this_bridging, .int v_this_length, .int v_this_guessColumn, .double v_this_guessError, .double v_this_guessValue])), (a_this_values, .inl (k 1, 256, aD v_this_values)), (a_this_kinds, .inl (k 2, 256, aI v_this_kinds))] H := by rw [hHe]; exact hP
  have hS : va_S A s.heap H [] := by rw [hHe]; exact hS
  rw [← hHe]
  obtain ⟨locs, hLe⟩ : ∃ locs : List Loc, locs = [] := ⟨_, rfl⟩
  rw [← hLe] at hS ⊢
  clear hLe
  refine lv_iload_n hx hb dX1_makeByInverse_0 rfl (lv_at hl 2 rfl) ?_
  refine lv_bipush (v := 16) hx hb dX1_makeByInverse_1 (by decide) ?_
  refine lv_isub hx hb dX1_makeByInverse_3 ?_
  refine lv_istore_n (lv' := [(3, .int (p2 - (16 : Int32))), (0, .ref a_this), (1, .int p1), (2, .int p2)]) hx hb dX1_makeByInverse_4 rfl hl (by decide) rfl (fun ls hl => ?_)
  refine lv_iload_n hx hb dX1_makeByInverse_5 rfl (lv_at hl 2 rfl) ?_
  refine lv_iconst (v := 2) hx hb dX1_makeByInverse_6 (by decide) ?_
  refine lv_icmp_lt (tgt := 24) hx hb dX1_makeByInverse_7 (by decide) (fun c1 => ?_) (fun c1 => ?_)
  · skip
    have hf := if_t c1 hf
    refine lv_dconst0 hx hb dX1_makeByInverse_24 ?_
    refine lv_dstore (lv' := [(4, .double FP.dconst0), (3, .int (p2 - (16 : Int32))), (0, .ref a_this), (1, .int p1), (2, .int p2)]) hx hb dX1_makeByInverse_25 hl (by decide) rfl (fun ls hl => ?_)
    refine lv_aload_n hx hb dX1_makeByInverse_27 rfl (lv_at hl 2 rfl) ?_
    refine va_get (D := D) (ci := 0) (v := .ref a_this_values) (C := RX1) (T := TX1) (N := 10) hx hb hts hinX1_X1_makeByInverse hown hK hP 0 rfl rfl 0 (by decide) (hts (.fieldLink RX1 9 "LimitTables$Grid" "values" "[D") (by decide +kernel)) (fun _ h9 => h9) rfl dX1_makeByInverse_28 ?_
    refine lv_iload_n hx hb dX1_makeByInverse_31 rfl (lv_at hl 1 rfl) ?_
    refine lv_iconst (v := 1) hx hb dX1_makeByInverse_32 (by decide) ?_
    refine lv_iadd hx hb dX1_makeByInverse_33 ?_
    obtain ⟨g2, hf⟩ := gD_h hf
    refine va_dald hx hb hK hP 1 1 rfl rfl (inb_in g2) dX1_makeByInverse_34 ?_
    refine lv_aload_n hx hb dX1_makeByInverse_35 rfl (lv_at hl 2 rfl) ?_
    refine va_get (D := D) (ci := 0) (v := .ref a_this_values) (C := RX1) (T := TX1) (N := 10) hx hb hts hinX1_X1_makeByInverse hown hK hP 0 rfl rfl 0 (by decide) (hts (.fieldLink RX1 9 "LimitTables$Grid" "values" "[D") (by decide +kernel)) (fun _ h9 => h9) rfl dX1_makeByInverse_36 ?_
    refine lv_iload_n hx hb dX1_makeByInverse_39 rfl (lv_at hl 1 rfl) ?_
    obtain ⟨g3, hf⟩ := gD_h hf
    refine va_dald hx hb hK hP 1 1 rfl rfl (inb_in g3) dX1_makeByInverse_40 ?_
    refine lv_dsub hx hb dX1_makeByInverse_41 (dop_h hf) ?_
    refine lv_topd (fun d4 ed4 => ?_)
    have hf := dop_at ed4 hf
    refine lv_dstore (lv' := [(6, .double d4), (4, .double FP.dconst0), (3, .int (p2 - (16 : Int32))), (0, .ref a_this), (1, .int p1), (2, .int p2)]) hx hb dX1_makeByInverse_42 hl (by decide) rfl (fun ls hl => ?_)
    refine lv_aload_n hx hb dX1_makeByInverse_44 rfl (lv_at hl 3 rfl) ?_
    refine lv_dload hx hb dX1_makeByInverse_45 (lv_at hl 0 rfl) ?_
    obtain ⟨x5, hx5, hf⟩ := bind_s hf
    refine cc_i (r := x5) (wc := [(a_this, .inr (0, [.ref a_this_values, .ref a_this_kinds, .int v_this_table, .double v_this_guard, .double v_this_ratio, .int v_this_bridging, .int v_this_length, .int v_this_guessColumn, .double v_this_guessError, .double v_this_guessValue]))]) (wr := [(a_this_values, .inl (k 1, 256, aD v_this_values)), (a_this_kinds, .inl (k 2, 256, aI v_this_kinds))]) (w1 := [(a_this, .inr (0, [.ref a_this_values, .ref a_this_kinds, .int v_this_table, .double v_this_guard, .double v_this_ratio, .int v_this_bridging, .int v_this_length, .int v_this_guessColumn, .double v_this_guessError, .double v_this_guessValue]))]) (va_runV (As := [.double d4]) (rest := []) ⟨hx, hb, hml, hown, hts⟩ (mt_X1_isTooSmall l D k a_this a_this_values a_this_kinds _ v_this_table v_this_guard v_this_ratio v_this_bridging v_this_length v_this_guessColumn v_this_guessError v_this_guessValue d4 x5 hx5) (cwV 1 hts gX1_makeByInverse_X1_isTooSmall rfl rfl rfl (by decide +kernel) ⟨(Nat.le_of_ble_eq_true rfl), (Nat.le_of_ble_eq_true rfl)⟩) (cc_pv (wc := [(a_this, .inr (0, [.ref a_this_values, .ref a_this_kinds, .int v_this_table, .double v_this_guard, .double v_this_ratio, .int v_this_bridging, .int v_this_length, .int v_this_guessColumn, .double v_this_guessError, .double v_this_guessValue]))]) hK hP hD [0] (by decide) rfl rfl 0 0 rfl rfl rfl) rfl rfl hl.1 rfl (lv_room (Nat.le_of_ble_eq_true rfl)) dX1_makeByInverse_47 ⟨Nat.zero_le _, Nat.zero_le _⟩) hP hD hS hA [0] [1, 2] rfl rfl (by decide) (by decide) (fun H locs hP hD hS => ?_)
    have hP : va_P D vwCl [(a_this_values, .inl (k 1, 256, aD v_this_values)), (a_this_kinds, .inl (k 2, 256, aI v_this_kinds)), (a_this, .inr (0, [.ref a_this_values, .ref a_this_kinds, .int v_this_table, .double v_this_guard, .double v_this_ratio, .int v_this_bridging, .int v_this_length, .int v_this_guessColumn, .double v_this_guessError, .double v_this_guessValue]))] H := hP
    have hD : va_D A [(a_this_values, .inl (k 1, 256, aD v_this_values)), (a_this_kinds, .inl (k 2, 256, aI v_this_kinds)), (a_this, .inr (0, [.ref a_this_values, .ref a_this_kinds, .int v_this_table, .double v_this_guard, .double v_this_ratio, .int v_this_bridging, .int v_this_length, .int v_this_guessColumn, .double v_this_guessError, .double v_this_guessValue]))] := hD
    refine lv_if_eq (tgt := 63) hx hb dX1_makeByInverse_50 (by decide) (fun c6 => ?_) (fun c6 => ?_)
    · skip
      have hf := if_t c6 hf
      refine lv_aload_n hx hb dX1_makeByInverse_63 rfl (lv_at hl 3 rfl) ?_
      refine va_get (D := D) (ci := 0) (v := .int v_this_table) (C := RX1) (T := TX1) (N := 10) hx hb hts hinX1_X1_makeByInverse hown hK hP 2 rfl rfl 2 (by decide) (hts (.fieldLink RX1 19 "LimitTables$Grid" "table" "I") (by decide +kernel)) (fun _ h9 => h9) rfl dX1_makeByInverse_64 ?_
      refine lv_if_ne (tgt := 74) hx hb dX1_makeByInverse_67 (by decide) (fun c7 => ?_) (fun c7 => ?_)
      · skip
        have hf := if_f c7 hf
        refine lv_iload_n hx hb dX1_makeByInverse_74 rfl (lv_at hl 4 rfl) ?_
        refine lv_i2d hx hb dX1_makeByInverse_75 ?_
        refine lv_dstore (lv' := [(8, .double (FP.i2d p1)), (6, .double d4), (4, .double FP.dconst0), (3, .int (p2 - (16 : Int32))), (0, .ref a_this), (1, .int p1), (2, .int p2)]) hx hb dX1_makeByInverse_76 hl (by decide) rfl (fun ls hl => ?_)
        refine lv_aload_n hx hb dX1_makeByInverse_78 rfl (lv_at hl 4 rfl) ?_
        refine lv_iload_n hx hb dX1_makeByInverse_79 rfl (lv_at hl 6 rfl) ?_
        refine lv_dload hx hb dX1_makeByInverse_80 (lv_at hl 2 rfl) ?_
        refine lv_dload hx hb dX1_makeByInverse_82 (lv_at hl 0 rfl) ?_
        refine lv_dload hx hb dX1_makeByInverse_84 (lv_at hl 1 rfl) ?_
        refine lv_ddiv hx hb dX1_makeByInverse_86 (dop_h hf) ?_
        refine lv_topd (fun d8 ed8 => ?_)
        have hf := dop_at ed8 hf
        refine lv_dadd hx hb dX1_makeByInverse_87 (dop_h hf) ?_
        refine lv_topd (fun d9 ed9 => ?_)
        have hf := dop_at ed9 hf
        obtain ⟨x10, hx10, hf⟩ := bind_s hf
        refine cc_v (wc := [(a_this, .inr (0, [.ref a_this_values, .ref a_this_kinds, .int v_this_table, .double v_this_guard, .double v_this_ratio, .int v_this_bridging, .int v_this_length, .int v_this_guessColumn, .double v_this_guessError, .double v_this_guessValue])), (a_this_values, .inl (k 1, 256, aD v_this_values)), (a_this_kinds, .inl (k 2, 256, aI v_this_kinds))]) (wr := []) (w1 := [(a_this, .inr (0, [.ref a_this_values, .ref a_this_kinds, .int v_this_table, .double v_this_guard, .double v_this_ratio, .int v_this_bridging, .int v_this_length, .int v_this_guessColumn, .double v_this_guessError, .double v_this_guessValue])), (a_this_values, .inl (k 1, 256, aD x10.1)), (a_this_kinds, .inl (k 2, 256, aI x10.2))]) (va_runV (As := [.int p2, .double d9]) (rest := []) ⟨hx, hb, hml, hown, hts⟩ (mt_X1_putIfFinite l D k a_this a_this_values a_this_kinds _ v_this_values v_this_kinds v_this_table v_this_guard v_this_ratio v_this_bridging v_this_length v_this_guessColumn v_this_guessError v_this_guessValue p2 d9 x10 hx10) (cwV 2 hts gX1_makeByInverse_X1_putIfFinite rfl rfl rfl (by decide +kernel) ⟨(Nat.le_of_ble_eq_true rfl), (Nat.le_of_ble_eq_true rfl)⟩) (cc_pv (wc := [(a_this, .inr (0, [.ref a_this_values, .ref a_this_kinds, .int v_this_table, .double v_this_guard, .double v_this_ratio, .int v_this_bridging, .int v_this_length, .int v_this_guessColumn, .double v_this_guessError, .double v_this_guessValue])), (a_this_values, .inl (k 1, 256, aD v_this_values)), (a_this_kinds, .inl (k 2, 256, aI v_this_kinds))]) hK hP hD [2, 0, 1] (by decide) rfl rfl 0 2 rfl rfl rfl) rfl rfl hl.1 rfl (lv_room (Nat.le_of_ble_eq_true rfl)) dX1_makeByInverse_88 ⟨Nat.zero_le _, Nat.zero_le _⟩) hP hD hS hA [2, 0, 1] [] rfl rfl (by decide) (by decide) (fun H locs hP hD hS => ?_)
        have hP : va_P D vwCl [(a_this, .inr (0, [.ref a_this_values, .ref a_this_kinds, .int v_this_table, .double v_this_guard, .double v_this_ratio, .int v_this_bridging, .int v_this_length, .int v_this_guessColumn, .double v_this_guessError, .double v_this_guessValue])), (a_this_values, .inl (k 1, 256, aD x10.1)), (a_this_kinds, .inl (k 2, 256, aI x10.2))] H := hP
        have hD : va_D A [(a_this, .inr (0, [.ref a_this_values, .ref a_this_kinds, .int v_this_table, .double v_this_guard, .double v_this_ratio, .int v_this_bridging, .int v_this_length, .int v_this_guessColumn, .double v_this_guessError, .double v_this_guessValue])), (a_this_values, .inl (k 1, 256, aD x10.1)), (a_this_kinds, .inl (k 2, 256, aI x10.2))] := hD
        have ho := Option.some.inj hf
        subst ho
        exact W.vret hx hb hr (fun t ht hW => ⟨⟨(), rfl, trivial, by rw [ht]; exact hP.sub (ws' := [(a_this, .inr (0, [.ref a_this_values, .ref a_this_kinds, .int v_this_table, .double v_this_guard, .double v_this_ratio, .int v_this_bridging, .int v_this_length, .int v_this_guessColumn, .double v_this_guessError, .double v_this_guessValue])), (a_this_values, .inl (k 1, 256, aD x10.1)), (a_this_kinds, .inl (k 2, 256, aI x10.2))]) [0, 1, 2] rfl, va_K.moved hW.alike hK, hD.sub (ws' := [(a_this, .inr (0, [.ref a_this_values, .ref a_this_kinds, .int v_this_table, .double v_this_guard, .double v_this_ratio, .int v_this_bridging, .int v_this_length, .int v_this_guessColumn, .double v_this_guessError, .double v_this_guessValue])), (a_this_values, .inl (k 1, 256, aD x10.1)), (a_this_kinds, .inl (k 2, 256, aI x10.2))]) [0, 1, 2] (by decide) rfl⟩, hS.F ht⟩) hS.2.2 dX1_makeByInverse_91
      · skip
        have hf := if_t c7 hf
        refine lv_dconst1 hx hb dX1_makeByInverse_70 ?_
        refine lv_goto (tgt := 76) hx hb dX1_makeByInverse_71 (by decide) ?_
        refine lv_dstore (lv' := [(8, .double FP.dconst1), (6, .double d4), (4, .double FP.dconst0), (3, .int (p2 - (16 : Int32))), (0, .ref a_this), (1, .int p1), (2, .int p2)]) hx hb dX1_makeByInverse_76 hl (by decide) rfl (fun ls hl => ?_)
        refine lv_aload_n hx hb dX1_makeByInverse_78 rfl (lv_at hl 4 rfl) ?_
        refine lv_iload_n hx hb dX1_makeByInverse_79 rfl (lv_at hl 6 rfl) ?_
        refine lv_dload hx hb dX1_makeByInverse_80 (lv_at hl 2 rfl) ?_
        refine lv_dload hx hb dX1_makeByInverse_82 (lv_at hl 0 rfl) ?_
        refine lv_dload hx hb dX1_makeByInverse_84 (lv_at hl 1 rfl) ?_
        refine lv_ddiv hx hb dX1_makeByInverse_86 (dop_h hf) ?_
        refine lv_topd (fun d11 ed11 => ?_)
        have hf := dop_at ed11 hf
        refine lv_dadd hx hb dX1_makeByInverse_87 (dop_h hf) ?_
        refine lv_topd (fun d12 ed12 => ?_)
        have hf := dop_at ed12 hf
        obtain ⟨x13, hx13, hf⟩ := bind_s hf
        refine cc_v (wc := [(a_this, .inr (0, [.ref a_this_values, .ref a_this_kinds, .int v_this_table, .double v_this_guard, .double v_this_ratio, .int v_this_bridging, .int v_this_length, .int v_this_guessColumn, .double v_this_guessError, .double v_this_guessValue])), (a_this_values, .inl (k 1, 256, aD v_this_values)), (a_this_kinds, .inl (k 2, 256, aI v_this_kinds))]) (wr := []) (w1 := [(a_this, .inr (0, [.ref a_this_values, .ref a_this_kinds, .int v_this_table, .double v_this_guard, .double v_this_ratio, .int v_this_bridging, .int v_this_length, .int v_this_guessColumn, .double v_this_guessError, .double v_this_guessValue])), (a_this_values, .inl (k 1, 256, aD x13.1)), (a_this_kinds, .inl (k 2, 256, aI x13.2))]) (va_runV (As := [.int p2, .double d12]) (rest := []) ⟨hx, hb, hml, hown, hts⟩ (mt_X1_putIfFinite l D k a_this a_this_values a_this_kinds _ v_this_values v_this_kinds v_this_table v_this_guard v_this_ratio v_this_bridging v_this_length v_this_guessColumn v_this_guessError v_this_guessValue p2 d12 x13 hx13) (cwV 2 hts gX1_makeByInverse_X1_putIfFinite rfl rfl rfl (by decide +kernel) ⟨(Nat.le_of_ble_eq_true rfl), (Nat.le_of_ble_eq_true rfl)⟩) (cc_pv (wc := [(a_this, .inr (0, [.ref a_this_values, .ref a_this_kinds, .int v_this_table, .double v_this_guard, .double v_this_ratio, .int v_this_bridging, .int v_this_length, .int v_this_guessColumn, .double v_this_guessError, .double v_this_guessValue])), (a_this_values, .inl (k 1, 256, aD v_this_values)), (a_this_kinds, .inl (k 2, 256, aI v_this_kinds))]) hK hP hD [2, 0, 1] (by decide) rfl rfl 0 2 rfl rfl rfl) rfl rfl hl.1 rfl (lv_room (Nat.le_of_ble_eq_true rfl)) dX1_makeByInverse_88 ⟨Nat.zero_le _, Nat.zero_le _⟩) hP hD hS hA [2, 0, 1] [] rfl rfl (by decide) (by decide) (fun H locs hP hD hS => ?_)
        have hP : va_P D vwCl [(a_this, .inr (0, [.ref a_this_values, .ref a_this_kinds, .int v_this_table, .double v_this_guard, .double v_this_ratio, .int v_this_bridging, .int v_this_length, .int v_this_guessColumn, .double v_this_guessError, .double v_this_guessValue])), (a_this_values, .inl (k 1, 256, aD x13.1)), (a_this_kinds, .inl (k 2, 256, aI x13.2))] H := hP
        have hD : va_D A [(a_this, .inr (0, [.ref a_this_values, .ref a_this_kinds, .int v_this_table, .double v_this_guard, .double v_this_ratio, .int v_this_bridging, .int v_this_length, .int v_this_guessColumn, .double v_this_guessError, .double v_this_guessValue])), (a_this_values, .inl (k 1, 256, aD x13.1)), (a_this_kinds, .inl (k 2, 256, aI x13.2))] := hD
        have ho := Option.some.inj hf
        subst ho
        exact W.vret hx hb hr (fun t ht hW => ⟨⟨(), rfl, trivial, by rw [ht]; exact hP.sub (ws' := [(a_this, .inr (0, [.ref a_this_values, .ref a_this_kinds, .int v_this_table, .double v_this_guard, .double v_this_ratio, .int v_this_bridging, .int v_this_length, .int v_this_guessColumn, .double v_this_guessError, .double v_this_guessValue])), (a_this_values, .inl (k 1, 256, aD x13.1)), (a_this_kinds, .inl (k 2, 256, aI x13.2))]) [0, 1, 2] rfl, va_K.moved hW.alike hK, hD.sub (ws' := [(a_this, .inr (0, [.ref a_this_values, .ref a_this_kinds, .int v_this_table, .double v_this_guard, .double v_this_ratio, .int v_this_bridging, .int v_this_length, .int v_this_guessColumn, .double v_this_guessError, .double v_this_guessValue])), (a_this_values, .inl (k 1, 256, aD x13.1)), (a_this_kinds, .inl (k 2, 256, aI x13.2))]) [0, 1, 2] (by decide) rfl⟩, hS.F ht⟩) hS.2.2 dX1_makeByInverse_91
    · skip
      have hf := if_f c6 hf
      refine lv_aload_n hx hb dX1_makeByInverse_53 rfl (lv_at hl 3 rfl) ?_
      refine lv_iload_n hx hb dX1_makeByInverse_54 rfl (lv_at hl 5 rfl) ?_
      refine lv_dload hx hb dX1_makeByInverse_55 (lv_at hl 1 rfl) ?_
      refine lv_dconst0 hx hb dX1_makeByInverse_57 ?_
      refine lv_dadd hx hb dX1_makeByInverse_58 (dop_h hf) ?_
      refine lv_topd (fun d14 ed14 => ?_)
      have hf := dop_at ed14 hf
      obtain ⟨x15, hx15, hf⟩ := bind_s hf
      refine cc_v (wc := [(a_this, .inr (0, [.ref a_this_values, .ref a_this_kinds, .int v_this_table, .double v_this_guard, .double v_this_ratio, .int v_this_bridging, .int v_this_length, .int v_this_guessColumn, .double v_this_guessError, .double v_this_guessValue])), (a_this_values, .inl (k 1, 256, aD v_this_values)), (a_this_kinds, .inl (k 2, 256, aI v_this_kinds))]) (wr := []) (w1 := [(a_this, .inr (0, [.ref a_this_values, .ref a_this_kinds, .int v_this_table, .double v_this_guard, .double v_this_ratio, .int v_this_bridging, .int v_this_length, .int v_this_guessColumn, .double v_this_guessError, .double v_this_guessValue])), (a_this_values, .inl (k 1, 256, aD x15.1)), (a_this_kinds, .inl (k 2, 256, aI x15.2))]) (va_runV (As := [.int p2, .double d14]) (rest := []) ⟨hx, hb, hml, hown, hts⟩ (mt_X1_putUndivided l D k a_this a_this_values a_this_kinds _ v_this_values v_this_kinds v_this_table v_this_guard v_this_ratio v_this_bridging v_this_length v_this_guessColumn v_this_guessError v_this_guessValue p2 d14 x15 hx15) (cwV 2 hts gX1_makeByInverse_X1_putUndivided rfl rfl rfl (by decide +kernel) ⟨(Nat.le_of_ble_eq_true rfl), (Nat.le_of_ble_eq_true rfl)⟩) (cc_pv (wc := [(a_this, .inr (0, [.ref a_this_values, .ref a_this_kinds, .int v_this_table, .double v_this_guard, .double v_this_ratio, .int v_this_bridging, .int v_this_length, .int v_this_guessColumn, .double v_this_guessError, .double v_this_guessValue])), (a_this_values, .inl (k 1, 256, aD v_this_values)), (a_this_kinds, .inl (k 2, 256, aI v_this_kinds))]) hK hP hD [2, 0, 1] (by decide) rfl rfl 0 2 rfl rfl rfl) rfl rfl hl.1 rfl (lv_room (Nat.le_of_ble_eq_true rfl)) dX1_makeByInverse_59 ⟨Nat.zero_le _, Nat.zero_le _⟩) hP hD hS hA [2, 0, 1] [] rfl rfl (by decide) (by decide) (fun H locs hP hD hS => ?_)
      have hP : va_P D vwCl [(a_this, .inr (0, [.ref a_this_values, .ref a_this_kinds, .int v_this_table, .double v_this_guard, .double v_this_ratio, .int v_this_bridging, .int v_this_length, .int v_this_guessColumn, .double v_this_guessError, .double v_this_guessValue])), (a_this_values, .inl (k 1, 256, aD x15.1)), (a_this_kinds, .inl (k 2, 256, aI x15.2))] H := hP
      have hD : va_D A [(a_this, .inr (0, [.ref a_this_values, .ref a_this_kinds, .int v_this_table, .double v_this_guard, .double v_this_ratio, .int v_this_bridging, .int v_this_length, .int v_this_guessColumn, .double v_this_guessError, .double v_this_guessValue])), (a_this_values, .inl (k 1, 256, aD x15.1)), (a_this_kinds, .inl (k 2, 256, aI x15.2))] := hD
      have ho := Option.some.inj hf
      subst ho
      exact W.vret hx hb hr (fun t ht hW => ⟨⟨(), rfl, trivial, by rw [ht]; exact hP.sub (ws' := [(a_this, .inr (0, [.ref a_this_values, .ref a_this_kinds, .int v_this_table, .double v_this_guard, .double v_this_ratio, .int v_this_bridging, .int v_this_length, .int v_this_guessColumn, .double v_this_guessError, .double v_this_guessValue])), (a_this_values, .inl (k 1, 256, aD x15.1)), (a_this_kinds, .inl (k 2, 256, aI x15.2))]) [0, 1, 2] rfl, va_K.moved hW.alike hK, hD.sub (ws' := [(a_this, .inr (0, [.ref a_this_values, .ref a_this_kinds, .int v_this_table, .double v_this_guard, .double v_this_ratio, .int v_this_bridging, .int v_this_length, .int v_this_guessColumn, .double v_this_guessError, .double v_this_guessValue])), (a_this_values, .inl (k 1, 256, aD x15.1)), (a_this_kinds, .inl (k 2, 256, aI x15.2))]) [0, 1, 2] (by decide) rfl⟩, hS.F ht⟩) hS.2.2 dX1_makeByInverse_62
  · skip
    have hf := if_f c1 hf
    refine lv_aload_n hx hb dX1_makeByInverse_10 rfl (lv_at hl 1 rfl) ?_
    refine va_get (D := D) (ci := 0) (v := .ref a_this_values) (C := RX1) (T := TX1) (N := 10) hx hb hts hinX1_X1_makeByInverse hown hK hP 0 rfl rfl 0 (by decide) (hts (.fieldLink RX1 9 "LimitTables$Grid" "values" "[D") (by decide +kernel)) (fun _ h9 => h9) rfl dX1_makeByInverse_11 ?_
    refine lv_iload_n hx hb dX1_makeByInverse_14 rfl (lv_at hl 0 rfl) ?_
    refine lv_bipush (v := 16) hx hb dX1_makeByInverse_15 (by decide) ?_
    refine lv_isub hx hb dX1_makeByInverse_17 ?_
    refine lv_iconst (v := 1) hx hb dX1_makeByInverse_18 (by decide) ?_
    refine lv_iadd hx hb dX1_makeByInverse_19 ?_
    obtain ⟨g16, hf⟩ := gD_h hf
    refine va_dald hx hb hK hP 1 1 rfl rfl (inb_in g16) dX1_makeByInverse_20 ?_
    refine lv_goto (tgt := 25) hx hb dX1_makeByInverse_21 (by decide) ?_
    refine lv_dstore (lv' := [(4, .double (v_this_values (((p2 - (16 : Int32)) - (16 : Int32)) + (1 : Int32)).toNatClampNeg)), (3, .int (p2 - (16 : Int32))), (0, .ref a_this), (1, .int p1), (2, .int p2)]) hx hb dX1_makeByInverse_25 hl (by decide) rfl (fun ls hl => ?_)
    refine lv_aload_n hx hb dX1_makeByInverse_27 rfl (lv_at hl 2 rfl) ?_
    refine va_get (D := D) (ci := 0) (v := .ref a_this_values) (C := RX1) (T := TX1) (N := 10) hx hb hts hinX1_X1_makeByInverse hown hK hP 0 rfl rfl 0 (by decide) (hts (.fieldLink RX1 9 "LimitTables$Grid" "values" "[D") (by decide +kernel)) (fun _ h9 => h9) rfl dX1_makeByInverse_28 ?_
    refine lv_iload_n hx hb dX1_makeByInverse_31 rfl (lv_at hl 1 rfl) ?_
    refine lv_iconst (v := 1) hx hb dX1_makeByInverse_32 (by decide) ?_
    refine lv_iadd hx hb dX1_makeByInverse_33 ?_
    obtain ⟨g17, hf⟩ := gD_h hf
    refine va_dald hx hb hK hP 1 1 rfl rfl (inb_in g17) dX1_makeByInverse_34 ?_
    refine lv_aload_n hx hb dX1_makeByInverse_35 rfl (lv_at hl 2 rfl) ?_
    refine va_get (D := D) (ci := 0) (v := .ref a_this_values) (C := RX1) (T := TX1) (N := 10) hx hb hts hinX1_X1_makeByInverse hown hK hP 0 rfl rfl 0 (by decide) (hts (.fieldLink RX1 9 "LimitTables$Grid" "values" "[D") (by decide +kernel)) (fun _ h9 => h9) rfl dX1_makeByInverse_36 ?_
    refine lv_iload_n hx hb dX1_makeByInverse_39 rfl (lv_at hl 1 rfl) ?_
    obtain ⟨g18, hf⟩ := gD_h hf
    refine va_dald hx hb hK hP 1 1 rfl rfl (inb_in g18) dX1_makeByInverse_40 ?_
    refine lv_dsub hx hb dX1_makeByInverse_41 (dop_h hf) ?_
    refine lv_topd (fun d19 ed19 => ?_)
    have hf := dop_at ed19 hf
    refine lv_dstore (lv' := [(6, .double d19), (4, .double (v_this_values (((p2 - (16 : Int32)) - (16 : Int32)) + (1 : Int32)).toNatClampNeg)), (3, .int (p2 - (16 : Int32))), (0, .ref a_this), (1, .int p1), (2, .int p2)]) hx hb dX1_makeByInverse_42 hl (by decide) rfl (fun ls hl => ?_)
    refine lv_aload_n hx hb dX1_makeByInverse_44 rfl (lv_at hl 3 rfl) ?_
    refine lv_dload hx hb dX1_makeByInverse_45 (lv_at hl 0 rfl) ?_
    obtain ⟨x20, hx20, hf⟩ := bind_s hf
    refine cc_i (r := x20) (wc := [(a_this, .inr (0, [.ref a_this_values, .ref a_this_kinds, .int v_this_table, .double v_this_guard, .double v_this_ratio, .int v_this_bridging, .int v_this_length, .int v_this_guessColumn, .double v_this_guessError, .double v_this_guessValue]))]) (wr := [(a_this_values, .inl (k 1, 256, aD v_this_values)), (a_this_kinds, .inl (k 2, 256, aI v_this_kinds))]) (w1 := [(a_this, .inr (0, [.ref a_this_values, .ref a_this_kinds, .int v_this_table, .double v_this_guard, .double v_this_ratio, .int v_this_bridging, .int v_this_length, .int v_this_guessColumn, .double v_this_guessError, .double v_this_guessValue]))]) (va_runV (As := [.double d19]) (rest := []) ⟨hx, hb, hml, hown, hts⟩ (mt_X1_isTooSmall l D k a_this a_this_values a_this_kinds _ v_this_table v_this_guard v_this_ratio v_this_bridging v_this_length v_this_guessColumn v_this_guessError v_this_guessValue d19 x20 hx20) (cwV 1 hts gX1_makeByInverse_X1_isTooSmall rfl rfl rfl (by decide +kernel) ⟨(Nat.le_of_ble_eq_true rfl), (Nat.le_of_ble_eq_true rfl)⟩) (cc_pv (wc := [(a_this, .inr (0, [.ref a_this_values, .ref a_this_kinds, .int v_this_table, .double v_this_guard, .double v_this_ratio, .int v_this_bridging, .int v_this_length, .int v_this_guessColumn, .double v_this_guessError, .double v_this_guessValue]))]) hK hP hD [0] (by decide) rfl rfl 0 0 rfl rfl rfl) rfl rfl hl.1 rfl (lv_room (Nat.le_of_ble_eq_true rfl)) dX1_makeByInverse_47 ⟨Nat.zero_le _, Nat.zero_le _⟩) hP hD hS hA [0] [1, 2] rfl rfl (by decide) (by decide) (fun H locs hP hD hS => ?_)
    have hP : va_P D vwCl [(a_this_values, .inl (k 1, 256, aD v_this_values)), (a_this_kinds, .inl (k 2, 256, aI v_this_kinds)), (a_this, .inr (0, [.ref a_this_values, .ref a_this_kinds, .int v_this_table, .double v_this_guard, .double v_this_ratio, .int v_this_bridging, .int v_this_length, .int v_this_guessColumn, .double v_this_guessError, .double v_this_guessValue]))] H := hP
    have hD : va_D A [(a_this_values, .inl (k 1, 256, aD v_this_values)), (a_this_kinds, .inl (k 2, 256, aI v_this_kinds)), (a_this, .inr (0, [.ref a_this_values, .ref a_this_kinds, .int v_this_table, .double v_this_guard, .double v_this_ratio, .int v_this_bridging, .int v_this_length, .int v_this_guessColumn, .double v_this_guessError, .double v_this_guessValue]))] := hD
    refine lv_if_eq (tgt := 63) hx hb dX1_makeByInverse_50 (by decide) (fun c21 => ?_) (fun c21 => ?_)
    · skip
      have hf := if_t c21 hf
      refine lv_aload_n hx hb dX1_makeByInverse_63 rfl (lv_at hl 3 rfl) ?_
      refine va_get (D := D) (ci := 0) (v := .int v_this_table) (C := RX1) (T := TX1) (N := 10) hx hb hts hinX1_X1_makeByInverse hown hK hP 2 rfl rfl 2 (by decide) (hts (.fieldLink RX1 19 "LimitTables$Grid" "table" "I") (by decide +kernel)) (fun _ h9 => h9) rfl dX1_makeByInverse_64 ?_
      refine lv_if_ne (tgt := 74) hx hb dX1_makeByInverse_67 (by decide) (fun c22 => ?_) (fun c22 => ?_)
      · skip
        have hf := if_f c22 hf
        refine lv_iload_n hx hb dX1_makeByInverse_74 rfl (lv_at hl 4 rfl) ?_
        refine lv_i2d hx hb dX1_makeByInverse_75 ?_
        refine lv_dstore (lv' := [(8, .double (FP.i2d p1)), (6, .double d19), (4, .double (v_this_values (((p2 - (16 : Int32)) - (16 : Int32)) + (1 : Int32)).toNatClampNeg)), (3, .int (p2 - (16 : Int32))), (0, .ref a_this), (1, .int p1), (2, .int p2)]) hx hb dX1_makeByInverse_76 hl (by decide) rfl (fun ls hl => ?_)
        refine lv_aload_n hx hb dX1_makeByInverse_78 rfl (lv_at hl 4 rfl) ?_
        refine lv_iload_n hx hb dX1_makeByInverse_79 rfl (lv_at hl 6 rfl) ?_
        refine lv_dload hx hb dX1_makeByInverse_80 (lv_at hl 2 rfl) ?_
        refine lv_dload hx hb dX1_makeByInverse_82 (lv_at hl 0 rfl) ?_
        refine lv_dload hx hb dX1_makeByInverse_84 (lv_at hl 1 rfl) ?_
        refine lv_ddiv hx hb dX1_makeByInverse_86 (dop_h hf) ?_
        refine lv_topd (fun d23 ed23 => ?_)
        have hf := dop_at ed23 hf
        refine lv_dadd hx hb dX1_makeByInverse_87 (dop_h hf) ?_
        refine lv_topd (fun d24 ed24 => ?_)
        have hf := dop_at ed24 hf
        obtain ⟨x25, hx25, hf⟩ := bind_s hf
        refine cc_v (wc := [(a_this, .inr (0, [.ref a_this_values, .ref a_this_kinds, .int v_this_table, .double v_this_guard, .double v_this_ratio, .int v_this_bridging, .int v_this_length, .int v_this_guessColumn, .double v_this_guessError, .double v_this_guessValue])), (a_this_values, .inl (k 1, 256, aD v_this_values)), (a_this_kinds, .inl (k 2, 256, aI v_this_kinds))]) (wr := []) (w1 := [(a_this, .inr (0, [.ref a_this_values, .ref a_this_kinds, .int v_this_table, .double v_this_guard, .double v_this_ratio, .int v_this_bridging, .int v_this_length, .int v_this_guessColumn, .double v_this_guessError, .double v_this_guessValue])), (a_this_values, .inl (k 1, 256, aD x25.1)), (a_this_kinds, .inl (k 2, 256, aI x25.2))]) (va_runV (As := [.int p2, .double d24]) (rest := []) ⟨hx, hb, hml, hown, hts⟩ (mt_X1_putIfFinite l D k a_this a_this_values a_this_kinds _ v_this_values v_this_kinds v_this_table v_this_guard v_this_ratio v_this_bridging v_this_length v_this_guessColumn v_this_guessError v_this_guessValue p2 d24 x25 hx25) (cwV 2 hts gX1_makeByInverse_X1_putIfFinite rfl rfl rfl (by decide +kernel) ⟨(Nat.le_of_ble_eq_true rfl), (Nat.le_of_ble_eq_true rfl)⟩) (cc_pv (wc := [(a_this, .inr (0, [.ref a_this_values, .ref a_this_kinds, .int v_this_table, .double v_this_guard, .double v_this_ratio, .int v_this_bridging, .int v_this_length, .int v_this_guessColumn, .double v_this_guessError, .double v_this_guessValue])), (a_this_values, .inl (k 1, 256, aD v_this_values)), (a_this_kinds, .inl (k 2, 256, aI v_this_kinds))]) hK hP hD [2, 0, 1] (by decide) rfl rfl 0 2 rfl rfl rfl) rfl rfl hl.1 rfl (lv_room (Nat.le_of_ble_eq_true rfl)) dX1_makeByInverse_88 ⟨Nat.zero_le _, Nat.zero_le _⟩) hP hD hS hA [2, 0, 1] [] rfl rfl (by decide) (by decide) (fun H locs hP hD hS => ?_)
        have hP : va_P D vwCl [(a_this, .inr (0, [.ref a_this_values, .ref a_this_kinds, .int v_this_table, .double v_this_guard, .double v_this_ratio, .int v_this_bridging, .int v_this_length, .int v_this_guessColumn, .double v_this_guessError, .double v_this_guessValue])), (a_this_values, .inl (k 1, 256, aD x25.1)), (a_this_kinds, .inl (k 2, 256, aI x25.2))] H := hP
        have hD : va_D A [(a_this, .inr (0, [.ref a_this_values, .ref a_this_kinds, .int v_this_table, .double v_this_guard, .double v_this_ratio, .int v_this_bridging, .int v_this_length, .int v_this_guessColumn, .double v_this_guessError, .double v_this_guessValue])), (a_this_values, .inl (k 1, 256, aD x25.1)), (a_this_kinds, .inl (k 2, 256, aI x25.2))] := hD
        have ho := Option.some.inj hf
        subst ho
        exact W.vret hx hb hr (fun t ht hW => ⟨⟨(), rfl, trivial, by rw [ht]; exact hP.sub (ws' := [(a_this, .inr (0, [.ref a_this_values, .ref a_this_kinds, .int v_this_table, .double v_this_guard, .double v_this_ratio, .int v_this_bridging, .int v_this_length, .int v_this_guessColumn, .double v_this_guessError, .double v_this_guessValue])), (a_this_values, .inl (k 1, 256, aD x25.1)), (a_this_kinds, .inl (k 2, 256, aI x25.2))]) [0, 1, 2] rfl, va_K.moved hW.alike hK, hD.sub (ws' := [(a_this, .inr (0, [.ref a_this_values, .ref a_this_kinds, .int v_this_table, .double v_this_guard, .double v_this_ratio, .int v_this_bridging, .int v_this_length, .int v_this_guessColumn, .double v_this_guessError, .double v_this_guessValue])), (a_this_values, .inl (k 1, 256, aD x25.1)), (a_this_kinds, .inl (k 2, 256, aI x25.2))]) [0, 1, 2] (by decide) rfl⟩, hS.F ht⟩) hS.2.2 dX1_makeByInverse_91
      · skip
        have hf := if_t c22 hf
        refine lv_dconst1 hx hb dX1_makeByInverse_70 ?_
        refine lv_goto (tgt := 76) hx hb dX1_makeByInverse_71 (by decide) ?_
        refine lv_dstore (lv' := [(8, .double FP.dconst1), (6, .double d19), (4, .double (v_this_values (((p2 - (16 : Int32)) - (16 : Int32)) + (1 : Int32)).toNatClampNeg)), (3, .int (p2 - (16 : Int32))), (0, .ref a_this), (1, .int p1), (2, .int p2)]) hx hb dX1_makeByInverse_76 hl (by decide) rfl (fun ls hl => ?_)
        refine lv_aload_n hx hb dX1_makeByInverse_78 rfl (lv_at hl 4 rfl) ?_
        refine lv_iload_n hx hb dX1_makeByInverse_79 rfl (lv_at hl 6 rfl) ?_
        refine lv_dload hx hb dX1_makeByInverse_80 (lv_at hl 2 rfl) ?_
        refine lv_dload hx hb dX1_makeByInverse_82 (lv_at hl 0 rfl) ?_
        refine lv_dload hx hb dX1_makeByInverse_84 (lv_at hl 1 rfl) ?_
        refine lv_ddiv hx hb dX1_makeByInverse_86 (dop_h hf) ?_
        refine lv_topd (fun d26 ed26 => ?_)
        have hf := dop_at ed26 hf
        refine lv_dadd hx hb dX1_makeByInverse_87 (dop_h hf) ?_
        refine lv_topd (fun d27 ed27 => ?_)
        have hf := dop_at ed27 hf
        obtain ⟨x28, hx28, hf⟩ := bind_s hf
        refine cc_v (wc := [(a_this, .inr (0, [.ref a_this_values, .ref a_this_kinds, .int v_this_table, .double v_this_guard, .double v_this_ratio, .int v_this_bridging, .int v_this_length, .int v_this_guessColumn, .double v_this_guessError, .double v_this_guessValue])), (a_this_values, .inl (k 1, 256, aD v_this_values)), (a_this_kinds, .inl (k 2, 256, aI v_this_kinds))]) (wr := []) (w1 := [(a_this, .inr (0, [.ref a_this_values, .ref a_this_kinds, .int v_this_table, .double v_this_guard, .double v_this_ratio, .int v_this_bridging, .int v_this_length, .int v_this_guessColumn, .double v_this_guessError, .double v_this_guessValue])), (a_this_values, .inl (k 1, 256, aD x28.1)), (a_this_kinds, .inl (k 2, 256, aI x28.2))]) (va_runV (As := [.int p2, .double d27]) (rest := []) ⟨hx, hb, hml, hown, hts⟩ (mt_X1_putIfFinite l D k a_this a_this_values a_this_kinds _ v_this_values v_this_kinds v_this_table v_this_guard v_this_ratio v_this_bridging v_this_length v_this_guessColumn v_this_guessError v_this_guessValue p2 d27 x28 hx28) (cwV 2 hts gX1_makeByInverse_X1_putIfFinite rfl rfl rfl (by decide +kernel) ⟨(Nat.le_of_ble_eq_true rfl), (Nat.le_of_ble_eq_true rfl)⟩) (cc_pv (wc := [(a_this, .inr (0, [.ref a_this_values, .ref a_this_kinds, .int v_this_table, .double v_this_guard, .double v_this_ratio, .int v_this_bridging, .int v_this_length, .int v_this_guessColumn, .double v_this_guessError, .double v_this_guessValue])), (a_this_values, .inl (k 1, 256, aD v_this_values)), (a_this_kinds, .inl (k 2, 256, aI v_this_kinds))]) hK hP hD [2, 0, 1] (by decide) rfl rfl 0 2 rfl rfl rfl) rfl rfl hl.1 rfl (lv_room (Nat.le_of_ble_eq_true rfl)) dX1_makeByInverse_88 ⟨Nat.zero_le _, Nat.zero_le _⟩) hP hD hS hA [2, 0, 1] [] rfl rfl (by decide) (by decide) (fun H locs hP hD hS => ?_)
        have hP : va_P D vwCl [(a_this, .inr (0, [.ref a_this_values, .ref a_this_kinds, .int v_this_table, .double v_this_guard, .double v_this_ratio, .int v_this_bridging, .int v_this_length, .int v_this_guessColumn, .double v_this_guessError, .double v_this_guessValue])), (a_this_values, .inl (k 1, 256, aD x28.1)), (a_this_kinds, .inl (k 2, 256, aI x28.2))] H := hP
        have hD : va_D A [(a_this, .inr (0, [.ref a_this_values, .ref a_this_kinds, .int v_this_table, .double v_this_guard, .double v_this_ratio, .int v_this_bridging, .int v_this_length, .int v_this_guessColumn, .double v_this_guessError, .double v_this_guessValue])), (a_this_values, .inl (k 1, 256, aD x28.1)), (a_this_kinds, .inl (k 2, 256, aI x28.2))] := hD
        have ho := Option.some.inj hf
        subst ho
        exact W.vret hx hb hr (fun t ht hW => ⟨⟨(), rfl, trivial, by rw [ht]; exact hP.sub (ws' := [(a_this, .inr (0, [.ref a_this_values, .ref a_this_kinds, .int v_this_table, .double v_this_guard, .double v_this_ratio, .int v_this_bridging, .int v_this_length, .int v_this_guessColumn, .double v_this_guessError, .double v_this_guessValue])), (a_this_values, .inl (k 1, 256, aD x28.1)), (a_this_kinds, .inl (k 2, 256, aI x28.2))]) [0, 1, 2] rfl, va_K.moved hW.alike hK, hD.sub (ws' := [(a_this, .inr (0, [.ref a_this_values, .ref a_this_kinds, .int v_this_table, .double v_this_guard, .double v_this_ratio, .int v_this_bridging, .int v_this_length, .int v_this_guessColumn, .double v_this_guessError, .double v_this_guessValue])), (a_this_values, .inl (k 1, 256, aD x28.1)), (a_this_kinds, .inl (k 2, 256, aI x28.2))]) [0, 1, 2] (by decide) rfl⟩, hS.F ht⟩) hS.2.2 dX1_makeByInverse_91
    · skip
      have hf := if_f c21 hf
      refine lv_aload_n hx hb dX1_makeByInverse_53 rfl (lv_at hl 3 rfl) ?_
      refine lv_iload_n hx hb dX1_makeByInverse_54 rfl (lv_at hl 5 rfl) ?_
      refine lv_dload hx hb dX1_makeByInverse_55 (lv_at hl 1 rfl) ?_
      refine lv_dconst0 hx hb dX1_makeByInverse_57 ?_
      refine lv_dadd hx hb dX1_makeByInverse_58 (dop_h hf) ?_
      refine lv_topd (fun d29 ed29 => ?_)
      have hf := dop_at ed29 hf
      obtain ⟨x30, hx30, hf⟩ := bind_s hf
      refine cc_v (wc := [(a_this, .inr (0, [.ref a_this_values, .ref a_this_kinds, .int v_this_table, .double v_this_guard, .double v_this_ratio, .int v_this_bridging, .int v_this_length, .int v_this_guessColumn, .double v_this_guessError, .double v_this_guessValue])), (a_this_values, .inl (k 1, 256, aD v_this_values)), (a_this_kinds, .inl (k 2, 256, aI v_this_kinds))]) (wr := []) (w1 := [(a_this, .inr (0, [.ref a_this_values, .ref a_this_kinds, .int v_this_table, .double v_this_guard, .double v_this_ratio, .int v_this_bridging, .int v_this_length, .int v_this_guessColumn, .double v_this_guessError, .double v_this_guessValue])), (a_this_values, .inl (k 1, 256, aD x30.1)), (a_this_kinds, .inl (k 2, 256, aI x30.2))]) (va_runV (As := [.int p2, .double d29]) (rest := []) ⟨hx, hb, hml, hown, hts⟩ (mt_X1_putUndivided l D k a_this a_this_values a_this_kinds _ v_this_values v_this_kinds v_this_table v_this_guard v_this_ratio v_this_bridging v_this_length v_this_guessColumn v_this_guessError v_this_guessValue p2 d29 x30 hx30) (cwV 2 hts gX1_makeByInverse_X1_putUndivided rfl rfl rfl (by decide +kernel) ⟨(Nat.le_of_ble_eq_true rfl), (Nat.le_of_ble_eq_true rfl)⟩) (cc_pv (wc := [(a_this, .inr (0, [.ref a_this_values, .ref a_this_kinds, .int v_this_table, .double v_this_guard, .double v_this_ratio, .int v_this_bridging, .int v_this_length, .int v_this_guessColumn, .double v_this_guessError, .double v_this_guessValue])), (a_this_values, .inl (k 1, 256, aD v_this_values)), (a_this_kinds, .inl (k 2, 256, aI v_this_kinds))]) hK hP hD [2, 0, 1] (by decide) rfl rfl 0 2 rfl rfl rfl) rfl rfl hl.1 rfl (lv_room (Nat.le_of_ble_eq_true rfl)) dX1_makeByInverse_59 ⟨Nat.zero_le _, Nat.zero_le _⟩) hP hD hS hA [2, 0, 1] [] rfl rfl (by decide) (by decide) (fun H locs hP hD hS => ?_)
      have hP : va_P D vwCl [(a_this, .inr (0, [.ref a_this_values, .ref a_this_kinds, .int v_this_table, .double v_this_guard, .double v_this_ratio, .int v_this_bridging, .int v_this_length, .int v_this_guessColumn, .double v_this_guessError, .double v_this_guessValue])), (a_this_values, .inl (k 1, 256, aD x30.1)), (a_this_kinds, .inl (k 2, 256, aI x30.2))] H := hP
      have hD : va_D A [(a_this, .inr (0, [.ref a_this_values, .ref a_this_kinds, .int v_this_table, .double v_this_guard, .double v_this_ratio, .int v_this_bridging, .int v_this_length, .int v_this_guessColumn, .double v_this_guessError, .double v_this_guessValue])), (a_this_values, .inl (k 1, 256, aD x30.1)), (a_this_kinds, .inl (k 2, 256, aI x30.2))] := hD
      have ho := Option.some.inj hf
      subst ho
      exact W.vret hx hb hr (fun t ht hW => ⟨⟨(), rfl, trivial, by rw [ht]; exact hP.sub (ws' := [(a_this, .inr (0, [.ref a_this_values, .ref a_this_kinds, .int v_this_table, .double v_this_guard, .double v_this_ratio, .int v_this_bridging, .int v_this_length, .int v_this_guessColumn, .double v_this_guessError, .double v_this_guessValue])), (a_this_values, .inl (k 1, 256, aD x30.1)), (a_this_kinds, .inl (k 2, 256, aI x30.2))]) [0, 1, 2] rfl, va_K.moved hW.alike hK, hD.sub (ws' := [(a_this, .inr (0, [.ref a_this_values, .ref a_this_kinds, .int v_this_table, .double v_this_guard, .double v_this_ratio, .int v_this_bridging, .int v_this_length, .int v_this_guessColumn, .double v_this_guessError, .double v_this_guessValue])), (a_this_values, .inl (k 1, 256, aD x30.1)), (a_this_kinds, .inl (k 2, 256, aI x30.2))]) [0, 1, 2] (by decide) rfl⟩, hS.F ht⟩) hS.2.2 dX1_makeByInverse_62
theorem hinX1_X1_makeByRatio : ∀ w ∈ wsX10, w ∈ wsX1_makeByRatio := by decide +kernel
def p_X1_makeByRatio_L24 (v_this_ratio : UInt64) (p1 : Int32) : Nat → Int32 → UInt64 → UInt64 → Int32 → Option (Int32 × UInt64 × UInt64)
  | 0, _, _, _, _ => none
  | n24 + 1, x24_3, x24_4, x24_6, x24_8 => (if p1 ≤ x24_8 then some (x24_3, x24_4, x24_6) else dop (FP.dmul x24_6 v_this_ratio) fun d1002 => p_X1_makeByRatio_L24 v_this_ratio p1 n24 x24_3 x24_4 d1002 (x24_8 + 1))

def p_X1_makeByRatio (v_this_values : Nat → UInt64) (v_this_kinds : Nat → Int32) (v_this_guard : UInt64) (v_this_ratio : UInt64) (v_this_bridging : Int32) (p1 : Int32) (p2 : Int32) : Option ((Nat → UInt64) × (Nat → Int32)) := gD (inb ((p2 - (16 : Int32)) + (1 : Int32)) 256) ((p_X1_makeByRatio_L24 v_this_ratio p1 300 (p2 - (16 : Int32)) (v_this_values ((p2 - (16 : Int32)) + (1 : Int32)).toNatClampNeg) v_this_ratio (1 : Int32) ).bind fun x2 => dop (FP.dsub x2.2.2 FP.dconst1) fun d3 => (p_X1_isTooSmall v_this_guard d3).bind fun x4 => (if x4 = 0 then gD (inb x2.1 256) (dop (FP.dsub x2.2.1 (v_this_values x2.1.toNatClampNeg)) fun d7 => dop (FP.ddiv d7 d3) fun d8 => dop (FP.dadd x2.2.1 d8) fun d9 => (p_X1_putIfFinite v_this_values v_this_kinds p2 d9).bind fun x10 => some (x10.1, x10.2)) else dop (FP.dadd x2.2.1 FP.dconst0) fun d11 => (p_X1_putUndivided v_this_values v_this_kinds v_this_bridging p2 d11).bind fun x12 => some (x12.1, x12.2)))
abbrev rm_X1_makeByRatio : Room := { frames := 2, cells := 0, slots := 0, locals := 48 }
set_option maxHeartbeats 4000000 in
set_option maxRecDepth 100000 in
theorem mt_X1_makeByRatio (l : Launch) (D : va_G) (k : Nat → ClassId) (a_this a_this_values a_this_kinds : Nat) (sz : Nat) (v_this_values : Nat → UInt64) (v_this_kinds : Nat → Int32) (v_this_table : Int32) (v_this_guard : UInt64) (v_this_ratio : UInt64) (v_this_bridging : Int32) (v_this_length : Int32) (v_this_guessColumn : Int32) (v_this_guessError : UInt64) (v_this_guessValue : UInt64) (p1 : Int32) (p2 : Int32) (o : (Nat → UInt64) × (Nat → Int32)) (hf : p_X1_makeByRatio v_this_values v_this_kinds v_this_guard v_this_ratio v_this_bridging p1 p2 = some o)  : Met l yX1_makeByRatio wsX1_makeByRatio rm_X1_makeByRatio (va_Pc [.ref a_this, .int p1, .int p2] (bW D k sz [(a_this, .inr (0, [.ref a_this_values, .ref a_this_kinds, .int v_this_table, .double v_this_guard, .double v_this_ratio, .int v_this_bridging, .int v_this_length, .int v_this_guessColumn, .double v_this_guessError, .double v_this_guessValue])), (a_this_values, .inl (k 1, 256, aD v_this_values)), (a_this_kinds, .inl (k 2, 256, aI v_this_kinds))])) (va_Qv (fun (_ : Unit) => True) (fun _ => bO D k (va_A [(a_this, .inr (0, [.ref a_this_values, .ref a_this_kinds, .int v_this_table, .double v_this_guard, .double v_this_ratio, .int v_this_bridging, .int v_this_length, .int v_this_guessColumn, .double v_this_guessError, .double v_this_guessValue])), (a_this_values, .inl (k 1, 256, aD v_this_values)), (a_this_kinds, .inl (k 2, 256, aI v_this_kinds))] sz) [(a_this, .inr (0, [.ref a_this_values, .ref a_this_kinds, .int v_this_table, .double v_this_guard, .double v_this_ratio, .int v_this_bridging, .int v_this_length, .int v_this_guessColumn, .double v_this_guessError, .double v_this_guessValue])), (a_this_values, .inl (k 1, 256, aD o.1)), (a_this_kinds, .inl (k 2, 256, aI o.2))]) (va_A [(a_this, .inr (0, [.ref a_this_values, .ref a_this_kinds, .int v_this_table, .double v_this_guard, .double v_this_ratio, .int v_this_bridging, .int v_this_length, .int v_this_guessColumn, .double v_this_guessError, .double v_this_guessValue])), (a_this_values, .inl (k 1, 256, aD v_this_values)), (a_this_kinds, .inl (k 2, 256, aI v_this_kinds))] sz)) 0 0 (va_A [(a_this, .inr (0, [.ref a_this_values, .ref a_this_kinds, .int v_this_table, .double v_this_guard, .double v_this_ratio, .int v_this_bridging, .int v_this_length, .int v_this_guessColumn, .double v_this_guessError, .double v_this_guessValue])), (a_this_values, .inl (k 1, 256, aD v_this_values)), (a_this_kinds, .inl (k 2, 256, aI v_this_kinds))] sz) := by
  unfold p_X1_makeByRatio at hf
  refine Met.ofW (cc := cX1_makeByRatio) (maxL := 10) (ret := none) (by decide) rfl ?_
  intro p e s m args below meth c s₁ B hml hv
  obtain ⟨rfl, hsz, hP, hK, hD0⟩ := hv
  have hx := B.exec
  have hb := B.bytes
  have hr := B.returns
  have hts := atoms_spec (ws := wsX1_makeByRatio) B.pre
  have hown : s.vm.findClass RX1 = some m.cls := findClass_of_methodNamed B.named
  have hlocks := B.notSynchronized
  subst hsz
  have hD := hD0.self (sz := s.heap.size)
  generalize hAe : va_A [(a_this, .inr (0, [.ref a_this_values, .ref a_this_kinds, .int v_this_table, .double v_this_guard, .double v_this_ratio, .int v_this_bridging, .int v_this_length, .int v_this_guessColumn, .double v_this_guessError, .double v_this_guessValue])), (a_this_values, .inl (k 1, 256, aD v_this_values)), (a_this_kinds, .inl (k 2, 256, aI v_this_kinds))] s.heap.size = A at hD ⊢
  have hA : ∀ q : Nat, s.heap.size ≤ q → A q := fun q h => by rw [← hAe]; exact Or.inr h
  have hS : va_S A s.heap s.heap [] := va_S.rf
  obtain ⟨Q, hQ⟩ : ∃ Q, Q = MQ below (va_Qv (fun (_ : Unit) => True) (fun _ => bO D k (A) [(a_this, .inr (0, [.ref a_this_values, .ref a_this_kinds, .int v_this_table, .double v_this_guard, .double v_this_ratio, .int v_this_bridging, .int v_this_length, .int v_this_guessColumn, .double v_this_guessError, .double v_this_guessValue])), (a_this_values, .inl (k 1, 256, aD o.1)), (a_this_kinds, .inl (k 2, 256, aI o.2))]) (A)) ([.ref a_this, .int p1, .int p2] : List Value).toArray s 0 0 A := ⟨_, rfl⟩
  rw [← hQ]
  have hl := lv_entry [.ref a_this, .int p1, .int p2] (n := 10) (Nat.le_of_ble_eq_true rfl)
  rw [lg_entry_eq]
  generalize (lg_sl [.ref a_this, .int p1, .int p2] ++ List.replicate (10 - (lg_sl [.ref a_this, .int p1, .int p2]).length) Slot.unset).toArray = ls at hl ⊢
  have hl : lv_has ls 10 [(0, .ref a_this), (1, .int p1), (2, .int p2)] := hl
  obtain ⟨H, hHe⟩ : ∃ H, H = s.heap := ⟨_, rfl⟩
  have hP : va_P D vwCl [(a_this, .inr (0, [.ref a_this_values, .ref a_this_kinds, .int v_this_table, .double v_this_guard, .double v_this_ratio, .int v_this_bridging, .int v_this_length, .int v_this_guessColumn, .double v_this_guessError, .double v_this_guessValue])), (a_this_values, .inl (k 1, 256, aD v_this_values)), (a_this_kinds, .inl (k 2, 256, aI v_this_kinds))] H := by rw [hHe]; exact hP
  have hS : va_S A s.heap H [] := by rw [hHe]; exact hS
  rw [← hHe]
  obtain ⟨locs, hLe⟩ : ∃ locs : List Loc, locs = [] := ⟨_, rfl⟩
  rw [← hLe] at hS ⊢
  clear hLe
  refine lv_iload_n hx hb dX1_makeByRatio_0 rfl (lv_at hl 2 rfl) ?_
  refine lv_bipush (v := 16) hx hb dX1_makeByRatio_1 (by decide) ?_
  refine lv_isub hx hb dX1_makeByRatio_3 ?_
  refine lv_istore_n (lv' := [(3, .int (p2 - (16 : Int32))), (0, .ref a_this), (1, .int p1), (2, .int p2)]) hx hb dX1_makeByRatio_4 rfl hl (by decide) rfl (fun ls hl => ?_)
  refine lv_aload_n hx hb dX1_makeByRatio_5 rfl (lv_at hl 1 rfl) ?_
  refine va_get (D := D) (ci := 0) (v := .ref a_this_values) (C := RX1) (T := TX1) (N := 10) hx hb hts hinX1_X1_makeByRatio hown hK hP 0 rfl rfl 0 (by decide) (hts (.fieldLink RX1 9 "LimitTables$Grid" "values" "[D") (by decide +kernel)) (fun _ h9 => h9) rfl dX1_makeByRatio_6 ?_
  refine lv_iload_n hx hb dX1_makeByRatio_9 rfl (lv_at hl 0 rfl) ?_
  refine lv_iconst (v := 1) hx hb dX1_makeByRatio_10 (by decide) ?_
  refine lv_iadd hx hb dX1_makeByRatio_11 ?_
  obtain ⟨g1, hf⟩ := gD_h hf
  refine va_dald hx hb hK hP 1 1 rfl rfl (inb_in g1) dX1_makeByRatio_12 ?_
  refine lv_dstore (lv' := [(4, .double (v_this_values ((p2 - (16 : Int32)) + (1 : Int32)).toNatClampNeg)), (3, .int (p2 - (16 : Int32))), (0, .ref a_this), (1, .int p1), (2, .int p2)]) hx hb dX1_makeByRatio_13 hl (by decide) rfl (fun ls hl => ?_)
  refine lv_aload_n hx hb dX1_makeByRatio_15 rfl (lv_at hl 2 rfl) ?_
  refine va_get (D := D) (ci := 0) (v := .double v_this_ratio) (C := RX1) (T := TX1) (N := 10) hx hb hts hinX1_X1_makeByRatio hown hK hP 0 rfl rfl 4 (by decide) (hts (.fieldLink RX1 27 "LimitTables$Grid" "ratio" "D") (by decide +kernel)) (fun _ h9 => h9) rfl dX1_makeByRatio_16 ?_
  refine lv_dstore (lv' := [(6, .double v_this_ratio), (4, .double (v_this_values ((p2 - (16 : Int32)) + (1 : Int32)).toNatClampNeg)), (3, .int (p2 - (16 : Int32))), (0, .ref a_this), (1, .int p1), (2, .int p2)]) hx hb dX1_makeByRatio_19 hl (by decide) rfl (fun ls hl => ?_)
  refine lv_iconst (v := 1) hx hb dX1_makeByRatio_21 (by decide) ?_
  refine lv_istore (lv' := [(8, .int (1 : Int32)), (6, .double v_this_ratio), (4, .double (v_this_values ((p2 - (16 : Int32)) + (1 : Int32)).toNatClampNeg)), (3, .int (p2 - (16 : Int32))), (0, .ref a_this), (1, .int p1), (2, .int p2)]) hx hb dX1_makeByRatio_22 hl (by decide) rfl (fun ls hl => ?_)
  obtain ⟨x2, hx2, hf⟩ := bind_s hf
  have X45 : ∀ (H : Heap) (locs : List Loc) (ls : Array Slot), va_P D vwCl [(a_this, .inr (0, [.ref a_this_values, .ref a_this_kinds, .int v_this_table, .double v_this_guard, .double v_this_ratio, .int v_this_bridging, .int v_this_length, .int v_this_guessColumn, .double v_this_guessError, .double v_this_guessValue])), (a_this_values, .inl (k 1, 256, aD v_this_values)), (a_this_kinds, .inl (k 2, 256, aI v_this_kinds))] H → va_D A [(a_this, .inr (0, [.ref a_this_values, .ref a_this_kinds, .int v_this_table, .double v_this_guard, .double v_this_ratio, .int v_this_bridging, .int v_this_length, .int v_this_guessColumn, .double v_this_guessError, .double v_this_guessValue])), (a_this_values, .inl (k 1, 256, aD v_this_values)), (a_this_kinds, .inl (k 2, 256, aI v_this_kinds))] → va_S A s.heap H locs → lv_has ls 10 [(0, .ref a_this), (2, .int p2), (3, .int x2.1), (4, .double x2.2.1), (6, .double x2.2.2)] → W p l e (headSpec wsX1_makeByRatio rm_X1_makeByRatio).room s m ([.ref a_this, .int p1, .int p2] : List Value).toArray below meth c H locs 0 0 Q (F0 m 45 ls []) := by
    intro H locs ls hP hD hS hl
    refine lv_dload hx hb dX1_makeByRatio_45 (lv_at hl 4 rfl) ?_
    refine lv_dconst1 hx hb dX1_makeByRatio_47 ?_
    refine lv_dsub hx hb dX1_makeByRatio_48 (dop_h hf) ?_
    refine lv_topd (fun d3 ed3 => ?_)
    have hf := dop_at ed3 hf
    refine lv_dstore (lv' := [(8, .double d3), (0, .ref a_this), (2, .int p2), (3, .int x2.1), (4, .double x2.2.1), (6, .double x2.2.2)]) hx hb dX1_makeByRatio_49 hl (by decide) rfl (fun ls hl => ?_)
    refine lv_aload_n hx hb dX1_makeByRatio_51 rfl (lv_at hl 1 rfl) ?_
    refine lv_dload hx hb dX1_makeByRatio_52 (lv_at hl 0 rfl) ?_
    obtain ⟨x4, hx4, hf⟩ := bind_s hf
    refine cc_i (r := x4) (wc := [(a_this, .inr (0, [.ref a_this_values, .ref a_this_kinds, .int v_this_table, .double v_this_guard, .double v_this_ratio, .int v_this_bridging, .int v_this_length, .int v_this_guessColumn, .double v_this_guessError, .double v_this_guessValue]))]) (wr := [(a_this_values, .inl (k 1, 256, aD v_this_values)), (a_this_kinds, .inl (k 2, 256, aI v_this_kinds))]) (w1 := [(a_this, .inr (0, [.ref a_this_values, .ref a_this_kinds, .int v_this_table, .double v_this_guard, .double v_this_ratio, .int v_this_bridging, .int v_this_length, .int v_this_guessColumn, .double v_this_guessError, .double v_this_guessValue]))]) (va_runV (As := [.double d3]) (rest := []) ⟨hx, hb, hml, hown, hts⟩ (mt_X1_isTooSmall l D k a_this a_this_values a_this_kinds _ v_this_table v_this_guard v_this_ratio v_this_bridging v_this_length v_this_guessColumn v_this_guessError v_this_guessValue d3 x4 hx4) (cwV 1 hts gX1_makeByRatio_X1_isTooSmall rfl rfl rfl (by decide +kernel) ⟨(Nat.le_of_ble_eq_true rfl), (Nat.le_of_ble_eq_true rfl)⟩) (cc_pv (wc := [(a_this, .inr (0, [.ref a_this_values, .ref a_this_kinds, .int v_this_table, .double v_this_guard, .double v_this_ratio, .int v_this_bridging, .int v_this_length, .int v_this_guessColumn, .double v_this_guessError, .double v_this_guessValue]))]) hK hP hD [0] (by decide) rfl rfl 0 0 rfl rfl rfl) rfl rfl hl.1 rfl (lv_room (Nat.le_of_ble_eq_true rfl)) dX1_makeByRatio_54 ⟨Nat.zero_le _, Nat.zero_le _⟩) hP hD hS hA [0] [1, 2] rfl rfl (by decide) (by decide) (fun H locs hP hD hS => ?_)
    have hP : va_P D vwCl [(a_this_values, .inl (k 1, 256, aD v_this_values)), (a_this_kinds, .inl (k 2, 256, aI v_this_kinds)), (a_this, .inr (0, [.ref a_this_values, .ref a_this_kinds, .int v_this_table, .double v_this_guard, .double v_this_ratio, .int v_this_bridging, .int v_this_length, .int v_this_guessColumn, .double v_this_guessError, .double v_this_guessValue]))] H := hP
    have hD : va_D A [(a_this_values, .inl (k 1, 256, aD v_this_values)), (a_this_kinds, .inl (k 2, 256, aI v_this_kinds)), (a_this, .inr (0, [.ref a_this_values, .ref a_this_kinds, .int v_this_table, .double v_this_guard, .double v_this_ratio, .int v_this_bridging, .int v_this_length, .int v_this_guessColumn, .double v_this_guessError, .double v_this_guessValue]))] := hD
    refine lv_if_eq (tgt := 70) hx hb dX1_makeByRatio_57 (by decide) (fun c5 => ?_) (fun c5 => ?_)
    · skip
      have hf := if_t c5 hf
      refine lv_aload_n hx hb dX1_makeByRatio_70 rfl (lv_at hl 1 rfl) ?_
      refine lv_iload_n hx hb dX1_makeByRatio_71 rfl (lv_at hl 2 rfl) ?_
      refine lv_dload hx hb dX1_makeByRatio_72 (lv_at hl 4 rfl) ?_
      refine lv_dload hx hb dX1_makeByRatio_74 (lv_at hl 4 rfl) ?_
      refine lv_aload_n hx hb dX1_makeByRatio_76 rfl (lv_at hl 1 rfl) ?_
      refine va_get (D := D) (ci := 0) (v := .ref a_this_values) (C := RX1) (T := TX1) (N := 10) hx hb hts hinX1_X1_makeByRatio hown hK hP 2 rfl rfl 0 (by decide) (hts (.fieldLink RX1 9 "LimitTables$Grid" "values" "[D") (by decide +kernel)) (fun _ h9 => h9) rfl dX1_makeByRatio_77 ?_
      refine lv_iload_n hx hb dX1_makeByRatio_80 rfl (lv_at hl 3 rfl) ?_
      obtain ⟨g6, hf⟩ := gD_h hf
      refine va_dald hx hb hK hP 0 1 rfl rfl (inb_in g6) dX1_makeByRatio_81 ?_
      refine lv_dsub hx hb dX1_makeByRatio_82 (dop_h hf) ?_
      refine lv_topd (fun d7 ed7 => ?_)
      have hf := dop_at ed7 hf
      refine lv_dload hx hb dX1_makeByRatio_83 (lv_at hl 0 rfl) ?_
      refine lv_ddiv hx hb dX1_makeByRatio_85 (dop_h hf) ?_
      refine lv_topd (fun d8 ed8 => ?_)
      have hf := dop_at ed8 hf
      refine lv_dadd hx hb dX1_makeByRatio_86 (dop_h hf) ?_
      refine lv_topd (fun d9 ed9 => ?_)
      have hf := dop_at ed9 hf
      obtain ⟨x10, hx10, hf⟩ := bind_s hf
      refine cc_v (wc := [(a_this, .inr (0, [.ref a_this_values, .ref a_this_kinds, .int v_this_table, .double v_this_guard, .double v_this_ratio, .int v_this_bridging, .int v_this_length, .int v_this_guessColumn, .double v_this_guessError, .double v_this_guessValue])), (a_this_values, .inl (k 1, 256, aD v_this_values)), (a_this_kinds, .inl (k 2, 256, aI v_this_kinds))]) (wr := []) (w1 := [(a_this, .inr (0, [.ref a_this_values, .ref a_this_kinds, .int v_this_table, .double v_this_guard, .double v_this_ratio, .int v_this_bridging, .int v_this_length, .int v_this_guessColumn, .double v_this_guessError, .double v_this_guessValue])), (a_this_values, .inl (k 1, 256, aD x10.1)), (a_this_kinds, .inl (k 2, 256, aI x10.2))]) (va_runV (As := [.int p2, .double d9]) (rest := []) ⟨hx, hb, hml, hown, hts⟩ (mt_X1_putIfFinite l D k a_this a_this_values a_this_kinds _ v_this_values v_this_kinds v_this_table v_this_guard v_this_ratio v_this_bridging v_this_length v_this_guessColumn v_this_guessError v_this_guessValue p2 d9 x10 hx10) (cwV 2 hts gX1_makeByRatio_X1_putIfFinite rfl rfl rfl (by decide +kernel) ⟨(Nat.le_of_ble_eq_true rfl), (Nat.le_of_ble_eq_true rfl)⟩) (cc_pv (wc := [(a_this, .inr (0, [.ref a_this_values, .ref a_this_kinds, .int v_this_table, .double v_this_guard, .double v_this_ratio, .int v_this_bridging, .int v_this_length, .int v_this_guessColumn, .double v_this_guessError, .double v_this_guessValue])), (a_this_values, .inl (k 1, 256, aD v_this_values)), (a_this_kinds, .inl (k 2, 256, aI v_this_kinds))]) hK hP hD [2, 0, 1] (by decide) rfl rfl 0 2 rfl rfl rfl) rfl rfl hl.1 rfl (lv_room (Nat.le_of_ble_eq_true rfl)) dX1_makeByRatio_87 ⟨Nat.zero_le _, Nat.zero_le _⟩) hP hD hS hA [2, 0, 1] [] rfl rfl (by decide) (by decide) (fun H locs hP hD hS => ?_)
      have hP : va_P D vwCl [(a_this, .inr (0, [.ref a_this_values, .ref a_this_kinds, .int v_this_table, .double v_this_guard, .double v_this_ratio, .int v_this_bridging, .int v_this_length, .int v_this_guessColumn, .double v_this_guessError, .double v_this_guessValue])), (a_this_values, .inl (k 1, 256, aD x10.1)), (a_this_kinds, .inl (k 2, 256, aI x10.2))] H := hP
      have hD : va_D A [(a_this, .inr (0, [.ref a_this_values, .ref a_this_kinds, .int v_this_table, .double v_this_guard, .double v_this_ratio, .int v_this_bridging, .int v_this_length, .int v_this_guessColumn, .double v_this_guessError, .double v_this_guessValue])), (a_this_values, .inl (k 1, 256, aD x10.1)), (a_this_kinds, .inl (k 2, 256, aI x10.2))] := hD
      have ho := Option.some.inj hf
      subst ho
      rw [hQ]
      exact W.vret hx hb hr (fun t ht hW => ⟨⟨(), rfl, trivial, by rw [ht]; exact hP.sub (ws' := [(a_this, .inr (0, [.ref a_this_values, .ref a_this_kinds, .int v_this_table, .double v_this_guard, .double v_this_ratio, .int v_this_bridging, .int v_this_length, .int v_this_guessColumn, .double v_this_guessError, .double v_this_guessValue])), (a_this_values, .inl (k 1, 256, aD x10.1)), (a_this_kinds, .inl (k 2, 256, aI x10.2))]) [0, 1, 2] rfl, va_K.moved hW.alike hK, hD.sub (ws' := [(a_this, .inr (0, [.ref a_this_values, .ref a_this_kinds, .int v_this_table, .double v_this_guard, .double v_this_ratio, .int v_this_bridging, .int v_this_length, .int v_this_guessColumn, .double v_this_guessError, .double v_this_guessValue])), (a_this_values, .inl (k 1, 256, aD x10.1)), (a_this_kinds, .inl (k 2, 256, aI x10.2))]) [0, 1, 2] (by decide) rfl⟩, hS.F ht⟩) hS.2.2 dX1_makeByRatio_90
    · skip
      have hf := if_f c5 hf
      refine lv_aload_n hx hb dX1_makeByRatio_60 rfl (lv_at hl 1 rfl) ?_
      refine lv_iload_n hx hb dX1_makeByRatio_61 rfl (lv_at hl 2 rfl) ?_
      refine lv_dload hx hb dX1_makeByRatio_62 (lv_at hl 4 rfl) ?_
      refine lv_dconst0 hx hb dX1_makeByRatio_64 ?_
      refine lv_dadd hx hb dX1_makeByRatio_65 (dop_h hf) ?_
      refine lv_topd (fun d11 ed11 => ?_)
      have hf := dop_at ed11 hf
      obtain ⟨x12, hx12, hf⟩ := bind_s hf
      refine cc_v (wc := [(a_this, .inr (0, [.ref a_this_values, .ref a_this_kinds, .int v_this_table, .double v_this_guard, .double v_this_ratio, .int v_this_bridging, .int v_this_length, .int v_this_guessColumn, .double v_this_guessError, .double v_this_guessValue])), (a_this_values, .inl (k 1, 256, aD v_this_values)), (a_this_kinds, .inl (k 2, 256, aI v_this_kinds))]) (wr := []) (w1 := [(a_this, .inr (0, [.ref a_this_values, .ref a_this_kinds, .int v_this_table, .double v_this_guard, .double v_this_ratio, .int v_this_bridging, .int v_this_length, .int v_this_guessColumn, .double v_this_guessError, .double v_this_guessValue])), (a_this_values, .inl (k 1, 256, aD x12.1)), (a_this_kinds, .inl (k 2, 256, aI x12.2))]) (va_runV (As := [.int p2, .double d11]) (rest := []) ⟨hx, hb, hml, hown, hts⟩ (mt_X1_putUndivided l D k a_this a_this_values a_this_kinds _ v_this_values v_this_kinds v_this_table v_this_guard v_this_ratio v_this_bridging v_this_length v_this_guessColumn v_this_guessError v_this_guessValue p2 d11 x12 hx12) (cwV 2 hts gX1_makeByRatio_X1_putUndivided rfl rfl rfl (by decide +kernel) ⟨(Nat.le_of_ble_eq_true rfl), (Nat.le_of_ble_eq_true rfl)⟩) (cc_pv (wc := [(a_this, .inr (0, [.ref a_this_values, .ref a_this_kinds, .int v_this_table, .double v_this_guard, .double v_this_ratio, .int v_this_bridging, .int v_this_length, .int v_this_guessColumn, .double v_this_guessError, .double v_this_guessValue])), (a_this_values, .inl (k 1, 256, aD v_this_values)), (a_this_kinds, .inl (k 2, 256, aI v_this_kinds))]) hK hP hD [2, 0, 1] (by decide) rfl rfl 0 2 rfl rfl rfl) rfl rfl hl.1 rfl (lv_room (Nat.le_of_ble_eq_true rfl)) dX1_makeByRatio_66 ⟨Nat.zero_le _, Nat.zero_le _⟩) hP hD hS hA [2, 0, 1] [] rfl rfl (by decide) (by decide) (fun H locs hP hD hS => ?_)
      have hP : va_P D vwCl [(a_this, .inr (0, [.ref a_this_values, .ref a_this_kinds, .int v_this_table, .double v_this_guard, .double v_this_ratio, .int v_this_bridging, .int v_this_length, .int v_this_guessColumn, .double v_this_guessError, .double v_this_guessValue])), (a_this_values, .inl (k 1, 256, aD x12.1)), (a_this_kinds, .inl (k 2, 256, aI x12.2))] H := hP
      have hD : va_D A [(a_this, .inr (0, [.ref a_this_values, .ref a_this_kinds, .int v_this_table, .double v_this_guard, .double v_this_ratio, .int v_this_bridging, .int v_this_length, .int v_this_guessColumn, .double v_this_guessError, .double v_this_guessValue])), (a_this_values, .inl (k 1, 256, aD x12.1)), (a_this_kinds, .inl (k 2, 256, aI x12.2))] := hD
      have ho := Option.some.inj hf
      subst ho
      rw [hQ]
      exact W.vret hx hb hr (fun t ht hW => ⟨⟨(), rfl, trivial, by rw [ht]; exact hP.sub (ws' := [(a_this, .inr (0, [.ref a_this_values, .ref a_this_kinds, .int v_this_table, .double v_this_guard, .double v_this_ratio, .int v_this_bridging, .int v_this_length, .int v_this_guessColumn, .double v_this_guessError, .double v_this_guessValue])), (a_this_values, .inl (k 1, 256, aD x12.1)), (a_this_kinds, .inl (k 2, 256, aI x12.2))]) [0, 1, 2] rfl, va_K.moved hW.alike hK, hD.sub (ws' := [(a_this, .inr (0, [.ref a_this_values, .ref a_this_kinds, .int v_this_table, .double v_this_guard, .double v_this_ratio, .int v_this_bridging, .int v_this_length, .int v_this_guessColumn, .double v_this_guessError, .double v_this_guessValue])), (a_this_values, .inl (k 1, 256, aD x12.1)), (a_this_kinds, .inl (k 2, 256, aI x12.2))]) [0, 1, 2] (by decide) rfl⟩, hS.F ht⟩) hS.2.2 dX1_makeByRatio_69
  have L24 : ∀ (n24 : Nat) (x24_3 : Int32) (x24_4 : UInt64) (x24_6 : UInt64) (x24_8 : Int32)  (H : Heap) (locs : List Loc) (ls : Array Slot), va_P D vwCl [(a_this, .inr (0, [.ref a_this_values, .ref a_this_kinds, .int v_this_table, .double v_this_guard, .double v_this_ratio, .int v_this_bridging, .int v_this_length, .int v_this_guessColumn, .double v_this_guessError, .double v_this_guessValue])), (a_this_values, .inl (k 1, 256, aD v_this_values)), (a_this_kinds, .inl (k 2, 256, aI v_this_kinds))] H → va_D A [(a_this, .inr (0, [.ref a_this_values, .ref a_this_kinds, .int v_this_table, .double v_this_guard, .double v_this_ratio, .int v_this_bridging, .int v_this_length, .int v_this_guessColumn, .double v_this_guessError, .double v_this_guessValue])), (a_this_values, .inl (k 1, 256, aD v_this_values)), (a_this_kinds, .inl (k 2, 256, aI v_this_kinds))] → va_S A s.heap H locs → lv_has ls 10 [(0, .ref a_this), (1, .int p1), (2, .int p2), (3, .int x24_3), (4, .double x24_4), (6, .double x24_6), (8, .int x24_8)] → p_X1_makeByRatio_L24 v_this_ratio p1 n24 x24_3 x24_4 x24_6 x24_8 = some x2 → W p l e (headSpec wsX1_makeByRatio rm_X1_makeByRatio).room s m ([.ref a_this, .int p1, .int p2] : List Value).toArray below meth c H locs 0 0 Q (F0 m 24 ls []) := by
    intro n24
    induction n24 with
    | zero =>
      intro x24_3 x24_4 x24_6 x24_8 H locs ls hP hD hS hl hx2
      exact absurd hx2 (by simp [p_X1_makeByRatio_L24])
    | succ n24 ih24 =>
      intro x24_3 x24_4 x24_6 x24_8 H locs ls hP hD hS hl hx2
      rw [p_X1_makeByRatio_L24] at hx2
      refine lv_iload hx hb dX1_makeByRatio_24 (lv_at hl 6 rfl) ?_
      refine lv_iload_n hx hb dX1_makeByRatio_26 rfl (lv_at hl 1 rfl) ?_
      refine lv_icmp_ge (tgt := 45) hx hb dX1_makeByRatio_27 (by decide) (fun c1001 => ?_) (fun c1001 => ?_)
      · skip
        have hx2 := if_t c1001 hx2
        have ho := Option.some.inj hx2
        subst ho
        exact X45 H locs ls hP hD hS (lv_sub hl [0, 2, 3, 4, 5] rfl)
      · skip
        have hx2 := if_f c1001 hx2
        refine lv_dload hx hb dX1_makeByRatio_30 (lv_at hl 5 rfl) ?_
        refine lv_aload_n hx hb dX1_makeByRatio_32 rfl (lv_at hl 0 rfl) ?_
        refine va_get (D := D) (ci := 0) (v := .double v_this_ratio) (C := RX1) (T := TX1) (N := 10) hx hb hts hinX1_X1_makeByRatio hown hK hP 0 rfl rfl 4 (by decide) (hts (.fieldLink RX1 27 "LimitTables$Grid" "ratio" "D") (by decide +kernel)) (fun _ h9 => h9) rfl dX1_makeByRatio_33 ?_
        refine lv_dmul hx hb dX1_makeByRatio_36 (dop_h hx2) ?_
        refine lv_topd (fun d1002 ed1002 => ?_)
        have hx2 := dop_at ed1002 hx2
        refine lv_dstore (lv' := [(6, .double d1002), (0, .ref a_this), (1, .int p1), (2, .int p2), (3, .int x24_3), (4, .double x24_4), (8, .int x24_8)]) hx hb dX1_makeByRatio_37 hl (by decide) rfl (fun ls hl => ?_)
        refine lv_iinc (v := (x24_8 + 1)) (lv' := [(8, .int (x24_8 + 1)), (6, .double d1002), (0, .ref a_this), (1, .int p1), (2, .int p2), (3, .int x24_3), (4, .double x24_4)]) hx hb dX1_makeByRatio_39 hl (k := 6) rfl rfl (by decide) rfl (fun ls hl => ?_)
        refine lv_goto (tgt := 24) hx hb dX1_makeByRatio_42 (by decide) ?_
        exact ih24 x24_3 x24_4 d1002 (x24_8 + 1) H locs ls hP hD hS (lv_sub hl [2, 3, 4, 5, 6, 1, 0] rfl) hx2
  exact L24 300 (p2 - (16 : Int32)) (v_this_values ((p2 - (16 : Int32)) + (1 : Int32)).toNatClampNeg) v_this_ratio (1 : Int32)  H locs ls hP hD hS (lv_sub hl [4, 5, 6, 3, 2, 1, 0] rfl) hx2
theorem hinX1_X1_makeOfThree : ∀ w ∈ wsX10, w ∈ wsX1_makeOfThree := by decide +kernel
def p_X1_makeOfThree (v_this_values : Nat → UInt64) (v_this_kinds : Nat → Int32) (v_this_guard : UInt64) (v_this_bridging : Int32) (p1 : Int32) : Option ((Nat → UInt64) × (Nat → Int32)) := gD (inb (p1 - (16 : Int32)) 256) (gD (inb ((p1 - (16 : Int32)) + (1 : Int32)) 256) (gD (inb (p1 - (16 : Int32)) 256) (dop (FP.dsub (v_this_values ((p1 - (16 : Int32)) + (1 : Int32)).toNatClampNeg) (v_this_values (p1 - (16 : Int32)).toNatClampNeg)) fun d4 => gD (inb ((p1 - (16 : Int32)) + (2 : Int32)) 256) (gD (inb ((p1 - (16 : Int32)) + (1 : Int32)) 256) (dop (FP.dsub (v_this_values ((p1 - (16 : Int32)) + (2 : Int32)).toNatClampNeg) (v_this_values ((p1 - (16 : Int32)) + (1 : Int32)).toNatClampNeg)) fun d7 => (p_X3_isFinite d4).bind fun x8 => (if x8 = 0 then (if (Op.cmpValue (FP.dcmp d4 d7) CmpOp.l) = 0 then dop (FP.dsub (v_this_values (p1 - (16 : Int32)).toNatClampNeg) FP.dconst0) fun d29 => (p_X1_putUndivided v_this_values v_this_kinds v_this_bridging p1 d29).bind fun x30 => some (x30.1, x30.2) else dop (FP.dsub d7 d4) fun d31 => (p_X1_isTooSmall v_this_guard d31).bind fun x32 => (if x32 = 0 then dop (FP.dmul d4 d4) fun d34 => dop (FP.dsub d7 d4) fun d35 => (p_X3_isFinite d34).bind fun x36 => (if x36 = 0 then (p_X3_isFinite d35).bind fun x41 => (if x41 = 0 then (p_X1_put v_this_values v_this_kinds p1 FP.dconst0 (2 : Int32)).bind fun x46 => some (x46.1, x46.2) else dop (FP.ddiv d34 d35) fun d43 => dop (FP.dsub (v_this_values (p1 - (16 : Int32)).toNatClampNeg) d43) fun d44 => (p_X1_putIfFinite v_this_values v_this_kinds p1 d44).bind fun x45 => some (x45.1, x45.2)) else dop (FP.ddiv d34 d35) fun d38 => dop (FP.dsub (v_this_values (p1 - (16 : Int32)).toNatClampNeg) d38) fun d39 => (p_X1_putIfFinite v_this_values v_this_kinds p1 d39).bind fun x40 => some (x40.1, x40.2)) else dop (FP.dsub (v_this_values (p1 - (16 : Int32)).toNatClampNeg) FP.dconst0) fun d47 => (p_X1_putUndivided v_this_values v_this_kinds v_this_bridging p1 d47).bind fun x48 => some (x48.1, x48.2))) else dop (FP.dsub d7 d4) fun d10 => (p_X1_isTooSmall v_this_guard d10).bind fun x11 => (if x11 = 0 then dop (FP.dmul d4 d4) fun d13 => dop (FP.dsub d7 d4) fun d14 => (p_X3_isFinite d13).bind fun x15 => (if x15 = 0 then (p_X3_isFinite d14).bind fun x20 => (if x20 = 0 then (p_X1_put v_this_values v_this_kinds p1 FP.dconst0 (2 : Int32)).bind fun x25 => some (x25.1, x25.2) else dop (FP.ddiv d13 d14) fun d22 => dop (FP.dsub (v_this_values (p1 - (16 : Int32)).toNatClampNeg) d22) fun d23 => (p_X1_putIfFinite v_this_values v_this_kinds p1 d23).bind fun x24 => some (x24.1, x24.2)) else dop (FP.ddiv d13 d14) fun d17 => dop (FP.dsub (v_this_values (p1 - (16 : Int32)).toNatClampNeg) d17) fun d18 => (p_X1_putIfFinite v_this_values v_this_kinds p1 d18).bind fun x19 => some (x19.1, x19.2)) else dop (FP.dsub (v_this_values (p1 - (16 : Int32)).toNatClampNeg) FP.dconst0) fun d26 => (p_X1_putUndivided v_this_values v_this_kinds v_this_bridging p1 d26).bind fun x27 => some (x27.1, x27.2))))))))
abbrev rm_X1_makeOfThree : Room := { frames := 2, cells := 0, slots := 0, locals := 48 }
set_option maxHeartbeats 4000000 in
set_option maxRecDepth 100000 in
theorem mt_X1_makeOfThree (l : Launch) (D : va_G) (k : Nat → ClassId) (a_this a_this_values a_this_kinds : Nat) (sz : Nat) (v_this_values : Nat → UInt64) (v_this_kinds : Nat → Int32) (v_this_table : Int32) (v_this_guard : UInt64) (v_this_ratio : UInt64) (v_this_bridging : Int32) (v_this_length : Int32) (v_this_guessColumn : Int32) (v_this_guessError : UInt64) (v_this_guessValue : UInt64) (p1 : Int32) (o : (Nat → UInt64) × (Nat → Int32)) (hf : p_X1_makeOfThree v_this_values v_this_kinds v_this_guard v_this_bridging p1 = some o)  : Met l yX1_makeOfThree wsX1_makeOfThree rm_X1_makeOfThree (va_Pc [.ref a_this, .int p1] (bW D k sz [(a_this, .inr (0, [.ref a_this_values, .ref a_this_kinds, .int v_this_table, .double v_this_guard, .double v_this_ratio, .int v_this_bridging, .int v_this_length, .int v_this_guessColumn, .double v_this_guessError, .double v_this_guessValue])), (a_this_values, .inl (k 1, 256, aD v_this_values)), (a_this_kinds, .inl (k 2, 256, aI v_this_kinds))])) (va_Qv (fun (_ : Unit) => True) (fun _ => bO D k (va_A [(a_this, .inr (0, [.ref a_this_values, .ref a_this_kinds, .int v_this_table, .double v_this_guard, .double v_this_ratio, .int v_this_bridging, .int v_this_length, .int v_this_guessColumn, .double v_this_guessError, .double v_this_guessValue])), (a_this_values, .inl (k 1, 256, aD v_this_values)), (a_this_kinds, .inl (k 2, 256, aI v_this_kinds))] sz) [(a_this, .inr (0, [.ref a_this_values, .ref a_this_kinds, .int v_this_table, .double v_this_guard, .double v_this_ratio, .int v_this_bridging, .int v_this_length, .int v_this_guessColumn, .double v_this_guessError, .double v_this_guessValue])), (a_this_values, .inl (k 1, 256, aD o.1)), (a_this_kinds, .inl (k 2, 256, aI o.2))]) (va_A [(a_this, .inr (0, [.ref a_this_values, .ref a_this_kinds, .int v_this_table, .double v_this_guard, .double v_this_ratio, .int v_this_bridging, .int v_this_length, .int v_this_guessColumn, .double v_this_guessError, .double v_this_guessValue])), (a_this_values, .inl (k 1, 256, aD v_this_values)), (a_this_kinds, .inl (k 2, 256, aI v_this_kinds))] sz)) 0 0 (va_A [(a_this, .inr (0, [.ref a_this_values, .ref a_this_kinds, .int v_this_table, .double v_this_guard, .double v_this_ratio, .int v_this_bridging, .int v_this_length, .int v_this_guessColumn, .double v_this_guessError, .double v_this_guessValue])), (a_this_values, .inl (k 1, 256, aD v_this_values)), (a_this_kinds, .inl (k 2, 256, aI v_this_kinds))] sz) := by
  unfold p_X1_makeOfThree at hf
  refine Met.ofW (cc := cX1_makeOfThree) (maxL := 13) (ret := none) (by decide) rfl ?_
  intro p e s m args below meth c s₁ B hml hv
  obtain ⟨rfl, hsz, hP, hK, hD0⟩ := hv
  have hx := B.exec
  have hb := B.bytes
  have hr := B.returns
  have hts := atoms_spec (ws := wsX1_makeOfThree) B.pre
  have hown : s.vm.findClass RX1 = some m.cls := findClass_of_methodNamed B.named
  have hlocks := B.notSynchronized
  subst hsz
  have hD := hD0.self (sz := s.heap.size)
  generalize hAe : va_A [(a_this, .inr (0, [.ref a_this_values, .ref a_this_kinds, .int v_this_table, .double v_this_guard, .double v_this_ratio, .int v_this_bridging, .int v_this_length, .int v_this_guessColumn, .double v_this_guessError, .double v_this_guessValue])), (a_this_values, .inl (k 1, 256, aD v_this_values)), (a_this_kinds, .inl (k 2, 256, aI v_this_kinds))] s.heap.size = A at hD ⊢
  have hA : ∀ q : Nat, s.heap.size ≤ q → A q := fun q h => by rw [← hAe]; exact Or.inr h
  have hS : va_S A s.heap s.heap [] := va_S.rf
  have hl := lv_entry [.ref a_this, .int p1] (n := 13) (Nat.le_of_ble_eq_true rfl)
  rw [lg_entry_eq]
  generalize (lg_sl [.ref a_this, .int p1] ++ List.replicate (13 - (lg_sl [.ref a_this, .int p1]).length) Slot.unset).toArray = ls at hl ⊢
  have hl : lv_has ls 13 [(0, .ref a_this), (1, .int p1)] := hl
  obtain ⟨H, hHe⟩ : ∃ H, H = s.heap := ⟨_, rfl⟩
  have hP : va_P D vwCl [(a_this, .inr (0, [.ref a_this_values, .ref a_this_kinds, .int v_this_table, .double v_this_guard, .double v_this_ratio, .int v_this_bridging, .int v_this_length, .int v_this_guessColumn, .double v_this_guessError, .double v_this_guessValue])), (a_this_values, .inl (k 1, 256, aD v_this_values)), (a_this_kinds, .inl (k 2, 256, aI v_this_kinds))] H := by rw [hHe]; exact hP
  have hS : va_S A s.heap H [] := by rw [hHe]; exact hS
  rw [← hHe]
  obtain ⟨locs, hLe⟩ : ∃ locs : List Loc, locs = [] := ⟨_, rfl⟩
  rw [← hLe] at hS ⊢
  clear hLe
  refine lv_iload_n hx hb dX1_makeOfThree_0 rfl (lv_at hl 1 rfl) ?_
  refine lv_bipush (v := 16) hx hb dX1_makeOfThree_1 (by decide) ?_
  refine lv_isub hx hb dX1_makeOfThree_3 ?_
  refine lv_istore_n (lv' := [(2, .int (p1 - (16 : Int32))), (0, .ref a_this), (1, .int p1)]) hx hb dX1_makeOfThree_4 rfl hl (by decide) rfl (fun ls hl => ?_)
  refine lv_aload_n hx hb dX1_makeOfThree_5 rfl (lv_at hl 1 rfl) ?_
  refine va_get (D := D) (ci := 0) (v := .ref a_this_values) (C := RX1) (T := TX1) (N := 10) hx hb hts hinX1_X1_makeOfThree hown hK hP 0 rfl rfl 0 (by decide) (hts (.fieldLink RX1 9 "LimitTables$Grid" "values" "[D") (by decide +kernel)) (fun _ h9 => h9) rfl dX1_makeOfThree_6 ?_
  refine lv_iload_n hx hb dX1_makeOfThree_9 rfl (lv_at hl 0 rfl) ?_
  obtain ⟨g1, hf⟩ := gD_h hf
  refine va_dald hx hb hK hP 1 1 rfl rfl (inb_in g1) dX1_makeOfThree_10 ?_
  refine lv_dstore_n (lv' := [(3, .double (v_this_values (p1 - (16 : Int32)).toNatClampNeg)), (2, .int (p1 - (16 : Int32))), (0, .ref a_this), (1, .int p1)]) hx hb dX1_makeOfThree_11 rfl hl (by decide) rfl (fun ls hl => ?_)
  refine lv_aload_n hx hb dX1_makeOfThree_12 rfl (lv_at hl 2 rfl) ?_
  refine va_get (D := D) (ci := 0) (v := .ref a_this_values) (C := RX1) (T := TX1) (N := 10) hx hb hts hinX1_X1_makeOfThree hown hK hP 0 rfl rfl 0 (by decide) (hts (.fieldLink RX1 9 "LimitTables$Grid" "values" "[D") (by decide +kernel)) (fun _ h9 => h9) rfl dX1_makeOfThree_13 ?_
  refine lv_iload_n hx hb dX1_makeOfThree_16 rfl (lv_at hl 1 rfl) ?_
  refine lv_iconst (v := 1) hx hb dX1_makeOfThree_17 (by decide) ?_
  refine lv_iadd hx hb dX1_makeOfThree_18 ?_
  obtain ⟨g2, hf⟩ := gD_h hf
  refine va_dald hx hb hK hP 1 1 rfl rfl (inb_in g2) dX1_makeOfThree_19 ?_
  refine lv_aload_n hx hb dX1_makeOfThree_20 rfl (lv_at hl 2 rfl) ?_
  refine va_get (D := D) (ci := 0) (v := .ref a_this_values) (C := RX1) (T := TX1) (N := 10) hx hb hts hinX1_X1_makeOfThree hown hK hP 0 rfl rfl 0 (by decide) (hts (.fieldLink RX1 9 "LimitTables$Grid" "values" "[D") (by decide +kernel)) (fun _ h9 => h9) rfl dX1_makeOfThree_21 ?_
  refine lv_iload_n hx hb dX1_makeOfThree_24 rfl (lv_at hl 1 rfl) ?_
  obtain ⟨g3, hf⟩ := gD_h hf
  refine va_dald hx hb hK hP 1 1 rfl rfl (inb_in g3) dX1_makeOfThree_25 ?_
  refine lv_dsub hx hb dX1_makeOfThree_26 (dop_h hf) ?_
  refine lv_topd (fun d4 ed4 => ?_)
  have hf := dop_at ed4 hf
  refine lv_dstore (lv' := [(5, .double d4), (3, .double (v_this_values (p1 - (16 : Int32)).toNatClampNeg)), (2, .int (p1 - (16 : Int32))), (0, .ref a_this), (1, .int p1)]) hx hb dX1_makeOfThree_27 hl (by decide) rfl (fun ls hl => ?_)
  refine lv_aload_n hx hb dX1_makeOfThree_29 rfl (lv_at hl 3 rfl) ?_
  refine va_get (D := D) (ci := 0) (v := .ref a_this_values) (C := RX1) (T := TX1) (N := 10) hx hb hts hinX1_X1_makeOfThree hown hK hP 0 rfl rfl 0 (by decide) (hts (.fieldLink RX1 9 "LimitTables$Grid" "values" "[D") (by decide +kernel)) (fun _ h9 => h9) rfl dX1_makeOfThree_30 ?_
  refine lv_iload_n hx hb dX1_makeOfThree_33 rfl (lv_at hl 2 rfl) ?_
  refine lv_iconst (v := 2) hx hb dX1_makeOfThree_34 (by decide) ?_
  refine lv_iadd hx hb dX1_makeOfThree_35 ?_
  obtain ⟨g5, hf⟩ := gD_h hf
  refine va_dald hx hb hK hP 1 1 rfl rfl (inb_in g5) dX1_makeOfThree_36 ?_
  refine lv_aload_n hx hb dX1_makeOfThree_37 rfl (lv_at hl 3 rfl) ?_
  refine va_get (D := D) (ci := 0) (v := .ref a_this_values) (C := RX1) (T := TX1) (N := 10) hx hb hts hinX1_X1_makeOfThree hown hK hP 0 rfl rfl 0 (by decide) (hts (.fieldLink RX1 9 "LimitTables$Grid" "values" "[D") (by decide +kernel)) (fun _ h9 => h9) rfl dX1_makeOfThree_38 ?_
  refine lv_iload_n hx hb dX1_makeOfThree_41 rfl (lv_at hl 2 rfl) ?_
  refine lv_iconst (v := 1) hx hb dX1_makeOfThree_42 (by decide) ?_
  refine lv_iadd hx hb dX1_makeOfThree_43 ?_
  obtain ⟨g6, hf⟩ := gD_h hf
  refine va_dald hx hb hK hP 1 1 rfl rfl (inb_in g6) dX1_makeOfThree_44 ?_
  refine lv_dsub hx hb dX1_makeOfThree_45 (dop_h hf) ?_
  refine lv_topd (fun d7 ed7 => ?_)
  have hf := dop_at ed7 hf
  refine lv_dstore (lv' := [(7, .double d7), (5, .double d4), (3, .double (v_this_values (p1 - (16 : Int32)).toNatClampNeg)), (2, .int (p1 - (16 : Int32))), (0, .ref a_this), (1, .int p1)]) hx hb dX1_makeOfThree_46 hl (by decide) rfl (fun ls hl => ?_)
  refine lv_dload hx hb dX1_makeOfThree_48 (lv_at hl 1 rfl) ?_
  obtain ⟨x8, hx8, hf⟩ := bind_s hf
  refine cc_i (r := x8) (wc := []) (wr := [(a_this, .inr (0, [.ref a_this_values, .ref a_this_kinds, .int v_this_table, .double v_this_guard, .double v_this_ratio, .int v_this_bridging, .int v_this_length, .int v_this_guessColumn, .double v_this_guessError, .double v_this_guessValue])), (a_this_values, .inl (k 1, 256, aD v_this_values)), (a_this_kinds, .inl (k 2, 256, aI v_this_kinds))]) (w1 := []) (va_runS (As := [.double d4]) (rest := []) ⟨hx, hb, hml, hown, hts⟩ (mt_X3_isFinite l D k  _  d4 x8 hx8) (va_cwS 1 hts gX1_makeOfThree_X3_isFinite rfl rfl rfl (by decide +kernel) ⟨(Nat.le_of_ble_eq_true rfl), (Nat.le_of_ble_eq_true rfl)⟩) (cc_ps (wc := []) hK hP hD [] (by decide) rfl rfl) rfl rfl hl.1 rfl (lv_room (Nat.le_of_ble_eq_true rfl)) dX1_makeOfThree_50 ⟨Nat.zero_le _, Nat.zero_le _⟩) hP hD hS hA [] [0, 1, 2] rfl rfl (by decide) (by decide) (fun H locs hP hD hS => ?_)
  have hP : va_P D vwCl [(a_this, .inr (0, [.ref a_this_values, .ref a_this_kinds, .int v_this_table, .double v_this_guard, .double v_this_ratio, .int v_this_bridging, .int v_this_length, .int v_this_guessColumn, .double v_this_guessError, .double v_this_guessValue])), (a_this_values, .inl (k 1, 256, aD v_this_values)), (a_this_kinds, .inl (k 2, 256, aI v_this_kinds))] H := hP
  have hD : va_D A [(a_this, .inr (0, [.ref a_this_values, .ref a_this_kinds, .int v_this_table, .double v_this_guard, .double v_this_ratio, .int v_this_bridging, .int v_this_length, .int v_this_guessColumn, .double v_this_guessError, .double v_this_guessValue])), (a_this_values, .inl (k 1, 256, aD v_this_values)), (a_this_kinds, .inl (k 2, 256, aI v_this_kinds))] := hD
  refine lv_if_ne (tgt := 64) hx hb dX1_makeOfThree_53 (by decide) (fun c9 => ?_) (fun c9 => ?_)
  · skip
    have hf := if_f c9 hf
    refine lv_aload_n hx hb dX1_makeOfThree_64 rfl (lv_at hl 4 rfl) ?_
    refine lv_dload hx hb dX1_makeOfThree_65 (lv_at hl 0 rfl) ?_
    refine lv_dload hx hb dX1_makeOfThree_67 (lv_at hl 1 rfl) ?_
    refine lv_dsub hx hb dX1_makeOfThree_69 (dop_h hf) ?_
    refine lv_topd (fun d10 ed10 => ?_)
    have hf := dop_at ed10 hf
    obtain ⟨x11, hx11, hf⟩ := bind_s hf
    refine cc_i (r := x11) (wc := [(a_this, .inr (0, [.ref a_this_values, .ref a_this_kinds, .int v_this_table, .double v_this_guard, .double v_this_ratio, .int v_this_bridging, .int v_this_length, .int v_this_guessColumn, .double v_this_guessError, .double v_this_guessValue]))]) (wr := [(a_this_values, .inl (k 1, 256, aD v_this_values)), (a_this_kinds, .inl (k 2, 256, aI v_this_kinds))]) (w1 := [(a_this, .inr (0, [.ref a_this_values, .ref a_this_kinds, .int v_this_table, .double v_this_guard, .double v_this_ratio, .int v_this_bridging, .int v_this_length, .int v_this_guessColumn, .double v_this_guessError, .double v_this_guessValue]))]) (va_runV (As := [.double d10]) (rest := []) ⟨hx, hb, hml, hown, hts⟩ (mt_X1_isTooSmall l D k a_this a_this_values a_this_kinds _ v_this_table v_this_guard v_this_ratio v_this_bridging v_this_length v_this_guessColumn v_this_guessError v_this_guessValue d10 x11 hx11) (cwV 1 hts gX1_makeOfThree_X1_isTooSmall rfl rfl rfl (by decide +kernel) ⟨(Nat.le_of_ble_eq_true rfl), (Nat.le_of_ble_eq_true rfl)⟩) (cc_pv (wc := [(a_this, .inr (0, [.ref a_this_values, .ref a_this_kinds, .int v_this_table, .double v_this_guard, .double v_this_ratio, .int v_this_bridging, .int v_this_length, .int v_this_guessColumn, .double v_this_guessError, .double v_this_guessValue]))]) hK hP hD [0] (by decide) rfl rfl 0 0 rfl rfl rfl) rfl rfl hl.1 rfl (lv_room (Nat.le_of_ble_eq_true rfl)) dX1_makeOfThree_70 ⟨Nat.zero_le _, Nat.zero_le _⟩) hP hD hS hA [0] [1, 2] rfl rfl (by decide) (by decide) (fun H locs hP hD hS => ?_)
    have hP : va_P D vwCl [(a_this_values, .inl (k 1, 256, aD v_this_values)), (a_this_kinds, .inl (k 2, 256, aI v_this_kinds)), (a_this, .inr (0, [.ref a_this_values, .ref a_this_kinds, .int v_this_table, .double v_this_guard, .double v_this_ratio, .int v_this_bridging, .int v_this_length, .int v_this_guessColumn, .double v_this_guessError, .double v_this_guessValue]))] H := hP
    have hD : va_D A [(a_this_values, .inl (k 1, 256, aD v_this_values)), (a_this_kinds, .inl (k 2, 256, aI v_this_kinds)), (a_this, .inr (0, [.ref a_this_values, .ref a_this_kinds, .int v_this_table, .double v_this_guard, .double v_this_ratio, .int v_this_bridging, .int v_this_length, .int v_this_guessColumn, .double v_this_guessError, .double v_this_guessValue]))] := hD
    refine lv_if_eq (tgt := 85) hx hb dX1_makeOfThree_73 (by decide) (fun c12 => ?_) (fun c12 => ?_)
    · skip
      have hf := if_t c12 hf
      refine lv_dload hx hb dX1_makeOfThree_85 (lv_at hl 1 rfl) ?_
      refine lv_dload hx hb dX1_makeOfThree_87 (lv_at hl 1 rfl) ?_
      refine lv_dmul hx hb dX1_makeOfThree_89 (dop_h hf) ?_
      refine lv_topd (fun d13 ed13 => ?_)
      have hf := dop_at ed13 hf
      refine lv_dstore (lv' := [(9, .double d13), (7, .double d7), (5, .double d4), (3, .double (v_this_values (p1 - (16 : Int32)).toNatClampNeg)), (2, .int (p1 - (16 : Int32))), (0, .ref a_this), (1, .int p1)]) hx hb dX1_makeOfThree_90 hl (by decide) rfl (fun ls hl => ?_)
      refine lv_dload hx hb dX1_makeOfThree_92 (lv_at hl 1 rfl) ?_
      refine lv_dload hx hb dX1_makeOfThree_94 (lv_at hl 2 rfl) ?_
      refine lv_dsub hx hb dX1_makeOfThree_96 (dop_h hf) ?_
      refine lv_topd (fun d14 ed14 => ?_)
      have hf := dop_at ed14 hf
      refine lv_dstore (lv' := [(11, .double d14), (9, .double d13), (7, .double d7), (5, .double d4), (3, .double (v_this_values (p1 - (16 : Int32)).toNatClampNeg)), (2, .int (p1 - (16 : Int32))), (0, .ref a_this), (1, .int p1)]) hx hb dX1_makeOfThree_97 hl (by decide) rfl (fun ls hl => ?_)
      refine lv_dload hx hb dX1_makeOfThree_99 (lv_at hl 1 rfl) ?_
      obtain ⟨x15, hx15, hf⟩ := bind_s hf
      refine cc_i (r := x15) (wc := []) (wr := [(a_this_values, .inl (k 1, 256, aD v_this_values)), (a_this_kinds, .inl (k 2, 256, aI v_this_kinds)), (a_this, .inr (0, [.ref a_this_values, .ref a_this_kinds, .int v_this_table, .double v_this_guard, .double v_this_ratio, .int v_this_bridging, .int v_this_length, .int v_this_guessColumn, .double v_this_guessError, .double v_this_guessValue]))]) (w1 := []) (va_runS (As := [.double d13]) (rest := []) ⟨hx, hb, hml, hown, hts⟩ (mt_X3_isFinite l D k  _  d13 x15 hx15) (va_cwS 1 hts gX1_makeOfThree_X3_isFinite rfl rfl rfl (by decide +kernel) ⟨(Nat.le_of_ble_eq_true rfl), (Nat.le_of_ble_eq_true rfl)⟩) (cc_ps (wc := []) hK hP hD [] (by decide) rfl rfl) rfl rfl hl.1 rfl (lv_room (Nat.le_of_ble_eq_true rfl)) dX1_makeOfThree_101 ⟨Nat.zero_le _, Nat.zero_le _⟩) hP hD hS hA [] [0, 1, 2] rfl rfl (by decide) (by decide) (fun H locs hP hD hS => ?_)
      have hP : va_P D vwCl [(a_this_values, .inl (k 1, 256, aD v_this_values)), (a_this_kinds, .inl (k 2, 256, aI v_this_kinds)), (a_this, .inr (0, [.ref a_this_values, .ref a_this_kinds, .int v_this_table, .double v_this_guard, .double v_this_ratio, .int v_this_bridging, .int v_this_length, .int v_this_guessColumn, .double v_this_guessError, .double v_this_guessValue]))] H := hP
      have hD : va_D A [(a_this_values, .inl (k 1, 256, aD v_this_values)), (a_this_kinds, .inl (k 2, 256, aI v_this_kinds)), (a_this, .inr (0, [.ref a_this_values, .ref a_this_kinds, .int v_this_table, .double v_this_guard, .double v_this_ratio, .int v_this_bridging, .int v_this_length, .int v_this_guessColumn, .double v_this_guessError, .double v_this_guessValue]))] := hD
      refine lv_if_ne (tgt := 123) hx hb dX1_makeOfThree_104 (by decide) (fun c16 => ?_) (fun c16 => ?_)
      · skip
        have hf := if_f c16 hf
        refine lv_aload_n hx hb dX1_makeOfThree_123 rfl (lv_at hl 6 rfl) ?_
        refine lv_iload_n hx hb dX1_makeOfThree_124 rfl (lv_at hl 7 rfl) ?_
        refine lv_dload_n hx hb dX1_makeOfThree_125 rfl (lv_at hl 4 rfl) ?_
        refine lv_dload hx hb dX1_makeOfThree_126 (lv_at hl 1 rfl) ?_
        refine lv_dload hx hb dX1_makeOfThree_128 (lv_at hl 0 rfl) ?_
        refine lv_ddiv hx hb dX1_makeOfThree_130 (dop_h hf) ?_
        refine lv_topd (fun d17 ed17 => ?_)
        have hf := dop_at ed17 hf
        refine lv_dsub hx hb dX1_makeOfThree_131 (dop_h hf) ?_
        refine lv_topd (fun d18 ed18 => ?_)
        have hf := dop_at ed18 hf
        obtain ⟨x19, hx19, hf⟩ := bind_s hf
        refine cc_v (wc := [(a_this, .inr (0, [.ref a_this_values, .ref a_this_kinds, .int v_this_table, .double v_this_guard, .double v_this_ratio, .int v_this_bridging, .int v_this_length, .int v_this_guessColumn, .double v_this_guessError, .double v_this_guessValue])), (a_this_values, .inl (k 1, 256, aD v_this_values)), (a_this_kinds, .inl (k 2, 256, aI v_this_kinds))]) (wr := []) (w1 := [(a_this, .inr (0, [.ref a_this_values, .ref a_this_kinds, .int v_this_table, .double v_this_guard, .double v_this_ratio, .int v_this_bridging, .int v_this_length, .int v_this_guessColumn, .double v_this_guessError, .double v_this_guessValue])), (a_this_values, .inl (k 1, 256, aD x19.1)), (a_this_kinds, .inl (k 2, 256, aI x19.2))]) (va_runV (As := [.int p1, .double d18]) (rest := []) ⟨hx, hb, hml, hown, hts⟩ (mt_X1_putIfFinite l D k a_this a_this_values a_this_kinds _ v_this_values v_this_kinds v_this_table v_this_guard v_this_ratio v_this_bridging v_this_length v_this_guessColumn v_this_guessError v_this_guessValue p1 d18 x19 hx19) (cwV 2 hts gX1_makeOfThree_X1_putIfFinite rfl rfl rfl (by decide +kernel) ⟨(Nat.le_of_ble_eq_true rfl), (Nat.le_of_ble_eq_true rfl)⟩) (cc_pv (wc := [(a_this, .inr (0, [.ref a_this_values, .ref a_this_kinds, .int v_this_table, .double v_this_guard, .double v_this_ratio, .int v_this_bridging, .int v_this_length, .int v_this_guessColumn, .double v_this_guessError, .double v_this_guessValue])), (a_this_values, .inl (k 1, 256, aD v_this_values)), (a_this_kinds, .inl (k 2, 256, aI v_this_kinds))]) hK hP hD [2, 0, 1] (by decide) rfl rfl 0 2 rfl rfl rfl) rfl rfl hl.1 rfl (lv_room (Nat.le_of_ble_eq_true rfl)) dX1_makeOfThree_132 ⟨Nat.zero_le _, Nat.zero_le _⟩) hP hD hS hA [2, 0, 1] [] rfl rfl (by decide) (by decide) (fun H locs hP hD hS => ?_)
        have hP : va_P D vwCl [(a_this, .inr (0, [.ref a_this_values, .ref a_this_kinds, .int v_this_table, .double v_this_guard, .double v_this_ratio, .int v_this_bridging, .int v_this_length, .int v_this_guessColumn, .double v_this_guessError, .double v_this_guessValue])), (a_this_values, .inl (k 1, 256, aD x19.1)), (a_this_kinds, .inl (k 2, 256, aI x19.2))] H := hP
        have hD : va_D A [(a_this, .inr (0, [.ref a_this_values, .ref a_this_kinds, .int v_this_table, .double v_this_guard, .double v_this_ratio, .int v_this_bridging, .int v_this_length, .int v_this_guessColumn, .double v_this_guessError, .double v_this_guessValue])), (a_this_values, .inl (k 1, 256, aD x19.1)), (a_this_kinds, .inl (k 2, 256, aI x19.2))] := hD
        have ho := Option.some.inj hf
        subst ho
        exact W.vret hx hb hr (fun t ht hW => ⟨⟨(), rfl, trivial, by rw [ht]; exact hP.sub (ws' := [(a_this, .inr (0, [.ref a_this_values, .ref a_this_kinds, .int v_this_table, .double v_this_guard, .double v_this_ratio, .int v_this_bridging, .int v_this_length, .int v_this_guessColumn, .double v_this_guessError, .double v_this_guessValue])), (a_this_values, .inl (k 1, 256, aD x19.1)), (a_this_kinds, .inl (k 2, 256, aI x19.2))]) [0, 1, 2] rfl, va_K.moved hW.alike hK, hD.sub (ws' := [(a_this, .inr (0, [.ref a_this_values, .ref a_this_kinds, .int v_this_table, .double v_this_guard, .double v_this_ratio, .int v_this_bridging, .int v_this_length, .int v_this_guessColumn, .double v_this_guessError, .double v_this_guessValue])), (a_this_values, .inl (k 1, 256, aD x19.1)), (a_this_kinds, .inl (k 2, 256, aI x19.2))]) [0, 1, 2] (by decide) rfl⟩, hS.F ht⟩) hS.2.2 dX1_makeOfThree_135
      · skip
        have hf := if_t c16 hf
        refine lv_dload hx hb dX1_makeOfThree_107 (lv_at hl 0 rfl) ?_
        obtain ⟨x20, hx20, hf⟩ := bind_s hf
        refine cc_i (r := x20) (wc := []) (wr := [(a_this_values, .inl (k 1, 256, aD v_this_values)), (a_this_kinds, .inl (k 2, 256, aI v_this_kinds)), (a_this, .inr (0, [.ref a_this_values, .ref a_this_kinds, .int v_this_table, .double v_this_guard, .double v_this_ratio, .int v_this_bridging, .int v_this_length, .int v_this_guessColumn, .double v_this_guessError, .double v_this_guessValue]))]) (w1 := []) (va_runS (As := [.double d14]) (rest := []) ⟨hx, hb, hml, hown, hts⟩ (mt_X3_isFinite l D k  _  d14 x20 hx20) (va_cwS 1 hts gX1_makeOfThree_X3_isFinite rfl rfl rfl (by decide +kernel) ⟨(Nat.le_of_ble_eq_true rfl), (Nat.le_of_ble_eq_true rfl)⟩) (cc_ps (wc := []) hK hP hD [] (by decide) rfl rfl) rfl rfl hl.1 rfl (lv_room (Nat.le_of_ble_eq_true rfl)) dX1_makeOfThree_109 ⟨Nat.zero_le _, Nat.zero_le _⟩) hP hD hS hA [] [0, 1, 2] rfl rfl (by decide) (by decide) (fun H locs hP hD hS => ?_)
        have hP : va_P D vwCl [(a_this_values, .inl (k 1, 256, aD v_this_values)), (a_this_kinds, .inl (k 2, 256, aI v_this_kinds)), (a_this, .inr (0, [.ref a_this_values, .ref a_this_kinds, .int v_this_table, .double v_this_guard, .double v_this_ratio, .int v_this_bridging, .int v_this_length, .int v_this_guessColumn, .double v_this_guessError, .double v_this_guessValue]))] H := hP
        have hD : va_D A [(a_this_values, .inl (k 1, 256, aD v_this_values)), (a_this_kinds, .inl (k 2, 256, aI v_this_kinds)), (a_this, .inr (0, [.ref a_this_values, .ref a_this_kinds, .int v_this_table, .double v_this_guard, .double v_this_ratio, .int v_this_bridging, .int v_this_length, .int v_this_guessColumn, .double v_this_guessError, .double v_this_guessValue]))] := hD
        refine lv_if_ne (tgt := 123) hx hb dX1_makeOfThree_112 (by decide) (fun c21 => ?_) (fun c21 => ?_)
        · skip
          have hf := if_f c21 hf
          refine lv_aload_n hx hb dX1_makeOfThree_123 rfl (lv_at hl 6 rfl) ?_
          refine lv_iload_n hx hb dX1_makeOfThree_124 rfl (lv_at hl 7 rfl) ?_
          refine lv_dload_n hx hb dX1_makeOfThree_125 rfl (lv_at hl 4 rfl) ?_
          refine lv_dload hx hb dX1_makeOfThree_126 (lv_at hl 1 rfl) ?_
          refine lv_dload hx hb dX1_makeOfThree_128 (lv_at hl 0 rfl) ?_
          refine lv_ddiv hx hb dX1_makeOfThree_130 (dop_h hf) ?_
          refine lv_topd (fun d22 ed22 => ?_)
          have hf := dop_at ed22 hf
          refine lv_dsub hx hb dX1_makeOfThree_131 (dop_h hf) ?_
          refine lv_topd (fun d23 ed23 => ?_)
          have hf := dop_at ed23 hf
          obtain ⟨x24, hx24, hf⟩ := bind_s hf
          refine cc_v (wc := [(a_this, .inr (0, [.ref a_this_values, .ref a_this_kinds, .int v_this_table, .double v_this_guard, .double v_this_ratio, .int v_this_bridging, .int v_this_length, .int v_this_guessColumn, .double v_this_guessError, .double v_this_guessValue])), (a_this_values, .inl (k 1, 256, aD v_this_values)), (a_this_kinds, .inl (k 2, 256, aI v_this_kinds))]) (wr := []) (w1 := [(a_this, .inr (0, [.ref a_this_values, .ref a_this_kinds, .int v_this_table, .double v_this_guard, .double v_this_ratio, .int v_this_bridging, .int v_this_length, .int v_this_guessColumn, .double v_this_guessError, .double v_this_guessValue])), (a_this_values, .inl (k 1, 256, aD x24.1)), (a_this_kinds, .inl (k 2, 256, aI x24.2))]) (va_runV (As := [.int p1, .double d23]) (rest := []) ⟨hx, hb, hml, hown, hts⟩ (mt_X1_putIfFinite l D k a_this a_this_values a_this_kinds _ v_this_values v_this_kinds v_this_table v_this_guard v_this_ratio v_this_bridging v_this_length v_this_guessColumn v_this_guessError v_this_guessValue p1 d23 x24 hx24) (cwV 2 hts gX1_makeOfThree_X1_putIfFinite rfl rfl rfl (by decide +kernel) ⟨(Nat.le_of_ble_eq_true rfl), (Nat.le_of_ble_eq_true rfl)⟩) (cc_pv (wc := [(a_this, .inr (0, [.ref a_this_values, .ref a_this_kinds, .int v_this_table, .double v_this_guard, .double v_this_ratio, .int v_this_bridging, .int v_this_length, .int v_this_guessColumn, .double v_this_guessError, .double v_this_guessValue])), (a_this_values, .inl (k 1, 256, aD v_this_values)), (a_this_kinds, .inl (k 2, 256, aI v_this_kinds))]) hK hP hD [2, 0, 1] (by decide) rfl rfl 0 2 rfl rfl rfl) rfl rfl hl.1 rfl (lv_room (Nat.le_of_ble_eq_true rfl)) dX1_makeOfThree_132 ⟨Nat.zero_le _, Nat.zero_le _⟩) hP hD hS hA [2, 0, 1] [] rfl rfl (by decide) (by decide) (fun H locs hP hD hS => ?_)
          have hP : va_P D vwCl [(a_this, .inr (0, [.ref a_this_values, .ref a_this_kinds, .int v_this_table, .double v_this_guard, .double v_this_ratio, .int v_this_bridging, .int v_this_length, .int v_this_guessColumn, .double v_this_guessError, .double v_this_guessValue])), (a_this_values, .inl (k 1, 256, aD x24.1)), (a_this_kinds, .inl (k 2, 256, aI x24.2))] H := hP
          have hD : va_D A [(a_this, .inr (0, [.ref a_this_values, .ref a_this_kinds, .int v_this_table, .double v_this_guard, .double v_this_ratio, .int v_this_bridging, .int v_this_length, .int v_this_guessColumn, .double v_this_guessError, .double v_this_guessValue])), (a_this_values, .inl (k 1, 256, aD x24.1)), (a_this_kinds, .inl (k 2, 256, aI x24.2))] := hD
          have ho := Option.some.inj hf
          subst ho
          exact W.vret hx hb hr (fun t ht hW => ⟨⟨(), rfl, trivial, by rw [ht]; exact hP.sub (ws' := [(a_this, .inr (0, [.ref a_this_values, .ref a_this_kinds, .int v_this_table, .double v_this_guard, .double v_this_ratio, .int v_this_bridging, .int v_this_length, .int v_this_guessColumn, .double v_this_guessError, .double v_this_guessValue])), (a_this_values, .inl (k 1, 256, aD x24.1)), (a_this_kinds, .inl (k 2, 256, aI x24.2))]) [0, 1, 2] rfl, va_K.moved hW.alike hK, hD.sub (ws' := [(a_this, .inr (0, [.ref a_this_values, .ref a_this_kinds, .int v_this_table, .double v_this_guard, .double v_this_ratio, .int v_this_bridging, .int v_this_length, .int v_this_guessColumn, .double v_this_guessError, .double v_this_guessValue])), (a_this_values, .inl (k 1, 256, aD x24.1)), (a_this_kinds, .inl (k 2, 256, aI x24.2))]) [0, 1, 2] (by decide) rfl⟩, hS.F ht⟩) hS.2.2 dX1_makeOfThree_135
        · skip
          have hf := if_t c21 hf
          refine lv_aload_n hx hb dX1_makeOfThree_115 rfl (lv_at hl 6 rfl) ?_
          refine lv_iload_n hx hb dX1_makeOfThree_116 rfl (lv_at hl 7 rfl) ?_
          refine lv_dconst0 hx hb dX1_makeOfThree_117 ?_
          refine lv_iconst (v := 2) hx hb dX1_makeOfThree_118 (by decide) ?_
          obtain ⟨x25, hx25, hf⟩ := bind_s hf
          refine cc_v (wc := [(a_this, .inr (0, [.ref a_this_values, .ref a_this_kinds, .int v_this_table, .double v_this_guard, .double v_this_ratio, .int v_this_bridging, .int v_this_length, .int v_this_guessColumn, .double v_this_guessError, .double v_this_guessValue])), (a_this_values, .inl (k 1, 256, aD v_this_values)), (a_this_kinds, .inl (k 2, 256, aI v_this_kinds))]) (wr := []) (w1 := [(a_this, .inr (0, [.ref a_this_values, .ref a_this_kinds, .int v_this_table, .double v_this_guard, .double v_this_ratio, .int v_this_bridging, .int v_this_length, .int v_this_guessColumn, .double v_this_guessError, .double v_this_guessValue])), (a_this_values, .inl (k 1, 256, aD x25.1)), (a_this_kinds, .inl (k 2, 256, aI x25.2))]) (va_runV (As := [.int p1, .double FP.dconst0, .int (2 : Int32)]) (rest := []) ⟨hx, hb, hml, hown, hts⟩ (mt_X1_put l D k a_this a_this_values a_this_kinds _ v_this_values v_this_kinds v_this_table v_this_guard v_this_ratio v_this_bridging v_this_length v_this_guessColumn v_this_guessError v_this_guessValue p1 FP.dconst0 (2 : Int32) x25 hx25) (cwV 3 hts gX1_makeOfThree_X1_put rfl rfl rfl (by decide +kernel) ⟨(Nat.le_of_ble_eq_true rfl), (Nat.le_of_ble_eq_true rfl)⟩) (cc_pv (wc := [(a_this, .inr (0, [.ref a_this_values, .ref a_this_kinds, .int v_this_table, .double v_this_guard, .double v_this_ratio, .int v_this_bridging, .int v_this_length, .int v_this_guessColumn, .double v_this_guessError, .double v_this_guessValue])), (a_this_values, .inl (k 1, 256, aD v_this_values)), (a_this_kinds, .inl (k 2, 256, aI v_this_kinds))]) hK hP hD [2, 0, 1] (by decide) rfl rfl 0 2 rfl rfl rfl) rfl rfl hl.1 rfl (lv_room (Nat.le_of_ble_eq_true rfl)) dX1_makeOfThree_119 ⟨Nat.zero_le _, Nat.zero_le _⟩) hP hD hS hA [2, 0, 1] [] rfl rfl (by decide) (by decide) (fun H locs hP hD hS => ?_)
          have hP : va_P D vwCl [(a_this, .inr (0, [.ref a_this_values, .ref a_this_kinds, .int v_this_table, .double v_this_guard, .double v_this_ratio, .int v_this_bridging, .int v_this_length, .int v_this_guessColumn, .double v_this_guessError, .double v_this_guessValue])), (a_this_values, .inl (k 1, 256, aD x25.1)), (a_this_kinds, .inl (k 2, 256, aI x25.2))] H := hP
          have hD : va_D A [(a_this, .inr (0, [.ref a_this_values, .ref a_this_kinds, .int v_this_table, .double v_this_guard, .double v_this_ratio, .int v_this_bridging, .int v_this_length, .int v_this_guessColumn, .double v_this_guessError, .double v_this_guessValue])), (a_this_values, .inl (k 1, 256, aD x25.1)), (a_this_kinds, .inl (k 2, 256, aI x25.2))] := hD
          have ho := Option.some.inj hf
          subst ho
          exact W.vret hx hb hr (fun t ht hW => ⟨⟨(), rfl, trivial, by rw [ht]; exact hP.sub (ws' := [(a_this, .inr (0, [.ref a_this_values, .ref a_this_kinds, .int v_this_table, .double v_this_guard, .double v_this_ratio, .int v_this_bridging, .int v_this_length, .int v_this_guessColumn, .double v_this_guessError, .double v_this_guessValue])), (a_this_values, .inl (k 1, 256, aD x25.1)), (a_this_kinds, .inl (k 2, 256, aI x25.2))]) [0, 1, 2] rfl, va_K.moved hW.alike hK, hD.sub (ws' := [(a_this, .inr (0, [.ref a_this_values, .ref a_this_kinds, .int v_this_table, .double v_this_guard, .double v_this_ratio, .int v_this_bridging, .int v_this_length, .int v_this_guessColumn, .double v_this_guessError, .double v_this_guessValue])), (a_this_values, .inl (k 1, 256, aD x25.1)), (a_this_kinds, .inl (k 2, 256, aI x25.2))]) [0, 1, 2] (by decide) rfl⟩, hS.F ht⟩) hS.2.2 dX1_makeOfThree_122
    · skip
      have hf := if_f c12 hf
      refine lv_aload_n hx hb dX1_makeOfThree_76 rfl (lv_at hl 4 rfl) ?_
      refine lv_iload_n hx hb dX1_makeOfThree_77 rfl (lv_at hl 5 rfl) ?_
      refine lv_dload_n hx hb dX1_makeOfThree_78 rfl (lv_at hl 2 rfl) ?_
      refine lv_dconst0 hx hb dX1_makeOfThree_79 ?_
      refine lv_dsub hx hb dX1_makeOfThree_80 (dop_h hf) ?_
      refine lv_topd (fun d26 ed26 => ?_)
      have hf := dop_at ed26 hf
      obtain ⟨x27, hx27, hf⟩ := bind_s hf
      refine cc_v (wc := [(a_this, .inr (0, [.ref a_this_values, .ref a_this_kinds, .int v_this_table, .double v_this_guard, .double v_this_ratio, .int v_this_bridging, .int v_this_length, .int v_this_guessColumn, .double v_this_guessError, .double v_this_guessValue])), (a_this_values, .inl (k 1, 256, aD v_this_values)), (a_this_kinds, .inl (k 2, 256, aI v_this_kinds))]) (wr := []) (w1 := [(a_this, .inr (0, [.ref a_this_values, .ref a_this_kinds, .int v_this_table, .double v_this_guard, .double v_this_ratio, .int v_this_bridging, .int v_this_length, .int v_this_guessColumn, .double v_this_guessError, .double v_this_guessValue])), (a_this_values, .inl (k 1, 256, aD x27.1)), (a_this_kinds, .inl (k 2, 256, aI x27.2))]) (va_runV (As := [.int p1, .double d26]) (rest := []) ⟨hx, hb, hml, hown, hts⟩ (mt_X1_putUndivided l D k a_this a_this_values a_this_kinds _ v_this_values v_this_kinds v_this_table v_this_guard v_this_ratio v_this_bridging v_this_length v_this_guessColumn v_this_guessError v_this_guessValue p1 d26 x27 hx27) (cwV 2 hts gX1_makeOfThree_X1_putUndivided rfl rfl rfl (by decide +kernel) ⟨(Nat.le_of_ble_eq_true rfl), (Nat.le_of_ble_eq_true rfl)⟩) (cc_pv (wc := [(a_this, .inr (0, [.ref a_this_values, .ref a_this_kinds, .int v_this_table, .double v_this_guard, .double v_this_ratio, .int v_this_bridging, .int v_this_length, .int v_this_guessColumn, .double v_this_guessError, .double v_this_guessValue])), (a_this_values, .inl (k 1, 256, aD v_this_values)), (a_this_kinds, .inl (k 2, 256, aI v_this_kinds))]) hK hP hD [2, 0, 1] (by decide) rfl rfl 0 2 rfl rfl rfl) rfl rfl hl.1 rfl (lv_room (Nat.le_of_ble_eq_true rfl)) dX1_makeOfThree_81 ⟨Nat.zero_le _, Nat.zero_le _⟩) hP hD hS hA [2, 0, 1] [] rfl rfl (by decide) (by decide) (fun H locs hP hD hS => ?_)
      have hP : va_P D vwCl [(a_this, .inr (0, [.ref a_this_values, .ref a_this_kinds, .int v_this_table, .double v_this_guard, .double v_this_ratio, .int v_this_bridging, .int v_this_length, .int v_this_guessColumn, .double v_this_guessError, .double v_this_guessValue])), (a_this_values, .inl (k 1, 256, aD x27.1)), (a_this_kinds, .inl (k 2, 256, aI x27.2))] H := hP
      have hD : va_D A [(a_this, .inr (0, [.ref a_this_values, .ref a_this_kinds, .int v_this_table, .double v_this_guard, .double v_this_ratio, .int v_this_bridging, .int v_this_length, .int v_this_guessColumn, .double v_this_guessError, .double v_this_guessValue])), (a_this_values, .inl (k 1, 256, aD x27.1)), (a_this_kinds, .inl (k 2, 256, aI x27.2))] := hD
      have ho := Option.some.inj hf
      subst ho
      exact W.vret hx hb hr (fun t ht hW => ⟨⟨(), rfl, trivial, by rw [ht]; exact hP.sub (ws' := [(a_this, .inr (0, [.ref a_this_values, .ref a_this_kinds, .int v_this_table, .double v_this_guard, .double v_this_ratio, .int v_this_bridging, .int v_this_length, .int v_this_guessColumn, .double v_this_guessError, .double v_this_guessValue])), (a_this_values, .inl (k 1, 256, aD x27.1)), (a_this_kinds, .inl (k 2, 256, aI x27.2))]) [0, 1, 2] rfl, va_K.moved hW.alike hK, hD.sub (ws' := [(a_this, .inr (0, [.ref a_this_values, .ref a_this_kinds, .int v_this_table, .double v_this_guard, .double v_this_ratio, .int v_this_bridging, .int v_this_length, .int v_this_guessColumn, .double v_this_guessError, .double v_this_guessValue])), (a_this_values, .inl (k 1, 256, aD x27.1)), (a_this_kinds, .inl (k 2, 256, aI x27.2))]) [0, 1, 2] (by decide) rfl⟩, hS.F ht⟩) hS.2.2 dX1_makeOfThree_84
  · skip
    have hf := if_t c9 hf
    refine lv_dload hx hb dX1_makeOfThree_56 (lv_at hl 1 rfl) ?_
    refine lv_dload hx hb dX1_makeOfThree_58 (lv_at hl 0 rfl) ?_
    refine lv_dcmp hx hb dX1_makeOfThree_60 ?_
    refine lv_if_eq (tgt := 76) hx hb dX1_makeOfThree_61 (by decide) (fun c28 => ?_) (fun c28 => ?_)
    · skip
      have hf := if_t c28 hf
      refine lv_aload_n hx hb dX1_makeOfThree_76 rfl (lv_at hl 4 rfl) ?_
      refine lv_iload_n hx hb dX1_makeOfThree_77 rfl (lv_at hl 5 rfl) ?_
      refine lv_dload_n hx hb dX1_makeOfThree_78 rfl (lv_at hl 2 rfl) ?_
      refine lv_dconst0 hx hb dX1_makeOfThree_79 ?_
      refine lv_dsub hx hb dX1_makeOfThree_80 (dop_h hf) ?_
      refine lv_topd (fun d29 ed29 => ?_)
      have hf := dop_at ed29 hf
      obtain ⟨x30, hx30, hf⟩ := bind_s hf
      refine cc_v (wc := [(a_this, .inr (0, [.ref a_this_values, .ref a_this_kinds, .int v_this_table, .double v_this_guard, .double v_this_ratio, .int v_this_bridging, .int v_this_length, .int v_this_guessColumn, .double v_this_guessError, .double v_this_guessValue])), (a_this_values, .inl (k 1, 256, aD v_this_values)), (a_this_kinds, .inl (k 2, 256, aI v_this_kinds))]) (wr := []) (w1 := [(a_this, .inr (0, [.ref a_this_values, .ref a_this_kinds, .int v_this_table, .double v_this_guard, .double v_this_ratio, .int v_this_bridging, .int v_this_length, .int v_this_guessColumn, .double v_this_guessError, .double v_this_guessValue])), (a_this_values, .inl (k 1, 256, aD x30.1)), (a_this_kinds, .inl (k 2, 256, aI x30.2))]) (va_runV (As := [.int p1, .double d29]) (rest := []) ⟨hx, hb, hml, hown, hts⟩ (mt_X1_putUndivided l D k a_this a_this_values a_this_kinds _ v_this_values v_this_kinds v_this_table v_this_guard v_this_ratio v_this_bridging v_this_length v_this_guessColumn v_this_guessError v_this_guessValue p1 d29 x30 hx30) (cwV 2 hts gX1_makeOfThree_X1_putUndivided rfl rfl rfl (by decide +kernel) ⟨(Nat.le_of_ble_eq_true rfl), (Nat.le_of_ble_eq_true rfl)⟩) (cc_pv (wc := [(a_this, .inr (0, [.ref a_this_values, .ref a_this_kinds, .int v_this_table, .double v_this_guard, .double v_this_ratio, .int v_this_bridging, .int v_this_length, .int v_this_guessColumn, .double v_this_guessError, .double v_this_guessValue])), (a_this_values, .inl (k 1, 256, aD v_this_values)), (a_this_kinds, .inl (k 2, 256, aI v_this_kinds))]) hK hP hD [0, 1, 2] (by decide) rfl rfl 0 0 rfl rfl rfl) rfl rfl hl.1 rfl (lv_room (Nat.le_of_ble_eq_true rfl)) dX1_makeOfThree_81 ⟨Nat.zero_le _, Nat.zero_le _⟩) hP hD hS hA [0, 1, 2] [] rfl rfl (by decide) (by decide) (fun H locs hP hD hS => ?_)
      have hP : va_P D vwCl [(a_this, .inr (0, [.ref a_this_values, .ref a_this_kinds, .int v_this_table, .double v_this_guard, .double v_this_ratio, .int v_this_bridging, .int v_this_length, .int v_this_guessColumn, .double v_this_guessError, .double v_this_guessValue])), (a_this_values, .inl (k 1, 256, aD x30.1)), (a_this_kinds, .inl (k 2, 256, aI x30.2))] H := hP
      have hD : va_D A [(a_this, .inr (0, [.ref a_this_values, .ref a_this_kinds, .int v_this_table, .double v_this_guard, .double v_this_ratio, .int v_this_bridging, .int v_this_length, .int v_this_guessColumn, .double v_this_guessError, .double v_this_guessValue])), (a_this_values, .inl (k 1, 256, aD x30.1)), (a_this_kinds, .inl (k 2, 256, aI x30.2))] := hD
      have ho := Option.some.inj hf
      subst ho
      exact W.vret hx hb hr (fun t ht hW => ⟨⟨(), rfl, trivial, by rw [ht]; exact hP.sub (ws' := [(a_this, .inr (0, [.ref a_this_values, .ref a_this_kinds, .int v_this_table, .double v_this_guard, .double v_this_ratio, .int v_this_bridging, .int v_this_length, .int v_this_guessColumn, .double v_this_guessError, .double v_this_guessValue])), (a_this_values, .inl (k 1, 256, aD x30.1)), (a_this_kinds, .inl (k 2, 256, aI x30.2))]) [0, 1, 2] rfl, va_K.moved hW.alike hK, hD.sub (ws' := [(a_this, .inr (0, [.ref a_this_values, .ref a_this_kinds, .int v_this_table, .double v_this_guard, .double v_this_ratio, .int v_this_bridging, .int v_this_length, .int v_this_guessColumn, .double v_this_guessError, .double v_this_guessValue])), (a_this_values, .inl (k 1, 256, aD x30.1)), (a_this_kinds, .inl (k 2, 256, aI x30.2))]) [0, 1, 2] (by decide) rfl⟩, hS.F ht⟩) hS.2.2 dX1_makeOfThree_84
    · skip
      have hf := if_f c28 hf
      refine lv_aload_n hx hb dX1_makeOfThree_64 rfl (lv_at hl 4 rfl) ?_
      refine lv_dload hx hb dX1_makeOfThree_65 (lv_at hl 0 rfl) ?_
      refine lv_dload hx hb dX1_makeOfThree_67 (lv_at hl 1 rfl) ?_
      refine lv_dsub hx hb dX1_makeOfThree_69 (dop_h hf) ?_
      refine lv_topd (fun d31 ed31 => ?_)
      have hf := dop_at ed31 hf
      obtain ⟨x32, hx32, hf⟩ := bind_s hf
      refine cc_i (r := x32) (wc := [(a_this, .inr (0, [.ref a_this_values, .ref a_this_kinds, .int v_this_table, .double v_this_guard, .double v_this_ratio, .int v_this_bridging, .int v_this_length, .int v_this_guessColumn, .double v_this_guessError, .double v_this_guessValue]))]) (wr := [(a_this_values, .inl (k 1, 256, aD v_this_values)), (a_this_kinds, .inl (k 2, 256, aI v_this_kinds))]) (w1 := [(a_this, .inr (0, [.ref a_this_values, .ref a_this_kinds, .int v_this_table, .double v_this_guard, .double v_this_ratio, .int v_this_bridging, .int v_this_length, .int v_this_guessColumn, .double v_this_guessError, .double v_this_guessValue]))]) (va_runV (As := [.double d31]) (rest := []) ⟨hx, hb, hml, hown, hts⟩ (mt_X1_isTooSmall l D k a_this a_this_values a_this_kinds _ v_this_table v_this_guard v_this_ratio v_this_bridging v_this_length v_this_guessColumn v_this_guessError v_this_guessValue d31 x32 hx32) (cwV 1 hts gX1_makeOfThree_X1_isTooSmall rfl rfl rfl (by decide +kernel) ⟨(Nat.le_of_ble_eq_true rfl), (Nat.le_of_ble_eq_true rfl)⟩) (cc_pv (wc := [(a_this, .inr (0, [.ref a_this_values, .ref a_this_kinds, .int v_this_table, .double v_this_guard, .double v_this_ratio, .int v_this_bridging, .int v_this_length, .int v_this_guessColumn, .double v_this_guessError, .double v_this_guessValue]))]) hK hP hD [0] (by decide) rfl rfl 0 0 rfl rfl rfl) rfl rfl hl.1 rfl (lv_room (Nat.le_of_ble_eq_true rfl)) dX1_makeOfThree_70 ⟨Nat.zero_le _, Nat.zero_le _⟩) hP hD hS hA [0] [1, 2] rfl rfl (by decide) (by decide) (fun H locs hP hD hS => ?_)
      have hP : va_P D vwCl [(a_this_values, .inl (k 1, 256, aD v_this_values)), (a_this_kinds, .inl (k 2, 256, aI v_this_kinds)), (a_this, .inr (0, [.ref a_this_values, .ref a_this_kinds, .int v_this_table, .double v_this_guard, .double v_this_ratio, .int v_this_bridging, .int v_this_length, .int v_this_guessColumn, .double v_this_guessError, .double v_this_guessValue]))] H := hP
      have hD : va_D A [(a_this_values, .inl (k 1, 256, aD v_this_values)), (a_this_kinds, .inl (k 2, 256, aI v_this_kinds)), (a_this, .inr (0, [.ref a_this_values, .ref a_this_kinds, .int v_this_table, .double v_this_guard, .double v_this_ratio, .int v_this_bridging, .int v_this_length, .int v_this_guessColumn, .double v_this_guessError, .double v_this_guessValue]))] := hD
      refine lv_if_eq (tgt := 85) hx hb dX1_makeOfThree_73 (by decide) (fun c33 => ?_) (fun c33 => ?_)
      · skip
        have hf := if_t c33 hf
        refine lv_dload hx hb dX1_makeOfThree_85 (lv_at hl 1 rfl) ?_
        refine lv_dload hx hb dX1_makeOfThree_87 (lv_at hl 1 rfl) ?_
        refine lv_dmul hx hb dX1_makeOfThree_89 (dop_h hf) ?_
        refine lv_topd (fun d34 ed34 => ?_)
        have hf := dop_at ed34 hf
        refine lv_dstore (lv' := [(9, .double d34), (7, .double d7), (5, .double d4), (3, .double (v_this_values (p1 - (16 : Int32)).toNatClampNeg)), (2, .int (p1 - (16 : Int32))), (0, .ref a_this), (1, .int p1)]) hx hb dX1_makeOfThree_90 hl (by decide) rfl (fun ls hl => ?_)
        refine lv_dload hx hb dX1_makeOfThree_92 (lv_at hl 1 rfl) ?_
        refine lv_dload hx hb dX1_makeOfThree_94 (lv_at hl 2 rfl) ?_
        refine lv_dsub hx hb dX1_makeOfThree_96 (dop_h hf) ?_
        refine lv_topd (fun d35 ed35 => ?_)
        have hf := dop_at ed35 hf
        refine lv_dstore (lv' := [(11, .double d35), (9, .double d34), (7, .double d7), (5, .double d4), (3, .double (v_this_values (p1 - (16 : Int32)).toNatClampNeg)), (2, .int (p1 - (16 : Int32))), (0, .ref a_this), (1, .int p1)]) hx hb dX1_makeOfThree_97 hl (by decide) rfl (fun ls hl => ?_)
        refine lv_dload hx hb dX1_makeOfThree_99 (lv_at hl 1 rfl) ?_
        obtain ⟨x36, hx36, hf⟩ := bind_s hf
        refine cc_i (r := x36) (wc := []) (wr := [(a_this_values, .inl (k 1, 256, aD v_this_values)), (a_this_kinds, .inl (k 2, 256, aI v_this_kinds)), (a_this, .inr (0, [.ref a_this_values, .ref a_this_kinds, .int v_this_table, .double v_this_guard, .double v_this_ratio, .int v_this_bridging, .int v_this_length, .int v_this_guessColumn, .double v_this_guessError, .double v_this_guessValue]))]) (w1 := []) (va_runS (As := [.double d34]) (rest := []) ⟨hx, hb, hml, hown, hts⟩ (mt_X3_isFinite l D k  _  d34 x36 hx36) (va_cwS 1 hts gX1_makeOfThree_X3_isFinite rfl rfl rfl (by decide +kernel) ⟨(Nat.le_of_ble_eq_true rfl), (Nat.le_of_ble_eq_true rfl)⟩) (cc_ps (wc := []) hK hP hD [] (by decide) rfl rfl) rfl rfl hl.1 rfl (lv_room (Nat.le_of_ble_eq_true rfl)) dX1_makeOfThree_101 ⟨Nat.zero_le _, Nat.zero_le _⟩) hP hD hS hA [] [0, 1, 2] rfl rfl (by decide) (by decide) (fun H locs hP hD hS => ?_)
        have hP : va_P D vwCl [(a_this_values, .inl (k 1, 256, aD v_this_values)), (a_this_kinds, .inl (k 2, 256, aI v_this_kinds)), (a_this, .inr (0, [.ref a_this_values, .ref a_this_kinds, .int v_this_table, .double v_this_guard, .double v_this_ratio, .int v_this_bridging, .int v_this_length, .int v_this_guessColumn, .double v_this_guessError, .double v_this_guessValue]))] H := hP
        have hD : va_D A [(a_this_values, .inl (k 1, 256, aD v_this_values)), (a_this_kinds, .inl (k 2, 256, aI v_this_kinds)), (a_this, .inr (0, [.ref a_this_values, .ref a_this_kinds, .int v_this_table, .double v_this_guard, .double v_this_ratio, .int v_this_bridging, .int v_this_length, .int v_this_guessColumn, .double v_this_guessError, .double v_this_guessValue]))] := hD
        refine lv_if_ne (tgt := 123) hx hb dX1_makeOfThree_104 (by decide) (fun c37 => ?_) (fun c37 => ?_)
        · skip
          have hf := if_f c37 hf
          refine lv_aload_n hx hb dX1_makeOfThree_123 rfl (lv_at hl 6 rfl) ?_
          refine lv_iload_n hx hb dX1_makeOfThree_124 rfl (lv_at hl 7 rfl) ?_
          refine lv_dload_n hx hb dX1_makeOfThree_125 rfl (lv_at hl 4 rfl) ?_
          refine lv_dload hx hb dX1_makeOfThree_126 (lv_at hl 1 rfl) ?_
          refine lv_dload hx hb dX1_makeOfThree_128 (lv_at hl 0 rfl) ?_
          refine lv_ddiv hx hb dX1_makeOfThree_130 (dop_h hf) ?_
          refine lv_topd (fun d38 ed38 => ?_)
          have hf := dop_at ed38 hf
          refine lv_dsub hx hb dX1_makeOfThree_131 (dop_h hf) ?_
          refine lv_topd (fun d39 ed39 => ?_)
          have hf := dop_at ed39 hf
          obtain ⟨x40, hx40, hf⟩ := bind_s hf
          refine cc_v (wc := [(a_this, .inr (0, [.ref a_this_values, .ref a_this_kinds, .int v_this_table, .double v_this_guard, .double v_this_ratio, .int v_this_bridging, .int v_this_length, .int v_this_guessColumn, .double v_this_guessError, .double v_this_guessValue])), (a_this_values, .inl (k 1, 256, aD v_this_values)), (a_this_kinds, .inl (k 2, 256, aI v_this_kinds))]) (wr := []) (w1 := [(a_this, .inr (0, [.ref a_this_values, .ref a_this_kinds, .int v_this_table, .double v_this_guard, .double v_this_ratio, .int v_this_bridging, .int v_this_length, .int v_this_guessColumn, .double v_this_guessError, .double v_this_guessValue])), (a_this_values, .inl (k 1, 256, aD x40.1)), (a_this_kinds, .inl (k 2, 256, aI x40.2))]) (va_runV (As := [.int p1, .double d39]) (rest := []) ⟨hx, hb, hml, hown, hts⟩ (mt_X1_putIfFinite l D k a_this a_this_values a_this_kinds _ v_this_values v_this_kinds v_this_table v_this_guard v_this_ratio v_this_bridging v_this_length v_this_guessColumn v_this_guessError v_this_guessValue p1 d39 x40 hx40) (cwV 2 hts gX1_makeOfThree_X1_putIfFinite rfl rfl rfl (by decide +kernel) ⟨(Nat.le_of_ble_eq_true rfl), (Nat.le_of_ble_eq_true rfl)⟩) (cc_pv (wc := [(a_this, .inr (0, [.ref a_this_values, .ref a_this_kinds, .int v_this_table, .double v_this_guard, .double v_this_ratio, .int v_this_bridging, .int v_this_length, .int v_this_guessColumn, .double v_this_guessError, .double v_this_guessValue])), (a_this_values, .inl (k 1, 256, aD v_this_values)), (a_this_kinds, .inl (k 2, 256, aI v_this_kinds))]) hK hP hD [2, 0, 1] (by decide) rfl rfl 0 2 rfl rfl rfl) rfl rfl hl.1 rfl (lv_room (Nat.le_of_ble_eq_true rfl)) dX1_makeOfThree_132 ⟨Nat.zero_le _, Nat.zero_le _⟩) hP hD hS hA [2, 0, 1] [] rfl rfl (by decide) (by decide) (fun H locs hP hD hS => ?_)
          have hP : va_P D vwCl [(a_this, .inr (0, [.ref a_this_values, .ref a_this_kinds, .int v_this_table, .double v_this_guard, .double v_this_ratio, .int v_this_bridging, .int v_this_length, .int v_this_guessColumn, .double v_this_guessError, .double v_this_guessValue])), (a_this_values, .inl (k 1, 256, aD x40.1)), (a_this_kinds, .inl (k 2, 256, aI x40.2))] H := hP
          have hD : va_D A [(a_this, .inr (0, [.ref a_this_values, .ref a_this_kinds, .int v_this_table, .double v_this_guard, .double v_this_ratio, .int v_this_bridging, .int v_this_length, .int v_this_guessColumn, .double v_this_guessError, .double v_this_guessValue])), (a_this_values, .inl (k 1, 256, aD x40.1)), (a_this_kinds, .inl (k 2, 256, aI x40.2))] := hD
          have ho := Option.some.inj hf
          subst ho
          exact W.vret hx hb hr (fun t ht hW => ⟨⟨(), rfl, trivial, by rw [ht]; exact hP.sub (ws' := [(a_this, .inr (0, [.ref a_this_values, .ref a_this_kinds, .int v_this_table, .double v_this_guard, .double v_this_ratio, .int v_this_bridging, .int v_this_length, .int v_this_guessColumn, .double v_this_guessError, .double v_this_guessValue])), (a_this_values, .inl (k 1, 256, aD x40.1)), (a_this_kinds, .inl (k 2, 256, aI x40.2))]) [0, 1, 2] rfl, va_K.moved hW.alike hK, hD.sub (ws' := [(a_this, .inr (0, [.ref a_this_values, .ref a_this_kinds, .int v_this_table, .double v_this_guard, .double v_this_ratio, .int v_this_bridging, .int v_this_length, .int v_this_guessColumn, .double v_this_guessError, .double v_this_guessValue])), (a_this_values, .inl (k 1, 256, aD x40.1)), (a_this_kinds, .inl (k 2, 256, aI x40.2))]) [0, 1, 2] (by decide) rfl⟩, hS.F ht⟩) hS.2.2 dX1_makeOfThree_135
        · skip
          have hf := if_t c37 hf
          refine lv_dload hx hb dX1_makeOfThree_107 (lv_at hl 0 rfl) ?_
          obtain ⟨x41, hx41, hf⟩ := bind_s hf
          refine cc_i (r := x41) (wc := []) (wr := [(a_this_values, .inl (k 1, 256, aD v_this_values)), (a_this_kinds, .inl (k 2, 256, aI v_this_kinds)), (a_this, .inr (0, [.ref a_this_values, .ref a_this_kinds, .int v_this_table, .double v_this_guard, .double v_this_ratio, .int v_this_bridging, .int v_this_length, .int v_this_guessColumn, .double v_this_guessError, .double v_this_guessValue]))]) (w1 := []) (va_runS (As := [.double d35]) (rest := []) ⟨hx, hb, hml, hown, hts⟩ (mt_X3_isFinite l D k  _  d35 x41 hx41) (va_cwS 1 hts gX1_makeOfThree_X3_isFinite rfl rfl rfl (by decide +kernel) ⟨(Nat.le_of_ble_eq_true rfl), (Nat.le_of_ble_eq_true rfl)⟩) (cc_ps (wc := []) hK hP hD [] (by decide) rfl rfl) rfl rfl hl.1 rfl (lv_room (Nat.le_of_ble_eq_true rfl)) dX1_makeOfThree_109 ⟨Nat.zero_le _, Nat.zero_le _⟩) hP hD hS hA [] [0, 1, 2] rfl rfl (by decide) (by decide) (fun H locs hP hD hS => ?_)
          have hP : va_P D vwCl [(a_this_values, .inl (k 1, 256, aD v_this_values)), (a_this_kinds, .inl (k 2, 256, aI v_this_kinds)), (a_this, .inr (0, [.ref a_this_values, .ref a_this_kinds, .int v_this_table, .double v_this_guard, .double v_this_ratio, .int v_this_bridging, .int v_this_length, .int v_this_guessColumn, .double v_this_guessError, .double v_this_guessValue]))] H := hP
          have hD : va_D A [(a_this_values, .inl (k 1, 256, aD v_this_values)), (a_this_kinds, .inl (k 2, 256, aI v_this_kinds)), (a_this, .inr (0, [.ref a_this_values, .ref a_this_kinds, .int v_this_table, .double v_this_guard, .double v_this_ratio, .int v_this_bridging, .int v_this_length, .int v_this_guessColumn, .double v_this_guessError, .double v_this_guessValue]))] := hD
          refine lv_if_ne (tgt := 123) hx hb dX1_makeOfThree_112 (by decide) (fun c42 => ?_) (fun c42 => ?_)
          · skip
            have hf := if_f c42 hf
            refine lv_aload_n hx hb dX1_makeOfThree_123 rfl (lv_at hl 6 rfl) ?_
            refine lv_iload_n hx hb dX1_makeOfThree_124 rfl (lv_at hl 7 rfl) ?_
            refine lv_dload_n hx hb dX1_makeOfThree_125 rfl (lv_at hl 4 rfl) ?_
            refine lv_dload hx hb dX1_makeOfThree_126 (lv_at hl 1 rfl) ?_
            refine lv_dload hx hb dX1_makeOfThree_128 (lv_at hl 0 rfl) ?_
            refine lv_ddiv hx hb dX1_makeOfThree_130 (dop_h hf) ?_
            refine lv_topd (fun d43 ed43 => ?_)
            have hf := dop_at ed43 hf
            refine lv_dsub hx hb dX1_makeOfThree_131 (dop_h hf) ?_
            refine lv_topd (fun d44 ed44 => ?_)
            have hf := dop_at ed44 hf
            obtain ⟨x45, hx45, hf⟩ := bind_s hf
            refine cc_v (wc := [(a_this, .inr (0, [.ref a_this_values, .ref a_this_kinds, .int v_this_table, .double v_this_guard, .double v_this_ratio, .int v_this_bridging, .int v_this_length, .int v_this_guessColumn, .double v_this_guessError, .double v_this_guessValue])), (a_this_values, .inl (k 1, 256, aD v_this_values)), (a_this_kinds, .inl (k 2, 256, aI v_this_kinds))]) (wr := []) (w1 := [(a_this, .inr (0, [.ref a_this_values, .ref a_this_kinds, .int v_this_table, .double v_this_guard, .double v_this_ratio, .int v_this_bridging, .int v_this_length, .int v_this_guessColumn, .double v_this_guessError, .double v_this_guessValue])), (a_this_values, .inl (k 1, 256, aD x45.1)), (a_this_kinds, .inl (k 2, 256, aI x45.2))]) (va_runV (As := [.int p1, .double d44]) (rest := []) ⟨hx, hb, hml, hown, hts⟩ (mt_X1_putIfFinite l D k a_this a_this_values a_this_kinds _ v_this_values v_this_kinds v_this_table v_this_guard v_this_ratio v_this_bridging v_this_length v_this_guessColumn v_this_guessError v_this_guessValue p1 d44 x45 hx45) (cwV 2 hts gX1_makeOfThree_X1_putIfFinite rfl rfl rfl (by decide +kernel) ⟨(Nat.le_of_ble_eq_true rfl), (Nat.le_of_ble_eq_true rfl)⟩) (cc_pv (wc := [(a_this, .inr (0, [.ref a_this_values, .ref a_this_kinds, .int v_this_table, .double v_this_guard, .double v_this_ratio, .int v_this_bridging, .int v_this_length, .int v_this_guessColumn, .double v_this_guessError, .double v_this_guessValue])), (a_this_values, .inl (k 1, 256, aD v_this_values)), (a_this_kinds, .inl (k 2, 256, aI v_this_kinds))]) hK hP hD [2, 0, 1] (by decide) rfl rfl 0 2 rfl rfl rfl) rfl rfl hl.1 rfl (lv_room (Nat.le_of_ble_eq_true rfl)) dX1_makeOfThree_132 ⟨Nat.zero_le _, Nat.zero_le _⟩) hP hD hS hA [2, 0, 1] [] rfl rfl (by decide) (by decide) (fun H locs hP hD hS => ?_)
            have hP : va_P D vwCl [(a_this, .inr (0, [.ref a_this_values, .ref a_this_kinds, .int v_this_table, .double v_this_guard, .double v_this_ratio, .int v_this_bridging, .int v_this_length, .int v_this_guessColumn, .double v_this_guessError, .double v_this_guessValue])), (a_this_values, .inl (k 1, 256, aD x45.1)), (a_this_kinds, .inl (k 2, 256, aI x45.2))] H := hP
            have hD : va_D A [(a_this, .inr (0, [.ref a_this_values, .ref a_this_kinds, .int v_this_table, .double v_this_guard, .double v_this_ratio, .int v_this_bridging, .int v_this_length, .int v_this_guessColumn, .double v_this_guessError, .double v_this_guessValue])), (a_this_values, .inl (k 1, 256, aD x45.1)), (a_this_kinds, .inl (k 2, 256, aI x45.2))] := hD
            have ho := Option.some.inj hf
            subst ho
            exact W.vret hx hb hr (fun t ht hW => ⟨⟨(), rfl, trivial, by rw [ht]; exact hP.sub (ws' := [(a_this, .inr (0, [.ref a_this_values, .ref a_this_kinds, .int v_this_table, .double v_this_guard, .double v_this_ratio, .int v_this_bridging, .int v_this_length, .int v_this_guessColumn, .double v_this_guessError, .double v_this_guessValue])), (a_this_values, .inl (k 1, 256, aD x45.1)), (a_this_kinds, .inl (k 2, 256, aI x45.2))]) [0, 1, 2] rfl, va_K.moved hW.alike hK, hD.sub (ws' := [(a_this, .inr (0, [.ref a_this_values, .ref a_this_kinds, .int v_this_table, .double v_this_guard, .double v_this_ratio, .int v_this_bridging, .int v_this_length, .int v_this_guessColumn, .double v_this_guessError, .double v_this_guessValue])), (a_this_values, .inl (k 1, 256, aD x45.1)), (a_this_kinds, .inl (k 2, 256, aI x45.2))]) [0, 1, 2] (by decide) rfl⟩, hS.F ht⟩) hS.2.2 dX1_makeOfThree_135
          · skip
            have hf := if_t c42 hf
            refine lv_aload_n hx hb dX1_makeOfThree_115 rfl (lv_at hl 6 rfl) ?_
            refine lv_iload_n hx hb dX1_makeOfThree_116 rfl (lv_at hl 7 rfl) ?_
            refine lv_dconst0 hx hb dX1_makeOfThree_117 ?_
            refine lv_iconst (v := 2) hx hb dX1_makeOfThree_118 (by decide) ?_
            obtain ⟨x46, hx46, hf⟩ := bind_s hf
            refine cc_v (wc := [(a_this, .inr (0, [.ref a_this_values, .ref a_this_kinds, .int v_this_table, .double v_this_guard, .double v_this_ratio, .int v_this_bridging, .int v_this_length, .int v_this_guessColumn, .double v_this_guessError, .double v_this_guessValue])), (a_this_values, .inl (k 1, 256, aD v_this_values)), (a_this_kinds, .inl (k 2, 256, aI v_this_kinds))]) (wr := []) (w1 := [(a_this, .inr (0, [.ref a_this_values, .ref a_this_kinds, .int v_this_table, .double v_this_guard, .double v_this_ratio, .int v_this_bridging, .int v_this_length, .int v_this_guessColumn, .double v_this_guessError, .double v_this_guessValue])), (a_this_values, .inl (k 1, 256, aD x46.1)), (a_this_kinds, .inl (k 2, 256, aI x46.2))]) (va_runV (As := [.int p1, .double FP.dconst0, .int (2 : Int32)]) (rest := []) ⟨hx, hb, hml, hown, hts⟩ (mt_X1_put l D k a_this a_this_values a_this_kinds _ v_this_values v_this_kinds v_this_table v_this_guard v_this_ratio v_this_bridging v_this_length v_this_guessColumn v_this_guessError v_this_guessValue p1 FP.dconst0 (2 : Int32) x46 hx46) (cwV 3 hts gX1_makeOfThree_X1_put rfl rfl rfl (by decide +kernel) ⟨(Nat.le_of_ble_eq_true rfl), (Nat.le_of_ble_eq_true rfl)⟩) (cc_pv (wc := [(a_this, .inr (0, [.ref a_this_values, .ref a_this_kinds, .int v_this_table, .double v_this_guard, .double v_this_ratio, .int v_this_bridging, .int v_this_length, .int v_this_guessColumn, .double v_this_guessError, .double v_this_guessValue])), (a_this_values, .inl (k 1, 256, aD v_this_values)), (a_this_kinds, .inl (k 2, 256, aI v_this_kinds))]) hK hP hD [2, 0, 1] (by decide) rfl rfl 0 2 rfl rfl rfl) rfl rfl hl.1 rfl (lv_room (Nat.le_of_ble_eq_true rfl)) dX1_makeOfThree_119 ⟨Nat.zero_le _, Nat.zero_le _⟩) hP hD hS hA [2, 0, 1] [] rfl rfl (by decide) (by decide) (fun H locs hP hD hS => ?_)
            have hP : va_P D vwCl [(a_this, .inr (0, [.ref a_this_values, .ref a_this_kinds, .int v_this_table, .double v_this_guard, .double v_this_ratio, .int v_this_bridging, .int v_this_length, .int v_this_guessColumn, .double v_this_guessError, .double v_this_guessValue])), (a_this_values, .inl (k 1, 256, aD x46.1)), (a_this_kinds, .inl (k 2, 256, aI x46.2))] H := hP
            have hD : va_D A [(a_this, .inr (0, [.ref a_this_values, .ref a_this_kinds, .int v_this_table, .double v_this_guard, .double v_this_ratio, .int v_this_bridging, .int v_this_length, .int v_this_guessColumn, .double v_this_guessError, .double v_this_guessValue])), (a_this_values, .inl (k 1, 256, aD x46.1)), (a_this_kinds, .inl (k 2, 256, aI x46.2))] := hD
            have ho := Option.some.inj hf
            subst ho
            exact W.vret hx hb hr (fun t ht hW => ⟨⟨(), rfl, trivial, by rw [ht]; exact hP.sub (ws' := [(a_this, .inr (0, [.ref a_this_values, .ref a_this_kinds, .int v_this_table, .double v_this_guard, .double v_this_ratio, .int v_this_bridging, .int v_this_length, .int v_this_guessColumn, .double v_this_guessError, .double v_this_guessValue])), (a_this_values, .inl (k 1, 256, aD x46.1)), (a_this_kinds, .inl (k 2, 256, aI x46.2))]) [0, 1, 2] rfl, va_K.moved hW.alike hK, hD.sub (ws' := [(a_this, .inr (0, [.ref a_this_values, .ref a_this_kinds, .int v_this_table, .double v_this_guard, .double v_this_ratio, .int v_this_bridging, .int v_this_length, .int v_this_guessColumn, .double v_this_guessError, .double v_this_guessValue])), (a_this_values, .inl (k 1, 256, aD x46.1)), (a_this_kinds, .inl (k 2, 256, aI x46.2))]) [0, 1, 2] (by decide) rfl⟩, hS.F ht⟩) hS.2.2 dX1_makeOfThree_122
      · skip
        have hf := if_f c33 hf
        refine lv_aload_n hx hb dX1_makeOfThree_76 rfl (lv_at hl 4 rfl) ?_
        refine lv_iload_n hx hb dX1_makeOfThree_77 rfl (lv_at hl 5 rfl) ?_
        refine lv_dload_n hx hb dX1_makeOfThree_78 rfl (lv_at hl 2 rfl) ?_
        refine lv_dconst0 hx hb dX1_makeOfThree_79 ?_
        refine lv_dsub hx hb dX1_makeOfThree_80 (dop_h hf) ?_
        refine lv_topd (fun d47 ed47 => ?_)
        have hf := dop_at ed47 hf
        obtain ⟨x48, hx48, hf⟩ := bind_s hf
        refine cc_v (wc := [(a_this, .inr (0, [.ref a_this_values, .ref a_this_kinds, .int v_this_table, .double v_this_guard, .double v_this_ratio, .int v_this_bridging, .int v_this_length, .int v_this_guessColumn, .double v_this_guessError, .double v_this_guessValue])), (a_this_values, .inl (k 1, 256, aD v_this_values)), (a_this_kinds, .inl (k 2, 256, aI v_this_kinds))]) (wr := []) (w1 := [(a_this, .inr (0, [.ref a_this_values, .ref a_this_kinds, .int v_this_table, .double v_this_guard, .double v_this_ratio, .int v_this_bridging, .int v_this_length, .int v_this_guessColumn, .double v_this_guessError, .double v_this_guessValue])), (a_this_values, .inl (k 1, 256, aD x48.1)), (a_this_kinds, .inl (k 2, 256, aI x48.2))]) (va_runV (As := [.int p1, .double d47]) (rest := []) ⟨hx, hb, hml, hown, hts⟩ (mt_X1_putUndivided l D k a_this a_this_values a_this_kinds _ v_this_values v_this_kinds v_this_table v_this_guard v_this_ratio v_this_bridging v_this_length v_this_guessColumn v_this_guessError v_this_guessValue p1 d47 x48 hx48) (cwV 2 hts gX1_makeOfThree_X1_putUndivided rfl rfl rfl (by decide +kernel) ⟨(Nat.le_of_ble_eq_true rfl), (Nat.le_of_ble_eq_true rfl)⟩) (cc_pv (wc := [(a_this, .inr (0, [.ref a_this_values, .ref a_this_kinds, .int v_this_table, .double v_this_guard, .double v_this_ratio, .int v_this_bridging, .int v_this_length, .int v_this_guessColumn, .double v_this_guessError, .double v_this_guessValue])), (a_this_values, .inl (k 1, 256, aD v_this_values)), (a_this_kinds, .inl (k 2, 256, aI v_this_kinds))]) hK hP hD [2, 0, 1] (by decide) rfl rfl 0 2 rfl rfl rfl) rfl rfl hl.1 rfl (lv_room (Nat.le_of_ble_eq_true rfl)) dX1_makeOfThree_81 ⟨Nat.zero_le _, Nat.zero_le _⟩) hP hD hS hA [2, 0, 1] [] rfl rfl (by decide) (by decide) (fun H locs hP hD hS => ?_)
        have hP : va_P D vwCl [(a_this, .inr (0, [.ref a_this_values, .ref a_this_kinds, .int v_this_table, .double v_this_guard, .double v_this_ratio, .int v_this_bridging, .int v_this_length, .int v_this_guessColumn, .double v_this_guessError, .double v_this_guessValue])), (a_this_values, .inl (k 1, 256, aD x48.1)), (a_this_kinds, .inl (k 2, 256, aI x48.2))] H := hP
        have hD : va_D A [(a_this, .inr (0, [.ref a_this_values, .ref a_this_kinds, .int v_this_table, .double v_this_guard, .double v_this_ratio, .int v_this_bridging, .int v_this_length, .int v_this_guessColumn, .double v_this_guessError, .double v_this_guessValue])), (a_this_values, .inl (k 1, 256, aD x48.1)), (a_this_kinds, .inl (k 2, 256, aI x48.2))] := hD
        have ho := Option.some.inj hf
        subst ho
        exact W.vret hx hb hr (fun t ht hW => ⟨⟨(), rfl, trivial, by rw [ht]; exact hP.sub (ws' := [(a_this, .inr (0, [.ref a_this_values, .ref a_this_kinds, .int v_this_table, .double v_this_guard, .double v_this_ratio, .int v_this_bridging, .int v_this_length, .int v_this_guessColumn, .double v_this_guessError, .double v_this_guessValue])), (a_this_values, .inl (k 1, 256, aD x48.1)), (a_this_kinds, .inl (k 2, 256, aI x48.2))]) [0, 1, 2] rfl, va_K.moved hW.alike hK, hD.sub (ws' := [(a_this, .inr (0, [.ref a_this_values, .ref a_this_kinds, .int v_this_table, .double v_this_guard, .double v_this_ratio, .int v_this_bridging, .int v_this_length, .int v_this_guessColumn, .double v_this_guessError, .double v_this_guessValue])), (a_this_values, .inl (k 1, 256, aD x48.1)), (a_this_kinds, .inl (k 2, 256, aI x48.2))]) [0, 1, 2] (by decide) rfl⟩, hS.F ht⟩) hS.2.2 dX1_makeOfThree_84
theorem hinX1_X1_restsOnBroken : ∀ w ∈ wsX10, w ∈ wsX1_restsOnBroken := by decide +kernel
def p_X1_restsOnBroken (v_this_kinds : Nat → Int32) (v_this_table : Int32) (p1 : Int32) (p2 : Int32) : Option (Int32) := gD (inb p2 256) ((if (2 : Int32) ≤ (v_this_kinds p2.toNatClampNeg) then some (1 : Int32) else gD (inb (p2 + (1 : Int32)) 256) ((if (v_this_kinds (p2 + (1 : Int32)).toNatClampNeg) < (2 : Int32) then (if v_this_table = (2 : Int32) then gD (inb (p2 + (2 : Int32)) 256) ((if (v_this_kinds (p2 + (2 : Int32)).toNatClampNeg) < (2 : Int32) then some (0 : Int32) else some (1 : Int32))) else (if (2 : Int32) ≤ v_this_table then some (0 : Int32) else (if p1 < (2 : Int32) then some (0 : Int32) else gD (inb ((p2 - (16 : Int32)) + (1 : Int32)) 256) ((if (v_this_kinds ((p2 - (16 : Int32)) + (1 : Int32)).toNatClampNeg) < (2 : Int32) then some (0 : Int32) else some (1 : Int32)))))) else some (1 : Int32)))))
abbrev rm_X1_restsOnBroken : Room := { frames := 0, cells := 0, slots := 0, locals := 0 }
set_option maxHeartbeats 4000000 in
set_option maxRecDepth 100000 in
theorem mt_X1_restsOnBroken (l : Launch) (D : va_G) (k : Nat → ClassId) (a_this a_this_values a_this_kinds : Nat) (sz : Nat) (v_this_kinds : Nat → Int32) (v_this_table : Int32) (v_this_guard : UInt64) (v_this_ratio : UInt64) (v_this_bridging : Int32) (v_this_length : Int32) (v_this_guessColumn : Int32) (v_this_guessError : UInt64) (v_this_guessValue : UInt64) (p1 : Int32) (p2 : Int32) (o : Int32) (hf : p_X1_restsOnBroken v_this_kinds v_this_table p1 p2 = some o)  : Met l yX1_restsOnBroken wsX1_restsOnBroken rm_X1_restsOnBroken (va_Pc [.ref a_this, .int p1, .int p2] (bW D k sz [(a_this, .inr (0, [.ref a_this_values, .ref a_this_kinds, .int v_this_table, .double v_this_guard, .double v_this_ratio, .int v_this_bridging, .int v_this_length, .int v_this_guessColumn, .double v_this_guessError, .double v_this_guessValue])), (a_this_kinds, .inl (k 2, 256, aI v_this_kinds))])) (va_Qi (fun (r : Int32) (_ : Unit) => r = o) (fun _ => bO D k (va_A [(a_this, .inr (0, [.ref a_this_values, .ref a_this_kinds, .int v_this_table, .double v_this_guard, .double v_this_ratio, .int v_this_bridging, .int v_this_length, .int v_this_guessColumn, .double v_this_guessError, .double v_this_guessValue])), (a_this_kinds, .inl (k 2, 256, aI v_this_kinds))] sz) [(a_this, .inr (0, [.ref a_this_values, .ref a_this_kinds, .int v_this_table, .double v_this_guard, .double v_this_ratio, .int v_this_bridging, .int v_this_length, .int v_this_guessColumn, .double v_this_guessError, .double v_this_guessValue])), (a_this_kinds, .inl (k 2, 256, aI v_this_kinds))]) (va_A [(a_this, .inr (0, [.ref a_this_values, .ref a_this_kinds, .int v_this_table, .double v_this_guard, .double v_this_ratio, .int v_this_bridging, .int v_this_length, .int v_this_guessColumn, .double v_this_guessError, .double v_this_guessValue])), (a_this_kinds, .inl (k 2, 256, aI v_this_kinds))] sz)) 0 0 (va_A [(a_this, .inr (0, [.ref a_this_values, .ref a_this_kinds, .int v_this_table, .double v_this_guard, .double v_this_ratio, .int v_this_bridging, .int v_this_length, .int v_this_guessColumn, .double v_this_guessError, .double v_this_guessValue])), (a_this_kinds, .inl (k 2, 256, aI v_this_kinds))] sz) := by
  unfold p_X1_restsOnBroken at hf
  refine Met.ofW (cc := cX1_restsOnBroken) (maxL := 3) (ret := (some .boolean)) (by decide) rfl ?_
  intro p e s m args below meth c s₁ B hml hv
  obtain ⟨rfl, hsz, hP, hK, hD0⟩ := hv
  have hx := B.exec
  have hb := B.bytes
  have hr := B.returns
  have hts := atoms_spec (ws := wsX1_restsOnBroken) B.pre
  have hown : s.vm.findClass RX1 = some m.cls := findClass_of_methodNamed B.named
  have hlocks := B.notSynchronized
  subst hsz
  have hD := hD0.self (sz := s.heap.size)
  generalize hAe : va_A [(a_this, .inr (0, [.ref a_this_values, .ref a_this_kinds, .int v_this_table, .double v_this_guard, .double v_this_ratio, .int v_this_bridging, .int v_this_length, .int v_this_guessColumn, .double v_this_guessError, .double v_this_guessValue])), (a_this_kinds, .inl (k 2, 256, aI v_this_kinds))] s.heap.size = A at hD ⊢
  have hA : ∀ q : Nat, s.heap.size ≤ q → A q := fun q h => by rw [← hAe]; exact Or.inr h
  have hS : va_S A s.heap s.heap [] := va_S.rf
  have hl := lv_entry [.ref a_this, .int p1, .int p2] (n := 3) (Nat.le_of_ble_eq_true rfl)
  rw [lg_entry_eq]
  generalize (lg_sl [.ref a_this, .int p1, .int p2] ++ List.replicate (3 - (lg_sl [.ref a_this, .int p1, .int p2]).length) Slot.unset).toArray = ls at hl ⊢
  have hl : lv_has ls 3 [(0, .ref a_this), (1, .int p1), (2, .int p2)] := hl
  obtain ⟨H, hHe⟩ : ∃ H, H = s.heap := ⟨_, rfl⟩
  have hP : va_P D vwCl [(a_this, .inr (0, [.ref a_this_values, .ref a_this_kinds, .int v_this_table, .double v_this_guard, .double v_this_ratio, .int v_this_bridging, .int v_this_length, .int v_this_guessColumn, .double v_this_guessError, .double v_this_guessValue])), (a_this_kinds, .inl (k 2, 256, aI v_this_kinds))] H := by rw [hHe]; exact hP
  have hS : va_S A s.heap H [] := by rw [hHe]; exact hS
  rw [← hHe]
  obtain ⟨locs, hLe⟩ : ∃ locs : List Loc, locs = [] := ⟨_, rfl⟩
  rw [← hLe] at hS ⊢
  clear hLe
  refine lv_aload_n hx hb dX1_restsOnBroken_0 rfl (lv_at hl 0 rfl) ?_
  refine va_get (D := D) (ci := 0) (v := .ref a_this_kinds) (C := RX1) (T := TX1) (N := 10) hx hb hts hinX1_X1_restsOnBroken hown hK hP 0 rfl rfl 1 (by decide) (hts (.fieldLink RX1 15 "LimitTables$Grid" "kinds" "[I") (by decide +kernel)) (fun _ h9 => h9) rfl dX1_restsOnBroken_1 ?_
  refine lv_iload_n hx hb dX1_restsOnBroken_4 rfl (lv_at hl 2 rfl) ?_
  obtain ⟨g1, hf⟩ := gD_h hf
  refine va_iald hx hb hK hP 1 2 rfl rfl (inb_in g1) dX1_restsOnBroken_5 ?_
  refine lv_iconst (v := 2) hx hb dX1_restsOnBroken_6 (by decide) ?_
  refine lv_icmp_ge (tgt := 22) hx hb dX1_restsOnBroken_7 (by decide) (fun c2 => ?_) (fun c2 => ?_)
  · skip
    have hf := if_t c2 hf
    refine lv_iconst (v := 1) hx hb dX1_restsOnBroken_22 (by decide) ?_
    have ho := Option.some.inj hf
    subst ho
    exact W.zret (v := (1 : Int32)) (ty := .boolean) hx hb hr rfl (fun t ht hW => ⟨⟨(1 : Int32), (), rfl, rfl, by rw [ht]; exact hP.sub (ws' := [(a_this, .inr (0, [.ref a_this_values, .ref a_this_kinds, .int v_this_table, .double v_this_guard, .double v_this_ratio, .int v_this_bridging, .int v_this_length, .int v_this_guessColumn, .double v_this_guessError, .double v_this_guessValue])), (a_this_kinds, .inl (k 2, 256, aI v_this_kinds))]) [0, 1] rfl, va_K.moved hW.alike hK, hD.sub (ws' := [(a_this, .inr (0, [.ref a_this_values, .ref a_this_kinds, .int v_this_table, .double v_this_guard, .double v_this_ratio, .int v_this_bridging, .int v_this_length, .int v_this_guessColumn, .double v_this_guessError, .double v_this_guessValue])), (a_this_kinds, .inl (k 2, 256, aI v_this_kinds))]) [0, 1] (by decide) rfl⟩, hS.F ht⟩) hS.2.2 dX1_restsOnBroken_23
  · skip
    have hf := if_f c2 hf
    refine lv_aload_n hx hb dX1_restsOnBroken_10 rfl (lv_at hl 0 rfl) ?_
    refine va_get (D := D) (ci := 0) (v := .ref a_this_kinds) (C := RX1) (T := TX1) (N := 10) hx hb hts hinX1_X1_restsOnBroken hown hK hP 0 rfl rfl 1 (by decide) (hts (.fieldLink RX1 15 "LimitTables$Grid" "kinds" "[I") (by decide +kernel)) (fun _ h9 => h9) rfl dX1_restsOnBroken_11 ?_
    refine lv_iload_n hx hb dX1_restsOnBroken_14 rfl (lv_at hl 2 rfl) ?_
    refine lv_iconst (v := 1) hx hb dX1_restsOnBroken_15 (by decide) ?_
    refine lv_iadd hx hb dX1_restsOnBroken_16 ?_
    obtain ⟨g3, hf⟩ := gD_h hf
    refine va_iald hx hb hK hP 1 2 rfl rfl (inb_in g3) dX1_restsOnBroken_17 ?_
    refine lv_iconst (v := 2) hx hb dX1_restsOnBroken_18 (by decide) ?_
    refine lv_icmp_lt (tgt := 24) hx hb dX1_restsOnBroken_19 (by decide) (fun c4 => ?_) (fun c4 => ?_)
    · skip
      have hf := if_t c4 hf
      refine lv_aload_n hx hb dX1_restsOnBroken_24 rfl (lv_at hl 0 rfl) ?_
      refine va_get (D := D) (ci := 0) (v := .int v_this_table) (C := RX1) (T := TX1) (N := 10) hx hb hts hinX1_X1_restsOnBroken hown hK hP 0 rfl rfl 2 (by decide) (hts (.fieldLink RX1 19 "LimitTables$Grid" "table" "I") (by decide +kernel)) (fun _ h9 => h9) rfl dX1_restsOnBroken_25 ?_
      refine lv_iconst (v := 2) hx hb dX1_restsOnBroken_28 (by decide) ?_
      refine lv_icmp_ne (tgt := 50) hx hb dX1_restsOnBroken_29 (by decide) (fun c5 => ?_) (fun c5 => ?_)
      · skip
        have hf := if_f c5 hf
        refine lv_aload_n hx hb dX1_restsOnBroken_50 rfl (lv_at hl 0 rfl) ?_
        refine va_get (D := D) (ci := 0) (v := .int v_this_table) (C := RX1) (T := TX1) (N := 10) hx hb hts hinX1_X1_restsOnBroken hown hK hP 0 rfl rfl 2 (by decide) (hts (.fieldLink RX1 19 "LimitTables$Grid" "table" "I") (by decide +kernel)) (fun _ h9 => h9) rfl dX1_restsOnBroken_51 ?_
        refine lv_iconst (v := 2) hx hb dX1_restsOnBroken_54 (by decide) ?_
        refine lv_icmp_ge (tgt := 82) hx hb dX1_restsOnBroken_55 (by decide) (fun c6 => ?_) (fun c6 => ?_)
        · skip
          have hf := if_t c6 hf
          refine lv_iconst (v := 0) hx hb dX1_restsOnBroken_82 (by decide) ?_
          have ho := Option.some.inj hf
          subst ho
          exact W.zret (v := (0 : Int32)) (ty := .boolean) hx hb hr rfl (fun t ht hW => ⟨⟨(0 : Int32), (), rfl, rfl, by rw [ht]; exact hP.sub (ws' := [(a_this, .inr (0, [.ref a_this_values, .ref a_this_kinds, .int v_this_table, .double v_this_guard, .double v_this_ratio, .int v_this_bridging, .int v_this_length, .int v_this_guessColumn, .double v_this_guessError, .double v_this_guessValue])), (a_this_kinds, .inl (k 2, 256, aI v_this_kinds))]) [0, 1] rfl, va_K.moved hW.alike hK, hD.sub (ws' := [(a_this, .inr (0, [.ref a_this_values, .ref a_this_kinds, .int v_this_table, .double v_this_guard, .double v_this_ratio, .int v_this_bridging, .int v_this_length, .int v_this_guessColumn, .double v_this_guessError, .double v_this_guessValue])), (a_this_kinds, .inl (k 2, 256, aI v_this_kinds))]) [0, 1] (by decide) rfl⟩, hS.F ht⟩) hS.2.2 dX1_restsOnBroken_83
        · skip
          have hf := if_f c6 hf
          refine lv_iload_n hx hb dX1_restsOnBroken_58 rfl (lv_at hl 1 rfl) ?_
          refine lv_iconst (v := 2) hx hb dX1_restsOnBroken_59 (by decide) ?_
          refine lv_icmp_lt (tgt := 82) hx hb dX1_restsOnBroken_60 (by decide) (fun c7 => ?_) (fun c7 => ?_)
          · skip
            have hf := if_t c7 hf
            refine lv_iconst (v := 0) hx hb dX1_restsOnBroken_82 (by decide) ?_
            have ho := Option.some.inj hf
            subst ho
            exact W.zret (v := (0 : Int32)) (ty := .boolean) hx hb hr rfl (fun t ht hW => ⟨⟨(0 : Int32), (), rfl, rfl, by rw [ht]; exact hP.sub (ws' := [(a_this, .inr (0, [.ref a_this_values, .ref a_this_kinds, .int v_this_table, .double v_this_guard, .double v_this_ratio, .int v_this_bridging, .int v_this_length, .int v_this_guessColumn, .double v_this_guessError, .double v_this_guessValue])), (a_this_kinds, .inl (k 2, 256, aI v_this_kinds))]) [0, 1] rfl, va_K.moved hW.alike hK, hD.sub (ws' := [(a_this, .inr (0, [.ref a_this_values, .ref a_this_kinds, .int v_this_table, .double v_this_guard, .double v_this_ratio, .int v_this_bridging, .int v_this_length, .int v_this_guessColumn, .double v_this_guessError, .double v_this_guessValue])), (a_this_kinds, .inl (k 2, 256, aI v_this_kinds))]) [0, 1] (by decide) rfl⟩, hS.F ht⟩) hS.2.2 dX1_restsOnBroken_83
          · skip
            have hf := if_f c7 hf
            refine lv_aload_n hx hb dX1_restsOnBroken_63 rfl (lv_at hl 0 rfl) ?_
            refine va_get (D := D) (ci := 0) (v := .ref a_this_kinds) (C := RX1) (T := TX1) (N := 10) hx hb hts hinX1_X1_restsOnBroken hown hK hP 0 rfl rfl 1 (by decide) (hts (.fieldLink RX1 15 "LimitTables$Grid" "kinds" "[I") (by decide +kernel)) (fun _ h9 => h9) rfl dX1_restsOnBroken_64 ?_
            refine lv_iload_n hx hb dX1_restsOnBroken_67 rfl (lv_at hl 2 rfl) ?_
            refine lv_bipush (v := 16) hx hb dX1_restsOnBroken_68 (by decide) ?_
            refine lv_isub hx hb dX1_restsOnBroken_70 ?_
            refine lv_iconst (v := 1) hx hb dX1_restsOnBroken_71 (by decide) ?_
            refine lv_iadd hx hb dX1_restsOnBroken_72 ?_
            obtain ⟨g8, hf⟩ := gD_h hf
            refine va_iald hx hb hK hP 1 2 rfl rfl (inb_in g8) dX1_restsOnBroken_73 ?_
            refine lv_iconst (v := 2) hx hb dX1_restsOnBroken_74 (by decide) ?_
            refine lv_icmp_lt (tgt := 82) hx hb dX1_restsOnBroken_75 (by decide) (fun c9 => ?_) (fun c9 => ?_)
            · skip
              have hf := if_t c9 hf
              refine lv_iconst (v := 0) hx hb dX1_restsOnBroken_82 (by decide) ?_
              have ho := Option.some.inj hf
              subst ho
              exact W.zret (v := (0 : Int32)) (ty := .boolean) hx hb hr rfl (fun t ht hW => ⟨⟨(0 : Int32), (), rfl, rfl, by rw [ht]; exact hP.sub (ws' := [(a_this, .inr (0, [.ref a_this_values, .ref a_this_kinds, .int v_this_table, .double v_this_guard, .double v_this_ratio, .int v_this_bridging, .int v_this_length, .int v_this_guessColumn, .double v_this_guessError, .double v_this_guessValue])), (a_this_kinds, .inl (k 2, 256, aI v_this_kinds))]) [0, 1] rfl, va_K.moved hW.alike hK, hD.sub (ws' := [(a_this, .inr (0, [.ref a_this_values, .ref a_this_kinds, .int v_this_table, .double v_this_guard, .double v_this_ratio, .int v_this_bridging, .int v_this_length, .int v_this_guessColumn, .double v_this_guessError, .double v_this_guessValue])), (a_this_kinds, .inl (k 2, 256, aI v_this_kinds))]) [0, 1] (by decide) rfl⟩, hS.F ht⟩) hS.2.2 dX1_restsOnBroken_83
            · skip
              have hf := if_f c9 hf
              refine lv_iconst (v := 1) hx hb dX1_restsOnBroken_78 (by decide) ?_
              refine lv_goto (tgt := 83) hx hb dX1_restsOnBroken_79 (by decide) ?_
              have ho := Option.some.inj hf
              subst ho
              exact W.zret (v := (1 : Int32)) (ty := .boolean) hx hb hr rfl (fun t ht hW => ⟨⟨(1 : Int32), (), rfl, rfl, by rw [ht]; exact hP.sub (ws' := [(a_this, .inr (0, [.ref a_this_values, .ref a_this_kinds, .int v_this_table, .double v_this_guard, .double v_this_ratio, .int v_this_bridging, .int v_this_length, .int v_this_guessColumn, .double v_this_guessError, .double v_this_guessValue])), (a_this_kinds, .inl (k 2, 256, aI v_this_kinds))]) [0, 1] rfl, va_K.moved hW.alike hK, hD.sub (ws' := [(a_this, .inr (0, [.ref a_this_values, .ref a_this_kinds, .int v_this_table, .double v_this_guard, .double v_this_ratio, .int v_this_bridging, .int v_this_length, .int v_this_guessColumn, .double v_this_guessError, .double v_this_guessValue])), (a_this_kinds, .inl (k 2, 256, aI v_this_kinds))]) [0, 1] (by decide) rfl⟩, hS.F ht⟩) hS.2.2 dX1_restsOnBroken_83
      · skip
        have hf := if_t c5 hf
        refine lv_aload_n hx hb dX1_restsOnBroken_32 rfl (lv_at hl 0 rfl) ?_
        refine va_get (D := D) (ci := 0) (v := .ref a_this_kinds) (C := RX1) (T := TX1) (N := 10) hx hb hts hinX1_X1_restsOnBroken hown hK hP 0 rfl rfl 1 (by decide) (hts (.fieldLink RX1 15 "LimitTables$Grid" "kinds" "[I") (by decide +kernel)) (fun _ h9 => h9) rfl dX1_restsOnBroken_33 ?_
        refine lv_iload_n hx hb dX1_restsOnBroken_36 rfl (lv_at hl 2 rfl) ?_
        refine lv_iconst (v := 2) hx hb dX1_restsOnBroken_37 (by decide) ?_
        refine lv_iadd hx hb dX1_restsOnBroken_38 ?_
        obtain ⟨g10, hf⟩ := gD_h hf
        refine va_iald hx hb hK hP 1 2 rfl rfl (inb_in g10) dX1_restsOnBroken_39 ?_
        refine lv_iconst (v := 2) hx hb dX1_restsOnBroken_40 (by decide) ?_
        refine lv_icmp_lt (tgt := 48) hx hb dX1_restsOnBroken_41 (by decide) (fun c11 => ?_) (fun c11 => ?_)
        · skip
          have hf := if_t c11 hf
          refine lv_iconst (v := 0) hx hb dX1_restsOnBroken_48 (by decide) ?_
          have ho := Option.some.inj hf
          subst ho
          exact W.zret (v := (0 : Int32)) (ty := .boolean) hx hb hr rfl (fun t ht hW => ⟨⟨(0 : Int32), (), rfl, rfl, by rw [ht]; exact hP.sub (ws' := [(a_this, .inr (0, [.ref a_this_values, .ref a_this_kinds, .int v_this_table, .double v_this_guard, .double v_this_ratio, .int v_this_bridging, .int v_this_length, .int v_this_guessColumn, .double v_this_guessError, .double v_this_guessValue])), (a_this_kinds, .inl (k 2, 256, aI v_this_kinds))]) [0, 1] rfl, va_K.moved hW.alike hK, hD.sub (ws' := [(a_this, .inr (0, [.ref a_this_values, .ref a_this_kinds, .int v_this_table, .double v_this_guard, .double v_this_ratio, .int v_this_bridging, .int v_this_length, .int v_this_guessColumn, .double v_this_guessError, .double v_this_guessValue])), (a_this_kinds, .inl (k 2, 256, aI v_this_kinds))]) [0, 1] (by decide) rfl⟩, hS.F ht⟩) hS.2.2 dX1_restsOnBroken_49
        · skip
          have hf := if_f c11 hf
          refine lv_iconst (v := 1) hx hb dX1_restsOnBroken_44 (by decide) ?_
          refine lv_goto (tgt := 49) hx hb dX1_restsOnBroken_45 (by decide) ?_
          have ho := Option.some.inj hf
          subst ho
          exact W.zret (v := (1 : Int32)) (ty := .boolean) hx hb hr rfl (fun t ht hW => ⟨⟨(1 : Int32), (), rfl, rfl, by rw [ht]; exact hP.sub (ws' := [(a_this, .inr (0, [.ref a_this_values, .ref a_this_kinds, .int v_this_table, .double v_this_guard, .double v_this_ratio, .int v_this_bridging, .int v_this_length, .int v_this_guessColumn, .double v_this_guessError, .double v_this_guessValue])), (a_this_kinds, .inl (k 2, 256, aI v_this_kinds))]) [0, 1] rfl, va_K.moved hW.alike hK, hD.sub (ws' := [(a_this, .inr (0, [.ref a_this_values, .ref a_this_kinds, .int v_this_table, .double v_this_guard, .double v_this_ratio, .int v_this_bridging, .int v_this_length, .int v_this_guessColumn, .double v_this_guessError, .double v_this_guessValue])), (a_this_kinds, .inl (k 2, 256, aI v_this_kinds))]) [0, 1] (by decide) rfl⟩, hS.F ht⟩) hS.2.2 dX1_restsOnBroken_49
    · skip
      have hf := if_f c4 hf
      refine lv_iconst (v := 1) hx hb dX1_restsOnBroken_22 (by decide) ?_
      have ho := Option.some.inj hf
      subst ho
      exact W.zret (v := (1 : Int32)) (ty := .boolean) hx hb hr rfl (fun t ht hW => ⟨⟨(1 : Int32), (), rfl, rfl, by rw [ht]; exact hP.sub (ws' := [(a_this, .inr (0, [.ref a_this_values, .ref a_this_kinds, .int v_this_table, .double v_this_guard, .double v_this_ratio, .int v_this_bridging, .int v_this_length, .int v_this_guessColumn, .double v_this_guessError, .double v_this_guessValue])), (a_this_kinds, .inl (k 2, 256, aI v_this_kinds))]) [0, 1] rfl, va_K.moved hW.alike hK, hD.sub (ws' := [(a_this, .inr (0, [.ref a_this_values, .ref a_this_kinds, .int v_this_table, .double v_this_guard, .double v_this_ratio, .int v_this_bridging, .int v_this_length, .int v_this_guessColumn, .double v_this_guessError, .double v_this_guessValue])), (a_this_kinds, .inl (k 2, 256, aI v_this_kinds))]) [0, 1] (by decide) rfl⟩, hS.F ht⟩) hS.2.2 dX1_restsOnBroken_23
theorem hinX1_X1_makeEntry : ∀ w ∈ wsX10, w ∈ wsX1_makeEntry := by decide +kernel
def p_X1_makeEntry (v_this_values : Nat → UInt64) (v_this_kinds : Nat → Int32) (v_this_table : Int32) (v_this_guard : UInt64) (v_this_ratio : UInt64) (v_this_bridging : Int32) (p1 : Int32) (p2 : Int32) : Option ((Nat → UInt64) × (Nat → Int32)) := (p_X1_restsOnBroken v_this_kinds v_this_table p1 (((p1 * (16 : Int32)) + p2) - (16 : Int32))).bind fun x1 => (if x1 = 0 then (if v_this_table = (2 : Int32) then (p_X1_makeOfThree v_this_values v_this_kinds v_this_guard v_this_bridging ((p1 * (16 : Int32)) + p2)).bind fun x7 => some (x7.1, x7.2) else (if v_this_table = (3 : Int32) then (p_X1_makeByRatio v_this_values v_this_kinds v_this_guard v_this_ratio v_this_bridging p1 ((p1 * (16 : Int32)) + p2)).bind fun x6 => some (x6.1, x6.2) else (p_X1_makeByInverse v_this_values v_this_kinds v_this_table v_this_guard v_this_bridging p1 ((p1 * (16 : Int32)) + p2)).bind fun x5 => some (x5.1, x5.2))) else (p_X1_put v_this_values v_this_kinds ((p1 * (16 : Int32)) + p2) FP.dconst0 (3 : Int32)).bind fun x8 => some (x8.1, x8.2))
abbrev rm_X1_makeEntry : Room := { frames := 3, cells := 0, slots := 0, locals := 80 }
set_option maxHeartbeats 4000000 in
set_option maxRecDepth 100000 in
theorem mt_X1_makeEntry (l : Launch) (D : va_G) (k : Nat → ClassId) (a_this a_this_values a_this_kinds : Nat) (sz : Nat) (v_this_values : Nat → UInt64) (v_this_kinds : Nat → Int32) (v_this_table : Int32) (v_this_guard : UInt64) (v_this_ratio : UInt64) (v_this_bridging : Int32) (v_this_length : Int32) (v_this_guessColumn : Int32) (v_this_guessError : UInt64) (v_this_guessValue : UInt64) (p1 : Int32) (p2 : Int32) (o : (Nat → UInt64) × (Nat → Int32)) (hf : p_X1_makeEntry v_this_values v_this_kinds v_this_table v_this_guard v_this_ratio v_this_bridging p1 p2 = some o)  : Met l yX1_makeEntry wsX1_makeEntry rm_X1_makeEntry (va_Pc [.ref a_this, .int p1, .int p2] (bW D k sz [(a_this, .inr (0, [.ref a_this_values, .ref a_this_kinds, .int v_this_table, .double v_this_guard, .double v_this_ratio, .int v_this_bridging, .int v_this_length, .int v_this_guessColumn, .double v_this_guessError, .double v_this_guessValue])), (a_this_values, .inl (k 1, 256, aD v_this_values)), (a_this_kinds, .inl (k 2, 256, aI v_this_kinds))])) (va_Qv (fun (_ : Unit) => True) (fun _ => bO D k (va_A [(a_this, .inr (0, [.ref a_this_values, .ref a_this_kinds, .int v_this_table, .double v_this_guard, .double v_this_ratio, .int v_this_bridging, .int v_this_length, .int v_this_guessColumn, .double v_this_guessError, .double v_this_guessValue])), (a_this_values, .inl (k 1, 256, aD v_this_values)), (a_this_kinds, .inl (k 2, 256, aI v_this_kinds))] sz) [(a_this, .inr (0, [.ref a_this_values, .ref a_this_kinds, .int v_this_table, .double v_this_guard, .double v_this_ratio, .int v_this_bridging, .int v_this_length, .int v_this_guessColumn, .double v_this_guessError, .double v_this_guessValue])), (a_this_values, .inl (k 1, 256, aD o.1)), (a_this_kinds, .inl (k 2, 256, aI o.2))]) (va_A [(a_this, .inr (0, [.ref a_this_values, .ref a_this_kinds, .int v_this_table, .double v_this_guard, .double v_this_ratio, .int v_this_bridging, .int v_this_length, .int v_this_guessColumn, .double v_this_guessError, .double v_this_guessValue])), (a_this_values, .inl (k 1, 256, aD v_this_values)), (a_this_kinds, .inl (k 2, 256, aI v_this_kinds))] sz)) 0 0 (va_A [(a_this, .inr (0, [.ref a_this_values, .ref a_this_kinds, .int v_this_table, .double v_this_guard, .double v_this_ratio, .int v_this_bridging, .int v_this_length, .int v_this_guessColumn, .double v_this_guessError, .double v_this_guessValue])), (a_this_values, .inl (k 1, 256, aD v_this_values)), (a_this_kinds, .inl (k 2, 256, aI v_this_kinds))] sz) := by
  unfold p_X1_makeEntry at hf
  refine Met.ofW (cc := cX1_makeEntry) (maxL := 4) (ret := none) (by decide) rfl ?_
  intro p e s m args below meth c s₁ B hml hv
  obtain ⟨rfl, hsz, hP, hK, hD0⟩ := hv
  have hx := B.exec
  have hb := B.bytes
  have hr := B.returns
  have hts := atoms_spec (ws := wsX1_makeEntry) B.pre
  have hown : s.vm.findClass RX1 = some m.cls := findClass_of_methodNamed B.named
  have hlocks := B.notSynchronized
  subst hsz
  have hD := hD0.self (sz := s.heap.size)
  generalize hAe : va_A [(a_this, .inr (0, [.ref a_this_values, .ref a_this_kinds, .int v_this_table, .double v_this_guard, .double v_this_ratio, .int v_this_bridging, .int v_this_length, .int v_this_guessColumn, .double v_this_guessError, .double v_this_guessValue])), (a_this_values, .inl (k 1, 256, aD v_this_values)), (a_this_kinds, .inl (k 2, 256, aI v_this_kinds))] s.heap.size = A at hD ⊢
  have hA : ∀ q : Nat, s.heap.size ≤ q → A q := fun q h => by rw [← hAe]; exact Or.inr h
  have hS : va_S A s.heap s.heap [] := va_S.rf
  have hl := lv_entry [.ref a_this, .int p1, .int p2] (n := 4) (Nat.le_of_ble_eq_true rfl)
  rw [lg_entry_eq]
  generalize (lg_sl [.ref a_this, .int p1, .int p2] ++ List.replicate (4 - (lg_sl [.ref a_this, .int p1, .int p2]).length) Slot.unset).toArray = ls at hl ⊢
  have hl : lv_has ls 4 [(0, .ref a_this), (1, .int p1), (2, .int p2)] := hl
  obtain ⟨H, hHe⟩ : ∃ H, H = s.heap := ⟨_, rfl⟩
  have hP : va_P D vwCl [(a_this, .inr (0, [.ref a_this_values, .ref a_this_kinds, .int v_this_table, .double v_this_guard, .double v_this_ratio, .int v_this_bridging, .int v_this_length, .int v_this_guessColumn, .double v_this_guessError, .double v_this_guessValue])), (a_this_values, .inl (k 1, 256, aD v_this_values)), (a_this_kinds, .inl (k 2, 256, aI v_this_kinds))] H := by rw [hHe]; exact hP
  have hS : va_S A s.heap H [] := by rw [hHe]; exact hS
  rw [← hHe]
  obtain ⟨locs, hLe⟩ : ∃ locs : List Loc, locs = [] := ⟨_, rfl⟩
  rw [← hLe] at hS ⊢
  clear hLe
  refine lv_iload_n hx hb dX1_makeEntry_0 rfl (lv_at hl 1 rfl) ?_
  refine lv_bipush (v := 16) hx hb dX1_makeEntry_1 (by decide) ?_
  refine lv_imul hx hb dX1_makeEntry_3 ?_
  refine lv_iload_n hx hb dX1_makeEntry_4 rfl (lv_at hl 2 rfl) ?_
  refine lv_iadd hx hb dX1_makeEntry_5 ?_
  refine lv_istore_n (lv' := [(3, .int ((p1 * (16 : Int32)) + p2)), (0, .ref a_this), (1, .int p1), (2, .int p2)]) hx hb dX1_makeEntry_6 rfl hl (by decide) rfl (fun ls hl => ?_)
  refine lv_aload_n hx hb dX1_makeEntry_7 rfl (lv_at hl 1 rfl) ?_
  refine lv_iload_n hx hb dX1_makeEntry_8 rfl (lv_at hl 2 rfl) ?_
  refine lv_iload_n hx hb dX1_makeEntry_9 rfl (lv_at hl 0 rfl) ?_
  refine lv_bipush (v := 16) hx hb dX1_makeEntry_10 (by decide) ?_
  refine lv_isub hx hb dX1_makeEntry_12 ?_
  obtain ⟨x1, hx1, hf⟩ := bind_s hf
  refine cc_i (r := x1) (wc := [(a_this, .inr (0, [.ref a_this_values, .ref a_this_kinds, .int v_this_table, .double v_this_guard, .double v_this_ratio, .int v_this_bridging, .int v_this_length, .int v_this_guessColumn, .double v_this_guessError, .double v_this_guessValue])), (a_this_kinds, .inl (k 2, 256, aI v_this_kinds))]) (wr := [(a_this_values, .inl (k 1, 256, aD v_this_values))]) (w1 := [(a_this, .inr (0, [.ref a_this_values, .ref a_this_kinds, .int v_this_table, .double v_this_guard, .double v_this_ratio, .int v_this_bridging, .int v_this_length, .int v_this_guessColumn, .double v_this_guessError, .double v_this_guessValue])), (a_this_kinds, .inl (k 2, 256, aI v_this_kinds))]) (va_runV (As := [.int p1, .int (((p1 * (16 : Int32)) + p2) - (16 : Int32))]) (rest := []) ⟨hx, hb, hml, hown, hts⟩ (mt_X1_restsOnBroken l D k a_this a_this_values a_this_kinds _ v_this_kinds v_this_table v_this_guard v_this_ratio v_this_bridging v_this_length v_this_guessColumn v_this_guessError v_this_guessValue p1 (((p1 * (16 : Int32)) + p2) - (16 : Int32)) x1 hx1) (cwV 2 hts gX1_makeEntry_X1_restsOnBroken rfl rfl rfl (by decide +kernel) ⟨(Nat.le_of_ble_eq_true rfl), (Nat.le_of_ble_eq_true rfl)⟩) (cc_pv (wc := [(a_this, .inr (0, [.ref a_this_values, .ref a_this_kinds, .int v_this_table, .double v_this_guard, .double v_this_ratio, .int v_this_bridging, .int v_this_length, .int v_this_guessColumn, .double v_this_guessError, .double v_this_guessValue])), (a_this_kinds, .inl (k 2, 256, aI v_this_kinds))]) hK hP hD [0, 2] (by decide) rfl rfl 0 0 rfl rfl rfl) rfl rfl hl.1 rfl (lv_room (Nat.le_of_ble_eq_true rfl)) dX1_makeEntry_13 ⟨Nat.zero_le _, Nat.zero_le _⟩) hP hD hS hA [0, 2] [1] rfl rfl (by decide) (by decide) (fun H locs hP hD hS => ?_)
  have hP : va_P D vwCl [(a_this_values, .inl (k 1, 256, aD v_this_values)), (a_this, .inr (0, [.ref a_this_values, .ref a_this_kinds, .int v_this_table, .double v_this_guard, .double v_this_ratio, .int v_this_bridging, .int v_this_length, .int v_this_guessColumn, .double v_this_guessError, .double v_this_guessValue])), (a_this_kinds, .inl (k 2, 256, aI v_this_kinds))] H := hP
  have hD : va_D A [(a_this_values, .inl (k 1, 256, aD v_this_values)), (a_this, .inr (0, [.ref a_this_values, .ref a_this_kinds, .int v_this_table, .double v_this_guard, .double v_this_ratio, .int v_this_bridging, .int v_this_length, .int v_this_guessColumn, .double v_this_guessError, .double v_this_guessValue])), (a_this_kinds, .inl (k 2, 256, aI v_this_kinds))] := hD
  refine lv_if_eq (tgt := 29) hx hb dX1_makeEntry_16 (by decide) (fun c2 => ?_) (fun c2 => ?_)
  · skip
    have hf := if_t c2 hf
    refine lv_aload_n hx hb dX1_makeEntry_29 rfl (lv_at hl 1 rfl) ?_
    refine va_get (D := D) (ci := 0) (v := .int v_this_table) (C := RX1) (T := TX1) (N := 10) hx hb hts hinX1_X1_makeEntry hown hK hP 1 rfl rfl 2 (by decide) (hts (.fieldLink RX1 19 "LimitTables$Grid" "table" "I") (by decide +kernel)) (fun _ h9 => h9) rfl dX1_makeEntry_30 ?_
    refine lv_iconst (v := 2) hx hb dX1_makeEntry_33 (by decide) ?_
    refine lv_icmp_ne (tgt := 45) hx hb dX1_makeEntry_34 (by decide) (fun c3 => ?_) (fun c3 => ?_)
    · skip
      have hf := if_f c3 hf
      refine lv_aload_n hx hb dX1_makeEntry_45 rfl (lv_at hl 1 rfl) ?_
      refine va_get (D := D) (ci := 0) (v := .int v_this_table) (C := RX1) (T := TX1) (N := 10) hx hb hts hinX1_X1_makeEntry hown hK hP 1 rfl rfl 2 (by decide) (hts (.fieldLink RX1 19 "LimitTables$Grid" "table" "I") (by decide +kernel)) (fun _ h9 => h9) rfl dX1_makeEntry_46 ?_
      refine lv_iconst (v := 3) hx hb dX1_makeEntry_49 (by decide) ?_
      refine lv_icmp_ne (tgt := 62) hx hb dX1_makeEntry_50 (by decide) (fun c4 => ?_) (fun c4 => ?_)
      · skip
        have hf := if_f c4 hf
        refine lv_aload_n hx hb dX1_makeEntry_62 rfl (lv_at hl 1 rfl) ?_
        refine lv_iload_n hx hb dX1_makeEntry_63 rfl (lv_at hl 2 rfl) ?_
        refine lv_iload_n hx hb dX1_makeEntry_64 rfl (lv_at hl 0 rfl) ?_
        obtain ⟨x5, hx5, hf⟩ := bind_s hf
        refine cc_v (wc := [(a_this, .inr (0, [.ref a_this_values, .ref a_this_kinds, .int v_this_table, .double v_this_guard, .double v_this_ratio, .int v_this_bridging, .int v_this_length, .int v_this_guessColumn, .double v_this_guessError, .double v_this_guessValue])), (a_this_values, .inl (k 1, 256, aD v_this_values)), (a_this_kinds, .inl (k 2, 256, aI v_this_kinds))]) (wr := []) (w1 := [(a_this, .inr (0, [.ref a_this_values, .ref a_this_kinds, .int v_this_table, .double v_this_guard, .double v_this_ratio, .int v_this_bridging, .int v_this_length, .int v_this_guessColumn, .double v_this_guessError, .double v_this_guessValue])), (a_this_values, .inl (k 1, 256, aD x5.1)), (a_this_kinds, .inl (k 2, 256, aI x5.2))]) (va_runV (As := [.int p1, .int ((p1 * (16 : Int32)) + p2)]) (rest := []) ⟨hx, hb, hml, hown, hts⟩ (mt_X1_makeByInverse l D k a_this a_this_values a_this_kinds _ v_this_values v_this_kinds v_this_table v_this_guard v_this_ratio v_this_bridging v_this_length v_this_guessColumn v_this_guessError v_this_guessValue p1 ((p1 * (16 : Int32)) + p2) x5 hx5) (cwV 2 hts gX1_makeEntry_X1_makeByInverse rfl rfl rfl (by decide +kernel) ⟨(Nat.le_of_ble_eq_true rfl), (Nat.le_of_ble_eq_true rfl)⟩) (cc_pv (wc := [(a_this, .inr (0, [.ref a_this_values, .ref a_this_kinds, .int v_this_table, .double v_this_guard, .double v_this_ratio, .int v_this_bridging, .int v_this_length, .int v_this_guessColumn, .double v_this_guessError, .double v_this_guessValue])), (a_this_values, .inl (k 1, 256, aD v_this_values)), (a_this_kinds, .inl (k 2, 256, aI v_this_kinds))]) hK hP hD [1, 0, 2] (by decide) rfl rfl 0 1 rfl rfl rfl) rfl rfl hl.1 rfl (lv_room (Nat.le_of_ble_eq_true rfl)) dX1_makeEntry_65 ⟨Nat.zero_le _, Nat.zero_le _⟩) hP hD hS hA [1, 0, 2] [] rfl rfl (by decide) (by decide) (fun H locs hP hD hS => ?_)
        have hP : va_P D vwCl [(a_this, .inr (0, [.ref a_this_values, .ref a_this_kinds, .int v_this_table, .double v_this_guard, .double v_this_ratio, .int v_this_bridging, .int v_this_length, .int v_this_guessColumn, .double v_this_guessError, .double v_this_guessValue])), (a_this_values, .inl (k 1, 256, aD x5.1)), (a_this_kinds, .inl (k 2, 256, aI x5.2))] H := hP
        have hD : va_D A [(a_this, .inr (0, [.ref a_this_values, .ref a_this_kinds, .int v_this_table, .double v_this_guard, .double v_this_ratio, .int v_this_bridging, .int v_this_length, .int v_this_guessColumn, .double v_this_guessError, .double v_this_guessValue])), (a_this_values, .inl (k 1, 256, aD x5.1)), (a_this_kinds, .inl (k 2, 256, aI x5.2))] := hD
        have ho := Option.some.inj hf
        subst ho
        exact W.vret hx hb hr (fun t ht hW => ⟨⟨(), rfl, trivial, by rw [ht]; exact hP.sub (ws' := [(a_this, .inr (0, [.ref a_this_values, .ref a_this_kinds, .int v_this_table, .double v_this_guard, .double v_this_ratio, .int v_this_bridging, .int v_this_length, .int v_this_guessColumn, .double v_this_guessError, .double v_this_guessValue])), (a_this_values, .inl (k 1, 256, aD x5.1)), (a_this_kinds, .inl (k 2, 256, aI x5.2))]) [0, 1, 2] rfl, va_K.moved hW.alike hK, hD.sub (ws' := [(a_this, .inr (0, [.ref a_this_values, .ref a_this_kinds, .int v_this_table, .double v_this_guard, .double v_this_ratio, .int v_this_bridging, .int v_this_length, .int v_this_guessColumn, .double v_this_guessError, .double v_this_guessValue])), (a_this_values, .inl (k 1, 256, aD x5.1)), (a_this_kinds, .inl (k 2, 256, aI x5.2))]) [0, 1, 2] (by decide) rfl⟩, hS.F ht⟩) hS.2.2 dX1_makeEntry_68
      · skip
        have hf := if_t c4 hf
        refine lv_aload_n hx hb dX1_makeEntry_53 rfl (lv_at hl 1 rfl) ?_
        refine lv_iload_n hx hb dX1_makeEntry_54 rfl (lv_at hl 2 rfl) ?_
        refine lv_iload_n hx hb dX1_makeEntry_55 rfl (lv_at hl 0 rfl) ?_
        obtain ⟨x6, hx6, hf⟩ := bind_s hf
        refine cc_v (wc := [(a_this, .inr (0, [.ref a_this_values, .ref a_this_kinds, .int v_this_table, .double v_this_guard, .double v_this_ratio, .int v_this_bridging, .int v_this_length, .int v_this_guessColumn, .double v_this_guessError, .double v_this_guessValue])), (a_this_values, .inl (k 1, 256, aD v_this_values)), (a_this_kinds, .inl (k 2, 256, aI v_this_kinds))]) (wr := []) (w1 := [(a_this, .inr (0, [.ref a_this_values, .ref a_this_kinds, .int v_this_table, .double v_this_guard, .double v_this_ratio, .int v_this_bridging, .int v_this_length, .int v_this_guessColumn, .double v_this_guessError, .double v_this_guessValue])), (a_this_values, .inl (k 1, 256, aD x6.1)), (a_this_kinds, .inl (k 2, 256, aI x6.2))]) (va_runV (As := [.int p1, .int ((p1 * (16 : Int32)) + p2)]) (rest := []) ⟨hx, hb, hml, hown, hts⟩ (mt_X1_makeByRatio l D k a_this a_this_values a_this_kinds _ v_this_values v_this_kinds v_this_table v_this_guard v_this_ratio v_this_bridging v_this_length v_this_guessColumn v_this_guessError v_this_guessValue p1 ((p1 * (16 : Int32)) + p2) x6 hx6) (cwV 2 hts gX1_makeEntry_X1_makeByRatio rfl rfl rfl (by decide +kernel) ⟨(Nat.le_of_ble_eq_true rfl), (Nat.le_of_ble_eq_true rfl)⟩) (cc_pv (wc := [(a_this, .inr (0, [.ref a_this_values, .ref a_this_kinds, .int v_this_table, .double v_this_guard, .double v_this_ratio, .int v_this_bridging, .int v_this_length, .int v_this_guessColumn, .double v_this_guessError, .double v_this_guessValue])), (a_this_values, .inl (k 1, 256, aD v_this_values)), (a_this_kinds, .inl (k 2, 256, aI v_this_kinds))]) hK hP hD [1, 0, 2] (by decide) rfl rfl 0 1 rfl rfl rfl) rfl rfl hl.1 rfl (lv_room (Nat.le_of_ble_eq_true rfl)) dX1_makeEntry_56 ⟨Nat.zero_le _, Nat.zero_le _⟩) hP hD hS hA [1, 0, 2] [] rfl rfl (by decide) (by decide) (fun H locs hP hD hS => ?_)
        have hP : va_P D vwCl [(a_this, .inr (0, [.ref a_this_values, .ref a_this_kinds, .int v_this_table, .double v_this_guard, .double v_this_ratio, .int v_this_bridging, .int v_this_length, .int v_this_guessColumn, .double v_this_guessError, .double v_this_guessValue])), (a_this_values, .inl (k 1, 256, aD x6.1)), (a_this_kinds, .inl (k 2, 256, aI x6.2))] H := hP
        have hD : va_D A [(a_this, .inr (0, [.ref a_this_values, .ref a_this_kinds, .int v_this_table, .double v_this_guard, .double v_this_ratio, .int v_this_bridging, .int v_this_length, .int v_this_guessColumn, .double v_this_guessError, .double v_this_guessValue])), (a_this_values, .inl (k 1, 256, aD x6.1)), (a_this_kinds, .inl (k 2, 256, aI x6.2))] := hD
        refine lv_goto (tgt := 68) hx hb dX1_makeEntry_59 (by decide) ?_
        have ho := Option.some.inj hf
        subst ho
        exact W.vret hx hb hr (fun t ht hW => ⟨⟨(), rfl, trivial, by rw [ht]; exact hP.sub (ws' := [(a_this, .inr (0, [.ref a_this_values, .ref a_this_kinds, .int v_this_table, .double v_this_guard, .double v_this_ratio, .int v_this_bridging, .int v_this_length, .int v_this_guessColumn, .double v_this_guessError, .double v_this_guessValue])), (a_this_values, .inl (k 1, 256, aD x6.1)), (a_this_kinds, .inl (k 2, 256, aI x6.2))]) [0, 1, 2] rfl, va_K.moved hW.alike hK, hD.sub (ws' := [(a_this, .inr (0, [.ref a_this_values, .ref a_this_kinds, .int v_this_table, .double v_this_guard, .double v_this_ratio, .int v_this_bridging, .int v_this_length, .int v_this_guessColumn, .double v_this_guessError, .double v_this_guessValue])), (a_this_values, .inl (k 1, 256, aD x6.1)), (a_this_kinds, .inl (k 2, 256, aI x6.2))]) [0, 1, 2] (by decide) rfl⟩, hS.F ht⟩) hS.2.2 dX1_makeEntry_68
    · skip
      have hf := if_t c3 hf
      refine lv_aload_n hx hb dX1_makeEntry_37 rfl (lv_at hl 1 rfl) ?_
      refine lv_iload_n hx hb dX1_makeEntry_38 rfl (lv_at hl 0 rfl) ?_
      obtain ⟨x7, hx7, hf⟩ := bind_s hf
      refine cc_v (wc := [(a_this, .inr (0, [.ref a_this_values, .ref a_this_kinds, .int v_this_table, .double v_this_guard, .double v_this_ratio, .int v_this_bridging, .int v_this_length, .int v_this_guessColumn, .double v_this_guessError, .double v_this_guessValue])), (a_this_values, .inl (k 1, 256, aD v_this_values)), (a_this_kinds, .inl (k 2, 256, aI v_this_kinds))]) (wr := []) (w1 := [(a_this, .inr (0, [.ref a_this_values, .ref a_this_kinds, .int v_this_table, .double v_this_guard, .double v_this_ratio, .int v_this_bridging, .int v_this_length, .int v_this_guessColumn, .double v_this_guessError, .double v_this_guessValue])), (a_this_values, .inl (k 1, 256, aD x7.1)), (a_this_kinds, .inl (k 2, 256, aI x7.2))]) (va_runV (As := [.int ((p1 * (16 : Int32)) + p2)]) (rest := []) ⟨hx, hb, hml, hown, hts⟩ (mt_X1_makeOfThree l D k a_this a_this_values a_this_kinds _ v_this_values v_this_kinds v_this_table v_this_guard v_this_ratio v_this_bridging v_this_length v_this_guessColumn v_this_guessError v_this_guessValue ((p1 * (16 : Int32)) + p2) x7 hx7) (cwV 1 hts gX1_makeEntry_X1_makeOfThree rfl rfl rfl (by decide +kernel) ⟨(Nat.le_of_ble_eq_true rfl), (Nat.le_of_ble_eq_true rfl)⟩) (cc_pv (wc := [(a_this, .inr (0, [.ref a_this_values, .ref a_this_kinds, .int v_this_table, .double v_this_guard, .double v_this_ratio, .int v_this_bridging, .int v_this_length, .int v_this_guessColumn, .double v_this_guessError, .double v_this_guessValue])), (a_this_values, .inl (k 1, 256, aD v_this_values)), (a_this_kinds, .inl (k 2, 256, aI v_this_kinds))]) hK hP hD [1, 0, 2] (by decide) rfl rfl 0 1 rfl rfl rfl) rfl rfl hl.1 rfl (lv_room (Nat.le_of_ble_eq_true rfl)) dX1_makeEntry_39 ⟨Nat.zero_le _, Nat.zero_le _⟩) hP hD hS hA [1, 0, 2] [] rfl rfl (by decide) (by decide) (fun H locs hP hD hS => ?_)
      have hP : va_P D vwCl [(a_this, .inr (0, [.ref a_this_values, .ref a_this_kinds, .int v_this_table, .double v_this_guard, .double v_this_ratio, .int v_this_bridging, .int v_this_length, .int v_this_guessColumn, .double v_this_guessError, .double v_this_guessValue])), (a_this_values, .inl (k 1, 256, aD x7.1)), (a_this_kinds, .inl (k 2, 256, aI x7.2))] H := hP
      have hD : va_D A [(a_this, .inr (0, [.ref a_this_values, .ref a_this_kinds, .int v_this_table, .double v_this_guard, .double v_this_ratio, .int v_this_bridging, .int v_this_length, .int v_this_guessColumn, .double v_this_guessError, .double v_this_guessValue])), (a_this_values, .inl (k 1, 256, aD x7.1)), (a_this_kinds, .inl (k 2, 256, aI x7.2))] := hD
      refine lv_goto (tgt := 68) hx hb dX1_makeEntry_42 (by decide) ?_
      have ho := Option.some.inj hf
      subst ho
      exact W.vret hx hb hr (fun t ht hW => ⟨⟨(), rfl, trivial, by rw [ht]; exact hP.sub (ws' := [(a_this, .inr (0, [.ref a_this_values, .ref a_this_kinds, .int v_this_table, .double v_this_guard, .double v_this_ratio, .int v_this_bridging, .int v_this_length, .int v_this_guessColumn, .double v_this_guessError, .double v_this_guessValue])), (a_this_values, .inl (k 1, 256, aD x7.1)), (a_this_kinds, .inl (k 2, 256, aI x7.2))]) [0, 1, 2] rfl, va_K.moved hW.alike hK, hD.sub (ws' := [(a_this, .inr (0, [.ref a_this_values, .ref a_this_kinds, .int v_this_table, .double v_this_guard, .double v_this_ratio, .int v_this_bridging, .int v_this_length, .int v_this_guessColumn, .double v_this_guessError, .double v_this_guessValue])), (a_this_values, .inl (k 1, 256, aD x7.1)), (a_this_kinds, .inl (k 2, 256, aI x7.2))]) [0, 1, 2] (by decide) rfl⟩, hS.F ht⟩) hS.2.2 dX1_makeEntry_68
  · skip
    have hf := if_f c2 hf
    refine lv_aload_n hx hb dX1_makeEntry_19 rfl (lv_at hl 1 rfl) ?_
    refine lv_iload_n hx hb dX1_makeEntry_20 rfl (lv_at hl 0 rfl) ?_
    refine lv_dconst0 hx hb dX1_makeEntry_21 ?_
    refine lv_iconst (v := 3) hx hb dX1_makeEntry_22 (by decide) ?_
    obtain ⟨x8, hx8, hf⟩ := bind_s hf
    refine cc_v (wc := [(a_this, .inr (0, [.ref a_this_values, .ref a_this_kinds, .int v_this_table, .double v_this_guard, .double v_this_ratio, .int v_this_bridging, .int v_this_length, .int v_this_guessColumn, .double v_this_guessError, .double v_this_guessValue])), (a_this_values, .inl (k 1, 256, aD v_this_values)), (a_this_kinds, .inl (k 2, 256, aI v_this_kinds))]) (wr := []) (w1 := [(a_this, .inr (0, [.ref a_this_values, .ref a_this_kinds, .int v_this_table, .double v_this_guard, .double v_this_ratio, .int v_this_bridging, .int v_this_length, .int v_this_guessColumn, .double v_this_guessError, .double v_this_guessValue])), (a_this_values, .inl (k 1, 256, aD x8.1)), (a_this_kinds, .inl (k 2, 256, aI x8.2))]) (va_runV (As := [.int ((p1 * (16 : Int32)) + p2), .double FP.dconst0, .int (3 : Int32)]) (rest := []) ⟨hx, hb, hml, hown, hts⟩ (mt_X1_put l D k a_this a_this_values a_this_kinds _ v_this_values v_this_kinds v_this_table v_this_guard v_this_ratio v_this_bridging v_this_length v_this_guessColumn v_this_guessError v_this_guessValue ((p1 * (16 : Int32)) + p2) FP.dconst0 (3 : Int32) x8 hx8) (cwV 3 hts gX1_makeEntry_X1_put rfl rfl rfl (by decide +kernel) ⟨(Nat.le_of_ble_eq_true rfl), (Nat.le_of_ble_eq_true rfl)⟩) (cc_pv (wc := [(a_this, .inr (0, [.ref a_this_values, .ref a_this_kinds, .int v_this_table, .double v_this_guard, .double v_this_ratio, .int v_this_bridging, .int v_this_length, .int v_this_guessColumn, .double v_this_guessError, .double v_this_guessValue])), (a_this_values, .inl (k 1, 256, aD v_this_values)), (a_this_kinds, .inl (k 2, 256, aI v_this_kinds))]) hK hP hD [1, 0, 2] (by decide) rfl rfl 0 1 rfl rfl rfl) rfl rfl hl.1 rfl (lv_room (Nat.le_of_ble_eq_true rfl)) dX1_makeEntry_23 ⟨Nat.zero_le _, Nat.zero_le _⟩) hP hD hS hA [1, 0, 2] [] rfl rfl (by decide) (by decide) (fun H locs hP hD hS => ?_)
    have hP : va_P D vwCl [(a_this, .inr (0, [.ref a_this_values, .ref a_this_kinds, .int v_this_table, .double v_this_guard, .double v_this_ratio, .int v_this_bridging, .int v_this_length, .int v_this_guessColumn, .double v_this_guessError, .double v_this_guessValue])), (a_this_values, .inl (k 1, 256, aD x8.1)), (a_this_kinds, .inl (k 2, 256, aI x8.2))] H := hP
    have hD : va_D A [(a_this, .inr (0, [.ref a_this_values, .ref a_this_kinds, .int v_this_table, .double v_this_guard, .double v_this_ratio, .int v_this_bridging, .int v_this_length, .int v_this_guessColumn, .double v_this_guessError, .double v_this_guessValue])), (a_this_values, .inl (k 1, 256, aD x8.1)), (a_this_kinds, .inl (k 2, 256, aI x8.2))] := hD
    refine lv_goto (tgt := 68) hx hb dX1_makeEntry_26 (by decide) ?_
    have ho := Option.some.inj hf
    subst ho
    exact W.vret hx hb hr (fun t ht hW => ⟨⟨(), rfl, trivial, by rw [ht]; exact hP.sub (ws' := [(a_this, .inr (0, [.ref a_this_values, .ref a_this_kinds, .int v_this_table, .double v_this_guard, .double v_this_ratio, .int v_this_bridging, .int v_this_length, .int v_this_guessColumn, .double v_this_guessError, .double v_this_guessValue])), (a_this_values, .inl (k 1, 256, aD x8.1)), (a_this_kinds, .inl (k 2, 256, aI x8.2))]) [0, 1, 2] rfl, va_K.moved hW.alike hK, hD.sub (ws' := [(a_this, .inr (0, [.ref a_this_values, .ref a_this_kinds, .int v_this_table, .double v_this_guard, .double v_this_ratio, .int v_this_bridging, .int v_this_length, .int v_this_guessColumn, .double v_this_guessError, .double v_this_guessValue])), (a_this_values, .inl (k 1, 256, aD x8.1)), (a_this_kinds, .inl (k 2, 256, aI x8.2))]) [0, 1, 2] (by decide) rfl⟩, hS.F ht⟩) hS.2.2 dX1_makeEntry_68
theorem hinX1_X1_manyIn : ∀ w ∈ wsX10, w ∈ wsX1_manyIn := by decide +kernel
def p_X1_manyIn (v_this_table : Int32) (p1 : Int32) (p2 : Int32) : Option (Int32) := (if v_this_table = (2 : Int32) then (if 0 ≤ (p2 - ((2 : Int32) * p1)) then some (p2 - ((2 : Int32) * p1)) else some (0 : Int32)) else (if 0 ≤ (p2 - p1) then some (p2 - p1) else some (0 : Int32)))
abbrev rm_X1_manyIn : Room := { frames := 0, cells := 0, slots := 0, locals := 0 }
set_option maxHeartbeats 4000000 in
set_option maxRecDepth 100000 in
theorem mt_X1_manyIn (l : Launch) (D : va_G) (k : Nat → ClassId) (a_this a_this_values a_this_kinds : Nat) (sz : Nat) (v_this_table : Int32) (v_this_guard : UInt64) (v_this_ratio : UInt64) (v_this_bridging : Int32) (v_this_length : Int32) (v_this_guessColumn : Int32) (v_this_guessError : UInt64) (v_this_guessValue : UInt64) (p1 : Int32) (p2 : Int32) (o : Int32) (hf : p_X1_manyIn v_this_table p1 p2 = some o)  : Met l yX1_manyIn wsX1_manyIn rm_X1_manyIn (va_Pc [.ref a_this, .int p1, .int p2] (bW D k sz [(a_this, .inr (0, [.ref a_this_values, .ref a_this_kinds, .int v_this_table, .double v_this_guard, .double v_this_ratio, .int v_this_bridging, .int v_this_length, .int v_this_guessColumn, .double v_this_guessError, .double v_this_guessValue]))])) (va_Qi (fun (r : Int32) (_ : Unit) => r = o) (fun _ => bO D k (va_A [(a_this, .inr (0, [.ref a_this_values, .ref a_this_kinds, .int v_this_table, .double v_this_guard, .double v_this_ratio, .int v_this_bridging, .int v_this_length, .int v_this_guessColumn, .double v_this_guessError, .double v_this_guessValue]))] sz) [(a_this, .inr (0, [.ref a_this_values, .ref a_this_kinds, .int v_this_table, .double v_this_guard, .double v_this_ratio, .int v_this_bridging, .int v_this_length, .int v_this_guessColumn, .double v_this_guessError, .double v_this_guessValue]))]) (va_A [(a_this, .inr (0, [.ref a_this_values, .ref a_this_kinds, .int v_this_table, .double v_this_guard, .double v_this_ratio, .int v_this_bridging, .int v_this_length, .int v_this_guessColumn, .double v_this_guessError, .double v_this_guessValue]))] sz)) 0 0 (va_A [(a_this, .inr (0, [.ref a_this_values, .ref a_this_kinds, .int v_this_table, .double v_this_guard, .double v_this_ratio, .int v_this_bridging, .int v_this_length, .int v_this_guessColumn, .double v_this_guessError, .double v_this_guessValue]))] sz) := by
  unfold p_X1_manyIn at hf
  refine Met.ofW (cc := cX1_manyIn) (maxL := 4) (ret := (some .int)) (by decide) rfl ?_
  intro p e s m args below meth c s₁ B hml hv
  obtain ⟨rfl, hsz, hP, hK, hD0⟩ := hv
  have hx := B.exec
  have hb := B.bytes
  have hr := B.returns
  have hts := atoms_spec (ws := wsX1_manyIn) B.pre
  have hown : s.vm.findClass RX1 = some m.cls := findClass_of_methodNamed B.named
  have hlocks := B.notSynchronized
  subst hsz
  have hD := hD0.self (sz := s.heap.size)
  generalize hAe : va_A [(a_this, .inr (0, [.ref a_this_values, .ref a_this_kinds, .int v_this_table, .double v_this_guard, .double v_this_ratio, .int v_this_bridging, .int v_this_length, .int v_this_guessColumn, .double v_this_guessError, .double v_this_guessValue]))] s.heap.size = A at hD ⊢
  have hA : ∀ q : Nat, s.heap.size ≤ q → A q := fun q h => by rw [← hAe]; exact Or.inr h
  have hS : va_S A s.heap s.heap [] := va_S.rf
  have hl := lv_entry [.ref a_this, .int p1, .int p2] (n := 4) (Nat.le_of_ble_eq_true rfl)
  rw [lg_entry_eq]
  generalize (lg_sl [.ref a_this, .int p1, .int p2] ++ List.replicate (4 - (lg_sl [.ref a_this, .int p1, .int p2]).length) Slot.unset).toArray = ls at hl ⊢
  have hl : lv_has ls 4 [(0, .ref a_this), (1, .int p1), (2, .int p2)] := hl
  obtain ⟨H, hHe⟩ : ∃ H, H = s.heap := ⟨_, rfl⟩
  have hP : va_P D vwCl [(a_this, .inr (0, [.ref a_this_values, .ref a_this_kinds, .int v_this_table, .double v_this_guard, .double v_this_ratio, .int v_this_bridging, .int v_this_length, .int v_this_guessColumn, .double v_this_guessError, .double v_this_guessValue]))] H := by rw [hHe]; exact hP
  have hS : va_S A s.heap H [] := by rw [hHe]; exact hS
  rw [← hHe]
  obtain ⟨locs, hLe⟩ : ∃ locs : List Loc, locs = [] := ⟨_, rfl⟩
  rw [← hLe] at hS ⊢
  clear hLe
  refine lv_aload_n hx hb dX1_manyIn_0 rfl (lv_at hl 0 rfl) ?_
  refine va_get (D := D) (ci := 0) (v := .int v_this_table) (C := RX1) (T := TX1) (N := 10) hx hb hts hinX1_X1_manyIn hown hK hP 0 rfl rfl 2 (by decide) (hts (.fieldLink RX1 19 "LimitTables$Grid" "table" "I") (by decide +kernel)) (fun _ h9 => h9) rfl dX1_manyIn_1 ?_
  refine lv_iconst (v := 2) hx hb dX1_manyIn_4 (by decide) ?_
  refine lv_icmp_ne (tgt := 16) hx hb dX1_manyIn_5 (by decide) (fun c1 => ?_) (fun c1 => ?_)
  · skip
    have hf := if_f c1 hf
    refine lv_iload_n hx hb dX1_manyIn_16 rfl (lv_at hl 2 rfl) ?_
    refine lv_iload_n hx hb dX1_manyIn_17 rfl (lv_at hl 1 rfl) ?_
    refine lv_isub hx hb dX1_manyIn_18 ?_
    refine lv_istore_n (lv' := [(3, .int (p2 - p1)), (0, .ref a_this), (1, .int p1), (2, .int p2)]) hx hb dX1_manyIn_19 rfl hl (by decide) rfl (fun ls hl => ?_)
    refine lv_iload_n hx hb dX1_manyIn_20 rfl (lv_at hl 0 rfl) ?_
    refine lv_if_ge (tgt := 28) hx hb dX1_manyIn_21 (by decide) (fun c2 => ?_) (fun c2 => ?_)
    · skip
      have hf := if_t c2 hf
      refine lv_iload_n hx hb dX1_manyIn_28 rfl (lv_at hl 0 rfl) ?_
      have ho := Option.some.inj hf
      subst ho
      exact W.iret (v := (p2 - p1)) hx hb hr (fun t ht hW => ⟨⟨(p2 - p1), (), rfl, rfl, by rw [ht]; exact hP.sub (ws' := [(a_this, .inr (0, [.ref a_this_values, .ref a_this_kinds, .int v_this_table, .double v_this_guard, .double v_this_ratio, .int v_this_bridging, .int v_this_length, .int v_this_guessColumn, .double v_this_guessError, .double v_this_guessValue]))]) [0] rfl, va_K.moved hW.alike hK, hD.sub (ws' := [(a_this, .inr (0, [.ref a_this_values, .ref a_this_kinds, .int v_this_table, .double v_this_guard, .double v_this_ratio, .int v_this_bridging, .int v_this_length, .int v_this_guessColumn, .double v_this_guessError, .double v_this_guessValue]))]) [0] (by decide) rfl⟩, hS.F ht⟩) hS.2.2 dX1_manyIn_29
    · skip
      have hf := if_f c2 hf
      refine lv_iconst (v := 0) hx hb dX1_manyIn_24 (by decide) ?_
      refine lv_goto (tgt := 29) hx hb dX1_manyIn_25 (by decide) ?_
      have ho := Option.some.inj hf
      subst ho
      exact W.iret (v := (0 : Int32)) hx hb hr (fun t ht hW => ⟨⟨(0 : Int32), (), rfl, rfl, by rw [ht]; exact hP.sub (ws' := [(a_this, .inr (0, [.ref a_this_values, .ref a_this_kinds, .int v_this_table, .double v_this_guard, .double v_this_ratio, .int v_this_bridging, .int v_this_length, .int v_this_guessColumn, .double v_this_guessError, .double v_this_guessValue]))]) [0] rfl, va_K.moved hW.alike hK, hD.sub (ws' := [(a_this, .inr (0, [.ref a_this_values, .ref a_this_kinds, .int v_this_table, .double v_this_guard, .double v_this_ratio, .int v_this_bridging, .int v_this_length, .int v_this_guessColumn, .double v_this_guessError, .double v_this_guessValue]))]) [0] (by decide) rfl⟩, hS.F ht⟩) hS.2.2 dX1_manyIn_29
  · skip
    have hf := if_t c1 hf
    refine lv_iload_n hx hb dX1_manyIn_8 rfl (lv_at hl 2 rfl) ?_
    refine lv_iconst (v := 2) hx hb dX1_manyIn_9 (by decide) ?_
    refine lv_iload_n hx hb dX1_manyIn_10 rfl (lv_at hl 1 rfl) ?_
    refine lv_imul hx hb dX1_manyIn_11 ?_
    refine lv_isub hx hb dX1_manyIn_12 ?_
    refine lv_goto (tgt := 19) hx hb dX1_manyIn_13 (by decide) ?_
    refine lv_istore_n (lv' := [(3, .int (p2 - ((2 : Int32) * p1))), (0, .ref a_this), (1, .int p1), (2, .int p2)]) hx hb dX1_manyIn_19 rfl hl (by decide) rfl (fun ls hl => ?_)
    refine lv_iload_n hx hb dX1_manyIn_20 rfl (lv_at hl 0 rfl) ?_
    refine lv_if_ge (tgt := 28) hx hb dX1_manyIn_21 (by decide) (fun c3 => ?_) (fun c3 => ?_)
    · skip
      have hf := if_t c3 hf
      refine lv_iload_n hx hb dX1_manyIn_28 rfl (lv_at hl 0 rfl) ?_
      have ho := Option.some.inj hf
      subst ho
      exact W.iret (v := (p2 - ((2 : Int32) * p1))) hx hb hr (fun t ht hW => ⟨⟨(p2 - ((2 : Int32) * p1)), (), rfl, rfl, by rw [ht]; exact hP.sub (ws' := [(a_this, .inr (0, [.ref a_this_values, .ref a_this_kinds, .int v_this_table, .double v_this_guard, .double v_this_ratio, .int v_this_bridging, .int v_this_length, .int v_this_guessColumn, .double v_this_guessError, .double v_this_guessValue]))]) [0] rfl, va_K.moved hW.alike hK, hD.sub (ws' := [(a_this, .inr (0, [.ref a_this_values, .ref a_this_kinds, .int v_this_table, .double v_this_guard, .double v_this_ratio, .int v_this_bridging, .int v_this_length, .int v_this_guessColumn, .double v_this_guessError, .double v_this_guessValue]))]) [0] (by decide) rfl⟩, hS.F ht⟩) hS.2.2 dX1_manyIn_29
    · skip
      have hf := if_f c3 hf
      refine lv_iconst (v := 0) hx hb dX1_manyIn_24 (by decide) ?_
      refine lv_goto (tgt := 29) hx hb dX1_manyIn_25 (by decide) ?_
      have ho := Option.some.inj hf
      subst ho
      exact W.iret (v := (0 : Int32)) hx hb hr (fun t ht hW => ⟨⟨(0 : Int32), (), rfl, rfl, by rw [ht]; exact hP.sub (ws' := [(a_this, .inr (0, [.ref a_this_values, .ref a_this_kinds, .int v_this_table, .double v_this_guard, .double v_this_ratio, .int v_this_bridging, .int v_this_length, .int v_this_guessColumn, .double v_this_guessError, .double v_this_guessValue]))]) [0] rfl, va_K.moved hW.alike hK, hD.sub (ws' := [(a_this, .inr (0, [.ref a_this_values, .ref a_this_kinds, .int v_this_table, .double v_this_guard, .double v_this_ratio, .int v_this_bridging, .int v_this_length, .int v_this_guessColumn, .double v_this_guessError, .double v_this_guessValue]))]) [0] (by decide) rfl⟩, hS.F ht⟩) hS.2.2 dX1_manyIn_29
theorem hinX1_X1_build : ∀ w ∈ wsX10, w ∈ wsX1_build := by decide +kernel
theorem hinX5_X1_build : ∀ w ∈ wsX50, w ∈ wsX1_build := by decide +kernel
theorem hinX4_X1_build : ∀ w ∈ wsX40, w ∈ wsX1_build := by decide +kernel
def p_X1_build_L107 (v_p1 : (((Nat → UInt64) × Int32) × ((Nat → UInt64) × Int32) × (Nat → UInt64) × Int32)) (p3 : Int32) : Nat → Int32 → Int32 → Int32 → (Nat → UInt64) → (Nat → Int32) → Option (Int32 × (Nat → UInt64) × (Nat → Int32))
  | 0, _, _, _, _, _ => none
  | n107 + 1, x107_5, x107_6, x107_7, w107_this_values, w107_this_kinds => (if x107_6 ≤ x107_7 then some (x107_5, w107_this_values, w107_this_kinds) else (p_X1_makeEntry w107_this_values w107_this_kinds p3 (v_p1.2.2.1 (0 : Int32).toNatClampNeg) (v_p1.2.2.1 (1 : Int32).toNatClampNeg) v_p1.2.2.2 x107_5 x107_7).bind fun x3002 => p_X1_build_L107 v_p1 p3 n107 x107_5 x107_6 (x107_7 + 1) x3002.1 x3002.2)

def p_X1_build_L85 (v_p1 : (((Nat → UInt64) × Int32) × ((Nat → UInt64) × Int32) × (Nat → UInt64) × Int32)) (p3 : Int32) : Nat → Int32 → (Nat → UInt64) → (Nat → Int32) → Option ((Nat → UInt64) × (Nat → Int32) × Int32 × UInt64 × UInt64 × Int32 × Int32)
  | 0, _, _, _ => none
  | n85 + 1, x85_5, w85_this_values, w85_this_kinds => (if (16 : Int32) ≤ x85_5 then some (w85_this_values, w85_this_kinds, p3, (v_p1.2.2.1 (0 : Int32).toNatClampNeg), (v_p1.2.2.1 (1 : Int32).toNatClampNeg), v_p1.2.2.2, v_p1.1.2) else (p_X1_manyIn p3 x85_5 v_p1.1.2).bind fun x2002 => (p_X1_build_L107 v_p1 p3 300 x85_5 x2002 (0 : Int32) w85_this_values w85_this_kinds).bind fun x2003 => p_X1_build_L85 v_p1 p3 n85 (x2003.1 + 1) x2003.2.1 x2003.2.2)

def p_X1_build_L52 (v_p1 : (((Nat → UInt64) × Int32) × ((Nat → UInt64) × Int32) × (Nat → UInt64) × Int32)) : Nat → Int32 → (Nat → UInt64) → (Nat → Int32) → Option ((Nat → UInt64) × (Nat → Int32))
  | 0, _, _, _ => none
  | n52 + 1, x52_5, w52_this_values, w52_this_kinds => (if v_p1.1.2 ≤ x52_5 then some (w52_this_values, w52_this_kinds) else gD (inb x52_5 16) ((p_X1_put w52_this_values w52_this_kinds x52_5 (v_p1.1.1 x52_5.toNatClampNeg) (0 : Int32)).bind fun x1003 => p_X1_build_L52 v_p1 n52 (x52_5 + 1) x1003.1 x1003.2))

def p_X1_build_L85_1 (v_p1 : (((Nat → UInt64) × Int32) × ((Nat → UInt64) × Int32) × (Nat → UInt64) × Int32)) (p3 : Int32) : Nat → Int32 → (Nat → UInt64) → (Nat → Int32) → Option ((Nat → UInt64) × (Nat → Int32) × Int32 × UInt64 × UInt64 × Int32 × Int32)
  | 0, _, _, _ => none
  | n85 + 1, x85_5, w85_this_values, w85_this_kinds => (if (16 : Int32) ≤ x85_5 then some (w85_this_values, w85_this_kinds, p3, (v_p1.2.2.1 (0 : Int32).toNatClampNeg), (v_p1.2.2.1 (1 : Int32).toNatClampNeg), v_p1.2.2.2, v_p1.2.1.2) else (p_X1_manyIn p3 x85_5 v_p1.2.1.2).bind fun x2002 => (p_X1_build_L107 v_p1 p3 300 x85_5 x2002 (0 : Int32) w85_this_values w85_this_kinds).bind fun x2003 => p_X1_build_L85_1 v_p1 p3 n85 (x2003.1 + 1) x2003.2.1 x2003.2.2)

def p_X1_build_L52_1 (v_p1 : (((Nat → UInt64) × Int32) × ((Nat → UInt64) × Int32) × (Nat → UInt64) × Int32)) : Nat → Int32 → (Nat → UInt64) → (Nat → Int32) → Option ((Nat → UInt64) × (Nat → Int32))
  | 0, _, _, _ => none
  | n52 + 1, x52_5, w52_this_values, w52_this_kinds => (if v_p1.2.1.2 ≤ x52_5 then some (w52_this_values, w52_this_kinds) else gD (inb x52_5 16) ((p_X1_put w52_this_values w52_this_kinds x52_5 (v_p1.2.1.1 x52_5.toNatClampNeg) (0 : Int32)).bind fun x1003 => p_X1_build_L52_1 v_p1 n52 (x52_5 + 1) x1003.1 x1003.2))

def p_X1_build (v_this_values : Nat → UInt64) (v_this_kinds : Nat → Int32) (v_p1 : (((Nat → UInt64) × Int32) × ((Nat → UInt64) × Int32) × (Nat → UInt64) × Int32)) (p2 : Int32) (p3 : Int32) : Option ((Nat → UInt64) × (Nat → Int32) × Int32 × UInt64 × UInt64 × Int32 × Int32) := (if p2 = 0 then gD (isB v_p1.2.2.2) ((p_X1_build_L52 v_p1 300 (0 : Int32) v_this_values v_this_kinds).bind fun x3 => p_X1_build_L85 v_p1 p3 300 (1 : Int32) x3.1 x3.2) else gD (isB v_p1.2.2.2) ((p_X1_build_L52_1 v_p1 300 (0 : Int32) v_this_values v_this_kinds).bind fun x5 => p_X1_build_L85_1 v_p1 p3 300 (1 : Int32) x5.1 x5.2))
abbrev rm_X1_build : Room := { frames := 4, cells := 0, slots := 0, locals := 103 }
set_option maxHeartbeats 4000000 in
set_option maxRecDepth 100000 in
theorem mt_X1_build (l : Launch) (D : va_G) (k : Nat → ClassId) (a_this a_this_values a_this_kinds a_p1 a_p1_first a_p1_first_numbers a_p1_second a_p1_second_numbers a_p1_settings : Nat) (sz : Nat) (v_this_values : Nat → UInt64) (v_this_kinds : Nat → Int32) (v_this_table : Int32) (v_this_guard : UInt64) (v_this_ratio : UInt64) (v_this_bridging : Int32) (v_this_length : Int32) (v_this_guessColumn : Int32) (v_this_guessError : UInt64) (v_this_guessValue : UInt64) (v_p1 : (((Nat → UInt64) × Int32) × ((Nat → UInt64) × Int32) × (Nat → UInt64) × Int32)) (p2 : Int32) (p3 : Int32) (o : (Nat → UInt64) × (Nat → Int32) × Int32 × UInt64 × UInt64 × Int32 × Int32) (hf : p_X1_build v_this_values v_this_kinds v_p1 p2 p3 = some o)  : Met l yX1_build wsX1_build rm_X1_build (va_Pc [.ref a_this, .ref a_p1, .int p2, .int p3] (bW D k sz [(a_this, .inr (0, [.ref a_this_values, .ref a_this_kinds, .int v_this_table, .double v_this_guard, .double v_this_ratio, .int v_this_bridging, .int v_this_length, .int v_this_guessColumn, .double v_this_guessError, .double v_this_guessValue])), (a_this_values, .inl (k 1, 256, aD v_this_values)), (a_this_kinds, .inl (k 2, 256, aI v_this_kinds)), (a_p1, .inr (3, [.ref a_p1_first, .ref a_p1_second, .ref a_p1_settings, .int v_p1.2.2.2])), (a_p1_first, .inr (2, [.ref a_p1_first_numbers, .int v_p1.1.2])), (a_p1_first_numbers, .inl (k 1, 16, aD v_p1.1.1)), (a_p1_second, .inr (2, [.ref a_p1_second_numbers, .int v_p1.2.1.2])), (a_p1_second_numbers, .inl (k 1, 16, aD v_p1.2.1.1)), (a_p1_settings, .inl (k 1, 3, aD v_p1.2.2.1))])) (va_Qv (fun (_ : Unit) => True) (fun _ => bO D k (va_A [(a_this, .inr (0, [.ref a_this_values, .ref a_this_kinds, .int v_this_table, .double v_this_guard, .double v_this_ratio, .int v_this_bridging, .int v_this_length, .int v_this_guessColumn, .double v_this_guessError, .double v_this_guessValue])), (a_this_values, .inl (k 1, 256, aD v_this_values)), (a_this_kinds, .inl (k 2, 256, aI v_this_kinds)), (a_p1, .inr (3, [.ref a_p1_first, .ref a_p1_second, .ref a_p1_settings, .int v_p1.2.2.2])), (a_p1_first, .inr (2, [.ref a_p1_first_numbers, .int v_p1.1.2])), (a_p1_first_numbers, .inl (k 1, 16, aD v_p1.1.1)), (a_p1_second, .inr (2, [.ref a_p1_second_numbers, .int v_p1.2.1.2])), (a_p1_second_numbers, .inl (k 1, 16, aD v_p1.2.1.1)), (a_p1_settings, .inl (k 1, 3, aD v_p1.2.2.1))] sz) [(a_this, .inr (0, [.ref a_this_values, .ref a_this_kinds, .int o.2.2.1, .double o.2.2.2.1, .double o.2.2.2.2.1, .int o.2.2.2.2.2.1, .int o.2.2.2.2.2.2, .int v_this_guessColumn, .double v_this_guessError, .double v_this_guessValue])), (a_this_values, .inl (k 1, 256, aD o.1)), (a_this_kinds, .inl (k 2, 256, aI o.2.1)), (a_p1, .inr (3, [.ref a_p1_first, .ref a_p1_second, .ref a_p1_settings, .int v_p1.2.2.2])), (a_p1_first, .inr (2, [.ref a_p1_first_numbers, .int v_p1.1.2])), (a_p1_first_numbers, .inl (k 1, 16, aD v_p1.1.1)), (a_p1_second, .inr (2, [.ref a_p1_second_numbers, .int v_p1.2.1.2])), (a_p1_second_numbers, .inl (k 1, 16, aD v_p1.2.1.1)), (a_p1_settings, .inl (k 1, 3, aD v_p1.2.2.1))]) (va_A [(a_this, .inr (0, [.ref a_this_values, .ref a_this_kinds, .int v_this_table, .double v_this_guard, .double v_this_ratio, .int v_this_bridging, .int v_this_length, .int v_this_guessColumn, .double v_this_guessError, .double v_this_guessValue])), (a_this_values, .inl (k 1, 256, aD v_this_values)), (a_this_kinds, .inl (k 2, 256, aI v_this_kinds)), (a_p1, .inr (3, [.ref a_p1_first, .ref a_p1_second, .ref a_p1_settings, .int v_p1.2.2.2])), (a_p1_first, .inr (2, [.ref a_p1_first_numbers, .int v_p1.1.2])), (a_p1_first_numbers, .inl (k 1, 16, aD v_p1.1.1)), (a_p1_second, .inr (2, [.ref a_p1_second_numbers, .int v_p1.2.1.2])), (a_p1_second_numbers, .inl (k 1, 16, aD v_p1.2.1.1)), (a_p1_settings, .inl (k 1, 3, aD v_p1.2.2.1))] sz)) 0 0 (va_A [(a_this, .inr (0, [.ref a_this_values, .ref a_this_kinds, .int v_this_table, .double v_this_guard, .double v_this_ratio, .int v_this_bridging, .int v_this_length, .int v_this_guessColumn, .double v_this_guessError, .double v_this_guessValue])), (a_this_values, .inl (k 1, 256, aD v_this_values)), (a_this_kinds, .inl (k 2, 256, aI v_this_kinds)), (a_p1, .inr (3, [.ref a_p1_first, .ref a_p1_second, .ref a_p1_settings, .int v_p1.2.2.2])), (a_p1_first, .inr (2, [.ref a_p1_first_numbers, .int v_p1.1.2])), (a_p1_first_numbers, .inl (k 1, 16, aD v_p1.1.1)), (a_p1_second, .inr (2, [.ref a_p1_second_numbers, .int v_p1.2.1.2])), (a_p1_second_numbers, .inl (k 1, 16, aD v_p1.2.1.1)), (a_p1_settings, .inl (k 1, 3, aD v_p1.2.2.1))] sz) := by
  unfold p_X1_build at hf
  refine Met.ofW (cc := cX1_build) (maxL := 8) (ret := none) (by decide) rfl ?_
  intro p e s m args below meth c s₁ B hml hv
  obtain ⟨rfl, hsz, hP, hK, hD0⟩ := hv
  have hx := B.exec
  have hb := B.bytes
  have hr := B.returns
  have hts := atoms_spec (ws := wsX1_build) B.pre
  have hown : s.vm.findClass RX1 = some m.cls := findClass_of_methodNamed B.named
  have hlocks := B.notSynchronized
  subst hsz
  have hD := hD0.self (sz := s.heap.size)
  generalize hAe : va_A [(a_this, .inr (0, [.ref a_this_values, .ref a_this_kinds, .int v_this_table, .double v_this_guard, .double v_this_ratio, .int v_this_bridging, .int v_this_length, .int v_this_guessColumn, .double v_this_guessError, .double v_this_guessValue])), (a_this_values, .inl (k 1, 256, aD v_this_values)), (a_this_kinds, .inl (k 2, 256, aI v_this_kinds)), (a_p1, .inr (3, [.ref a_p1_first, .ref a_p1_second, .ref a_p1_settings, .int v_p1.2.2.2])), (a_p1_first, .inr (2, [.ref a_p1_first_numbers, .int v_p1.1.2])), (a_p1_first_numbers, .inl (k 1, 16, aD v_p1.1.1)), (a_p1_second, .inr (2, [.ref a_p1_second_numbers, .int v_p1.2.1.2])), (a_p1_second_numbers, .inl (k 1, 16, aD v_p1.2.1.1)), (a_p1_settings, .inl (k 1, 3, aD v_p1.2.2.1))] s.heap.size = A at hD ⊢
  have hA : ∀ q : Nat, s.heap.size ≤ q → A q := fun q h => by rw [← hAe]; exact Or.inr h
  have hS : va_S A s.heap s.heap [] := va_S.rf
  obtain ⟨Q, hQ⟩ : ∃ Q, Q = MQ below (va_Qv (fun (_ : Unit) => True) (fun _ => bO D k (A) [(a_this, .inr (0, [.ref a_this_values, .ref a_this_kinds, .int o.2.2.1, .double o.2.2.2.1, .double o.2.2.2.2.1, .int o.2.2.2.2.2.1, .int o.2.2.2.2.2.2, .int v_this_guessColumn, .double v_this_guessError, .double v_this_guessValue])), (a_this_values, .inl (k 1, 256, aD o.1)), (a_this_kinds, .inl (k 2, 256, aI o.2.1)), (a_p1, .inr (3, [.ref a_p1_first, .ref a_p1_second, .ref a_p1_settings, .int v_p1.2.2.2])), (a_p1_first, .inr (2, [.ref a_p1_first_numbers, .int v_p1.1.2])), (a_p1_first_numbers, .inl (k 1, 16, aD v_p1.1.1)), (a_p1_second, .inr (2, [.ref a_p1_second_numbers, .int v_p1.2.1.2])), (a_p1_second_numbers, .inl (k 1, 16, aD v_p1.2.1.1)), (a_p1_settings, .inl (k 1, 3, aD v_p1.2.2.1))]) (A)) ([.ref a_this, .ref a_p1, .int p2, .int p3] : List Value).toArray s 0 0 A := ⟨_, rfl⟩
  rw [← hQ]
  have hl := lv_entry [.ref a_this, .ref a_p1, .int p2, .int p3] (n := 8) (Nat.le_of_ble_eq_true rfl)
  rw [lg_entry_eq]
  generalize (lg_sl [.ref a_this, .ref a_p1, .int p2, .int p3] ++ List.replicate (8 - (lg_sl [.ref a_this, .ref a_p1, .int p2, .int p3]).length) Slot.unset).toArray = ls at hl ⊢
  have hl : lv_has ls 8 [(0, .ref a_this), (1, .ref a_p1), (2, .int p2), (3, .int p3)] := hl
  obtain ⟨H, hHe⟩ : ∃ H, H = s.heap := ⟨_, rfl⟩
  have hP : va_P D vwCl [(a_this, .inr (0, [.ref a_this_values, .ref a_this_kinds, .int v_this_table, .double v_this_guard, .double v_this_ratio, .int v_this_bridging, .int v_this_length, .int v_this_guessColumn, .double v_this_guessError, .double v_this_guessValue])), (a_this_values, .inl (k 1, 256, aD v_this_values)), (a_this_kinds, .inl (k 2, 256, aI v_this_kinds)), (a_p1, .inr (3, [.ref a_p1_first, .ref a_p1_second, .ref a_p1_settings, .int v_p1.2.2.2])), (a_p1_first, .inr (2, [.ref a_p1_first_numbers, .int v_p1.1.2])), (a_p1_first_numbers, .inl (k 1, 16, aD v_p1.1.1)), (a_p1_second, .inr (2, [.ref a_p1_second_numbers, .int v_p1.2.1.2])), (a_p1_second_numbers, .inl (k 1, 16, aD v_p1.2.1.1)), (a_p1_settings, .inl (k 1, 3, aD v_p1.2.2.1))] H := by rw [hHe]; exact hP
  have hS : va_S A s.heap H [] := by rw [hHe]; exact hS
  rw [← hHe]
  obtain ⟨locs, hLe⟩ : ∃ locs : List Loc, locs = [] := ⟨_, rfl⟩
  rw [← hLe] at hS ⊢
  clear hLe
  refine lv_aload_n hx hb dX1_build_0 rfl (lv_at hl 1 rfl) ?_
  refine lv_iload_n hx hb dX1_build_1 rfl (lv_at hl 2 rfl) ?_
  by_cases c1 : p2 = 0
  · skip
    have hf := if_t c1 hf
    refine cc_r (r := a_p1_first) (wc := [(a_p1, .inr (3, [.ref a_p1_first, .ref a_p1_second, .ref a_p1_settings, .int v_p1.2.2.2]))]) (wr := [(a_this, .inr (0, [.ref a_this_values, .ref a_this_kinds, .int v_this_table, .double v_this_guard, .double v_this_ratio, .int v_this_bridging, .int v_this_length, .int v_this_guessColumn, .double v_this_guessError, .double v_this_guessValue])), (a_this_values, .inl (k 1, 256, aD v_this_values)), (a_this_kinds, .inl (k 2, 256, aI v_this_kinds)), (a_p1_first, .inr (2, [.ref a_p1_first_numbers, .int v_p1.1.2])), (a_p1_first_numbers, .inl (k 1, 16, aD v_p1.1.1)), (a_p1_second, .inr (2, [.ref a_p1_second_numbers, .int v_p1.2.1.2])), (a_p1_second_numbers, .inl (k 1, 16, aD v_p1.2.1.1)), (a_p1_settings, .inl (k 1, 3, aD v_p1.2.2.1))]) (w1 := [(a_p1, .inr (3, [.ref a_p1_first, .ref a_p1_second, .ref a_p1_settings, .int v_p1.2.2.2]))]) (va_runV (As := [.int p2]) (rest := []) ⟨hx, hb, hml, hown, hts⟩ (mt_X5_rowAt_0 l D k a_p1 a_p1_first a_p1_second a_p1_settings _ v_p1 p2 c1) (cwV 1 hts gX1_build_X5_rowAt rfl rfl rfl (by decide +kernel) ⟨(Nat.le_of_ble_eq_true rfl), (Nat.le_of_ble_eq_true rfl)⟩) (cc_pv (wc := [(a_p1, .inr (3, [.ref a_p1_first, .ref a_p1_second, .ref a_p1_settings, .int v_p1.2.2.2]))]) hK hP hD [3] (by decide) rfl rfl 3 3 rfl rfl rfl) rfl rfl hl.1 rfl (lv_room (Nat.le_of_ble_eq_true rfl)) dX1_build_2 ⟨Nat.zero_le _, Nat.zero_le _⟩) hP hD hS hA [3] [0, 1, 2, 4, 5, 6, 7, 8] rfl rfl (by decide) (by decide) (fun H locs hP hD hS => ?_)
    have hP : va_P D vwCl [(a_this, .inr (0, [.ref a_this_values, .ref a_this_kinds, .int v_this_table, .double v_this_guard, .double v_this_ratio, .int v_this_bridging, .int v_this_length, .int v_this_guessColumn, .double v_this_guessError, .double v_this_guessValue])), (a_this_values, .inl (k 1, 256, aD v_this_values)), (a_this_kinds, .inl (k 2, 256, aI v_this_kinds)), (a_p1_first, .inr (2, [.ref a_p1_first_numbers, .int v_p1.1.2])), (a_p1_first_numbers, .inl (k 1, 16, aD v_p1.1.1)), (a_p1_second, .inr (2, [.ref a_p1_second_numbers, .int v_p1.2.1.2])), (a_p1_second_numbers, .inl (k 1, 16, aD v_p1.2.1.1)), (a_p1_settings, .inl (k 1, 3, aD v_p1.2.2.1)), (a_p1, .inr (3, [.ref a_p1_first, .ref a_p1_second, .ref a_p1_settings, .int v_p1.2.2.2]))] H := hP
    have hD : va_D A [(a_this, .inr (0, [.ref a_this_values, .ref a_this_kinds, .int v_this_table, .double v_this_guard, .double v_this_ratio, .int v_this_bridging, .int v_this_length, .int v_this_guessColumn, .double v_this_guessError, .double v_this_guessValue])), (a_this_values, .inl (k 1, 256, aD v_this_values)), (a_this_kinds, .inl (k 2, 256, aI v_this_kinds)), (a_p1_first, .inr (2, [.ref a_p1_first_numbers, .int v_p1.1.2])), (a_p1_first_numbers, .inl (k 1, 16, aD v_p1.1.1)), (a_p1_second, .inr (2, [.ref a_p1_second_numbers, .int v_p1.2.1.2])), (a_p1_second_numbers, .inl (k 1, 16, aD v_p1.2.1.1)), (a_p1_settings, .inl (k 1, 3, aD v_p1.2.2.1)), (a_p1, .inr (3, [.ref a_p1_first, .ref a_p1_second, .ref a_p1_settings, .int v_p1.2.2.2]))] := hD
    refine lv_astore (lv' := [(4, .ref a_p1_first), (0, .ref a_this), (1, .ref a_p1), (2, .int p2), (3, .int p3)]) hx hb dX1_build_5 hl (by decide) rfl (fun ls hl => ?_)
    refine lv_aload_n hx hb dX1_build_7 rfl (lv_at hl 1 rfl) ?_
    refine lv_iload_n hx hb dX1_build_8 rfl (lv_at hl 4 rfl) ?_
    refine va_put (D := D) (ci := 0) (v := .int p3) (ty := .int) (C := RX1) (T := TX1) (N := 10) hx hb hts hinX1_X1_build tyX1 tyX1_ok nmX1 hown hK hP hD hS 0 rfl rfl 2 (by decide) (hts (.fieldLink RX1 19 "LimitTables$Grid" "table" "I") (by decide +kernel)) (fun _ h9 => h9) rfl (by decide +kernel) rfl rfl (Nat.le_of_ble_eq_true rfl) dX1_build_9 (fun H locs hP hD hS => ?_)
    have hP : va_P D vwCl [(a_this, .inr (0, [.ref a_this_values, .ref a_this_kinds, .int p3, .double v_this_guard, .double v_this_ratio, .int v_this_bridging, .int v_this_length, .int v_this_guessColumn, .double v_this_guessError, .double v_this_guessValue])), (a_this_values, .inl (k 1, 256, aD v_this_values)), (a_this_kinds, .inl (k 2, 256, aI v_this_kinds)), (a_p1_first, .inr (2, [.ref a_p1_first_numbers, .int v_p1.1.2])), (a_p1_first_numbers, .inl (k 1, 16, aD v_p1.1.1)), (a_p1_second, .inr (2, [.ref a_p1_second_numbers, .int v_p1.2.1.2])), (a_p1_second_numbers, .inl (k 1, 16, aD v_p1.2.1.1)), (a_p1_settings, .inl (k 1, 3, aD v_p1.2.2.1)), (a_p1, .inr (3, [.ref a_p1_first, .ref a_p1_second, .ref a_p1_settings, .int v_p1.2.2.2]))] H := hP
    have hD : va_D A [(a_this, .inr (0, [.ref a_this_values, .ref a_this_kinds, .int p3, .double v_this_guard, .double v_this_ratio, .int v_this_bridging, .int v_this_length, .int v_this_guessColumn, .double v_this_guessError, .double v_this_guessValue])), (a_this_values, .inl (k 1, 256, aD v_this_values)), (a_this_kinds, .inl (k 2, 256, aI v_this_kinds)), (a_p1_first, .inr (2, [.ref a_p1_first_numbers, .int v_p1.1.2])), (a_p1_first_numbers, .inl (k 1, 16, aD v_p1.1.1)), (a_p1_second, .inr (2, [.ref a_p1_second_numbers, .int v_p1.2.1.2])), (a_p1_second_numbers, .inl (k 1, 16, aD v_p1.2.1.1)), (a_p1_settings, .inl (k 1, 3, aD v_p1.2.2.1)), (a_p1, .inr (3, [.ref a_p1_first, .ref a_p1_second, .ref a_p1_settings, .int v_p1.2.2.2]))] := hD
    refine lv_aload_n hx hb dX1_build_12 rfl (lv_at hl 1 rfl) ?_
    refine lv_aload_n hx hb dX1_build_13 rfl (lv_at hl 2 rfl) ?_
    refine va_get (D := D) (ci := 3) (v := .ref a_p1_settings) (C := RX5) (T := TX5) (N := 4) hx hb hts hinX5_X1_build hown hK hP 8 rfl rfl 2 (by decide) (hts (.fieldLink RX1 52 "LimitTables$State" "settings" "[D") (by decide +kernel)) (fun _ h9 => h9) rfl dX1_build_14 ?_
    refine lv_iconst (v := 0) hx hb dX1_build_17 (by decide) ?_
    refine va_dald hx hb hK hP 7 1 rfl rfl (inb_in rfl) dX1_build_18 ?_
    refine va_put (D := D) (ci := 0) (v := .double (v_p1.2.2.1 (0 : Int32).toNatClampNeg)) (ty := .double) (C := RX1) (T := TX1) (N := 10) hx hb hts hinX1_X1_build tyX1 tyX1_ok nmX1 hown hK hP hD hS 0 rfl rfl 3 (by decide) (hts (.fieldLink RX1 23 "LimitTables$Grid" "guard" "D") (by decide +kernel)) (fun _ h9 => h9) rfl (by decide +kernel) rfl rfl (Nat.le_of_ble_eq_true rfl) dX1_build_19 (fun H locs hP hD hS => ?_)
    have hP : va_P D vwCl [(a_this, .inr (0, [.ref a_this_values, .ref a_this_kinds, .int p3, .double (v_p1.2.2.1 (0 : Int32).toNatClampNeg), .double v_this_ratio, .int v_this_bridging, .int v_this_length, .int v_this_guessColumn, .double v_this_guessError, .double v_this_guessValue])), (a_this_values, .inl (k 1, 256, aD v_this_values)), (a_this_kinds, .inl (k 2, 256, aI v_this_kinds)), (a_p1_first, .inr (2, [.ref a_p1_first_numbers, .int v_p1.1.2])), (a_p1_first_numbers, .inl (k 1, 16, aD v_p1.1.1)), (a_p1_second, .inr (2, [.ref a_p1_second_numbers, .int v_p1.2.1.2])), (a_p1_second_numbers, .inl (k 1, 16, aD v_p1.2.1.1)), (a_p1_settings, .inl (k 1, 3, aD v_p1.2.2.1)), (a_p1, .inr (3, [.ref a_p1_first, .ref a_p1_second, .ref a_p1_settings, .int v_p1.2.2.2]))] H := hP
    have hD : va_D A [(a_this, .inr (0, [.ref a_this_values, .ref a_this_kinds, .int p3, .double (v_p1.2.2.1 (0 : Int32).toNatClampNeg), .double v_this_ratio, .int v_this_bridging, .int v_this_length, .int v_this_guessColumn, .double v_this_guessError, .double v_this_guessValue])), (a_this_values, .inl (k 1, 256, aD v_this_values)), (a_this_kinds, .inl (k 2, 256, aI v_this_kinds)), (a_p1_first, .inr (2, [.ref a_p1_first_numbers, .int v_p1.1.2])), (a_p1_first_numbers, .inl (k 1, 16, aD v_p1.1.1)), (a_p1_second, .inr (2, [.ref a_p1_second_numbers, .int v_p1.2.1.2])), (a_p1_second_numbers, .inl (k 1, 16, aD v_p1.2.1.1)), (a_p1_settings, .inl (k 1, 3, aD v_p1.2.2.1)), (a_p1, .inr (3, [.ref a_p1_first, .ref a_p1_second, .ref a_p1_settings, .int v_p1.2.2.2]))] := hD
    refine lv_aload_n hx hb dX1_build_22 rfl (lv_at hl 1 rfl) ?_
    refine lv_aload_n hx hb dX1_build_23 rfl (lv_at hl 2 rfl) ?_
    refine va_get (D := D) (ci := 3) (v := .ref a_p1_settings) (C := RX5) (T := TX5) (N := 4) hx hb hts hinX5_X1_build hown hK hP 8 rfl rfl 2 (by decide) (hts (.fieldLink RX1 52 "LimitTables$State" "settings" "[D") (by decide +kernel)) (fun _ h9 => h9) rfl dX1_build_24 ?_
    refine lv_iconst (v := 1) hx hb dX1_build_27 (by decide) ?_
    refine va_dald hx hb hK hP 7 1 rfl rfl (inb_in rfl) dX1_build_28 ?_
    refine va_put (D := D) (ci := 0) (v := .double (v_p1.2.2.1 (1 : Int32).toNatClampNeg)) (ty := .double) (C := RX1) (T := TX1) (N := 10) hx hb hts hinX1_X1_build tyX1 tyX1_ok nmX1 hown hK hP hD hS 0 rfl rfl 4 (by decide) (hts (.fieldLink RX1 27 "LimitTables$Grid" "ratio" "D") (by decide +kernel)) (fun _ h9 => h9) rfl (by decide +kernel) rfl rfl (Nat.le_of_ble_eq_true rfl) dX1_build_29 (fun H locs hP hD hS => ?_)
    have hP : va_P D vwCl [(a_this, .inr (0, [.ref a_this_values, .ref a_this_kinds, .int p3, .double (v_p1.2.2.1 (0 : Int32).toNatClampNeg), .double (v_p1.2.2.1 (1 : Int32).toNatClampNeg), .int v_this_bridging, .int v_this_length, .int v_this_guessColumn, .double v_this_guessError, .double v_this_guessValue])), (a_this_values, .inl (k 1, 256, aD v_this_values)), (a_this_kinds, .inl (k 2, 256, aI v_this_kinds)), (a_p1_first, .inr (2, [.ref a_p1_first_numbers, .int v_p1.1.2])), (a_p1_first_numbers, .inl (k 1, 16, aD v_p1.1.1)), (a_p1_second, .inr (2, [.ref a_p1_second_numbers, .int v_p1.2.1.2])), (a_p1_second_numbers, .inl (k 1, 16, aD v_p1.2.1.1)), (a_p1_settings, .inl (k 1, 3, aD v_p1.2.2.1)), (a_p1, .inr (3, [.ref a_p1_first, .ref a_p1_second, .ref a_p1_settings, .int v_p1.2.2.2]))] H := hP
    have hD : va_D A [(a_this, .inr (0, [.ref a_this_values, .ref a_this_kinds, .int p3, .double (v_p1.2.2.1 (0 : Int32).toNatClampNeg), .double (v_p1.2.2.1 (1 : Int32).toNatClampNeg), .int v_this_bridging, .int v_this_length, .int v_this_guessColumn, .double v_this_guessError, .double v_this_guessValue])), (a_this_values, .inl (k 1, 256, aD v_this_values)), (a_this_kinds, .inl (k 2, 256, aI v_this_kinds)), (a_p1_first, .inr (2, [.ref a_p1_first_numbers, .int v_p1.1.2])), (a_p1_first_numbers, .inl (k 1, 16, aD v_p1.1.1)), (a_p1_second, .inr (2, [.ref a_p1_second_numbers, .int v_p1.2.1.2])), (a_p1_second_numbers, .inl (k 1, 16, aD v_p1.2.1.1)), (a_p1_settings, .inl (k 1, 3, aD v_p1.2.2.1)), (a_p1, .inr (3, [.ref a_p1_first, .ref a_p1_second, .ref a_p1_settings, .int v_p1.2.2.2]))] := hD
    refine lv_aload_n hx hb dX1_build_32 rfl (lv_at hl 1 rfl) ?_
    refine lv_aload_n hx hb dX1_build_33 rfl (lv_at hl 2 rfl) ?_
    refine va_get (D := D) (ci := 3) (v := .int v_p1.2.2.2) (C := RX5) (T := TX5) (N := 4) hx hb hts hinX5_X1_build hown hK hP 8 rfl rfl 3 (by decide) (hts (.fieldLink RX1 55 "LimitTables$State" "bridging" "Z") (by decide +kernel)) (fun _ h9 => h9) rfl dX1_build_34 ?_
    obtain ⟨g2, hf⟩ := gD_h hf
    refine va_put (D := D) (ci := 0) (v := .int v_p1.2.2.2) (ty := .boolean) (C := RX1) (T := TX1) (N := 10) hx hb hts hinX1_X1_build tyX1 tyX1_ok nmX1 hown hK hP hD hS 0 rfl rfl 5 (by decide) (hts (.fieldLink RX1 30 "LimitTables$Grid" "bridging" "Z") (by decide +kernel)) (fun _ h9 => h9) rfl (by decide +kernel) (isB_n g2) (isB_f g2) (Nat.le_of_ble_eq_true rfl) dX1_build_37 (fun H locs hP hD hS => ?_)
    have hP : va_P D vwCl [(a_this, .inr (0, [.ref a_this_values, .ref a_this_kinds, .int p3, .double (v_p1.2.2.1 (0 : Int32).toNatClampNeg), .double (v_p1.2.2.1 (1 : Int32).toNatClampNeg), .int v_p1.2.2.2, .int v_this_length, .int v_this_guessColumn, .double v_this_guessError, .double v_this_guessValue])), (a_this_values, .inl (k 1, 256, aD v_this_values)), (a_this_kinds, .inl (k 2, 256, aI v_this_kinds)), (a_p1_first, .inr (2, [.ref a_p1_first_numbers, .int v_p1.1.2])), (a_p1_first_numbers, .inl (k 1, 16, aD v_p1.1.1)), (a_p1_second, .inr (2, [.ref a_p1_second_numbers, .int v_p1.2.1.2])), (a_p1_second_numbers, .inl (k 1, 16, aD v_p1.2.1.1)), (a_p1_settings, .inl (k 1, 3, aD v_p1.2.2.1)), (a_p1, .inr (3, [.ref a_p1_first, .ref a_p1_second, .ref a_p1_settings, .int v_p1.2.2.2]))] H := hP
    have hD : va_D A [(a_this, .inr (0, [.ref a_this_values, .ref a_this_kinds, .int p3, .double (v_p1.2.2.1 (0 : Int32).toNatClampNeg), .double (v_p1.2.2.1 (1 : Int32).toNatClampNeg), .int v_p1.2.2.2, .int v_this_length, .int v_this_guessColumn, .double v_this_guessError, .double v_this_guessValue])), (a_this_values, .inl (k 1, 256, aD v_this_values)), (a_this_kinds, .inl (k 2, 256, aI v_this_kinds)), (a_p1_first, .inr (2, [.ref a_p1_first_numbers, .int v_p1.1.2])), (a_p1_first_numbers, .inl (k 1, 16, aD v_p1.1.1)), (a_p1_second, .inr (2, [.ref a_p1_second_numbers, .int v_p1.2.1.2])), (a_p1_second_numbers, .inl (k 1, 16, aD v_p1.2.1.1)), (a_p1_settings, .inl (k 1, 3, aD v_p1.2.2.1)), (a_p1, .inr (3, [.ref a_p1_first, .ref a_p1_second, .ref a_p1_settings, .int v_p1.2.2.2]))] := hD
    refine lv_aload_n hx hb dX1_build_40 rfl (lv_at hl 1 rfl) ?_
    refine lv_aload hx hb dX1_build_41 (lv_at hl 0 rfl) ?_
    refine va_get (D := D) (ci := 2) (v := .int v_p1.1.2) (C := RX4) (T := TX4) (N := 2) hx hb hts hinX4_X1_build hown hK hP 3 rfl rfl 1 (by decide) (hts (.fieldLink RX1 56 "LimitTables$Row" "length" "I") (by decide +kernel)) (fun _ h9 => h9) rfl dX1_build_43 ?_
    refine va_put (D := D) (ci := 0) (v := .int v_p1.1.2) (ty := .int) (C := RX1) (T := TX1) (N := 10) hx hb hts hinX1_X1_build tyX1 tyX1_ok nmX1 hown hK hP hD hS 0 rfl rfl 6 (by decide) (hts (.fieldLink RX1 34 "LimitTables$Grid" "length" "I") (by decide +kernel)) (fun _ h9 => h9) rfl (by decide +kernel) rfl rfl (Nat.le_of_ble_eq_true rfl) dX1_build_46 (fun H locs hP hD hS => ?_)
    have hP : va_P D vwCl [(a_this, .inr (0, [.ref a_this_values, .ref a_this_kinds, .int p3, .double (v_p1.2.2.1 (0 : Int32).toNatClampNeg), .double (v_p1.2.2.1 (1 : Int32).toNatClampNeg), .int v_p1.2.2.2, .int v_p1.1.2, .int v_this_guessColumn, .double v_this_guessError, .double v_this_guessValue])), (a_this_values, .inl (k 1, 256, aD v_this_values)), (a_this_kinds, .inl (k 2, 256, aI v_this_kinds)), (a_p1_first, .inr (2, [.ref a_p1_first_numbers, .int v_p1.1.2])), (a_p1_first_numbers, .inl (k 1, 16, aD v_p1.1.1)), (a_p1_second, .inr (2, [.ref a_p1_second_numbers, .int v_p1.2.1.2])), (a_p1_second_numbers, .inl (k 1, 16, aD v_p1.2.1.1)), (a_p1_settings, .inl (k 1, 3, aD v_p1.2.2.1)), (a_p1, .inr (3, [.ref a_p1_first, .ref a_p1_second, .ref a_p1_settings, .int v_p1.2.2.2]))] H := hP
    have hD : va_D A [(a_this, .inr (0, [.ref a_this_values, .ref a_this_kinds, .int p3, .double (v_p1.2.2.1 (0 : Int32).toNatClampNeg), .double (v_p1.2.2.1 (1 : Int32).toNatClampNeg), .int v_p1.2.2.2, .int v_p1.1.2, .int v_this_guessColumn, .double v_this_guessError, .double v_this_guessValue])), (a_this_values, .inl (k 1, 256, aD v_this_values)), (a_this_kinds, .inl (k 2, 256, aI v_this_kinds)), (a_p1_first, .inr (2, [.ref a_p1_first_numbers, .int v_p1.1.2])), (a_p1_first_numbers, .inl (k 1, 16, aD v_p1.1.1)), (a_p1_second, .inr (2, [.ref a_p1_second_numbers, .int v_p1.2.1.2])), (a_p1_second_numbers, .inl (k 1, 16, aD v_p1.2.1.1)), (a_p1_settings, .inl (k 1, 3, aD v_p1.2.2.1)), (a_p1, .inr (3, [.ref a_p1_first, .ref a_p1_second, .ref a_p1_settings, .int v_p1.2.2.2]))] := hD
    refine lv_iconst (v := 0) hx hb dX1_build_49 (by decide) ?_
    refine lv_istore (lv' := [(5, .int (0 : Int32)), (4, .ref a_p1_first), (0, .ref a_this), (1, .ref a_p1), (2, .int p2), (3, .int p3)]) hx hb dX1_build_50 hl (by decide) rfl (fun ls hl => ?_)
    obtain ⟨x3, hx3, hf⟩ := bind_s hf
    have X82 : ∀ (H : Heap) (locs : List Loc) (ls : Array Slot), va_P D vwCl [(a_this, .inr (0, [.ref a_this_values, .ref a_this_kinds, .int p3, .double (v_p1.2.2.1 (0 : Int32).toNatClampNeg), .double (v_p1.2.2.1 (1 : Int32).toNatClampNeg), .int v_p1.2.2.2, .int v_p1.1.2, .int v_this_guessColumn, .double v_this_guessError, .double v_this_guessValue])), (a_this_values, .inl (k 1, 256, aD x3.1)), (a_this_kinds, .inl (k 2, 256, aI x3.2)), (a_p1_first, .inr (2, [.ref a_p1_first_numbers, .int v_p1.1.2])), (a_p1_first_numbers, .inl (k 1, 16, aD v_p1.1.1)), (a_p1_second, .inr (2, [.ref a_p1_second_numbers, .int v_p1.2.1.2])), (a_p1_second_numbers, .inl (k 1, 16, aD v_p1.2.1.1)), (a_p1_settings, .inl (k 1, 3, aD v_p1.2.2.1)), (a_p1, .inr (3, [.ref a_p1_first, .ref a_p1_second, .ref a_p1_settings, .int v_p1.2.2.2]))] H → va_D A [(a_this, .inr (0, [.ref a_this_values, .ref a_this_kinds, .int p3, .double (v_p1.2.2.1 (0 : Int32).toNatClampNeg), .double (v_p1.2.2.1 (1 : Int32).toNatClampNeg), .int v_p1.2.2.2, .int v_p1.1.2, .int v_this_guessColumn, .double v_this_guessError, .double v_this_guessValue])), (a_this_values, .inl (k 1, 256, aD x3.1)), (a_this_kinds, .inl (k 2, 256, aI x3.2)), (a_p1_first, .inr (2, [.ref a_p1_first_numbers, .int v_p1.1.2])), (a_p1_first_numbers, .inl (k 1, 16, aD v_p1.1.1)), (a_p1_second, .inr (2, [.ref a_p1_second_numbers, .int v_p1.2.1.2])), (a_p1_second_numbers, .inl (k 1, 16, aD v_p1.2.1.1)), (a_p1_settings, .inl (k 1, 3, aD v_p1.2.2.1)), (a_p1, .inr (3, [.ref a_p1_first, .ref a_p1_second, .ref a_p1_settings, .int v_p1.2.2.2]))] → va_S A s.heap H locs → lv_has ls 8 [(0, .ref a_this)] → W p l e (headSpec wsX1_build rm_X1_build).room s m ([.ref a_this, .ref a_p1, .int p2, .int p3] : List Value).toArray below meth c H locs 0 0 Q (F0 m 82 ls []) := by
      intro H locs ls hP hD hS hl
      refine lv_iconst (v := 1) hx hb dX1_build_82 (by decide) ?_
      refine lv_istore (lv' := [(5, .int (1 : Int32)), (0, .ref a_this)]) hx hb dX1_build_83 hl (by decide) rfl (fun ls hl => ?_)
      have L85 : ∀ (n85 : Nat) (x85_5 : Int32) (w85_this_values : Nat → UInt64) (w85_this_kinds : Nat → Int32) (H : Heap) (locs : List Loc) (ls : Array Slot), va_P D vwCl [(a_this, .inr (0, [.ref a_this_values, .ref a_this_kinds, .int p3, .double (v_p1.2.2.1 (0 : Int32).toNatClampNeg), .double (v_p1.2.2.1 (1 : Int32).toNatClampNeg), .int v_p1.2.2.2, .int v_p1.1.2, .int v_this_guessColumn, .double v_this_guessError, .double v_this_guessValue])), (a_this_values, .inl (k 1, 256, aD w85_this_values)), (a_this_kinds, .inl (k 2, 256, aI w85_this_kinds)), (a_p1_first, .inr (2, [.ref a_p1_first_numbers, .int v_p1.1.2])), (a_p1_first_numbers, .inl (k 1, 16, aD v_p1.1.1)), (a_p1_second, .inr (2, [.ref a_p1_second_numbers, .int v_p1.2.1.2])), (a_p1_second_numbers, .inl (k 1, 16, aD v_p1.2.1.1)), (a_p1_settings, .inl (k 1, 3, aD v_p1.2.2.1)), (a_p1, .inr (3, [.ref a_p1_first, .ref a_p1_second, .ref a_p1_settings, .int v_p1.2.2.2]))] H → va_D A [(a_this, .inr (0, [.ref a_this_values, .ref a_this_kinds, .int p3, .double (v_p1.2.2.1 (0 : Int32).toNatClampNeg), .double (v_p1.2.2.1 (1 : Int32).toNatClampNeg), .int v_p1.2.2.2, .int v_p1.1.2, .int v_this_guessColumn, .double v_this_guessError, .double v_this_guessValue])), (a_this_values, .inl (k 1, 256, aD w85_this_values)), (a_this_kinds, .inl (k 2, 256, aI w85_this_kinds)), (a_p1_first, .inr (2, [.ref a_p1_first_numbers, .int v_p1.1.2])), (a_p1_first_numbers, .inl (k 1, 16, aD v_p1.1.1)), (a_p1_second, .inr (2, [.ref a_p1_second_numbers, .int v_p1.2.1.2])), (a_p1_second_numbers, .inl (k 1, 16, aD v_p1.2.1.1)), (a_p1_settings, .inl (k 1, 3, aD v_p1.2.2.1)), (a_p1, .inr (3, [.ref a_p1_first, .ref a_p1_second, .ref a_p1_settings, .int v_p1.2.2.2]))] → va_S A s.heap H locs → lv_has ls 8 [(0, .ref a_this), (5, .int x85_5)] → p_X1_build_L85 v_p1 p3 n85 x85_5 w85_this_values w85_this_kinds = some o → W p l e (headSpec wsX1_build rm_X1_build).room s m ([.ref a_this, .ref a_p1, .int p2, .int p3] : List Value).toArray below meth c H locs 0 0 Q (F0 m 85 ls []) := by
        intro n85
        induction n85 with
        | zero =>
          intro x85_5 w85_this_values w85_this_kinds H locs ls hP hD hS hl hf
          exact absurd hf (by simp [p_X1_build_L85])
        | succ n85 ih85 =>
          intro x85_5 w85_this_values w85_this_kinds H locs ls hP hD hS hl hf
          rw [p_X1_build_L85] at hf
          refine lv_iload hx hb dX1_build_85 (lv_at hl 1 rfl) ?_
          refine lv_bipush (v := 16) hx hb dX1_build_87 (by decide) ?_
          refine lv_icmp_ge (tgt := 134) hx hb dX1_build_89 (by decide) (fun c2001 => ?_) (fun c2001 => ?_)
          · skip
            have hf := if_t c2001 hf
            have ho := Option.some.inj hf
            subst ho
            rw [hQ]
            exact W.vret hx hb hr (fun t ht hW => ⟨⟨(), rfl, trivial, by rw [ht]; exact hP.sub (ws' := [(a_this, .inr (0, [.ref a_this_values, .ref a_this_kinds, .int p3, .double (v_p1.2.2.1 (0 : Int32).toNatClampNeg), .double (v_p1.2.2.1 (1 : Int32).toNatClampNeg), .int v_p1.2.2.2, .int v_p1.1.2, .int v_this_guessColumn, .double v_this_guessError, .double v_this_guessValue])), (a_this_values, .inl (k 1, 256, aD w85_this_values)), (a_this_kinds, .inl (k 2, 256, aI w85_this_kinds)), (a_p1, .inr (3, [.ref a_p1_first, .ref a_p1_second, .ref a_p1_settings, .int v_p1.2.2.2])), (a_p1_first, .inr (2, [.ref a_p1_first_numbers, .int v_p1.1.2])), (a_p1_first_numbers, .inl (k 1, 16, aD v_p1.1.1)), (a_p1_second, .inr (2, [.ref a_p1_second_numbers, .int v_p1.2.1.2])), (a_p1_second_numbers, .inl (k 1, 16, aD v_p1.2.1.1)), (a_p1_settings, .inl (k 1, 3, aD v_p1.2.2.1))]) [0, 1, 2, 8, 3, 4, 5, 6, 7] rfl, va_K.moved hW.alike hK, hD.sub (ws' := [(a_this, .inr (0, [.ref a_this_values, .ref a_this_kinds, .int p3, .double (v_p1.2.2.1 (0 : Int32).toNatClampNeg), .double (v_p1.2.2.1 (1 : Int32).toNatClampNeg), .int v_p1.2.2.2, .int v_p1.1.2, .int v_this_guessColumn, .double v_this_guessError, .double v_this_guessValue])), (a_this_values, .inl (k 1, 256, aD w85_this_values)), (a_this_kinds, .inl (k 2, 256, aI w85_this_kinds)), (a_p1, .inr (3, [.ref a_p1_first, .ref a_p1_second, .ref a_p1_settings, .int v_p1.2.2.2])), (a_p1_first, .inr (2, [.ref a_p1_first_numbers, .int v_p1.1.2])), (a_p1_first_numbers, .inl (k 1, 16, aD v_p1.1.1)), (a_p1_second, .inr (2, [.ref a_p1_second_numbers, .int v_p1.2.1.2])), (a_p1_second_numbers, .inl (k 1, 16, aD v_p1.2.1.1)), (a_p1_settings, .inl (k 1, 3, aD v_p1.2.2.1))]) [0, 1, 2, 8, 3, 4, 5, 6, 7] (by decide) rfl⟩, hS.F ht⟩) hS.2.2 dX1_build_134
          · skip
            have hf := if_f c2001 hf
            refine lv_aload_n hx hb dX1_build_92 rfl (lv_at hl 0 rfl) ?_
            refine lv_iload hx hb dX1_build_93 (lv_at hl 1 rfl) ?_
            refine lv_aload_n hx hb dX1_build_95 rfl (lv_at hl 0 rfl) ?_
            refine va_get (D := D) (ci := 0) (v := .int v_p1.1.2) (C := RX1) (T := TX1) (N := 10) hx hb hts hinX1_X1_build hown hK hP 0 rfl rfl 6 (by decide) (hts (.fieldLink RX1 34 "LimitTables$Grid" "length" "I") (by decide +kernel)) (fun _ h9 => h9) rfl dX1_build_96 ?_
            obtain ⟨x2002, hx2002, hf⟩ := bind_s hf
            refine cc_i (r := x2002) (wc := [(a_this, .inr (0, [.ref a_this_values, .ref a_this_kinds, .int p3, .double (v_p1.2.2.1 (0 : Int32).toNatClampNeg), .double (v_p1.2.2.1 (1 : Int32).toNatClampNeg), .int v_p1.2.2.2, .int v_p1.1.2, .int v_this_guessColumn, .double v_this_guessError, .double v_this_guessValue]))]) (wr := [(a_this_values, .inl (k 1, 256, aD w85_this_values)), (a_this_kinds, .inl (k 2, 256, aI w85_this_kinds)), (a_p1_first, .inr (2, [.ref a_p1_first_numbers, .int v_p1.1.2])), (a_p1_first_numbers, .inl (k 1, 16, aD v_p1.1.1)), (a_p1_second, .inr (2, [.ref a_p1_second_numbers, .int v_p1.2.1.2])), (a_p1_second_numbers, .inl (k 1, 16, aD v_p1.2.1.1)), (a_p1_settings, .inl (k 1, 3, aD v_p1.2.2.1)), (a_p1, .inr (3, [.ref a_p1_first, .ref a_p1_second, .ref a_p1_settings, .int v_p1.2.2.2]))]) (w1 := [(a_this, .inr (0, [.ref a_this_values, .ref a_this_kinds, .int p3, .double (v_p1.2.2.1 (0 : Int32).toNatClampNeg), .double (v_p1.2.2.1 (1 : Int32).toNatClampNeg), .int v_p1.2.2.2, .int v_p1.1.2, .int v_this_guessColumn, .double v_this_guessError, .double v_this_guessValue]))]) (va_runV (As := [.int x85_5, .int v_p1.1.2]) (rest := []) ⟨hx, hb, hml, hown, hts⟩ (mt_X1_manyIn l D k a_this a_this_values a_this_kinds _ p3 (v_p1.2.2.1 (0 : Int32).toNatClampNeg) (v_p1.2.2.1 (1 : Int32).toNatClampNeg) v_p1.2.2.2 v_p1.1.2 v_this_guessColumn v_this_guessError v_this_guessValue x85_5 v_p1.1.2 x2002 hx2002) (cwV 2 hts gX1_build_X1_manyIn rfl rfl rfl (by decide +kernel) ⟨(Nat.le_of_ble_eq_true rfl), (Nat.le_of_ble_eq_true rfl)⟩) (cc_pv (wc := [(a_this, .inr (0, [.ref a_this_values, .ref a_this_kinds, .int p3, .double (v_p1.2.2.1 (0 : Int32).toNatClampNeg), .double (v_p1.2.2.1 (1 : Int32).toNatClampNeg), .int v_p1.2.2.2, .int v_p1.1.2, .int v_this_guessColumn, .double v_this_guessError, .double v_this_guessValue]))]) hK hP hD [0] (by decide) rfl rfl 0 0 rfl rfl rfl) rfl rfl hl.1 rfl (lv_room (Nat.le_of_ble_eq_true rfl)) dX1_build_99 ⟨Nat.zero_le _, Nat.zero_le _⟩) hP hD hS hA [0] [1, 2, 3, 4, 5, 6, 7, 8] rfl rfl (by decide) (by decide) (fun H locs hP hD hS => ?_)
            have hP : va_P D vwCl [(a_this_values, .inl (k 1, 256, aD w85_this_values)), (a_this_kinds, .inl (k 2, 256, aI w85_this_kinds)), (a_p1_first, .inr (2, [.ref a_p1_first_numbers, .int v_p1.1.2])), (a_p1_first_numbers, .inl (k 1, 16, aD v_p1.1.1)), (a_p1_second, .inr (2, [.ref a_p1_second_numbers, .int v_p1.2.1.2])), (a_p1_second_numbers, .inl (k 1, 16, aD v_p1.2.1.1)), (a_p1_settings, .inl (k 1, 3, aD v_p1.2.2.1)), (a_p1, .inr (3, [.ref a_p1_first, .ref a_p1_second, .ref a_p1_settings, .int v_p1.2.2.2])), (a_this, .inr (0, [.ref a_this_values, .ref a_this_kinds, .int p3, .double (v_p1.2.2.1 (0 : Int32).toNatClampNeg), .double (v_p1.2.2.1 (1 : Int32).toNatClampNeg), .int v_p1.2.2.2, .int v_p1.1.2, .int v_this_guessColumn, .double v_this_guessError, .double v_this_guessValue]))] H := hP
            have hD : va_D A [(a_this_values, .inl (k 1, 256, aD w85_this_values)), (a_this_kinds, .inl (k 2, 256, aI w85_this_kinds)), (a_p1_first, .inr (2, [.ref a_p1_first_numbers, .int v_p1.1.2])), (a_p1_first_numbers, .inl (k 1, 16, aD v_p1.1.1)), (a_p1_second, .inr (2, [.ref a_p1_second_numbers, .int v_p1.2.1.2])), (a_p1_second_numbers, .inl (k 1, 16, aD v_p1.2.1.1)), (a_p1_settings, .inl (k 1, 3, aD v_p1.2.2.1)), (a_p1, .inr (3, [.ref a_p1_first, .ref a_p1_second, .ref a_p1_settings, .int v_p1.2.2.2])), (a_this, .inr (0, [.ref a_this_values, .ref a_this_kinds, .int p3, .double (v_p1.2.2.1 (0 : Int32).toNatClampNeg), .double (v_p1.2.2.1 (1 : Int32).toNatClampNeg), .int v_p1.2.2.2, .int v_p1.1.2, .int v_this_guessColumn, .double v_this_guessError, .double v_this_guessValue]))] := hD
            refine lv_istore (lv' := [(6, .int x2002), (0, .ref a_this), (5, .int x85_5)]) hx hb dX1_build_102 hl (by decide) rfl (fun ls hl => ?_)
            refine lv_iconst (v := 0) hx hb dX1_build_104 (by decide) ?_
            refine lv_istore (lv' := [(7, .int (0 : Int32)), (6, .int x2002), (0, .ref a_this), (5, .int x85_5)]) hx hb dX1_build_105 hl (by decide) rfl (fun ls hl => ?_)
            obtain ⟨x2003, hx2003, hf⟩ := bind_s hf
            have X128 : ∀ (H : Heap) (locs : List Loc) (ls : Array Slot), va_P D vwCl [(a_this_values, .inl (k 1, 256, aD x2003.2.1)), (a_this_kinds, .inl (k 2, 256, aI x2003.2.2)), (a_p1_first, .inr (2, [.ref a_p1_first_numbers, .int v_p1.1.2])), (a_p1_first_numbers, .inl (k 1, 16, aD v_p1.1.1)), (a_p1_second, .inr (2, [.ref a_p1_second_numbers, .int v_p1.2.1.2])), (a_p1_second_numbers, .inl (k 1, 16, aD v_p1.2.1.1)), (a_p1_settings, .inl (k 1, 3, aD v_p1.2.2.1)), (a_p1, .inr (3, [.ref a_p1_first, .ref a_p1_second, .ref a_p1_settings, .int v_p1.2.2.2])), (a_this, .inr (0, [.ref a_this_values, .ref a_this_kinds, .int p3, .double (v_p1.2.2.1 (0 : Int32).toNatClampNeg), .double (v_p1.2.2.1 (1 : Int32).toNatClampNeg), .int v_p1.2.2.2, .int v_p1.1.2, .int v_this_guessColumn, .double v_this_guessError, .double v_this_guessValue]))] H → va_D A [(a_this_values, .inl (k 1, 256, aD x2003.2.1)), (a_this_kinds, .inl (k 2, 256, aI x2003.2.2)), (a_p1_first, .inr (2, [.ref a_p1_first_numbers, .int v_p1.1.2])), (a_p1_first_numbers, .inl (k 1, 16, aD v_p1.1.1)), (a_p1_second, .inr (2, [.ref a_p1_second_numbers, .int v_p1.2.1.2])), (a_p1_second_numbers, .inl (k 1, 16, aD v_p1.2.1.1)), (a_p1_settings, .inl (k 1, 3, aD v_p1.2.2.1)), (a_p1, .inr (3, [.ref a_p1_first, .ref a_p1_second, .ref a_p1_settings, .int v_p1.2.2.2])), (a_this, .inr (0, [.ref a_this_values, .ref a_this_kinds, .int p3, .double (v_p1.2.2.1 (0 : Int32).toNatClampNeg), .double (v_p1.2.2.1 (1 : Int32).toNatClampNeg), .int v_p1.2.2.2, .int v_p1.1.2, .int v_this_guessColumn, .double v_this_guessError, .double v_this_guessValue]))] → va_S A s.heap H locs → lv_has ls 8 [(0, .ref a_this), (5, .int x2003.1)] → W p l e (headSpec wsX1_build rm_X1_build).room s m ([.ref a_this, .ref a_p1, .int p2, .int p3] : List Value).toArray below meth c H locs 0 0 Q (F0 m 128 ls []) := by
              intro H locs ls hP hD hS hl
              refine lv_iinc (v := (x2003.1 + 1)) (lv' := [(5, .int (x2003.1 + 1)), (0, .ref a_this)]) hx hb dX1_build_128 hl (k := 1) rfl rfl (by decide) rfl (fun ls hl => ?_)
              refine lv_goto (tgt := 85) hx hb dX1_build_131 (by decide) ?_
              have hP := hP.sub (ws' := [(a_this, .inr (0, [.ref a_this_values, .ref a_this_kinds, .int p3, .double (v_p1.2.2.1 (0 : Int32).toNatClampNeg), .double (v_p1.2.2.1 (1 : Int32).toNatClampNeg), .int v_p1.2.2.2, .int v_p1.1.2, .int v_this_guessColumn, .double v_this_guessError, .double v_this_guessValue])), (a_this_values, .inl (k 1, 256, aD x2003.2.1)), (a_this_kinds, .inl (k 2, 256, aI x2003.2.2)), (a_p1_first, .inr (2, [.ref a_p1_first_numbers, .int v_p1.1.2])), (a_p1_first_numbers, .inl (k 1, 16, aD v_p1.1.1)), (a_p1_second, .inr (2, [.ref a_p1_second_numbers, .int v_p1.2.1.2])), (a_p1_second_numbers, .inl (k 1, 16, aD v_p1.2.1.1)), (a_p1_settings, .inl (k 1, 3, aD v_p1.2.2.1)), (a_p1, .inr (3, [.ref a_p1_first, .ref a_p1_second, .ref a_p1_settings, .int v_p1.2.2.2]))]) [8, 0, 1, 2, 3, 4, 5, 6, 7] rfl
              have hD := hD.sub (ws' := [(a_this, .inr (0, [.ref a_this_values, .ref a_this_kinds, .int p3, .double (v_p1.2.2.1 (0 : Int32).toNatClampNeg), .double (v_p1.2.2.1 (1 : Int32).toNatClampNeg), .int v_p1.2.2.2, .int v_p1.1.2, .int v_this_guessColumn, .double v_this_guessError, .double v_this_guessValue])), (a_this_values, .inl (k 1, 256, aD x2003.2.1)), (a_this_kinds, .inl (k 2, 256, aI x2003.2.2)), (a_p1_first, .inr (2, [.ref a_p1_first_numbers, .int v_p1.1.2])), (a_p1_first_numbers, .inl (k 1, 16, aD v_p1.1.1)), (a_p1_second, .inr (2, [.ref a_p1_second_numbers, .int v_p1.2.1.2])), (a_p1_second_numbers, .inl (k 1, 16, aD v_p1.2.1.1)), (a_p1_settings, .inl (k 1, 3, aD v_p1.2.2.1)), (a_p1, .inr (3, [.ref a_p1_first, .ref a_p1_second, .ref a_p1_settings, .int v_p1.2.2.2]))]) [8, 0, 1, 2, 3, 4, 5, 6, 7] (by decide) rfl
              exact ih85 (x2003.1 + 1) x2003.2.1 x2003.2.2 H locs ls hP hD hS (lv_sub hl [1, 0] rfl) hf
            have L107 : ∀ (n107 : Nat) (x107_5 : Int32) (x107_6 : Int32) (x107_7 : Int32) (w107_this_values : Nat → UInt64) (w107_this_kinds : Nat → Int32) (H : Heap) (locs : List Loc) (ls : Array Slot), va_P D vwCl [(a_this_values, .inl (k 1, 256, aD w107_this_values)), (a_this_kinds, .inl (k 2, 256, aI w107_this_kinds)), (a_p1_first, .inr (2, [.ref a_p1_first_numbers, .int v_p1.1.2])), (a_p1_first_numbers, .inl (k 1, 16, aD v_p1.1.1)), (a_p1_second, .inr (2, [.ref a_p1_second_numbers, .int v_p1.2.1.2])), (a_p1_second_numbers, .inl (k 1, 16, aD v_p1.2.1.1)), (a_p1_settings, .inl (k 1, 3, aD v_p1.2.2.1)), (a_p1, .inr (3, [.ref a_p1_first, .ref a_p1_second, .ref a_p1_settings, .int v_p1.2.2.2])), (a_this, .inr (0, [.ref a_this_values, .ref a_this_kinds, .int p3, .double (v_p1.2.2.1 (0 : Int32).toNatClampNeg), .double (v_p1.2.2.1 (1 : Int32).toNatClampNeg), .int v_p1.2.2.2, .int v_p1.1.2, .int v_this_guessColumn, .double v_this_guessError, .double v_this_guessValue]))] H → va_D A [(a_this_values, .inl (k 1, 256, aD w107_this_values)), (a_this_kinds, .inl (k 2, 256, aI w107_this_kinds)), (a_p1_first, .inr (2, [.ref a_p1_first_numbers, .int v_p1.1.2])), (a_p1_first_numbers, .inl (k 1, 16, aD v_p1.1.1)), (a_p1_second, .inr (2, [.ref a_p1_second_numbers, .int v_p1.2.1.2])), (a_p1_second_numbers, .inl (k 1, 16, aD v_p1.2.1.1)), (a_p1_settings, .inl (k 1, 3, aD v_p1.2.2.1)), (a_p1, .inr (3, [.ref a_p1_first, .ref a_p1_second, .ref a_p1_settings, .int v_p1.2.2.2])), (a_this, .inr (0, [.ref a_this_values, .ref a_this_kinds, .int p3, .double (v_p1.2.2.1 (0 : Int32).toNatClampNeg), .double (v_p1.2.2.1 (1 : Int32).toNatClampNeg), .int v_p1.2.2.2, .int v_p1.1.2, .int v_this_guessColumn, .double v_this_guessError, .double v_this_guessValue]))] → va_S A s.heap H locs → lv_has ls 8 [(0, .ref a_this), (5, .int x107_5), (6, .int x107_6), (7, .int x107_7)] → p_X1_build_L107 v_p1 p3 n107 x107_5 x107_6 x107_7 w107_this_values w107_this_kinds = some x2003 → W p l e (headSpec wsX1_build rm_X1_build).room s m ([.ref a_this, .ref a_p1, .int p2, .int p3] : List Value).toArray below meth c H locs 0 0 Q (F0 m 107 ls []) := by
              intro n107
              induction n107 with
              | zero =>
                intro x107_5 x107_6 x107_7 w107_this_values w107_this_kinds H locs ls hP hD hS hl hx2003
                exact absurd hx2003 (by simp [p_X1_build_L107])
              | succ n107 ih107 =>
                intro x107_5 x107_6 x107_7 w107_this_values w107_this_kinds H locs ls hP hD hS hl hx2003
                rw [p_X1_build_L107] at hx2003
                refine lv_iload hx hb dX1_build_107 (lv_at hl 3 rfl) ?_
                refine lv_iload hx hb dX1_build_109 (lv_at hl 2 rfl) ?_
                refine lv_icmp_ge (tgt := 128) hx hb dX1_build_111 (by decide) (fun c3001 => ?_) (fun c3001 => ?_)
                · skip
                  have hx2003 := if_t c3001 hx2003
                  have ho := Option.some.inj hx2003
                  subst ho
                  exact X128 H locs ls hP hD hS (lv_sub hl [0, 1] rfl)
                · skip
                  have hx2003 := if_f c3001 hx2003
                  refine lv_aload_n hx hb dX1_build_114 rfl (lv_at hl 0 rfl) ?_
                  refine lv_iload hx hb dX1_build_115 (lv_at hl 1 rfl) ?_
                  refine lv_iload hx hb dX1_build_117 (lv_at hl 3 rfl) ?_
                  obtain ⟨x3002, hx3002, hx2003⟩ := bind_s hx2003
                  refine cc_v (wc := [(a_this, .inr (0, [.ref a_this_values, .ref a_this_kinds, .int p3, .double (v_p1.2.2.1 (0 : Int32).toNatClampNeg), .double (v_p1.2.2.1 (1 : Int32).toNatClampNeg), .int v_p1.2.2.2, .int v_p1.1.2, .int v_this_guessColumn, .double v_this_guessError, .double v_this_guessValue])), (a_this_values, .inl (k 1, 256, aD w107_this_values)), (a_this_kinds, .inl (k 2, 256, aI w107_this_kinds))]) (wr := [(a_p1_first, .inr (2, [.ref a_p1_first_numbers, .int v_p1.1.2])), (a_p1_first_numbers, .inl (k 1, 16, aD v_p1.1.1)), (a_p1_second, .inr (2, [.ref a_p1_second_numbers, .int v_p1.2.1.2])), (a_p1_second_numbers, .inl (k 1, 16, aD v_p1.2.1.1)), (a_p1_settings, .inl (k 1, 3, aD v_p1.2.2.1)), (a_p1, .inr (3, [.ref a_p1_first, .ref a_p1_second, .ref a_p1_settings, .int v_p1.2.2.2]))]) (w1 := [(a_this, .inr (0, [.ref a_this_values, .ref a_this_kinds, .int p3, .double (v_p1.2.2.1 (0 : Int32).toNatClampNeg), .double (v_p1.2.2.1 (1 : Int32).toNatClampNeg), .int v_p1.2.2.2, .int v_p1.1.2, .int v_this_guessColumn, .double v_this_guessError, .double v_this_guessValue])), (a_this_values, .inl (k 1, 256, aD x3002.1)), (a_this_kinds, .inl (k 2, 256, aI x3002.2))]) (va_runV (As := [.int x107_5, .int x107_7]) (rest := []) ⟨hx, hb, hml, hown, hts⟩ (mt_X1_makeEntry l D k a_this a_this_values a_this_kinds _ w107_this_values w107_this_kinds p3 (v_p1.2.2.1 (0 : Int32).toNatClampNeg) (v_p1.2.2.1 (1 : Int32).toNatClampNeg) v_p1.2.2.2 v_p1.1.2 v_this_guessColumn v_this_guessError v_this_guessValue x107_5 x107_7 x3002 hx3002) (cwV 2 hts gX1_build_X1_makeEntry rfl rfl rfl (by decide +kernel) ⟨(Nat.le_of_ble_eq_true rfl), (Nat.le_of_ble_eq_true rfl)⟩) (cc_pv (wc := [(a_this, .inr (0, [.ref a_this_values, .ref a_this_kinds, .int p3, .double (v_p1.2.2.1 (0 : Int32).toNatClampNeg), .double (v_p1.2.2.1 (1 : Int32).toNatClampNeg), .int v_p1.2.2.2, .int v_p1.1.2, .int v_this_guessColumn, .double v_this_guessError, .double v_this_guessValue])), (a_this_values, .inl (k 1, 256, aD w107_this_values)), (a_this_kinds, .inl (k 2, 256, aI w107_this_kinds))]) hK hP hD [8, 0, 1] (by decide) rfl rfl 0 8 rfl rfl rfl) rfl rfl hl.1 rfl (lv_room (Nat.le_of_ble_eq_true rfl)) dX1_build_119 ⟨Nat.zero_le _, Nat.zero_le _⟩) hP hD hS hA [8, 0, 1] [2, 3, 4, 5, 6, 7] rfl rfl (by decide) (by decide) (fun H locs hP hD hS => ?_)
                  have hP : va_P D vwCl [(a_p1_first, .inr (2, [.ref a_p1_first_numbers, .int v_p1.1.2])), (a_p1_first_numbers, .inl (k 1, 16, aD v_p1.1.1)), (a_p1_second, .inr (2, [.ref a_p1_second_numbers, .int v_p1.2.1.2])), (a_p1_second_numbers, .inl (k 1, 16, aD v_p1.2.1.1)), (a_p1_settings, .inl (k 1, 3, aD v_p1.2.2.1)), (a_p1, .inr (3, [.ref a_p1_first, .ref a_p1_second, .ref a_p1_settings, .int v_p1.2.2.2])), (a_this, .inr (0, [.ref a_this_values, .ref a_this_kinds, .int p3, .double (v_p1.2.2.1 (0 : Int32).toNatClampNeg), .double (v_p1.2.2.1 (1 : Int32).toNatClampNeg), .int v_p1.2.2.2, .int v_p1.1.2, .int v_this_guessColumn, .double v_this_guessError, .double v_this_guessValue])), (a_this_values, .inl (k 1, 256, aD x3002.1)), (a_this_kinds, .inl (k 2, 256, aI x3002.2))] H := hP
                  have hD : va_D A [(a_p1_first, .inr (2, [.ref a_p1_first_numbers, .int v_p1.1.2])), (a_p1_first_numbers, .inl (k 1, 16, aD v_p1.1.1)), (a_p1_second, .inr (2, [.ref a_p1_second_numbers, .int v_p1.2.1.2])), (a_p1_second_numbers, .inl (k 1, 16, aD v_p1.2.1.1)), (a_p1_settings, .inl (k 1, 3, aD v_p1.2.2.1)), (a_p1, .inr (3, [.ref a_p1_first, .ref a_p1_second, .ref a_p1_settings, .int v_p1.2.2.2])), (a_this, .inr (0, [.ref a_this_values, .ref a_this_kinds, .int p3, .double (v_p1.2.2.1 (0 : Int32).toNatClampNeg), .double (v_p1.2.2.1 (1 : Int32).toNatClampNeg), .int v_p1.2.2.2, .int v_p1.1.2, .int v_this_guessColumn, .double v_this_guessError, .double v_this_guessValue])), (a_this_values, .inl (k 1, 256, aD x3002.1)), (a_this_kinds, .inl (k 2, 256, aI x3002.2))] := hD
                  refine lv_iinc (v := (x107_7 + 1)) (lv' := [(7, .int (x107_7 + 1)), (0, .ref a_this), (5, .int x107_5), (6, .int x107_6)]) hx hb dX1_build_122 hl (k := 3) rfl rfl (by decide) rfl (fun ls hl => ?_)
                  refine lv_goto (tgt := 107) hx hb dX1_build_125 (by decide) ?_
                  have hP := hP.sub (ws' := [(a_this_values, .inl (k 1, 256, aD x3002.1)), (a_this_kinds, .inl (k 2, 256, aI x3002.2)), (a_p1_first, .inr (2, [.ref a_p1_first_numbers, .int v_p1.1.2])), (a_p1_first_numbers, .inl (k 1, 16, aD v_p1.1.1)), (a_p1_second, .inr (2, [.ref a_p1_second_numbers, .int v_p1.2.1.2])), (a_p1_second_numbers, .inl (k 1, 16, aD v_p1.2.1.1)), (a_p1_settings, .inl (k 1, 3, aD v_p1.2.2.1)), (a_p1, .inr (3, [.ref a_p1_first, .ref a_p1_second, .ref a_p1_settings, .int v_p1.2.2.2])), (a_this, .inr (0, [.ref a_this_values, .ref a_this_kinds, .int p3, .double (v_p1.2.2.1 (0 : Int32).toNatClampNeg), .double (v_p1.2.2.1 (1 : Int32).toNatClampNeg), .int v_p1.2.2.2, .int v_p1.1.2, .int v_this_guessColumn, .double v_this_guessError, .double v_this_guessValue]))]) [7, 8, 0, 1, 2, 3, 4, 5, 6] rfl
                  have hD := hD.sub (ws' := [(a_this_values, .inl (k 1, 256, aD x3002.1)), (a_this_kinds, .inl (k 2, 256, aI x3002.2)), (a_p1_first, .inr (2, [.ref a_p1_first_numbers, .int v_p1.1.2])), (a_p1_first_numbers, .inl (k 1, 16, aD v_p1.1.1)), (a_p1_second, .inr (2, [.ref a_p1_second_numbers, .int v_p1.2.1.2])), (a_p1_second_numbers, .inl (k 1, 16, aD v_p1.2.1.1)), (a_p1_settings, .inl (k 1, 3, aD v_p1.2.2.1)), (a_p1, .inr (3, [.ref a_p1_first, .ref a_p1_second, .ref a_p1_settings, .int v_p1.2.2.2])), (a_this, .inr (0, [.ref a_this_values, .ref a_this_kinds, .int p3, .double (v_p1.2.2.1 (0 : Int32).toNatClampNeg), .double (v_p1.2.2.1 (1 : Int32).toNatClampNeg), .int v_p1.2.2.2, .int v_p1.1.2, .int v_this_guessColumn, .double v_this_guessError, .double v_this_guessValue]))]) [7, 8, 0, 1, 2, 3, 4, 5, 6] (by decide) rfl
                  exact ih107 x107_5 x107_6 (x107_7 + 1) x3002.1 x3002.2 H locs ls hP hD hS (lv_sub hl [1, 2, 3, 0] rfl) hx2003
            exact L107 300 x85_5 x2002 (0 : Int32) w85_this_values w85_this_kinds H locs ls hP hD hS (lv_sub hl [2, 3, 1, 0] rfl) hx2003
      exact L85 300 (1 : Int32) x3.1 x3.2 H locs ls hP hD hS (lv_sub hl [1, 0] rfl) hf
    have L52 : ∀ (n52 : Nat) (x52_5 : Int32) (w52_this_values : Nat → UInt64) (w52_this_kinds : Nat → Int32) (H : Heap) (locs : List Loc) (ls : Array Slot), va_P D vwCl [(a_this, .inr (0, [.ref a_this_values, .ref a_this_kinds, .int p3, .double (v_p1.2.2.1 (0 : Int32).toNatClampNeg), .double (v_p1.2.2.1 (1 : Int32).toNatClampNeg), .int v_p1.2.2.2, .int v_p1.1.2, .int v_this_guessColumn, .double v_this_guessError, .double v_this_guessValue])), (a_this_values, .inl (k 1, 256, aD w52_this_values)), (a_this_kinds, .inl (k 2, 256, aI w52_this_kinds)), (a_p1_first, .inr (2, [.ref a_p1_first_numbers, .int v_p1.1.2])), (a_p1_first_numbers, .inl (k 1, 16, aD v_p1.1.1)), (a_p1_second, .inr (2, [.ref a_p1_second_numbers, .int v_p1.2.1.2])), (a_p1_second_numbers, .inl (k 1, 16, aD v_p1.2.1.1)), (a_p1_settings, .inl (k 1, 3, aD v_p1.2.2.1)), (a_p1, .inr (3, [.ref a_p1_first, .ref a_p1_second, .ref a_p1_settings, .int v_p1.2.2.2]))] H → va_D A [(a_this, .inr (0, [.ref a_this_values, .ref a_this_kinds, .int p3, .double (v_p1.2.2.1 (0 : Int32).toNatClampNeg), .double (v_p1.2.2.1 (1 : Int32).toNatClampNeg), .int v_p1.2.2.2, .int v_p1.1.2, .int v_this_guessColumn, .double v_this_guessError, .double v_this_guessValue])), (a_this_values, .inl (k 1, 256, aD w52_this_values)), (a_this_kinds, .inl (k 2, 256, aI w52_this_kinds)), (a_p1_first, .inr (2, [.ref a_p1_first_numbers, .int v_p1.1.2])), (a_p1_first_numbers, .inl (k 1, 16, aD v_p1.1.1)), (a_p1_second, .inr (2, [.ref a_p1_second_numbers, .int v_p1.2.1.2])), (a_p1_second_numbers, .inl (k 1, 16, aD v_p1.2.1.1)), (a_p1_settings, .inl (k 1, 3, aD v_p1.2.2.1)), (a_p1, .inr (3, [.ref a_p1_first, .ref a_p1_second, .ref a_p1_settings, .int v_p1.2.2.2]))] → va_S A s.heap H locs → lv_has ls 8 [(0, .ref a_this), (4, .ref a_p1_first), (5, .int x52_5)] → p_X1_build_L52 v_p1 n52 x52_5 w52_this_values w52_this_kinds = some x3 → W p l e (headSpec wsX1_build rm_X1_build).room s m ([.ref a_this, .ref a_p1, .int p2, .int p3] : List Value).toArray below meth c H locs 0 0 Q (F0 m 52 ls []) := by
      intro n52
      induction n52 with
      | zero =>
        intro x52_5 w52_this_values w52_this_kinds H locs ls hP hD hS hl hx3
        exact absurd hx3 (by simp [p_X1_build_L52])
      | succ n52 ih52 =>
        intro x52_5 w52_this_values w52_this_kinds H locs ls hP hD hS hl hx3
        rw [p_X1_build_L52] at hx3
        refine lv_iload hx hb dX1_build_52 (lv_at hl 2 rfl) ?_
        refine lv_aload_n hx hb dX1_build_54 rfl (lv_at hl 0 rfl) ?_
        refine va_get (D := D) (ci := 0) (v := .int v_p1.1.2) (C := RX1) (T := TX1) (N := 10) hx hb hts hinX1_X1_build hown hK hP 0 rfl rfl 6 (by decide) (hts (.fieldLink RX1 34 "LimitTables$Grid" "length" "I") (by decide +kernel)) (fun _ h9 => h9) rfl dX1_build_55 ?_
        refine lv_icmp_ge (tgt := 82) hx hb dX1_build_58 (by decide) (fun c1001 => ?_) (fun c1001 => ?_)
        · skip
          have hx3 := if_t c1001 hx3
          have ho := Option.some.inj hx3
          subst ho
          exact X82 H locs ls hP hD hS (lv_sub hl [0] rfl)
        · skip
          have hx3 := if_f c1001 hx3
          refine lv_aload_n hx hb dX1_build_61 rfl (lv_at hl 0 rfl) ?_
          refine lv_iload hx hb dX1_build_62 (lv_at hl 2 rfl) ?_
          refine lv_aload hx hb dX1_build_64 (lv_at hl 1 rfl) ?_
          refine va_get (D := D) (ci := 2) (v := .ref a_p1_first_numbers) (C := RX4) (T := TX4) (N := 2) hx hb hts hinX4_X1_build hown hK hP 3 rfl rfl 0 (by decide) (hts (.fieldLink RX1 59 "LimitTables$Row" "numbers" "[D") (by decide +kernel)) (fun _ h9 => h9) rfl dX1_build_66 ?_
          refine lv_iload hx hb dX1_build_69 (lv_at hl 2 rfl) ?_
          obtain ⟨g1002, hx3⟩ := gD_h hx3
          refine va_dald hx hb hK hP 4 1 rfl rfl (inb_in g1002) dX1_build_71 ?_
          refine lv_iconst (v := 0) hx hb dX1_build_72 (by decide) ?_
          obtain ⟨x1003, hx1003, hx3⟩ := bind_s hx3
          refine cc_v (wc := [(a_this, .inr (0, [.ref a_this_values, .ref a_this_kinds, .int p3, .double (v_p1.2.2.1 (0 : Int32).toNatClampNeg), .double (v_p1.2.2.1 (1 : Int32).toNatClampNeg), .int v_p1.2.2.2, .int v_p1.1.2, .int v_this_guessColumn, .double v_this_guessError, .double v_this_guessValue])), (a_this_values, .inl (k 1, 256, aD w52_this_values)), (a_this_kinds, .inl (k 2, 256, aI w52_this_kinds))]) (wr := [(a_p1_first, .inr (2, [.ref a_p1_first_numbers, .int v_p1.1.2])), (a_p1_first_numbers, .inl (k 1, 16, aD v_p1.1.1)), (a_p1_second, .inr (2, [.ref a_p1_second_numbers, .int v_p1.2.1.2])), (a_p1_second_numbers, .inl (k 1, 16, aD v_p1.2.1.1)), (a_p1_settings, .inl (k 1, 3, aD v_p1.2.2.1)), (a_p1, .inr (3, [.ref a_p1_first, .ref a_p1_second, .ref a_p1_settings, .int v_p1.2.2.2]))]) (w1 := [(a_this, .inr (0, [.ref a_this_values, .ref a_this_kinds, .int p3, .double (v_p1.2.2.1 (0 : Int32).toNatClampNeg), .double (v_p1.2.2.1 (1 : Int32).toNatClampNeg), .int v_p1.2.2.2, .int v_p1.1.2, .int v_this_guessColumn, .double v_this_guessError, .double v_this_guessValue])), (a_this_values, .inl (k 1, 256, aD x1003.1)), (a_this_kinds, .inl (k 2, 256, aI x1003.2))]) (va_runV (As := [.int x52_5, .double (v_p1.1.1 x52_5.toNatClampNeg), .int (0 : Int32)]) (rest := []) ⟨hx, hb, hml, hown, hts⟩ (mt_X1_put l D k a_this a_this_values a_this_kinds _ w52_this_values w52_this_kinds p3 (v_p1.2.2.1 (0 : Int32).toNatClampNeg) (v_p1.2.2.1 (1 : Int32).toNatClampNeg) v_p1.2.2.2 v_p1.1.2 v_this_guessColumn v_this_guessError v_this_guessValue x52_5 (v_p1.1.1 x52_5.toNatClampNeg) (0 : Int32) x1003 hx1003) (cwV 3 hts gX1_build_X1_put rfl rfl rfl (by decide +kernel) ⟨(Nat.le_of_ble_eq_true rfl), (Nat.le_of_ble_eq_true rfl)⟩) (cc_pv (wc := [(a_this, .inr (0, [.ref a_this_values, .ref a_this_kinds, .int p3, .double (v_p1.2.2.1 (0 : Int32).toNatClampNeg), .double (v_p1.2.2.1 (1 : Int32).toNatClampNeg), .int v_p1.2.2.2, .int v_p1.1.2, .int v_this_guessColumn, .double v_this_guessError, .double v_this_guessValue])), (a_this_values, .inl (k 1, 256, aD w52_this_values)), (a_this_kinds, .inl (k 2, 256, aI w52_this_kinds))]) hK hP hD [0, 1, 2] (by decide) rfl rfl 0 0 rfl rfl rfl) rfl rfl hl.1 rfl (lv_room (Nat.le_of_ble_eq_true rfl)) dX1_build_73 ⟨Nat.zero_le _, Nat.zero_le _⟩) hP hD hS hA [0, 1, 2] [3, 4, 5, 6, 7, 8] rfl rfl (by decide) (by decide) (fun H locs hP hD hS => ?_)
          have hP : va_P D vwCl [(a_p1_first, .inr (2, [.ref a_p1_first_numbers, .int v_p1.1.2])), (a_p1_first_numbers, .inl (k 1, 16, aD v_p1.1.1)), (a_p1_second, .inr (2, [.ref a_p1_second_numbers, .int v_p1.2.1.2])), (a_p1_second_numbers, .inl (k 1, 16, aD v_p1.2.1.1)), (a_p1_settings, .inl (k 1, 3, aD v_p1.2.2.1)), (a_p1, .inr (3, [.ref a_p1_first, .ref a_p1_second, .ref a_p1_settings, .int v_p1.2.2.2])), (a_this, .inr (0, [.ref a_this_values, .ref a_this_kinds, .int p3, .double (v_p1.2.2.1 (0 : Int32).toNatClampNeg), .double (v_p1.2.2.1 (1 : Int32).toNatClampNeg), .int v_p1.2.2.2, .int v_p1.1.2, .int v_this_guessColumn, .double v_this_guessError, .double v_this_guessValue])), (a_this_values, .inl (k 1, 256, aD x1003.1)), (a_this_kinds, .inl (k 2, 256, aI x1003.2))] H := hP
          have hD : va_D A [(a_p1_first, .inr (2, [.ref a_p1_first_numbers, .int v_p1.1.2])), (a_p1_first_numbers, .inl (k 1, 16, aD v_p1.1.1)), (a_p1_second, .inr (2, [.ref a_p1_second_numbers, .int v_p1.2.1.2])), (a_p1_second_numbers, .inl (k 1, 16, aD v_p1.2.1.1)), (a_p1_settings, .inl (k 1, 3, aD v_p1.2.2.1)), (a_p1, .inr (3, [.ref a_p1_first, .ref a_p1_second, .ref a_p1_settings, .int v_p1.2.2.2])), (a_this, .inr (0, [.ref a_this_values, .ref a_this_kinds, .int p3, .double (v_p1.2.2.1 (0 : Int32).toNatClampNeg), .double (v_p1.2.2.1 (1 : Int32).toNatClampNeg), .int v_p1.2.2.2, .int v_p1.1.2, .int v_this_guessColumn, .double v_this_guessError, .double v_this_guessValue])), (a_this_values, .inl (k 1, 256, aD x1003.1)), (a_this_kinds, .inl (k 2, 256, aI x1003.2))] := hD
          refine lv_iinc (v := (x52_5 + 1)) (lv' := [(5, .int (x52_5 + 1)), (0, .ref a_this), (4, .ref a_p1_first)]) hx hb dX1_build_76 hl (k := 2) rfl rfl (by decide) rfl (fun ls hl => ?_)
          refine lv_goto (tgt := 52) hx hb dX1_build_79 (by decide) ?_
          have hP := hP.sub (ws' := [(a_this, .inr (0, [.ref a_this_values, .ref a_this_kinds, .int p3, .double (v_p1.2.2.1 (0 : Int32).toNatClampNeg), .double (v_p1.2.2.1 (1 : Int32).toNatClampNeg), .int v_p1.2.2.2, .int v_p1.1.2, .int v_this_guessColumn, .double v_this_guessError, .double v_this_guessValue])), (a_this_values, .inl (k 1, 256, aD x1003.1)), (a_this_kinds, .inl (k 2, 256, aI x1003.2)), (a_p1_first, .inr (2, [.ref a_p1_first_numbers, .int v_p1.1.2])), (a_p1_first_numbers, .inl (k 1, 16, aD v_p1.1.1)), (a_p1_second, .inr (2, [.ref a_p1_second_numbers, .int v_p1.2.1.2])), (a_p1_second_numbers, .inl (k 1, 16, aD v_p1.2.1.1)), (a_p1_settings, .inl (k 1, 3, aD v_p1.2.2.1)), (a_p1, .inr (3, [.ref a_p1_first, .ref a_p1_second, .ref a_p1_settings, .int v_p1.2.2.2]))]) [6, 7, 8, 0, 1, 2, 3, 4, 5] rfl
          have hD := hD.sub (ws' := [(a_this, .inr (0, [.ref a_this_values, .ref a_this_kinds, .int p3, .double (v_p1.2.2.1 (0 : Int32).toNatClampNeg), .double (v_p1.2.2.1 (1 : Int32).toNatClampNeg), .int v_p1.2.2.2, .int v_p1.1.2, .int v_this_guessColumn, .double v_this_guessError, .double v_this_guessValue])), (a_this_values, .inl (k 1, 256, aD x1003.1)), (a_this_kinds, .inl (k 2, 256, aI x1003.2)), (a_p1_first, .inr (2, [.ref a_p1_first_numbers, .int v_p1.1.2])), (a_p1_first_numbers, .inl (k 1, 16, aD v_p1.1.1)), (a_p1_second, .inr (2, [.ref a_p1_second_numbers, .int v_p1.2.1.2])), (a_p1_second_numbers, .inl (k 1, 16, aD v_p1.2.1.1)), (a_p1_settings, .inl (k 1, 3, aD v_p1.2.2.1)), (a_p1, .inr (3, [.ref a_p1_first, .ref a_p1_second, .ref a_p1_settings, .int v_p1.2.2.2]))]) [6, 7, 8, 0, 1, 2, 3, 4, 5] (by decide) rfl
          exact ih52 (x52_5 + 1) x1003.1 x1003.2 H locs ls hP hD hS (lv_sub hl [1, 2, 0] rfl) hx3
    exact L52 300 (0 : Int32) v_this_values v_this_kinds H locs ls hP hD hS (lv_sub hl [2, 1, 0] rfl) hx3
  · skip
    have hf := if_f c1 hf
    refine cc_r (r := a_p1_second) (wc := [(a_p1, .inr (3, [.ref a_p1_first, .ref a_p1_second, .ref a_p1_settings, .int v_p1.2.2.2]))]) (wr := [(a_this, .inr (0, [.ref a_this_values, .ref a_this_kinds, .int v_this_table, .double v_this_guard, .double v_this_ratio, .int v_this_bridging, .int v_this_length, .int v_this_guessColumn, .double v_this_guessError, .double v_this_guessValue])), (a_this_values, .inl (k 1, 256, aD v_this_values)), (a_this_kinds, .inl (k 2, 256, aI v_this_kinds)), (a_p1_first, .inr (2, [.ref a_p1_first_numbers, .int v_p1.1.2])), (a_p1_first_numbers, .inl (k 1, 16, aD v_p1.1.1)), (a_p1_second, .inr (2, [.ref a_p1_second_numbers, .int v_p1.2.1.2])), (a_p1_second_numbers, .inl (k 1, 16, aD v_p1.2.1.1)), (a_p1_settings, .inl (k 1, 3, aD v_p1.2.2.1))]) (w1 := [(a_p1, .inr (3, [.ref a_p1_first, .ref a_p1_second, .ref a_p1_settings, .int v_p1.2.2.2]))]) (va_runV (As := [.int p2]) (rest := []) ⟨hx, hb, hml, hown, hts⟩ (mt_X5_rowAt_1 l D k a_p1 a_p1_first a_p1_second a_p1_settings _ v_p1 p2 c1) (cwV 1 hts gX1_build_X5_rowAt rfl rfl rfl (by decide +kernel) ⟨(Nat.le_of_ble_eq_true rfl), (Nat.le_of_ble_eq_true rfl)⟩) (cc_pv (wc := [(a_p1, .inr (3, [.ref a_p1_first, .ref a_p1_second, .ref a_p1_settings, .int v_p1.2.2.2]))]) hK hP hD [3] (by decide) rfl rfl 3 3 rfl rfl rfl) rfl rfl hl.1 rfl (lv_room (Nat.le_of_ble_eq_true rfl)) dX1_build_2 ⟨Nat.zero_le _, Nat.zero_le _⟩) hP hD hS hA [3] [0, 1, 2, 4, 5, 6, 7, 8] rfl rfl (by decide) (by decide) (fun H locs hP hD hS => ?_)
    have hP : va_P D vwCl [(a_this, .inr (0, [.ref a_this_values, .ref a_this_kinds, .int v_this_table, .double v_this_guard, .double v_this_ratio, .int v_this_bridging, .int v_this_length, .int v_this_guessColumn, .double v_this_guessError, .double v_this_guessValue])), (a_this_values, .inl (k 1, 256, aD v_this_values)), (a_this_kinds, .inl (k 2, 256, aI v_this_kinds)), (a_p1_first, .inr (2, [.ref a_p1_first_numbers, .int v_p1.1.2])), (a_p1_first_numbers, .inl (k 1, 16, aD v_p1.1.1)), (a_p1_second, .inr (2, [.ref a_p1_second_numbers, .int v_p1.2.1.2])), (a_p1_second_numbers, .inl (k 1, 16, aD v_p1.2.1.1)), (a_p1_settings, .inl (k 1, 3, aD v_p1.2.2.1)), (a_p1, .inr (3, [.ref a_p1_first, .ref a_p1_second, .ref a_p1_settings, .int v_p1.2.2.2]))] H := hP
    have hD : va_D A [(a_this, .inr (0, [.ref a_this_values, .ref a_this_kinds, .int v_this_table, .double v_this_guard, .double v_this_ratio, .int v_this_bridging, .int v_this_length, .int v_this_guessColumn, .double v_this_guessError, .double v_this_guessValue])), (a_this_values, .inl (k 1, 256, aD v_this_values)), (a_this_kinds, .inl (k 2, 256, aI v_this_kinds)), (a_p1_first, .inr (2, [.ref a_p1_first_numbers, .int v_p1.1.2])), (a_p1_first_numbers, .inl (k 1, 16, aD v_p1.1.1)), (a_p1_second, .inr (2, [.ref a_p1_second_numbers, .int v_p1.2.1.2])), (a_p1_second_numbers, .inl (k 1, 16, aD v_p1.2.1.1)), (a_p1_settings, .inl (k 1, 3, aD v_p1.2.2.1)), (a_p1, .inr (3, [.ref a_p1_first, .ref a_p1_second, .ref a_p1_settings, .int v_p1.2.2.2]))] := hD
    refine lv_astore (lv' := [(4, .ref a_p1_second), (0, .ref a_this), (1, .ref a_p1), (2, .int p2), (3, .int p3)]) hx hb dX1_build_5 hl (by decide) rfl (fun ls hl => ?_)
    refine lv_aload_n hx hb dX1_build_7 rfl (lv_at hl 1 rfl) ?_
    refine lv_iload_n hx hb dX1_build_8 rfl (lv_at hl 4 rfl) ?_
    refine va_put (D := D) (ci := 0) (v := .int p3) (ty := .int) (C := RX1) (T := TX1) (N := 10) hx hb hts hinX1_X1_build tyX1 tyX1_ok nmX1 hown hK hP hD hS 0 rfl rfl 2 (by decide) (hts (.fieldLink RX1 19 "LimitTables$Grid" "table" "I") (by decide +kernel)) (fun _ h9 => h9) rfl (by decide +kernel) rfl rfl (Nat.le_of_ble_eq_true rfl) dX1_build_9 (fun H locs hP hD hS => ?_)
    have hP : va_P D vwCl [(a_this, .inr (0, [.ref a_this_values, .ref a_this_kinds, .int p3, .double v_this_guard, .double v_this_ratio, .int v_this_bridging, .int v_this_length, .int v_this_guessColumn, .double v_this_guessError, .double v_this_guessValue])), (a_this_values, .inl (k 1, 256, aD v_this_values)), (a_this_kinds, .inl (k 2, 256, aI v_this_kinds)), (a_p1_first, .inr (2, [.ref a_p1_first_numbers, .int v_p1.1.2])), (a_p1_first_numbers, .inl (k 1, 16, aD v_p1.1.1)), (a_p1_second, .inr (2, [.ref a_p1_second_numbers, .int v_p1.2.1.2])), (a_p1_second_numbers, .inl (k 1, 16, aD v_p1.2.1.1)), (a_p1_settings, .inl (k 1, 3, aD v_p1.2.2.1)), (a_p1, .inr (3, [.ref a_p1_first, .ref a_p1_second, .ref a_p1_settings, .int v_p1.2.2.2]))] H := hP
    have hD : va_D A [(a_this, .inr (0, [.ref a_this_values, .ref a_this_kinds, .int p3, .double v_this_guard, .double v_this_ratio, .int v_this_bridging, .int v_this_length, .int v_this_guessColumn, .double v_this_guessError, .double v_this_guessValue])), (a_this_values, .inl (k 1, 256, aD v_this_values)), (a_this_kinds, .inl (k 2, 256, aI v_this_kinds)), (a_p1_first, .inr (2, [.ref a_p1_first_numbers, .int v_p1.1.2])), (a_p1_first_numbers, .inl (k 1, 16, aD v_p1.1.1)), (a_p1_second, .inr (2, [.ref a_p1_second_numbers, .int v_p1.2.1.2])), (a_p1_second_numbers, .inl (k 1, 16, aD v_p1.2.1.1)), (a_p1_settings, .inl (k 1, 3, aD v_p1.2.2.1)), (a_p1, .inr (3, [.ref a_p1_first, .ref a_p1_second, .ref a_p1_settings, .int v_p1.2.2.2]))] := hD
    refine lv_aload_n hx hb dX1_build_12 rfl (lv_at hl 1 rfl) ?_
    refine lv_aload_n hx hb dX1_build_13 rfl (lv_at hl 2 rfl) ?_
    refine va_get (D := D) (ci := 3) (v := .ref a_p1_settings) (C := RX5) (T := TX5) (N := 4) hx hb hts hinX5_X1_build hown hK hP 8 rfl rfl 2 (by decide) (hts (.fieldLink RX1 52 "LimitTables$State" "settings" "[D") (by decide +kernel)) (fun _ h9 => h9) rfl dX1_build_14 ?_
    refine lv_iconst (v := 0) hx hb dX1_build_17 (by decide) ?_
    refine va_dald hx hb hK hP 7 1 rfl rfl (inb_in rfl) dX1_build_18 ?_
    refine va_put (D := D) (ci := 0) (v := .double (v_p1.2.2.1 (0 : Int32).toNatClampNeg)) (ty := .double) (C := RX1) (T := TX1) (N := 10) hx hb hts hinX1_X1_build tyX1 tyX1_ok nmX1 hown hK hP hD hS 0 rfl rfl 3 (by decide) (hts (.fieldLink RX1 23 "LimitTables$Grid" "guard" "D") (by decide +kernel)) (fun _ h9 => h9) rfl (by decide +kernel) rfl rfl (Nat.le_of_ble_eq_true rfl) dX1_build_19 (fun H locs hP hD hS => ?_)
    have hP : va_P D vwCl [(a_this, .inr (0, [.ref a_this_values, .ref a_this_kinds, .int p3, .double (v_p1.2.2.1 (0 : Int32).toNatClampNeg), .double v_this_ratio, .int v_this_bridging, .int v_this_length, .int v_this_guessColumn, .double v_this_guessError, .double v_this_guessValue])), (a_this_values, .inl (k 1, 256, aD v_this_values)), (a_this_kinds, .inl (k 2, 256, aI v_this_kinds)), (a_p1_first, .inr (2, [.ref a_p1_first_numbers, .int v_p1.1.2])), (a_p1_first_numbers, .inl (k 1, 16, aD v_p1.1.1)), (a_p1_second, .inr (2, [.ref a_p1_second_numbers, .int v_p1.2.1.2])), (a_p1_second_numbers, .inl (k 1, 16, aD v_p1.2.1.1)), (a_p1_settings, .inl (k 1, 3, aD v_p1.2.2.1)), (a_p1, .inr (3, [.ref a_p1_first, .ref a_p1_second, .ref a_p1_settings, .int v_p1.2.2.2]))] H := hP
    have hD : va_D A [(a_this, .inr (0, [.ref a_this_values, .ref a_this_kinds, .int p3, .double (v_p1.2.2.1 (0 : Int32).toNatClampNeg), .double v_this_ratio, .int v_this_bridging, .int v_this_length, .int v_this_guessColumn, .double v_this_guessError, .double v_this_guessValue])), (a_this_values, .inl (k 1, 256, aD v_this_values)), (a_this_kinds, .inl (k 2, 256, aI v_this_kinds)), (a_p1_first, .inr (2, [.ref a_p1_first_numbers, .int v_p1.1.2])), (a_p1_first_numbers, .inl (k 1, 16, aD v_p1.1.1)), (a_p1_second, .inr (2, [.ref a_p1_second_numbers, .int v_p1.2.1.2])), (a_p1_second_numbers, .inl (k 1, 16, aD v_p1.2.1.1)), (a_p1_settings, .inl (k 1, 3, aD v_p1.2.2.1)), (a_p1, .inr (3, [.ref a_p1_first, .ref a_p1_second, .ref a_p1_settings, .int v_p1.2.2.2]))] := hD
    refine lv_aload_n hx hb dX1_build_22 rfl (lv_at hl 1 rfl) ?_
    refine lv_aload_n hx hb dX1_build_23 rfl (lv_at hl 2 rfl) ?_
    refine va_get (D := D) (ci := 3) (v := .ref a_p1_settings) (C := RX5) (T := TX5) (N := 4) hx hb hts hinX5_X1_build hown hK hP 8 rfl rfl 2 (by decide) (hts (.fieldLink RX1 52 "LimitTables$State" "settings" "[D") (by decide +kernel)) (fun _ h9 => h9) rfl dX1_build_24 ?_
    refine lv_iconst (v := 1) hx hb dX1_build_27 (by decide) ?_
    refine va_dald hx hb hK hP 7 1 rfl rfl (inb_in rfl) dX1_build_28 ?_
    refine va_put (D := D) (ci := 0) (v := .double (v_p1.2.2.1 (1 : Int32).toNatClampNeg)) (ty := .double) (C := RX1) (T := TX1) (N := 10) hx hb hts hinX1_X1_build tyX1 tyX1_ok nmX1 hown hK hP hD hS 0 rfl rfl 4 (by decide) (hts (.fieldLink RX1 27 "LimitTables$Grid" "ratio" "D") (by decide +kernel)) (fun _ h9 => h9) rfl (by decide +kernel) rfl rfl (Nat.le_of_ble_eq_true rfl) dX1_build_29 (fun H locs hP hD hS => ?_)
    have hP : va_P D vwCl [(a_this, .inr (0, [.ref a_this_values, .ref a_this_kinds, .int p3, .double (v_p1.2.2.1 (0 : Int32).toNatClampNeg), .double (v_p1.2.2.1 (1 : Int32).toNatClampNeg), .int v_this_bridging, .int v_this_length, .int v_this_guessColumn, .double v_this_guessError, .double v_this_guessValue])), (a_this_values, .inl (k 1, 256, aD v_this_values)), (a_this_kinds, .inl (k 2, 256, aI v_this_kinds)), (a_p1_first, .inr (2, [.ref a_p1_first_numbers, .int v_p1.1.2])), (a_p1_first_numbers, .inl (k 1, 16, aD v_p1.1.1)), (a_p1_second, .inr (2, [.ref a_p1_second_numbers, .int v_p1.2.1.2])), (a_p1_second_numbers, .inl (k 1, 16, aD v_p1.2.1.1)), (a_p1_settings, .inl (k 1, 3, aD v_p1.2.2.1)), (a_p1, .inr (3, [.ref a_p1_first, .ref a_p1_second, .ref a_p1_settings, .int v_p1.2.2.2]))] H := hP
    have hD : va_D A [(a_this, .inr (0, [.ref a_this_values, .ref a_this_kinds, .int p3, .double (v_p1.2.2.1 (0 : Int32).toNatClampNeg), .double (v_p1.2.2.1 (1 : Int32).toNatClampNeg), .int v_this_bridging, .int v_this_length, .int v_this_guessColumn, .double v_this_guessError, .double v_this_guessValue])), (a_this_values, .inl (k 1, 256, aD v_this_values)), (a_this_kinds, .inl (k 2, 256, aI v_this_kinds)), (a_p1_first, .inr (2, [.ref a_p1_first_numbers, .int v_p1.1.2])), (a_p1_first_numbers, .inl (k 1, 16, aD v_p1.1.1)), (a_p1_second, .inr (2, [.ref a_p1_second_numbers, .int v_p1.2.1.2])), (a_p1_second_numbers, .inl (k 1, 16, aD v_p1.2.1.1)), (a_p1_settings, .inl (k 1, 3, aD v_p1.2.2.1)), (a_p1, .inr (3, [.ref a_p1_first, .ref a_p1_second, .ref a_p1_settings, .int v_p1.2.2.2]))] := hD
    refine lv_aload_n hx hb dX1_build_32 rfl (lv_at hl 1 rfl) ?_
    refine lv_aload_n hx hb dX1_build_33 rfl (lv_at hl 2 rfl) ?_
    refine va_get (D := D) (ci := 3) (v := .int v_p1.2.2.2) (C := RX5) (T := TX5) (N := 4) hx hb hts hinX5_X1_build hown hK hP 8 rfl rfl 3 (by decide) (hts (.fieldLink RX1 55 "LimitTables$State" "bridging" "Z") (by decide +kernel)) (fun _ h9 => h9) rfl dX1_build_34 ?_
    obtain ⟨g4, hf⟩ := gD_h hf
    refine va_put (D := D) (ci := 0) (v := .int v_p1.2.2.2) (ty := .boolean) (C := RX1) (T := TX1) (N := 10) hx hb hts hinX1_X1_build tyX1 tyX1_ok nmX1 hown hK hP hD hS 0 rfl rfl 5 (by decide) (hts (.fieldLink RX1 30 "LimitTables$Grid" "bridging" "Z") (by decide +kernel)) (fun _ h9 => h9) rfl (by decide +kernel) (isB_n g4) (isB_f g4) (Nat.le_of_ble_eq_true rfl) dX1_build_37 (fun H locs hP hD hS => ?_)
    have hP : va_P D vwCl [(a_this, .inr (0, [.ref a_this_values, .ref a_this_kinds, .int p3, .double (v_p1.2.2.1 (0 : Int32).toNatClampNeg), .double (v_p1.2.2.1 (1 : Int32).toNatClampNeg), .int v_p1.2.2.2, .int v_this_length, .int v_this_guessColumn, .double v_this_guessError, .double v_this_guessValue])), (a_this_values, .inl (k 1, 256, aD v_this_values)), (a_this_kinds, .inl (k 2, 256, aI v_this_kinds)), (a_p1_first, .inr (2, [.ref a_p1_first_numbers, .int v_p1.1.2])), (a_p1_first_numbers, .inl (k 1, 16, aD v_p1.1.1)), (a_p1_second, .inr (2, [.ref a_p1_second_numbers, .int v_p1.2.1.2])), (a_p1_second_numbers, .inl (k 1, 16, aD v_p1.2.1.1)), (a_p1_settings, .inl (k 1, 3, aD v_p1.2.2.1)), (a_p1, .inr (3, [.ref a_p1_first, .ref a_p1_second, .ref a_p1_settings, .int v_p1.2.2.2]))] H := hP
    have hD : va_D A [(a_this, .inr (0, [.ref a_this_values, .ref a_this_kinds, .int p3, .double (v_p1.2.2.1 (0 : Int32).toNatClampNeg), .double (v_p1.2.2.1 (1 : Int32).toNatClampNeg), .int v_p1.2.2.2, .int v_this_length, .int v_this_guessColumn, .double v_this_guessError, .double v_this_guessValue])), (a_this_values, .inl (k 1, 256, aD v_this_values)), (a_this_kinds, .inl (k 2, 256, aI v_this_kinds)), (a_p1_first, .inr (2, [.ref a_p1_first_numbers, .int v_p1.1.2])), (a_p1_first_numbers, .inl (k 1, 16, aD v_p1.1.1)), (a_p1_second, .inr (2, [.ref a_p1_second_numbers, .int v_p1.2.1.2])), (a_p1_second_numbers, .inl (k 1, 16, aD v_p1.2.1.1)), (a_p1_settings, .inl (k 1, 3, aD v_p1.2.2.1)), (a_p1, .inr (3, [.ref a_p1_first, .ref a_p1_second, .ref a_p1_settings, .int v_p1.2.2.2]))] := hD
    refine lv_aload_n hx hb dX1_build_40 rfl (lv_at hl 1 rfl) ?_
    refine lv_aload hx hb dX1_build_41 (lv_at hl 0 rfl) ?_
    refine va_get (D := D) (ci := 2) (v := .int v_p1.2.1.2) (C := RX4) (T := TX4) (N := 2) hx hb hts hinX4_X1_build hown hK hP 5 rfl rfl 1 (by decide) (hts (.fieldLink RX1 56 "LimitTables$Row" "length" "I") (by decide +kernel)) (fun _ h9 => h9) rfl dX1_build_43 ?_
    refine va_put (D := D) (ci := 0) (v := .int v_p1.2.1.2) (ty := .int) (C := RX1) (T := TX1) (N := 10) hx hb hts hinX1_X1_build tyX1 tyX1_ok nmX1 hown hK hP hD hS 0 rfl rfl 6 (by decide) (hts (.fieldLink RX1 34 "LimitTables$Grid" "length" "I") (by decide +kernel)) (fun _ h9 => h9) rfl (by decide +kernel) rfl rfl (Nat.le_of_ble_eq_true rfl) dX1_build_46 (fun H locs hP hD hS => ?_)
    have hP : va_P D vwCl [(a_this, .inr (0, [.ref a_this_values, .ref a_this_kinds, .int p3, .double (v_p1.2.2.1 (0 : Int32).toNatClampNeg), .double (v_p1.2.2.1 (1 : Int32).toNatClampNeg), .int v_p1.2.2.2, .int v_p1.2.1.2, .int v_this_guessColumn, .double v_this_guessError, .double v_this_guessValue])), (a_this_values, .inl (k 1, 256, aD v_this_values)), (a_this_kinds, .inl (k 2, 256, aI v_this_kinds)), (a_p1_first, .inr (2, [.ref a_p1_first_numbers, .int v_p1.1.2])), (a_p1_first_numbers, .inl (k 1, 16, aD v_p1.1.1)), (a_p1_second, .inr (2, [.ref a_p1_second_numbers, .int v_p1.2.1.2])), (a_p1_second_numbers, .inl (k 1, 16, aD v_p1.2.1.1)), (a_p1_settings, .inl (k 1, 3, aD v_p1.2.2.1)), (a_p1, .inr (3, [.ref a_p1_first, .ref a_p1_second, .ref a_p1_settings, .int v_p1.2.2.2]))] H := hP
    have hD : va_D A [(a_this, .inr (0, [.ref a_this_values, .ref a_this_kinds, .int p3, .double (v_p1.2.2.1 (0 : Int32).toNatClampNeg), .double (v_p1.2.2.1 (1 : Int32).toNatClampNeg), .int v_p1.2.2.2, .int v_p1.2.1.2, .int v_this_guessColumn, .double v_this_guessError, .double v_this_guessValue])), (a_this_values, .inl (k 1, 256, aD v_this_values)), (a_this_kinds, .inl (k 2, 256, aI v_this_kinds)), (a_p1_first, .inr (2, [.ref a_p1_first_numbers, .int v_p1.1.2])), (a_p1_first_numbers, .inl (k 1, 16, aD v_p1.1.1)), (a_p1_second, .inr (2, [.ref a_p1_second_numbers, .int v_p1.2.1.2])), (a_p1_second_numbers, .inl (k 1, 16, aD v_p1.2.1.1)), (a_p1_settings, .inl (k 1, 3, aD v_p1.2.2.1)), (a_p1, .inr (3, [.ref a_p1_first, .ref a_p1_second, .ref a_p1_settings, .int v_p1.2.2.2]))] := hD
    refine lv_iconst (v := 0) hx hb dX1_build_49 (by decide) ?_
    refine lv_istore (lv' := [(5, .int (0 : Int32)), (4, .ref a_p1_second), (0, .ref a_this), (1, .ref a_p1), (2, .int p2), (3, .int p3)]) hx hb dX1_build_50 hl (by decide) rfl (fun ls hl => ?_)
    obtain ⟨x5, hx5, hf⟩ := bind_s hf
    have X82 : ∀ (H : Heap) (locs : List Loc) (ls : Array Slot), va_P D vwCl [(a_this, .inr (0, [.ref a_this_values, .ref a_this_kinds, .int p3, .double (v_p1.2.2.1 (0 : Int32).toNatClampNeg), .double (v_p1.2.2.1 (1 : Int32).toNatClampNeg), .int v_p1.2.2.2, .int v_p1.2.1.2, .int v_this_guessColumn, .double v_this_guessError, .double v_this_guessValue])), (a_this_values, .inl (k 1, 256, aD x5.1)), (a_this_kinds, .inl (k 2, 256, aI x5.2)), (a_p1_first, .inr (2, [.ref a_p1_first_numbers, .int v_p1.1.2])), (a_p1_first_numbers, .inl (k 1, 16, aD v_p1.1.1)), (a_p1_second, .inr (2, [.ref a_p1_second_numbers, .int v_p1.2.1.2])), (a_p1_second_numbers, .inl (k 1, 16, aD v_p1.2.1.1)), (a_p1_settings, .inl (k 1, 3, aD v_p1.2.2.1)), (a_p1, .inr (3, [.ref a_p1_first, .ref a_p1_second, .ref a_p1_settings, .int v_p1.2.2.2]))] H → va_D A [(a_this, .inr (0, [.ref a_this_values, .ref a_this_kinds, .int p3, .double (v_p1.2.2.1 (0 : Int32).toNatClampNeg), .double (v_p1.2.2.1 (1 : Int32).toNatClampNeg), .int v_p1.2.2.2, .int v_p1.2.1.2, .int v_this_guessColumn, .double v_this_guessError, .double v_this_guessValue])), (a_this_values, .inl (k 1, 256, aD x5.1)), (a_this_kinds, .inl (k 2, 256, aI x5.2)), (a_p1_first, .inr (2, [.ref a_p1_first_numbers, .int v_p1.1.2])), (a_p1_first_numbers, .inl (k 1, 16, aD v_p1.1.1)), (a_p1_second, .inr (2, [.ref a_p1_second_numbers, .int v_p1.2.1.2])), (a_p1_second_numbers, .inl (k 1, 16, aD v_p1.2.1.1)), (a_p1_settings, .inl (k 1, 3, aD v_p1.2.2.1)), (a_p1, .inr (3, [.ref a_p1_first, .ref a_p1_second, .ref a_p1_settings, .int v_p1.2.2.2]))] → va_S A s.heap H locs → lv_has ls 8 [(0, .ref a_this)] → W p l e (headSpec wsX1_build rm_X1_build).room s m ([.ref a_this, .ref a_p1, .int p2, .int p3] : List Value).toArray below meth c H locs 0 0 Q (F0 m 82 ls []) := by
      intro H locs ls hP hD hS hl
      refine lv_iconst (v := 1) hx hb dX1_build_82 (by decide) ?_
      refine lv_istore (lv' := [(5, .int (1 : Int32)), (0, .ref a_this)]) hx hb dX1_build_83 hl (by decide) rfl (fun ls hl => ?_)
      have L85 : ∀ (n85 : Nat) (x85_5 : Int32) (w85_this_values : Nat → UInt64) (w85_this_kinds : Nat → Int32) (H : Heap) (locs : List Loc) (ls : Array Slot), va_P D vwCl [(a_this, .inr (0, [.ref a_this_values, .ref a_this_kinds, .int p3, .double (v_p1.2.2.1 (0 : Int32).toNatClampNeg), .double (v_p1.2.2.1 (1 : Int32).toNatClampNeg), .int v_p1.2.2.2, .int v_p1.2.1.2, .int v_this_guessColumn, .double v_this_guessError, .double v_this_guessValue])), (a_this_values, .inl (k 1, 256, aD w85_this_values)), (a_this_kinds, .inl (k 2, 256, aI w85_this_kinds)), (a_p1_first, .inr (2, [.ref a_p1_first_numbers, .int v_p1.1.2])), (a_p1_first_numbers, .inl (k 1, 16, aD v_p1.1.1)), (a_p1_second, .inr (2, [.ref a_p1_second_numbers, .int v_p1.2.1.2])), (a_p1_second_numbers, .inl (k 1, 16, aD v_p1.2.1.1)), (a_p1_settings, .inl (k 1, 3, aD v_p1.2.2.1)), (a_p1, .inr (3, [.ref a_p1_first, .ref a_p1_second, .ref a_p1_settings, .int v_p1.2.2.2]))] H → va_D A [(a_this, .inr (0, [.ref a_this_values, .ref a_this_kinds, .int p3, .double (v_p1.2.2.1 (0 : Int32).toNatClampNeg), .double (v_p1.2.2.1 (1 : Int32).toNatClampNeg), .int v_p1.2.2.2, .int v_p1.2.1.2, .int v_this_guessColumn, .double v_this_guessError, .double v_this_guessValue])), (a_this_values, .inl (k 1, 256, aD w85_this_values)), (a_this_kinds, .inl (k 2, 256, aI w85_this_kinds)), (a_p1_first, .inr (2, [.ref a_p1_first_numbers, .int v_p1.1.2])), (a_p1_first_numbers, .inl (k 1, 16, aD v_p1.1.1)), (a_p1_second, .inr (2, [.ref a_p1_second_numbers, .int v_p1.2.1.2])), (a_p1_second_numbers, .inl (k 1, 16, aD v_p1.2.1.1)), (a_p1_settings, .inl (k 1, 3, aD v_p1.2.2.1)), (a_p1, .inr (3, [.ref a_p1_first, .ref a_p1_second, .ref a_p1_settings, .int v_p1.2.2.2]))] → va_S A s.heap H locs → lv_has ls 8 [(0, .ref a_this), (5, .int x85_5)] → p_X1_build_L85_1 v_p1 p3 n85 x85_5 w85_this_values w85_this_kinds = some o → W p l e (headSpec wsX1_build rm_X1_build).room s m ([.ref a_this, .ref a_p1, .int p2, .int p3] : List Value).toArray below meth c H locs 0 0 Q (F0 m 85 ls []) := by
        intro n85
        induction n85 with
        | zero =>
          intro x85_5 w85_this_values w85_this_kinds H locs ls hP hD hS hl hf
          exact absurd hf (by simp [p_X1_build_L85_1])
        | succ n85 ih85 =>
          intro x85_5 w85_this_values w85_this_kinds H locs ls hP hD hS hl hf
          rw [p_X1_build_L85_1] at hf
          refine lv_iload hx hb dX1_build_85 (lv_at hl 1 rfl) ?_
          refine lv_bipush (v := 16) hx hb dX1_build_87 (by decide) ?_
          refine lv_icmp_ge (tgt := 134) hx hb dX1_build_89 (by decide) (fun c2001 => ?_) (fun c2001 => ?_)
          · skip
            have hf := if_t c2001 hf
            have ho := Option.some.inj hf
            subst ho
            rw [hQ]
            exact W.vret hx hb hr (fun t ht hW => ⟨⟨(), rfl, trivial, by rw [ht]; exact hP.sub (ws' := [(a_this, .inr (0, [.ref a_this_values, .ref a_this_kinds, .int p3, .double (v_p1.2.2.1 (0 : Int32).toNatClampNeg), .double (v_p1.2.2.1 (1 : Int32).toNatClampNeg), .int v_p1.2.2.2, .int v_p1.2.1.2, .int v_this_guessColumn, .double v_this_guessError, .double v_this_guessValue])), (a_this_values, .inl (k 1, 256, aD w85_this_values)), (a_this_kinds, .inl (k 2, 256, aI w85_this_kinds)), (a_p1, .inr (3, [.ref a_p1_first, .ref a_p1_second, .ref a_p1_settings, .int v_p1.2.2.2])), (a_p1_first, .inr (2, [.ref a_p1_first_numbers, .int v_p1.1.2])), (a_p1_first_numbers, .inl (k 1, 16, aD v_p1.1.1)), (a_p1_second, .inr (2, [.ref a_p1_second_numbers, .int v_p1.2.1.2])), (a_p1_second_numbers, .inl (k 1, 16, aD v_p1.2.1.1)), (a_p1_settings, .inl (k 1, 3, aD v_p1.2.2.1))]) [0, 1, 2, 8, 3, 4, 5, 6, 7] rfl, va_K.moved hW.alike hK, hD.sub (ws' := [(a_this, .inr (0, [.ref a_this_values, .ref a_this_kinds, .int p3, .double (v_p1.2.2.1 (0 : Int32).toNatClampNeg), .double (v_p1.2.2.1 (1 : Int32).toNatClampNeg), .int v_p1.2.2.2, .int v_p1.2.1.2, .int v_this_guessColumn, .double v_this_guessError, .double v_this_guessValue])), (a_this_values, .inl (k 1, 256, aD w85_this_values)), (a_this_kinds, .inl (k 2, 256, aI w85_this_kinds)), (a_p1, .inr (3, [.ref a_p1_first, .ref a_p1_second, .ref a_p1_settings, .int v_p1.2.2.2])), (a_p1_first, .inr (2, [.ref a_p1_first_numbers, .int v_p1.1.2])), (a_p1_first_numbers, .inl (k 1, 16, aD v_p1.1.1)), (a_p1_second, .inr (2, [.ref a_p1_second_numbers, .int v_p1.2.1.2])), (a_p1_second_numbers, .inl (k 1, 16, aD v_p1.2.1.1)), (a_p1_settings, .inl (k 1, 3, aD v_p1.2.2.1))]) [0, 1, 2, 8, 3, 4, 5, 6, 7] (by decide) rfl⟩, hS.F ht⟩) hS.2.2 dX1_build_134
          · skip
            have hf := if_f c2001 hf
            refine lv_aload_n hx hb dX1_build_92 rfl (lv_at hl 0 rfl) ?_
            refine lv_iload hx hb dX1_build_93 (lv_at hl 1 rfl) ?_
            refine lv_aload_n hx hb dX1_build_95 rfl (lv_at hl 0 rfl) ?_
            refine va_get (D := D) (ci := 0) (v := .int v_p1.2.1.2) (C := RX1) (T := TX1) (N := 10) hx hb hts hinX1_X1_build hown hK hP 0 rfl rfl 6 (by decide) (hts (.fieldLink RX1 34 "LimitTables$Grid" "length" "I") (by decide +kernel)) (fun _ h9 => h9) rfl dX1_build_96 ?_
            obtain ⟨x2002, hx2002, hf⟩ := bind_s hf
            refine cc_i (r := x2002) (wc := [(a_this, .inr (0, [.ref a_this_values, .ref a_this_kinds, .int p3, .double (v_p1.2.2.1 (0 : Int32).toNatClampNeg), .double (v_p1.2.2.1 (1 : Int32).toNatClampNeg), .int v_p1.2.2.2, .int v_p1.2.1.2, .int v_this_guessColumn, .double v_this_guessError, .double v_this_guessValue]))]) (wr := [(a_this_values, .inl (k 1, 256, aD w85_this_values)), (a_this_kinds, .inl (k 2, 256, aI w85_this_kinds)), (a_p1_first, .inr (2, [.ref a_p1_first_numbers, .int v_p1.1.2])), (a_p1_first_numbers, .inl (k 1, 16, aD v_p1.1.1)), (a_p1_second, .inr (2, [.ref a_p1_second_numbers, .int v_p1.2.1.2])), (a_p1_second_numbers, .inl (k 1, 16, aD v_p1.2.1.1)), (a_p1_settings, .inl (k 1, 3, aD v_p1.2.2.1)), (a_p1, .inr (3, [.ref a_p1_first, .ref a_p1_second, .ref a_p1_settings, .int v_p1.2.2.2]))]) (w1 := [(a_this, .inr (0, [.ref a_this_values, .ref a_this_kinds, .int p3, .double (v_p1.2.2.1 (0 : Int32).toNatClampNeg), .double (v_p1.2.2.1 (1 : Int32).toNatClampNeg), .int v_p1.2.2.2, .int v_p1.2.1.2, .int v_this_guessColumn, .double v_this_guessError, .double v_this_guessValue]))]) (va_runV (As := [.int x85_5, .int v_p1.2.1.2]) (rest := []) ⟨hx, hb, hml, hown, hts⟩ (mt_X1_manyIn l D k a_this a_this_values a_this_kinds _ p3 (v_p1.2.2.1 (0 : Int32).toNatClampNeg) (v_p1.2.2.1 (1 : Int32).toNatClampNeg) v_p1.2.2.2 v_p1.2.1.2 v_this_guessColumn v_this_guessError v_this_guessValue x85_5 v_p1.2.1.2 x2002 hx2002) (cwV 2 hts gX1_build_X1_manyIn rfl rfl rfl (by decide +kernel) ⟨(Nat.le_of_ble_eq_true rfl), (Nat.le_of_ble_eq_true rfl)⟩) (cc_pv (wc := [(a_this, .inr (0, [.ref a_this_values, .ref a_this_kinds, .int p3, .double (v_p1.2.2.1 (0 : Int32).toNatClampNeg), .double (v_p1.2.2.1 (1 : Int32).toNatClampNeg), .int v_p1.2.2.2, .int v_p1.2.1.2, .int v_this_guessColumn, .double v_this_guessError, .double v_this_guessValue]))]) hK hP hD [0] (by decide) rfl rfl 0 0 rfl rfl rfl) rfl rfl hl.1 rfl (lv_room (Nat.le_of_ble_eq_true rfl)) dX1_build_99 ⟨Nat.zero_le _, Nat.zero_le _⟩) hP hD hS hA [0] [1, 2, 3, 4, 5, 6, 7, 8] rfl rfl (by decide) (by decide) (fun H locs hP hD hS => ?_)
            have hP : va_P D vwCl [(a_this_values, .inl (k 1, 256, aD w85_this_values)), (a_this_kinds, .inl (k 2, 256, aI w85_this_kinds)), (a_p1_first, .inr (2, [.ref a_p1_first_numbers, .int v_p1.1.2])), (a_p1_first_numbers, .inl (k 1, 16, aD v_p1.1.1)), (a_p1_second, .inr (2, [.ref a_p1_second_numbers, .int v_p1.2.1.2])), (a_p1_second_numbers, .inl (k 1, 16, aD v_p1.2.1.1)), (a_p1_settings, .inl (k 1, 3, aD v_p1.2.2.1)), (a_p1, .inr (3, [.ref a_p1_first, .ref a_p1_second, .ref a_p1_settings, .int v_p1.2.2.2])), (a_this, .inr (0, [.ref a_this_values, .ref a_this_kinds, .int p3, .double (v_p1.2.2.1 (0 : Int32).toNatClampNeg), .double (v_p1.2.2.1 (1 : Int32).toNatClampNeg), .int v_p1.2.2.2, .int v_p1.2.1.2, .int v_this_guessColumn, .double v_this_guessError, .double v_this_guessValue]))] H := hP
            have hD : va_D A [(a_this_values, .inl (k 1, 256, aD w85_this_values)), (a_this_kinds, .inl (k 2, 256, aI w85_this_kinds)), (a_p1_first, .inr (2, [.ref a_p1_first_numbers, .int v_p1.1.2])), (a_p1_first_numbers, .inl (k 1, 16, aD v_p1.1.1)), (a_p1_second, .inr (2, [.ref a_p1_second_numbers, .int v_p1.2.1.2])), (a_p1_second_numbers, .inl (k 1, 16, aD v_p1.2.1.1)), (a_p1_settings, .inl (k 1, 3, aD v_p1.2.2.1)), (a_p1, .inr (3, [.ref a_p1_first, .ref a_p1_second, .ref a_p1_settings, .int v_p1.2.2.2])), (a_this, .inr (0, [.ref a_this_values, .ref a_this_kinds, .int p3, .double (v_p1.2.2.1 (0 : Int32).toNatClampNeg), .double (v_p1.2.2.1 (1 : Int32).toNatClampNeg), .int v_p1.2.2.2, .int v_p1.2.1.2, .int v_this_guessColumn, .double v_this_guessError, .double v_this_guessValue]))] := hD
            refine lv_istore (lv' := [(6, .int x2002), (0, .ref a_this), (5, .int x85_5)]) hx hb dX1_build_102 hl (by decide) rfl (fun ls hl => ?_)
            refine lv_iconst (v := 0) hx hb dX1_build_104 (by decide) ?_
            refine lv_istore (lv' := [(7, .int (0 : Int32)), (6, .int x2002), (0, .ref a_this), (5, .int x85_5)]) hx hb dX1_build_105 hl (by decide) rfl (fun ls hl => ?_)
            obtain ⟨x2003, hx2003, hf⟩ := bind_s hf
            have X128 : ∀ (H : Heap) (locs : List Loc) (ls : Array Slot), va_P D vwCl [(a_this_values, .inl (k 1, 256, aD x2003.2.1)), (a_this_kinds, .inl (k 2, 256, aI x2003.2.2)), (a_p1_first, .inr (2, [.ref a_p1_first_numbers, .int v_p1.1.2])), (a_p1_first_numbers, .inl (k 1, 16, aD v_p1.1.1)), (a_p1_second, .inr (2, [.ref a_p1_second_numbers, .int v_p1.2.1.2])), (a_p1_second_numbers, .inl (k 1, 16, aD v_p1.2.1.1)), (a_p1_settings, .inl (k 1, 3, aD v_p1.2.2.1)), (a_p1, .inr (3, [.ref a_p1_first, .ref a_p1_second, .ref a_p1_settings, .int v_p1.2.2.2])), (a_this, .inr (0, [.ref a_this_values, .ref a_this_kinds, .int p3, .double (v_p1.2.2.1 (0 : Int32).toNatClampNeg), .double (v_p1.2.2.1 (1 : Int32).toNatClampNeg), .int v_p1.2.2.2, .int v_p1.2.1.2, .int v_this_guessColumn, .double v_this_guessError, .double v_this_guessValue]))] H → va_D A [(a_this_values, .inl (k 1, 256, aD x2003.2.1)), (a_this_kinds, .inl (k 2, 256, aI x2003.2.2)), (a_p1_first, .inr (2, [.ref a_p1_first_numbers, .int v_p1.1.2])), (a_p1_first_numbers, .inl (k 1, 16, aD v_p1.1.1)), (a_p1_second, .inr (2, [.ref a_p1_second_numbers, .int v_p1.2.1.2])), (a_p1_second_numbers, .inl (k 1, 16, aD v_p1.2.1.1)), (a_p1_settings, .inl (k 1, 3, aD v_p1.2.2.1)), (a_p1, .inr (3, [.ref a_p1_first, .ref a_p1_second, .ref a_p1_settings, .int v_p1.2.2.2])), (a_this, .inr (0, [.ref a_this_values, .ref a_this_kinds, .int p3, .double (v_p1.2.2.1 (0 : Int32).toNatClampNeg), .double (v_p1.2.2.1 (1 : Int32).toNatClampNeg), .int v_p1.2.2.2, .int v_p1.2.1.2, .int v_this_guessColumn, .double v_this_guessError, .double v_this_guessValue]))] → va_S A s.heap H locs → lv_has ls 8 [(0, .ref a_this), (5, .int x2003.1)] → W p l e (headSpec wsX1_build rm_X1_build).room s m ([.ref a_this, .ref a_p1, .int p2, .int p3] : List Value).toArray below meth c H locs 0 0 Q (F0 m 128 ls []) := by
              intro H locs ls hP hD hS hl
              refine lv_iinc (v := (x2003.1 + 1)) (lv' := [(5, .int (x2003.1 + 1)), (0, .ref a_this)]) hx hb dX1_build_128 hl (k := 1) rfl rfl (by decide) rfl (fun ls hl => ?_)
              refine lv_goto (tgt := 85) hx hb dX1_build_131 (by decide) ?_
              have hP := hP.sub (ws' := [(a_this, .inr (0, [.ref a_this_values, .ref a_this_kinds, .int p3, .double (v_p1.2.2.1 (0 : Int32).toNatClampNeg), .double (v_p1.2.2.1 (1 : Int32).toNatClampNeg), .int v_p1.2.2.2, .int v_p1.2.1.2, .int v_this_guessColumn, .double v_this_guessError, .double v_this_guessValue])), (a_this_values, .inl (k 1, 256, aD x2003.2.1)), (a_this_kinds, .inl (k 2, 256, aI x2003.2.2)), (a_p1_first, .inr (2, [.ref a_p1_first_numbers, .int v_p1.1.2])), (a_p1_first_numbers, .inl (k 1, 16, aD v_p1.1.1)), (a_p1_second, .inr (2, [.ref a_p1_second_numbers, .int v_p1.2.1.2])), (a_p1_second_numbers, .inl (k 1, 16, aD v_p1.2.1.1)), (a_p1_settings, .inl (k 1, 3, aD v_p1.2.2.1)), (a_p1, .inr (3, [.ref a_p1_first, .ref a_p1_second, .ref a_p1_settings, .int v_p1.2.2.2]))]) [8, 0, 1, 2, 3, 4, 5, 6, 7] rfl
              have hD := hD.sub (ws' := [(a_this, .inr (0, [.ref a_this_values, .ref a_this_kinds, .int p3, .double (v_p1.2.2.1 (0 : Int32).toNatClampNeg), .double (v_p1.2.2.1 (1 : Int32).toNatClampNeg), .int v_p1.2.2.2, .int v_p1.2.1.2, .int v_this_guessColumn, .double v_this_guessError, .double v_this_guessValue])), (a_this_values, .inl (k 1, 256, aD x2003.2.1)), (a_this_kinds, .inl (k 2, 256, aI x2003.2.2)), (a_p1_first, .inr (2, [.ref a_p1_first_numbers, .int v_p1.1.2])), (a_p1_first_numbers, .inl (k 1, 16, aD v_p1.1.1)), (a_p1_second, .inr (2, [.ref a_p1_second_numbers, .int v_p1.2.1.2])), (a_p1_second_numbers, .inl (k 1, 16, aD v_p1.2.1.1)), (a_p1_settings, .inl (k 1, 3, aD v_p1.2.2.1)), (a_p1, .inr (3, [.ref a_p1_first, .ref a_p1_second, .ref a_p1_settings, .int v_p1.2.2.2]))]) [8, 0, 1, 2, 3, 4, 5, 6, 7] (by decide) rfl
              exact ih85 (x2003.1 + 1) x2003.2.1 x2003.2.2 H locs ls hP hD hS (lv_sub hl [1, 0] rfl) hf
            have L107 : ∀ (n107 : Nat) (x107_5 : Int32) (x107_6 : Int32) (x107_7 : Int32) (w107_this_values : Nat → UInt64) (w107_this_kinds : Nat → Int32) (H : Heap) (locs : List Loc) (ls : Array Slot), va_P D vwCl [(a_this_values, .inl (k 1, 256, aD w107_this_values)), (a_this_kinds, .inl (k 2, 256, aI w107_this_kinds)), (a_p1_first, .inr (2, [.ref a_p1_first_numbers, .int v_p1.1.2])), (a_p1_first_numbers, .inl (k 1, 16, aD v_p1.1.1)), (a_p1_second, .inr (2, [.ref a_p1_second_numbers, .int v_p1.2.1.2])), (a_p1_second_numbers, .inl (k 1, 16, aD v_p1.2.1.1)), (a_p1_settings, .inl (k 1, 3, aD v_p1.2.2.1)), (a_p1, .inr (3, [.ref a_p1_first, .ref a_p1_second, .ref a_p1_settings, .int v_p1.2.2.2])), (a_this, .inr (0, [.ref a_this_values, .ref a_this_kinds, .int p3, .double (v_p1.2.2.1 (0 : Int32).toNatClampNeg), .double (v_p1.2.2.1 (1 : Int32).toNatClampNeg), .int v_p1.2.2.2, .int v_p1.2.1.2, .int v_this_guessColumn, .double v_this_guessError, .double v_this_guessValue]))] H → va_D A [(a_this_values, .inl (k 1, 256, aD w107_this_values)), (a_this_kinds, .inl (k 2, 256, aI w107_this_kinds)), (a_p1_first, .inr (2, [.ref a_p1_first_numbers, .int v_p1.1.2])), (a_p1_first_numbers, .inl (k 1, 16, aD v_p1.1.1)), (a_p1_second, .inr (2, [.ref a_p1_second_numbers, .int v_p1.2.1.2])), (a_p1_second_numbers, .inl (k 1, 16, aD v_p1.2.1.1)), (a_p1_settings, .inl (k 1, 3, aD v_p1.2.2.1)), (a_p1, .inr (3, [.ref a_p1_first, .ref a_p1_second, .ref a_p1_settings, .int v_p1.2.2.2])), (a_this, .inr (0, [.ref a_this_values, .ref a_this_kinds, .int p3, .double (v_p1.2.2.1 (0 : Int32).toNatClampNeg), .double (v_p1.2.2.1 (1 : Int32).toNatClampNeg), .int v_p1.2.2.2, .int v_p1.2.1.2, .int v_this_guessColumn, .double v_this_guessError, .double v_this_guessValue]))] → va_S A s.heap H locs → lv_has ls 8 [(0, .ref a_this), (5, .int x107_5), (6, .int x107_6), (7, .int x107_7)] → p_X1_build_L107 v_p1 p3 n107 x107_5 x107_6 x107_7 w107_this_values w107_this_kinds = some x2003 → W p l e (headSpec wsX1_build rm_X1_build).room s m ([.ref a_this, .ref a_p1, .int p2, .int p3] : List Value).toArray below meth c H locs 0 0 Q (F0 m 107 ls []) := by
              intro n107
              induction n107 with
              | zero =>
                intro x107_5 x107_6 x107_7 w107_this_values w107_this_kinds H locs ls hP hD hS hl hx2003
                exact absurd hx2003 (by simp [p_X1_build_L107])
              | succ n107 ih107 =>
                intro x107_5 x107_6 x107_7 w107_this_values w107_this_kinds H locs ls hP hD hS hl hx2003
                rw [p_X1_build_L107] at hx2003
                refine lv_iload hx hb dX1_build_107 (lv_at hl 3 rfl) ?_
                refine lv_iload hx hb dX1_build_109 (lv_at hl 2 rfl) ?_
                refine lv_icmp_ge (tgt := 128) hx hb dX1_build_111 (by decide) (fun c3001 => ?_) (fun c3001 => ?_)
                · skip
                  have hx2003 := if_t c3001 hx2003
                  have ho := Option.some.inj hx2003
                  subst ho
                  exact X128 H locs ls hP hD hS (lv_sub hl [0, 1] rfl)
                · skip
                  have hx2003 := if_f c3001 hx2003
                  refine lv_aload_n hx hb dX1_build_114 rfl (lv_at hl 0 rfl) ?_
                  refine lv_iload hx hb dX1_build_115 (lv_at hl 1 rfl) ?_
                  refine lv_iload hx hb dX1_build_117 (lv_at hl 3 rfl) ?_
                  obtain ⟨x3002, hx3002, hx2003⟩ := bind_s hx2003
                  refine cc_v (wc := [(a_this, .inr (0, [.ref a_this_values, .ref a_this_kinds, .int p3, .double (v_p1.2.2.1 (0 : Int32).toNatClampNeg), .double (v_p1.2.2.1 (1 : Int32).toNatClampNeg), .int v_p1.2.2.2, .int v_p1.2.1.2, .int v_this_guessColumn, .double v_this_guessError, .double v_this_guessValue])), (a_this_values, .inl (k 1, 256, aD w107_this_values)), (a_this_kinds, .inl (k 2, 256, aI w107_this_kinds))]) (wr := [(a_p1_first, .inr (2, [.ref a_p1_first_numbers, .int v_p1.1.2])), (a_p1_first_numbers, .inl (k 1, 16, aD v_p1.1.1)), (a_p1_second, .inr (2, [.ref a_p1_second_numbers, .int v_p1.2.1.2])), (a_p1_second_numbers, .inl (k 1, 16, aD v_p1.2.1.1)), (a_p1_settings, .inl (k 1, 3, aD v_p1.2.2.1)), (a_p1, .inr (3, [.ref a_p1_first, .ref a_p1_second, .ref a_p1_settings, .int v_p1.2.2.2]))]) (w1 := [(a_this, .inr (0, [.ref a_this_values, .ref a_this_kinds, .int p3, .double (v_p1.2.2.1 (0 : Int32).toNatClampNeg), .double (v_p1.2.2.1 (1 : Int32).toNatClampNeg), .int v_p1.2.2.2, .int v_p1.2.1.2, .int v_this_guessColumn, .double v_this_guessError, .double v_this_guessValue])), (a_this_values, .inl (k 1, 256, aD x3002.1)), (a_this_kinds, .inl (k 2, 256, aI x3002.2))]) (va_runV (As := [.int x107_5, .int x107_7]) (rest := []) ⟨hx, hb, hml, hown, hts⟩ (mt_X1_makeEntry l D k a_this a_this_values a_this_kinds _ w107_this_values w107_this_kinds p3 (v_p1.2.2.1 (0 : Int32).toNatClampNeg) (v_p1.2.2.1 (1 : Int32).toNatClampNeg) v_p1.2.2.2 v_p1.2.1.2 v_this_guessColumn v_this_guessError v_this_guessValue x107_5 x107_7 x3002 hx3002) (cwV 2 hts gX1_build_X1_makeEntry rfl rfl rfl (by decide +kernel) ⟨(Nat.le_of_ble_eq_true rfl), (Nat.le_of_ble_eq_true rfl)⟩) (cc_pv (wc := [(a_this, .inr (0, [.ref a_this_values, .ref a_this_kinds, .int p3, .double (v_p1.2.2.1 (0 : Int32).toNatClampNeg), .double (v_p1.2.2.1 (1 : Int32).toNatClampNeg), .int v_p1.2.2.2, .int v_p1.2.1.2, .int v_this_guessColumn, .double v_this_guessError, .double v_this_guessValue])), (a_this_values, .inl (k 1, 256, aD w107_this_values)), (a_this_kinds, .inl (k 2, 256, aI w107_this_kinds))]) hK hP hD [8, 0, 1] (by decide) rfl rfl 0 8 rfl rfl rfl) rfl rfl hl.1 rfl (lv_room (Nat.le_of_ble_eq_true rfl)) dX1_build_119 ⟨Nat.zero_le _, Nat.zero_le _⟩) hP hD hS hA [8, 0, 1] [2, 3, 4, 5, 6, 7] rfl rfl (by decide) (by decide) (fun H locs hP hD hS => ?_)
                  have hP : va_P D vwCl [(a_p1_first, .inr (2, [.ref a_p1_first_numbers, .int v_p1.1.2])), (a_p1_first_numbers, .inl (k 1, 16, aD v_p1.1.1)), (a_p1_second, .inr (2, [.ref a_p1_second_numbers, .int v_p1.2.1.2])), (a_p1_second_numbers, .inl (k 1, 16, aD v_p1.2.1.1)), (a_p1_settings, .inl (k 1, 3, aD v_p1.2.2.1)), (a_p1, .inr (3, [.ref a_p1_first, .ref a_p1_second, .ref a_p1_settings, .int v_p1.2.2.2])), (a_this, .inr (0, [.ref a_this_values, .ref a_this_kinds, .int p3, .double (v_p1.2.2.1 (0 : Int32).toNatClampNeg), .double (v_p1.2.2.1 (1 : Int32).toNatClampNeg), .int v_p1.2.2.2, .int v_p1.2.1.2, .int v_this_guessColumn, .double v_this_guessError, .double v_this_guessValue])), (a_this_values, .inl (k 1, 256, aD x3002.1)), (a_this_kinds, .inl (k 2, 256, aI x3002.2))] H := hP
                  have hD : va_D A [(a_p1_first, .inr (2, [.ref a_p1_first_numbers, .int v_p1.1.2])), (a_p1_first_numbers, .inl (k 1, 16, aD v_p1.1.1)), (a_p1_second, .inr (2, [.ref a_p1_second_numbers, .int v_p1.2.1.2])), (a_p1_second_numbers, .inl (k 1, 16, aD v_p1.2.1.1)), (a_p1_settings, .inl (k 1, 3, aD v_p1.2.2.1)), (a_p1, .inr (3, [.ref a_p1_first, .ref a_p1_second, .ref a_p1_settings, .int v_p1.2.2.2])), (a_this, .inr (0, [.ref a_this_values, .ref a_this_kinds, .int p3, .double (v_p1.2.2.1 (0 : Int32).toNatClampNeg), .double (v_p1.2.2.1 (1 : Int32).toNatClampNeg), .int v_p1.2.2.2, .int v_p1.2.1.2, .int v_this_guessColumn, .double v_this_guessError, .double v_this_guessValue])), (a_this_values, .inl (k 1, 256, aD x3002.1)), (a_this_kinds, .inl (k 2, 256, aI x3002.2))] := hD
                  refine lv_iinc (v := (x107_7 + 1)) (lv' := [(7, .int (x107_7 + 1)), (0, .ref a_this), (5, .int x107_5), (6, .int x107_6)]) hx hb dX1_build_122 hl (k := 3) rfl rfl (by decide) rfl (fun ls hl => ?_)
                  refine lv_goto (tgt := 107) hx hb dX1_build_125 (by decide) ?_
                  have hP := hP.sub (ws' := [(a_this_values, .inl (k 1, 256, aD x3002.1)), (a_this_kinds, .inl (k 2, 256, aI x3002.2)), (a_p1_first, .inr (2, [.ref a_p1_first_numbers, .int v_p1.1.2])), (a_p1_first_numbers, .inl (k 1, 16, aD v_p1.1.1)), (a_p1_second, .inr (2, [.ref a_p1_second_numbers, .int v_p1.2.1.2])), (a_p1_second_numbers, .inl (k 1, 16, aD v_p1.2.1.1)), (a_p1_settings, .inl (k 1, 3, aD v_p1.2.2.1)), (a_p1, .inr (3, [.ref a_p1_first, .ref a_p1_second, .ref a_p1_settings, .int v_p1.2.2.2])), (a_this, .inr (0, [.ref a_this_values, .ref a_this_kinds, .int p3, .double (v_p1.2.2.1 (0 : Int32).toNatClampNeg), .double (v_p1.2.2.1 (1 : Int32).toNatClampNeg), .int v_p1.2.2.2, .int v_p1.2.1.2, .int v_this_guessColumn, .double v_this_guessError, .double v_this_guessValue]))]) [7, 8, 0, 1, 2, 3, 4, 5, 6] rfl
                  have hD := hD.sub (ws' := [(a_this_values, .inl (k 1, 256, aD x3002.1)), (a_this_kinds, .inl (k 2, 256, aI x3002.2)), (a_p1_first, .inr (2, [.ref a_p1_first_numbers, .int v_p1.1.2])), (a_p1_first_numbers, .inl (k 1, 16, aD v_p1.1.1)), (a_p1_second, .inr (2, [.ref a_p1_second_numbers, .int v_p1.2.1.2])), (a_p1_second_numbers, .inl (k 1, 16, aD v_p1.2.1.1)), (a_p1_settings, .inl (k 1, 3, aD v_p1.2.2.1)), (a_p1, .inr (3, [.ref a_p1_first, .ref a_p1_second, .ref a_p1_settings, .int v_p1.2.2.2])), (a_this, .inr (0, [.ref a_this_values, .ref a_this_kinds, .int p3, .double (v_p1.2.2.1 (0 : Int32).toNatClampNeg), .double (v_p1.2.2.1 (1 : Int32).toNatClampNeg), .int v_p1.2.2.2, .int v_p1.2.1.2, .int v_this_guessColumn, .double v_this_guessError, .double v_this_guessValue]))]) [7, 8, 0, 1, 2, 3, 4, 5, 6] (by decide) rfl
                  exact ih107 x107_5 x107_6 (x107_7 + 1) x3002.1 x3002.2 H locs ls hP hD hS (lv_sub hl [1, 2, 3, 0] rfl) hx2003
            exact L107 300 x85_5 x2002 (0 : Int32) w85_this_values w85_this_kinds H locs ls hP hD hS (lv_sub hl [2, 3, 1, 0] rfl) hx2003
      exact L85 300 (1 : Int32) x5.1 x5.2 H locs ls hP hD hS (lv_sub hl [1, 0] rfl) hf
    have L52 : ∀ (n52 : Nat) (x52_5 : Int32) (w52_this_values : Nat → UInt64) (w52_this_kinds : Nat → Int32) (H : Heap) (locs : List Loc) (ls : Array Slot), va_P D vwCl [(a_this, .inr (0, [.ref a_this_values, .ref a_this_kinds, .int p3, .double (v_p1.2.2.1 (0 : Int32).toNatClampNeg), .double (v_p1.2.2.1 (1 : Int32).toNatClampNeg), .int v_p1.2.2.2, .int v_p1.2.1.2, .int v_this_guessColumn, .double v_this_guessError, .double v_this_guessValue])), (a_this_values, .inl (k 1, 256, aD w52_this_values)), (a_this_kinds, .inl (k 2, 256, aI w52_this_kinds)), (a_p1_first, .inr (2, [.ref a_p1_first_numbers, .int v_p1.1.2])), (a_p1_first_numbers, .inl (k 1, 16, aD v_p1.1.1)), (a_p1_second, .inr (2, [.ref a_p1_second_numbers, .int v_p1.2.1.2])), (a_p1_second_numbers, .inl (k 1, 16, aD v_p1.2.1.1)), (a_p1_settings, .inl (k 1, 3, aD v_p1.2.2.1)), (a_p1, .inr (3, [.ref a_p1_first, .ref a_p1_second, .ref a_p1_settings, .int v_p1.2.2.2]))] H → va_D A [(a_this, .inr (0, [.ref a_this_values, .ref a_this_kinds, .int p3, .double (v_p1.2.2.1 (0 : Int32).toNatClampNeg), .double (v_p1.2.2.1 (1 : Int32).toNatClampNeg), .int v_p1.2.2.2, .int v_p1.2.1.2, .int v_this_guessColumn, .double v_this_guessError, .double v_this_guessValue])), (a_this_values, .inl (k 1, 256, aD w52_this_values)), (a_this_kinds, .inl (k 2, 256, aI w52_this_kinds)), (a_p1_first, .inr (2, [.ref a_p1_first_numbers, .int v_p1.1.2])), (a_p1_first_numbers, .inl (k 1, 16, aD v_p1.1.1)), (a_p1_second, .inr (2, [.ref a_p1_second_numbers, .int v_p1.2.1.2])), (a_p1_second_numbers, .inl (k 1, 16, aD v_p1.2.1.1)), (a_p1_settings, .inl (k 1, 3, aD v_p1.2.2.1)), (a_p1, .inr (3, [.ref a_p1_first, .ref a_p1_second, .ref a_p1_settings, .int v_p1.2.2.2]))] → va_S A s.heap H locs → lv_has ls 8 [(0, .ref a_this), (4, .ref a_p1_second), (5, .int x52_5)] → p_X1_build_L52_1 v_p1 n52 x52_5 w52_this_values w52_this_kinds = some x5 → W p l e (headSpec wsX1_build rm_X1_build).room s m ([.ref a_this, .ref a_p1, .int p2, .int p3] : List Value).toArray below meth c H locs 0 0 Q (F0 m 52 ls []) := by
      intro n52
      induction n52 with
      | zero =>
        intro x52_5 w52_this_values w52_this_kinds H locs ls hP hD hS hl hx5
        exact absurd hx5 (by simp [p_X1_build_L52_1])
      | succ n52 ih52 =>
        intro x52_5 w52_this_values w52_this_kinds H locs ls hP hD hS hl hx5
        rw [p_X1_build_L52_1] at hx5
        refine lv_iload hx hb dX1_build_52 (lv_at hl 2 rfl) ?_
        refine lv_aload_n hx hb dX1_build_54 rfl (lv_at hl 0 rfl) ?_
        refine va_get (D := D) (ci := 0) (v := .int v_p1.2.1.2) (C := RX1) (T := TX1) (N := 10) hx hb hts hinX1_X1_build hown hK hP 0 rfl rfl 6 (by decide) (hts (.fieldLink RX1 34 "LimitTables$Grid" "length" "I") (by decide +kernel)) (fun _ h9 => h9) rfl dX1_build_55 ?_
        refine lv_icmp_ge (tgt := 82) hx hb dX1_build_58 (by decide) (fun c1001 => ?_) (fun c1001 => ?_)
        · skip
          have hx5 := if_t c1001 hx5
          have ho := Option.some.inj hx5
          subst ho
          exact X82 H locs ls hP hD hS (lv_sub hl [0] rfl)
        · skip
          have hx5 := if_f c1001 hx5
          refine lv_aload_n hx hb dX1_build_61 rfl (lv_at hl 0 rfl) ?_
          refine lv_iload hx hb dX1_build_62 (lv_at hl 2 rfl) ?_
          refine lv_aload hx hb dX1_build_64 (lv_at hl 1 rfl) ?_
          refine va_get (D := D) (ci := 2) (v := .ref a_p1_second_numbers) (C := RX4) (T := TX4) (N := 2) hx hb hts hinX4_X1_build hown hK hP 5 rfl rfl 0 (by decide) (hts (.fieldLink RX1 59 "LimitTables$Row" "numbers" "[D") (by decide +kernel)) (fun _ h9 => h9) rfl dX1_build_66 ?_
          refine lv_iload hx hb dX1_build_69 (lv_at hl 2 rfl) ?_
          obtain ⟨g1002, hx5⟩ := gD_h hx5
          refine va_dald hx hb hK hP 6 1 rfl rfl (inb_in g1002) dX1_build_71 ?_
          refine lv_iconst (v := 0) hx hb dX1_build_72 (by decide) ?_
          obtain ⟨x1003, hx1003, hx5⟩ := bind_s hx5
          refine cc_v (wc := [(a_this, .inr (0, [.ref a_this_values, .ref a_this_kinds, .int p3, .double (v_p1.2.2.1 (0 : Int32).toNatClampNeg), .double (v_p1.2.2.1 (1 : Int32).toNatClampNeg), .int v_p1.2.2.2, .int v_p1.2.1.2, .int v_this_guessColumn, .double v_this_guessError, .double v_this_guessValue])), (a_this_values, .inl (k 1, 256, aD w52_this_values)), (a_this_kinds, .inl (k 2, 256, aI w52_this_kinds))]) (wr := [(a_p1_first, .inr (2, [.ref a_p1_first_numbers, .int v_p1.1.2])), (a_p1_first_numbers, .inl (k 1, 16, aD v_p1.1.1)), (a_p1_second, .inr (2, [.ref a_p1_second_numbers, .int v_p1.2.1.2])), (a_p1_second_numbers, .inl (k 1, 16, aD v_p1.2.1.1)), (a_p1_settings, .inl (k 1, 3, aD v_p1.2.2.1)), (a_p1, .inr (3, [.ref a_p1_first, .ref a_p1_second, .ref a_p1_settings, .int v_p1.2.2.2]))]) (w1 := [(a_this, .inr (0, [.ref a_this_values, .ref a_this_kinds, .int p3, .double (v_p1.2.2.1 (0 : Int32).toNatClampNeg), .double (v_p1.2.2.1 (1 : Int32).toNatClampNeg), .int v_p1.2.2.2, .int v_p1.2.1.2, .int v_this_guessColumn, .double v_this_guessError, .double v_this_guessValue])), (a_this_values, .inl (k 1, 256, aD x1003.1)), (a_this_kinds, .inl (k 2, 256, aI x1003.2))]) (va_runV (As := [.int x52_5, .double (v_p1.2.1.1 x52_5.toNatClampNeg), .int (0 : Int32)]) (rest := []) ⟨hx, hb, hml, hown, hts⟩ (mt_X1_put l D k a_this a_this_values a_this_kinds _ w52_this_values w52_this_kinds p3 (v_p1.2.2.1 (0 : Int32).toNatClampNeg) (v_p1.2.2.1 (1 : Int32).toNatClampNeg) v_p1.2.2.2 v_p1.2.1.2 v_this_guessColumn v_this_guessError v_this_guessValue x52_5 (v_p1.2.1.1 x52_5.toNatClampNeg) (0 : Int32) x1003 hx1003) (cwV 3 hts gX1_build_X1_put rfl rfl rfl (by decide +kernel) ⟨(Nat.le_of_ble_eq_true rfl), (Nat.le_of_ble_eq_true rfl)⟩) (cc_pv (wc := [(a_this, .inr (0, [.ref a_this_values, .ref a_this_kinds, .int p3, .double (v_p1.2.2.1 (0 : Int32).toNatClampNeg), .double (v_p1.2.2.1 (1 : Int32).toNatClampNeg), .int v_p1.2.2.2, .int v_p1.2.1.2, .int v_this_guessColumn, .double v_this_guessError, .double v_this_guessValue])), (a_this_values, .inl (k 1, 256, aD w52_this_values)), (a_this_kinds, .inl (k 2, 256, aI w52_this_kinds))]) hK hP hD [0, 1, 2] (by decide) rfl rfl 0 0 rfl rfl rfl) rfl rfl hl.1 rfl (lv_room (Nat.le_of_ble_eq_true rfl)) dX1_build_73 ⟨Nat.zero_le _, Nat.zero_le _⟩) hP hD hS hA [0, 1, 2] [3, 4, 5, 6, 7, 8] rfl rfl (by decide) (by decide) (fun H locs hP hD hS => ?_)
          have hP : va_P D vwCl [(a_p1_first, .inr (2, [.ref a_p1_first_numbers, .int v_p1.1.2])), (a_p1_first_numbers, .inl (k 1, 16, aD v_p1.1.1)), (a_p1_second, .inr (2, [.ref a_p1_second_numbers, .int v_p1.2.1.2])), (a_p1_second_numbers, .inl (k 1, 16, aD v_p1.2.1.1)), (a_p1_settings, .inl (k 1, 3, aD v_p1.2.2.1)), (a_p1, .inr (3, [.ref a_p1_first, .ref a_p1_second, .ref a_p1_settings, .int v_p1.2.2.2])), (a_this, .inr (0, [.ref a_this_values, .ref a_this_kinds, .int p3, .double (v_p1.2.2.1 (0 : Int32).toNatClampNeg), .double (v_p1.2.2.1 (1 : Int32).toNatClampNeg), .int v_p1.2.2.2, .int v_p1.2.1.2, .int v_this_guessColumn, .double v_this_guessError, .double v_this_guessValue])), (a_this_values, .inl (k 1, 256, aD x1003.1)), (a_this_kinds, .inl (k 2, 256, aI x1003.2))] H := hP
          have hD : va_D A [(a_p1_first, .inr (2, [.ref a_p1_first_numbers, .int v_p1.1.2])), (a_p1_first_numbers, .inl (k 1, 16, aD v_p1.1.1)), (a_p1_second, .inr (2, [.ref a_p1_second_numbers, .int v_p1.2.1.2])), (a_p1_second_numbers, .inl (k 1, 16, aD v_p1.2.1.1)), (a_p1_settings, .inl (k 1, 3, aD v_p1.2.2.1)), (a_p1, .inr (3, [.ref a_p1_first, .ref a_p1_second, .ref a_p1_settings, .int v_p1.2.2.2])), (a_this, .inr (0, [.ref a_this_values, .ref a_this_kinds, .int p3, .double (v_p1.2.2.1 (0 : Int32).toNatClampNeg), .double (v_p1.2.2.1 (1 : Int32).toNatClampNeg), .int v_p1.2.2.2, .int v_p1.2.1.2, .int v_this_guessColumn, .double v_this_guessError, .double v_this_guessValue])), (a_this_values, .inl (k 1, 256, aD x1003.1)), (a_this_kinds, .inl (k 2, 256, aI x1003.2))] := hD
          refine lv_iinc (v := (x52_5 + 1)) (lv' := [(5, .int (x52_5 + 1)), (0, .ref a_this), (4, .ref a_p1_second)]) hx hb dX1_build_76 hl (k := 2) rfl rfl (by decide) rfl (fun ls hl => ?_)
          refine lv_goto (tgt := 52) hx hb dX1_build_79 (by decide) ?_
          have hP := hP.sub (ws' := [(a_this, .inr (0, [.ref a_this_values, .ref a_this_kinds, .int p3, .double (v_p1.2.2.1 (0 : Int32).toNatClampNeg), .double (v_p1.2.2.1 (1 : Int32).toNatClampNeg), .int v_p1.2.2.2, .int v_p1.2.1.2, .int v_this_guessColumn, .double v_this_guessError, .double v_this_guessValue])), (a_this_values, .inl (k 1, 256, aD x1003.1)), (a_this_kinds, .inl (k 2, 256, aI x1003.2)), (a_p1_first, .inr (2, [.ref a_p1_first_numbers, .int v_p1.1.2])), (a_p1_first_numbers, .inl (k 1, 16, aD v_p1.1.1)), (a_p1_second, .inr (2, [.ref a_p1_second_numbers, .int v_p1.2.1.2])), (a_p1_second_numbers, .inl (k 1, 16, aD v_p1.2.1.1)), (a_p1_settings, .inl (k 1, 3, aD v_p1.2.2.1)), (a_p1, .inr (3, [.ref a_p1_first, .ref a_p1_second, .ref a_p1_settings, .int v_p1.2.2.2]))]) [6, 7, 8, 0, 1, 2, 3, 4, 5] rfl
          have hD := hD.sub (ws' := [(a_this, .inr (0, [.ref a_this_values, .ref a_this_kinds, .int p3, .double (v_p1.2.2.1 (0 : Int32).toNatClampNeg), .double (v_p1.2.2.1 (1 : Int32).toNatClampNeg), .int v_p1.2.2.2, .int v_p1.2.1.2, .int v_this_guessColumn, .double v_this_guessError, .double v_this_guessValue])), (a_this_values, .inl (k 1, 256, aD x1003.1)), (a_this_kinds, .inl (k 2, 256, aI x1003.2)), (a_p1_first, .inr (2, [.ref a_p1_first_numbers, .int v_p1.1.2])), (a_p1_first_numbers, .inl (k 1, 16, aD v_p1.1.1)), (a_p1_second, .inr (2, [.ref a_p1_second_numbers, .int v_p1.2.1.2])), (a_p1_second_numbers, .inl (k 1, 16, aD v_p1.2.1.1)), (a_p1_settings, .inl (k 1, 3, aD v_p1.2.2.1)), (a_p1, .inr (3, [.ref a_p1_first, .ref a_p1_second, .ref a_p1_settings, .int v_p1.2.2.2]))]) [6, 7, 8, 0, 1, 2, 3, 4, 5] (by decide) rfl
          exact ih52 (x52_5 + 1) x1003.1 x1003.2 H locs ls hP hD hS (lv_sub hl [1, 2, 0] rfl) hx5
    exact L52 300 (0 : Int32) v_this_values v_this_kinds H locs ls hP hD hS (lv_sub hl [2, 1, 0] rfl) hx5
theorem hinX1_X1_hasEntry : ∀ w ∈ wsX10, w ∈ wsX1_hasEntry := by decide +kernel
def p_X1_hasEntry (v_this_table : Int32) (v_this_length : Int32) (p1 : Int32) (p2 : Int32) : Option (Int32) := (if p1 < 0 then some (0 : Int32) else (if (16 : Int32) ≤ p1 then some (0 : Int32) else (if p2 < 0 then some (0 : Int32) else (p_X1_manyIn v_this_table p1 v_this_length).bind fun x4 => (if x4 ≤ p2 then some (0 : Int32) else some (1 : Int32)))))
abbrev rm_X1_hasEntry : Room := { frames := 1, cells := 0, slots := 0, locals := 23 }
set_option maxHeartbeats 4000000 in
set_option maxRecDepth 100000 in
theorem mt_X1_hasEntry (l : Launch) (D : va_G) (k : Nat → ClassId) (a_this a_this_values a_this_kinds : Nat) (sz : Nat) (v_this_table : Int32) (v_this_guard : UInt64) (v_this_ratio : UInt64) (v_this_bridging : Int32) (v_this_length : Int32) (v_this_guessColumn : Int32) (v_this_guessError : UInt64) (v_this_guessValue : UInt64) (p1 : Int32) (p2 : Int32) (o : Int32) (hf : p_X1_hasEntry v_this_table v_this_length p1 p2 = some o)  : Met l yX1_hasEntry wsX1_hasEntry rm_X1_hasEntry (va_Pc [.ref a_this, .int p1, .int p2] (bW D k sz [(a_this, .inr (0, [.ref a_this_values, .ref a_this_kinds, .int v_this_table, .double v_this_guard, .double v_this_ratio, .int v_this_bridging, .int v_this_length, .int v_this_guessColumn, .double v_this_guessError, .double v_this_guessValue]))])) (va_Qi (fun (r : Int32) (_ : Unit) => r = o) (fun _ => bO D k (va_A [(a_this, .inr (0, [.ref a_this_values, .ref a_this_kinds, .int v_this_table, .double v_this_guard, .double v_this_ratio, .int v_this_bridging, .int v_this_length, .int v_this_guessColumn, .double v_this_guessError, .double v_this_guessValue]))] sz) [(a_this, .inr (0, [.ref a_this_values, .ref a_this_kinds, .int v_this_table, .double v_this_guard, .double v_this_ratio, .int v_this_bridging, .int v_this_length, .int v_this_guessColumn, .double v_this_guessError, .double v_this_guessValue]))]) (va_A [(a_this, .inr (0, [.ref a_this_values, .ref a_this_kinds, .int v_this_table, .double v_this_guard, .double v_this_ratio, .int v_this_bridging, .int v_this_length, .int v_this_guessColumn, .double v_this_guessError, .double v_this_guessValue]))] sz)) 0 0 (va_A [(a_this, .inr (0, [.ref a_this_values, .ref a_this_kinds, .int v_this_table, .double v_this_guard, .double v_this_ratio, .int v_this_bridging, .int v_this_length, .int v_this_guessColumn, .double v_this_guessError, .double v_this_guessValue]))] sz) := by
  unfold p_X1_hasEntry at hf
  refine Met.ofW (cc := cX1_hasEntry) (maxL := 3) (ret := (some .boolean)) (by decide) rfl ?_
  intro p e s m args below meth c s₁ B hml hv
  obtain ⟨rfl, hsz, hP, hK, hD0⟩ := hv
  have hx := B.exec
  have hb := B.bytes
  have hr := B.returns
  have hts := atoms_spec (ws := wsX1_hasEntry) B.pre
  have hown : s.vm.findClass RX1 = some m.cls := findClass_of_methodNamed B.named
  have hlocks := B.notSynchronized
  subst hsz
  have hD := hD0.self (sz := s.heap.size)
  generalize hAe : va_A [(a_this, .inr (0, [.ref a_this_values, .ref a_this_kinds, .int v_this_table, .double v_this_guard, .double v_this_ratio, .int v_this_bridging, .int v_this_length, .int v_this_guessColumn, .double v_this_guessError, .double v_this_guessValue]))] s.heap.size = A at hD ⊢
  have hA : ∀ q : Nat, s.heap.size ≤ q → A q := fun q h => by rw [← hAe]; exact Or.inr h
  have hS : va_S A s.heap s.heap [] := va_S.rf
  have hl := lv_entry [.ref a_this, .int p1, .int p2] (n := 3) (Nat.le_of_ble_eq_true rfl)
  rw [lg_entry_eq]
  generalize (lg_sl [.ref a_this, .int p1, .int p2] ++ List.replicate (3 - (lg_sl [.ref a_this, .int p1, .int p2]).length) Slot.unset).toArray = ls at hl ⊢
  have hl : lv_has ls 3 [(0, .ref a_this), (1, .int p1), (2, .int p2)] := hl
  obtain ⟨H, hHe⟩ : ∃ H, H = s.heap := ⟨_, rfl⟩
  have hP : va_P D vwCl [(a_this, .inr (0, [.ref a_this_values, .ref a_this_kinds, .int v_this_table, .double v_this_guard, .double v_this_ratio, .int v_this_bridging, .int v_this_length, .int v_this_guessColumn, .double v_this_guessError, .double v_this_guessValue]))] H := by rw [hHe]; exact hP
  have hS : va_S A s.heap H [] := by rw [hHe]; exact hS
  rw [← hHe]
  obtain ⟨locs, hLe⟩ : ∃ locs : List Loc, locs = [] := ⟨_, rfl⟩
  rw [← hLe] at hS ⊢
  clear hLe
  refine lv_iload_n hx hb dX1_hasEntry_0 rfl (lv_at hl 1 rfl) ?_
  refine lv_if_lt (tgt := 31) hx hb dX1_hasEntry_1 (by decide) (fun c1 => ?_) (fun c1 => ?_)
  · skip
    have hf := if_t c1 hf
    refine lv_iconst (v := 0) hx hb dX1_hasEntry_31 (by decide) ?_
    have ho := Option.some.inj hf
    subst ho
    exact W.zret (v := (0 : Int32)) (ty := .boolean) hx hb hr rfl (fun t ht hW => ⟨⟨(0 : Int32), (), rfl, rfl, by rw [ht]; exact hP.sub (ws' := [(a_this, .inr (0, [.ref a_this_values, .ref a_this_kinds, .int v_this_table, .double v_this_guard, .double v_this_ratio, .int v_this_bridging, .int v_this_length, .int v_this_guessColumn, .double v_this_guessError, .double v_this_guessValue]))]) [0] rfl, va_K.moved hW.alike hK, hD.sub (ws' := [(a_this, .inr (0, [.ref a_this_values, .ref a_this_kinds, .int v_this_table, .double v_this_guard, .double v_this_ratio, .int v_this_bridging, .int v_this_length, .int v_this_guessColumn, .double v_this_guessError, .double v_this_guessValue]))]) [0] (by decide) rfl⟩, hS.F ht⟩) hS.2.2 dX1_hasEntry_32
  · skip
    have hf := if_f c1 hf
    refine lv_iload_n hx hb dX1_hasEntry_4 rfl (lv_at hl 1 rfl) ?_
    refine lv_bipush (v := 16) hx hb dX1_hasEntry_5 (by decide) ?_
    refine lv_icmp_ge (tgt := 31) hx hb dX1_hasEntry_7 (by decide) (fun c2 => ?_) (fun c2 => ?_)
    · skip
      have hf := if_t c2 hf
      refine lv_iconst (v := 0) hx hb dX1_hasEntry_31 (by decide) ?_
      have ho := Option.some.inj hf
      subst ho
      exact W.zret (v := (0 : Int32)) (ty := .boolean) hx hb hr rfl (fun t ht hW => ⟨⟨(0 : Int32), (), rfl, rfl, by rw [ht]; exact hP.sub (ws' := [(a_this, .inr (0, [.ref a_this_values, .ref a_this_kinds, .int v_this_table, .double v_this_guard, .double v_this_ratio, .int v_this_bridging, .int v_this_length, .int v_this_guessColumn, .double v_this_guessError, .double v_this_guessValue]))]) [0] rfl, va_K.moved hW.alike hK, hD.sub (ws' := [(a_this, .inr (0, [.ref a_this_values, .ref a_this_kinds, .int v_this_table, .double v_this_guard, .double v_this_ratio, .int v_this_bridging, .int v_this_length, .int v_this_guessColumn, .double v_this_guessError, .double v_this_guessValue]))]) [0] (by decide) rfl⟩, hS.F ht⟩) hS.2.2 dX1_hasEntry_32
    · skip
      have hf := if_f c2 hf
      refine lv_iload_n hx hb dX1_hasEntry_10 rfl (lv_at hl 2 rfl) ?_
      refine lv_if_lt (tgt := 31) hx hb dX1_hasEntry_11 (by decide) (fun c3 => ?_) (fun c3 => ?_)
      · skip
        have hf := if_t c3 hf
        refine lv_iconst (v := 0) hx hb dX1_hasEntry_31 (by decide) ?_
        have ho := Option.some.inj hf
        subst ho
        exact W.zret (v := (0 : Int32)) (ty := .boolean) hx hb hr rfl (fun t ht hW => ⟨⟨(0 : Int32), (), rfl, rfl, by rw [ht]; exact hP.sub (ws' := [(a_this, .inr (0, [.ref a_this_values, .ref a_this_kinds, .int v_this_table, .double v_this_guard, .double v_this_ratio, .int v_this_bridging, .int v_this_length, .int v_this_guessColumn, .double v_this_guessError, .double v_this_guessValue]))]) [0] rfl, va_K.moved hW.alike hK, hD.sub (ws' := [(a_this, .inr (0, [.ref a_this_values, .ref a_this_kinds, .int v_this_table, .double v_this_guard, .double v_this_ratio, .int v_this_bridging, .int v_this_length, .int v_this_guessColumn, .double v_this_guessError, .double v_this_guessValue]))]) [0] (by decide) rfl⟩, hS.F ht⟩) hS.2.2 dX1_hasEntry_32
      · skip
        have hf := if_f c3 hf
        refine lv_iload_n hx hb dX1_hasEntry_14 rfl (lv_at hl 2 rfl) ?_
        refine lv_aload_n hx hb dX1_hasEntry_15 rfl (lv_at hl 0 rfl) ?_
        refine lv_iload_n hx hb dX1_hasEntry_16 rfl (lv_at hl 1 rfl) ?_
        refine lv_aload_n hx hb dX1_hasEntry_17 rfl (lv_at hl 0 rfl) ?_
        refine va_get (D := D) (ci := 0) (v := .int v_this_length) (C := RX1) (T := TX1) (N := 10) hx hb hts hinX1_X1_hasEntry hown hK hP 0 rfl rfl 6 (by decide) (hts (.fieldLink RX1 34 "LimitTables$Grid" "length" "I") (by decide +kernel)) (fun _ h9 => h9) rfl dX1_hasEntry_18 ?_
        obtain ⟨x4, hx4, hf⟩ := bind_s hf
        refine cc_i (r := x4) (wc := [(a_this, .inr (0, [.ref a_this_values, .ref a_this_kinds, .int v_this_table, .double v_this_guard, .double v_this_ratio, .int v_this_bridging, .int v_this_length, .int v_this_guessColumn, .double v_this_guessError, .double v_this_guessValue]))]) (wr := []) (w1 := [(a_this, .inr (0, [.ref a_this_values, .ref a_this_kinds, .int v_this_table, .double v_this_guard, .double v_this_ratio, .int v_this_bridging, .int v_this_length, .int v_this_guessColumn, .double v_this_guessError, .double v_this_guessValue]))]) (va_runV (As := [.int p1, .int v_this_length]) (rest := [.int p2]) ⟨hx, hb, hml, hown, hts⟩ (mt_X1_manyIn l D k a_this a_this_values a_this_kinds _ v_this_table v_this_guard v_this_ratio v_this_bridging v_this_length v_this_guessColumn v_this_guessError v_this_guessValue p1 v_this_length x4 hx4) (cwV 2 hts gX1_hasEntry_X1_manyIn rfl rfl rfl (by decide +kernel) ⟨(Nat.le_of_ble_eq_true rfl), (Nat.le_of_ble_eq_true rfl)⟩) (cc_pv (wc := [(a_this, .inr (0, [.ref a_this_values, .ref a_this_kinds, .int v_this_table, .double v_this_guard, .double v_this_ratio, .int v_this_bridging, .int v_this_length, .int v_this_guessColumn, .double v_this_guessError, .double v_this_guessValue]))]) hK hP hD [0] (by decide) rfl rfl 0 0 rfl rfl rfl) rfl rfl hl.1 rfl (lv_room (Nat.le_of_ble_eq_true rfl)) dX1_hasEntry_21 ⟨Nat.zero_le _, Nat.zero_le _⟩) hP hD hS hA [0] [] rfl rfl (by decide) (by decide) (fun H locs hP hD hS => ?_)
        have hP : va_P D vwCl [(a_this, .inr (0, [.ref a_this_values, .ref a_this_kinds, .int v_this_table, .double v_this_guard, .double v_this_ratio, .int v_this_bridging, .int v_this_length, .int v_this_guessColumn, .double v_this_guessError, .double v_this_guessValue]))] H := hP
        have hD : va_D A [(a_this, .inr (0, [.ref a_this_values, .ref a_this_kinds, .int v_this_table, .double v_this_guard, .double v_this_ratio, .int v_this_bridging, .int v_this_length, .int v_this_guessColumn, .double v_this_guessError, .double v_this_guessValue]))] := hD
        refine lv_icmp_ge (tgt := 31) hx hb dX1_hasEntry_24 (by decide) (fun c5 => ?_) (fun c5 => ?_)
        · skip
          have hf := if_t c5 hf
          refine lv_iconst (v := 0) hx hb dX1_hasEntry_31 (by decide) ?_
          have ho := Option.some.inj hf
          subst ho
          exact W.zret (v := (0 : Int32)) (ty := .boolean) hx hb hr rfl (fun t ht hW => ⟨⟨(0 : Int32), (), rfl, rfl, by rw [ht]; exact hP.sub (ws' := [(a_this, .inr (0, [.ref a_this_values, .ref a_this_kinds, .int v_this_table, .double v_this_guard, .double v_this_ratio, .int v_this_bridging, .int v_this_length, .int v_this_guessColumn, .double v_this_guessError, .double v_this_guessValue]))]) [0] rfl, va_K.moved hW.alike hK, hD.sub (ws' := [(a_this, .inr (0, [.ref a_this_values, .ref a_this_kinds, .int v_this_table, .double v_this_guard, .double v_this_ratio, .int v_this_bridging, .int v_this_length, .int v_this_guessColumn, .double v_this_guessError, .double v_this_guessValue]))]) [0] (by decide) rfl⟩, hS.F ht⟩) hS.2.2 dX1_hasEntry_32
        · skip
          have hf := if_f c5 hf
          refine lv_iconst (v := 1) hx hb dX1_hasEntry_27 (by decide) ?_
          refine lv_goto (tgt := 32) hx hb dX1_hasEntry_28 (by decide) ?_
          have ho := Option.some.inj hf
          subst ho
          exact W.zret (v := (1 : Int32)) (ty := .boolean) hx hb hr rfl (fun t ht hW => ⟨⟨(1 : Int32), (), rfl, rfl, by rw [ht]; exact hP.sub (ws' := [(a_this, .inr (0, [.ref a_this_values, .ref a_this_kinds, .int v_this_table, .double v_this_guard, .double v_this_ratio, .int v_this_bridging, .int v_this_length, .int v_this_guessColumn, .double v_this_guessError, .double v_this_guessValue]))]) [0] rfl, va_K.moved hW.alike hK, hD.sub (ws' := [(a_this, .inr (0, [.ref a_this_values, .ref a_this_kinds, .int v_this_table, .double v_this_guard, .double v_this_ratio, .int v_this_bridging, .int v_this_length, .int v_this_guessColumn, .double v_this_guessError, .double v_this_guessValue]))]) [0] (by decide) rfl⟩, hS.F ht⟩) hS.2.2 dX1_hasEntry_32
theorem hinX1_X1_kindAt : ∀ w ∈ wsX10, w ∈ wsX1_kindAt := by decide +kernel
def p_X1_kindAt (v_this_kinds : Nat → Int32) (p1 : Int32) (p2 : Int32) : Option (Int32) := gD (inb ((p1 * (16 : Int32)) + p2) 256) (some (v_this_kinds ((p1 * (16 : Int32)) + p2).toNatClampNeg))
abbrev rm_X1_kindAt : Room := { frames := 0, cells := 0, slots := 0, locals := 0 }
set_option maxHeartbeats 4000000 in
set_option maxRecDepth 100000 in
theorem mt_X1_kindAt (l : Launch) (D : va_G) (k : Nat → ClassId) (a_this a_this_values a_this_kinds : Nat) (sz : Nat) (v_this_kinds : Nat → Int32) (v_this_table : Int32) (v_this_guard : UInt64) (v_this_ratio : UInt64) (v_this_bridging : Int32) (v_this_length : Int32) (v_this_guessColumn : Int32) (v_this_guessError : UInt64) (v_this_guessValue : UInt64) (p1 : Int32) (p2 : Int32) (o : Int32) (hf : p_X1_kindAt v_this_kinds p1 p2 = some o)  : Met l yX1_kindAt wsX1_kindAt rm_X1_kindAt (va_Pc [.ref a_this, .int p1, .int p2] (bW D k sz [(a_this, .inr (0, [.ref a_this_values, .ref a_this_kinds, .int v_this_table, .double v_this_guard, .double v_this_ratio, .int v_this_bridging, .int v_this_length, .int v_this_guessColumn, .double v_this_guessError, .double v_this_guessValue])), (a_this_kinds, .inl (k 2, 256, aI v_this_kinds))])) (va_Qi (fun (r : Int32) (_ : Unit) => r = o) (fun _ => bO D k (va_A [(a_this, .inr (0, [.ref a_this_values, .ref a_this_kinds, .int v_this_table, .double v_this_guard, .double v_this_ratio, .int v_this_bridging, .int v_this_length, .int v_this_guessColumn, .double v_this_guessError, .double v_this_guessValue])), (a_this_kinds, .inl (k 2, 256, aI v_this_kinds))] sz) [(a_this, .inr (0, [.ref a_this_values, .ref a_this_kinds, .int v_this_table, .double v_this_guard, .double v_this_ratio, .int v_this_bridging, .int v_this_length, .int v_this_guessColumn, .double v_this_guessError, .double v_this_guessValue])), (a_this_kinds, .inl (k 2, 256, aI v_this_kinds))]) (va_A [(a_this, .inr (0, [.ref a_this_values, .ref a_this_kinds, .int v_this_table, .double v_this_guard, .double v_this_ratio, .int v_this_bridging, .int v_this_length, .int v_this_guessColumn, .double v_this_guessError, .double v_this_guessValue])), (a_this_kinds, .inl (k 2, 256, aI v_this_kinds))] sz)) 0 0 (va_A [(a_this, .inr (0, [.ref a_this_values, .ref a_this_kinds, .int v_this_table, .double v_this_guard, .double v_this_ratio, .int v_this_bridging, .int v_this_length, .int v_this_guessColumn, .double v_this_guessError, .double v_this_guessValue])), (a_this_kinds, .inl (k 2, 256, aI v_this_kinds))] sz) := by
  unfold p_X1_kindAt at hf
  refine Met.ofW (cc := cX1_kindAt) (maxL := 3) (ret := (some .int)) (by decide) rfl ?_
  intro p e s m args below meth c s₁ B hml hv
  obtain ⟨rfl, hsz, hP, hK, hD0⟩ := hv
  have hx := B.exec
  have hb := B.bytes
  have hr := B.returns
  have hts := atoms_spec (ws := wsX1_kindAt) B.pre
  have hown : s.vm.findClass RX1 = some m.cls := findClass_of_methodNamed B.named
  have hlocks := B.notSynchronized
  subst hsz
  have hD := hD0.self (sz := s.heap.size)
  generalize hAe : va_A [(a_this, .inr (0, [.ref a_this_values, .ref a_this_kinds, .int v_this_table, .double v_this_guard, .double v_this_ratio, .int v_this_bridging, .int v_this_length, .int v_this_guessColumn, .double v_this_guessError, .double v_this_guessValue])), (a_this_kinds, .inl (k 2, 256, aI v_this_kinds))] s.heap.size = A at hD ⊢
  have hA : ∀ q : Nat, s.heap.size ≤ q → A q := fun q h => by rw [← hAe]; exact Or.inr h
  have hS : va_S A s.heap s.heap [] := va_S.rf
  have hl := lv_entry [.ref a_this, .int p1, .int p2] (n := 3) (Nat.le_of_ble_eq_true rfl)
  rw [lg_entry_eq]
  generalize (lg_sl [.ref a_this, .int p1, .int p2] ++ List.replicate (3 - (lg_sl [.ref a_this, .int p1, .int p2]).length) Slot.unset).toArray = ls at hl ⊢
  have hl : lv_has ls 3 [(0, .ref a_this), (1, .int p1), (2, .int p2)] := hl
  obtain ⟨H, hHe⟩ : ∃ H, H = s.heap := ⟨_, rfl⟩
  have hP : va_P D vwCl [(a_this, .inr (0, [.ref a_this_values, .ref a_this_kinds, .int v_this_table, .double v_this_guard, .double v_this_ratio, .int v_this_bridging, .int v_this_length, .int v_this_guessColumn, .double v_this_guessError, .double v_this_guessValue])), (a_this_kinds, .inl (k 2, 256, aI v_this_kinds))] H := by rw [hHe]; exact hP
  have hS : va_S A s.heap H [] := by rw [hHe]; exact hS
  rw [← hHe]
  obtain ⟨locs, hLe⟩ : ∃ locs : List Loc, locs = [] := ⟨_, rfl⟩
  rw [← hLe] at hS ⊢
  clear hLe
  refine lv_aload_n hx hb dX1_kindAt_0 rfl (lv_at hl 0 rfl) ?_
  refine va_get (D := D) (ci := 0) (v := .ref a_this_kinds) (C := RX1) (T := TX1) (N := 10) hx hb hts hinX1_X1_kindAt hown hK hP 0 rfl rfl 1 (by decide) (hts (.fieldLink RX1 15 "LimitTables$Grid" "kinds" "[I") (by decide +kernel)) (fun _ h9 => h9) rfl dX1_kindAt_1 ?_
  refine lv_iload_n hx hb dX1_kindAt_4 rfl (lv_at hl 1 rfl) ?_
  refine lv_bipush (v := 16) hx hb dX1_kindAt_5 (by decide) ?_
  refine lv_imul hx hb dX1_kindAt_7 ?_
  refine lv_iload_n hx hb dX1_kindAt_8 rfl (lv_at hl 2 rfl) ?_
  refine lv_iadd hx hb dX1_kindAt_9 ?_
  obtain ⟨g1, hf⟩ := gD_h hf
  refine va_iald hx hb hK hP 1 2 rfl rfl (inb_in g1) dX1_kindAt_10 ?_
  have ho := Option.some.inj hf
  subst ho
  exact W.iret (v := (v_this_kinds ((p1 * (16 : Int32)) + p2).toNatClampNeg)) hx hb hr (fun t ht hW => ⟨⟨(v_this_kinds ((p1 * (16 : Int32)) + p2).toNatClampNeg), (), rfl, rfl, by rw [ht]; exact hP.sub (ws' := [(a_this, .inr (0, [.ref a_this_values, .ref a_this_kinds, .int v_this_table, .double v_this_guard, .double v_this_ratio, .int v_this_bridging, .int v_this_length, .int v_this_guessColumn, .double v_this_guessError, .double v_this_guessValue])), (a_this_kinds, .inl (k 2, 256, aI v_this_kinds))]) [0, 1] rfl, va_K.moved hW.alike hK, hD.sub (ws' := [(a_this, .inr (0, [.ref a_this_values, .ref a_this_kinds, .int v_this_table, .double v_this_guard, .double v_this_ratio, .int v_this_bridging, .int v_this_length, .int v_this_guessColumn, .double v_this_guessError, .double v_this_guessValue])), (a_this_kinds, .inl (k 2, 256, aI v_this_kinds))]) [0, 1] (by decide) rfl⟩, hS.F ht⟩) hS.2.2 dX1_kindAt_11
def p_X1_isBroken (v_this_kinds : Nat → Int32) (p1 : Int32) (p2 : Int32) : Option (Int32) := (p_X1_kindAt v_this_kinds p1 p2).bind fun x1 => (if x1 < (2 : Int32) then some (0 : Int32) else some (1 : Int32))
abbrev rm_X1_isBroken : Room := { frames := 1, cells := 0, slots := 0, locals := 22 }
set_option maxHeartbeats 4000000 in
set_option maxRecDepth 100000 in
theorem mt_X1_isBroken (l : Launch) (D : va_G) (k : Nat → ClassId) (a_this a_this_values a_this_kinds : Nat) (sz : Nat) (v_this_kinds : Nat → Int32) (v_this_table : Int32) (v_this_guard : UInt64) (v_this_ratio : UInt64) (v_this_bridging : Int32) (v_this_length : Int32) (v_this_guessColumn : Int32) (v_this_guessError : UInt64) (v_this_guessValue : UInt64) (p1 : Int32) (p2 : Int32) (o : Int32) (hf : p_X1_isBroken v_this_kinds p1 p2 = some o)  : Met l yX1_isBroken wsX1_isBroken rm_X1_isBroken (va_Pc [.ref a_this, .int p1, .int p2] (bW D k sz [(a_this, .inr (0, [.ref a_this_values, .ref a_this_kinds, .int v_this_table, .double v_this_guard, .double v_this_ratio, .int v_this_bridging, .int v_this_length, .int v_this_guessColumn, .double v_this_guessError, .double v_this_guessValue])), (a_this_kinds, .inl (k 2, 256, aI v_this_kinds))])) (va_Qi (fun (r : Int32) (_ : Unit) => r = o) (fun _ => bO D k (va_A [(a_this, .inr (0, [.ref a_this_values, .ref a_this_kinds, .int v_this_table, .double v_this_guard, .double v_this_ratio, .int v_this_bridging, .int v_this_length, .int v_this_guessColumn, .double v_this_guessError, .double v_this_guessValue])), (a_this_kinds, .inl (k 2, 256, aI v_this_kinds))] sz) [(a_this, .inr (0, [.ref a_this_values, .ref a_this_kinds, .int v_this_table, .double v_this_guard, .double v_this_ratio, .int v_this_bridging, .int v_this_length, .int v_this_guessColumn, .double v_this_guessError, .double v_this_guessValue])), (a_this_kinds, .inl (k 2, 256, aI v_this_kinds))]) (va_A [(a_this, .inr (0, [.ref a_this_values, .ref a_this_kinds, .int v_this_table, .double v_this_guard, .double v_this_ratio, .int v_this_bridging, .int v_this_length, .int v_this_guessColumn, .double v_this_guessError, .double v_this_guessValue])), (a_this_kinds, .inl (k 2, 256, aI v_this_kinds))] sz)) 0 0 (va_A [(a_this, .inr (0, [.ref a_this_values, .ref a_this_kinds, .int v_this_table, .double v_this_guard, .double v_this_ratio, .int v_this_bridging, .int v_this_length, .int v_this_guessColumn, .double v_this_guessError, .double v_this_guessValue])), (a_this_kinds, .inl (k 2, 256, aI v_this_kinds))] sz) := by
  unfold p_X1_isBroken at hf
  refine Met.ofW (cc := cX1_isBroken) (maxL := 3) (ret := (some .boolean)) (by decide) rfl ?_
  intro p e s m args below meth c s₁ B hml hv
  obtain ⟨rfl, hsz, hP, hK, hD0⟩ := hv
  have hx := B.exec
  have hb := B.bytes
  have hr := B.returns
  have hts := atoms_spec (ws := wsX1_isBroken) B.pre
  have hown : s.vm.findClass RX1 = some m.cls := findClass_of_methodNamed B.named
  have hlocks := B.notSynchronized
  subst hsz
  have hD := hD0.self (sz := s.heap.size)
  generalize hAe : va_A [(a_this, .inr (0, [.ref a_this_values, .ref a_this_kinds, .int v_this_table, .double v_this_guard, .double v_this_ratio, .int v_this_bridging, .int v_this_length, .int v_this_guessColumn, .double v_this_guessError, .double v_this_guessValue])), (a_this_kinds, .inl (k 2, 256, aI v_this_kinds))] s.heap.size = A at hD ⊢
  have hA : ∀ q : Nat, s.heap.size ≤ q → A q := fun q h => by rw [← hAe]; exact Or.inr h
  have hS : va_S A s.heap s.heap [] := va_S.rf
  have hl := lv_entry [.ref a_this, .int p1, .int p2] (n := 3) (Nat.le_of_ble_eq_true rfl)
  rw [lg_entry_eq]
  generalize (lg_sl [.ref a_this, .int p1, .int p2] ++ List.replicate (3 - (lg_sl [.ref a_this, .int p1, .int p2]).length) Slot.unset).toArray = ls at hl ⊢
  have hl : lv_has ls 3 [(0, .ref a_this), (1, .int p1), (2, .int p2)] := hl
  obtain ⟨H, hHe⟩ : ∃ H, H = s.heap := ⟨_, rfl⟩
  have hP : va_P D vwCl [(a_this, .inr (0, [.ref a_this_values, .ref a_this_kinds, .int v_this_table, .double v_this_guard, .double v_this_ratio, .int v_this_bridging, .int v_this_length, .int v_this_guessColumn, .double v_this_guessError, .double v_this_guessValue])), (a_this_kinds, .inl (k 2, 256, aI v_this_kinds))] H := by rw [hHe]; exact hP
  have hS : va_S A s.heap H [] := by rw [hHe]; exact hS
  rw [← hHe]
  obtain ⟨locs, hLe⟩ : ∃ locs : List Loc, locs = [] := ⟨_, rfl⟩
  rw [← hLe] at hS ⊢
  clear hLe
  refine lv_aload_n hx hb dX1_isBroken_0 rfl (lv_at hl 0 rfl) ?_
  refine lv_iload_n hx hb dX1_isBroken_1 rfl (lv_at hl 1 rfl) ?_
  refine lv_iload_n hx hb dX1_isBroken_2 rfl (lv_at hl 2 rfl) ?_
  obtain ⟨x1, hx1, hf⟩ := bind_s hf
  refine cc_i (r := x1) (wc := [(a_this, .inr (0, [.ref a_this_values, .ref a_this_kinds, .int v_this_table, .double v_this_guard, .double v_this_ratio, .int v_this_bridging, .int v_this_length, .int v_this_guessColumn, .double v_this_guessError, .double v_this_guessValue])), (a_this_kinds, .inl (k 2, 256, aI v_this_kinds))]) (wr := []) (w1 := [(a_this, .inr (0, [.ref a_this_values, .ref a_this_kinds, .int v_this_table, .double v_this_guard, .double v_this_ratio, .int v_this_bridging, .int v_this_length, .int v_this_guessColumn, .double v_this_guessError, .double v_this_guessValue])), (a_this_kinds, .inl (k 2, 256, aI v_this_kinds))]) (va_runV (As := [.int p1, .int p2]) (rest := []) ⟨hx, hb, hml, hown, hts⟩ (mt_X1_kindAt l D k a_this a_this_values a_this_kinds _ v_this_kinds v_this_table v_this_guard v_this_ratio v_this_bridging v_this_length v_this_guessColumn v_this_guessError v_this_guessValue p1 p2 x1 hx1) (cwV 2 hts gX1_isBroken_X1_kindAt rfl rfl rfl (by decide +kernel) ⟨(Nat.le_of_ble_eq_true rfl), (Nat.le_of_ble_eq_true rfl)⟩) (cc_pv (wc := [(a_this, .inr (0, [.ref a_this_values, .ref a_this_kinds, .int v_this_table, .double v_this_guard, .double v_this_ratio, .int v_this_bridging, .int v_this_length, .int v_this_guessColumn, .double v_this_guessError, .double v_this_guessValue])), (a_this_kinds, .inl (k 2, 256, aI v_this_kinds))]) hK hP hD [0, 1] (by decide) rfl rfl 0 0 rfl rfl rfl) rfl rfl hl.1 rfl (lv_room (Nat.le_of_ble_eq_true rfl)) dX1_isBroken_3 ⟨Nat.zero_le _, Nat.zero_le _⟩) hP hD hS hA [0, 1] [] rfl rfl (by decide) (by decide) (fun H locs hP hD hS => ?_)
  have hP : va_P D vwCl [(a_this, .inr (0, [.ref a_this_values, .ref a_this_kinds, .int v_this_table, .double v_this_guard, .double v_this_ratio, .int v_this_bridging, .int v_this_length, .int v_this_guessColumn, .double v_this_guessError, .double v_this_guessValue])), (a_this_kinds, .inl (k 2, 256, aI v_this_kinds))] H := hP
  have hD : va_D A [(a_this, .inr (0, [.ref a_this_values, .ref a_this_kinds, .int v_this_table, .double v_this_guard, .double v_this_ratio, .int v_this_bridging, .int v_this_length, .int v_this_guessColumn, .double v_this_guessError, .double v_this_guessValue])), (a_this_kinds, .inl (k 2, 256, aI v_this_kinds))] := hD
  refine lv_iconst (v := 2) hx hb dX1_isBroken_6 (by decide) ?_
  refine lv_icmp_lt (tgt := 14) hx hb dX1_isBroken_7 (by decide) (fun c2 => ?_) (fun c2 => ?_)
  · skip
    have hf := if_t c2 hf
    refine lv_iconst (v := 0) hx hb dX1_isBroken_14 (by decide) ?_
    have ho := Option.some.inj hf
    subst ho
    exact W.zret (v := (0 : Int32)) (ty := .boolean) hx hb hr rfl (fun t ht hW => ⟨⟨(0 : Int32), (), rfl, rfl, by rw [ht]; exact hP.sub (ws' := [(a_this, .inr (0, [.ref a_this_values, .ref a_this_kinds, .int v_this_table, .double v_this_guard, .double v_this_ratio, .int v_this_bridging, .int v_this_length, .int v_this_guessColumn, .double v_this_guessError, .double v_this_guessValue])), (a_this_kinds, .inl (k 2, 256, aI v_this_kinds))]) [0, 1] rfl, va_K.moved hW.alike hK, hD.sub (ws' := [(a_this, .inr (0, [.ref a_this_values, .ref a_this_kinds, .int v_this_table, .double v_this_guard, .double v_this_ratio, .int v_this_bridging, .int v_this_length, .int v_this_guessColumn, .double v_this_guessError, .double v_this_guessValue])), (a_this_kinds, .inl (k 2, 256, aI v_this_kinds))]) [0, 1] (by decide) rfl⟩, hS.F ht⟩) hS.2.2 dX1_isBroken_15
  · skip
    have hf := if_f c2 hf
    refine lv_iconst (v := 1) hx hb dX1_isBroken_10 (by decide) ?_
    refine lv_goto (tgt := 15) hx hb dX1_isBroken_11 (by decide) ?_
    have ho := Option.some.inj hf
    subst ho
    exact W.zret (v := (1 : Int32)) (ty := .boolean) hx hb hr rfl (fun t ht hW => ⟨⟨(1 : Int32), (), rfl, rfl, by rw [ht]; exact hP.sub (ws' := [(a_this, .inr (0, [.ref a_this_values, .ref a_this_kinds, .int v_this_table, .double v_this_guard, .double v_this_ratio, .int v_this_bridging, .int v_this_length, .int v_this_guessColumn, .double v_this_guessError, .double v_this_guessValue])), (a_this_kinds, .inl (k 2, 256, aI v_this_kinds))]) [0, 1] rfl, va_K.moved hW.alike hK, hD.sub (ws' := [(a_this, .inr (0, [.ref a_this_values, .ref a_this_kinds, .int v_this_table, .double v_this_guard, .double v_this_ratio, .int v_this_bridging, .int v_this_length, .int v_this_guessColumn, .double v_this_guessError, .double v_this_guessValue])), (a_this_kinds, .inl (k 2, 256, aI v_this_kinds))]) [0, 1] (by decide) rfl⟩, hS.F ht⟩) hS.2.2 dX1_isBroken_15
theorem hinX1_X1_valueAt : ∀ w ∈ wsX10, w ∈ wsX1_valueAt := by decide +kernel
def p_X1_valueAt (v_this_values : Nat → UInt64) (p1 : Int32) (p2 : Int32) : Option (UInt64) := gD (inb ((p1 * (16 : Int32)) + p2) 256) (some (v_this_values ((p1 * (16 : Int32)) + p2).toNatClampNeg))
abbrev rm_X1_valueAt : Room := { frames := 0, cells := 0, slots := 0, locals := 0 }
set_option maxHeartbeats 4000000 in
set_option maxRecDepth 100000 in
theorem mt_X1_valueAt (l : Launch) (D : va_G) (k : Nat → ClassId) (a_this a_this_values a_this_kinds : Nat) (sz : Nat) (v_this_values : Nat → UInt64) (v_this_table : Int32) (v_this_guard : UInt64) (v_this_ratio : UInt64) (v_this_bridging : Int32) (v_this_length : Int32) (v_this_guessColumn : Int32) (v_this_guessError : UInt64) (v_this_guessValue : UInt64) (p1 : Int32) (p2 : Int32) (o : UInt64) (hf : p_X1_valueAt v_this_values p1 p2 = some o)  : Met l yX1_valueAt wsX1_valueAt rm_X1_valueAt (va_Pc [.ref a_this, .int p1, .int p2] (bW D k sz [(a_this, .inr (0, [.ref a_this_values, .ref a_this_kinds, .int v_this_table, .double v_this_guard, .double v_this_ratio, .int v_this_bridging, .int v_this_length, .int v_this_guessColumn, .double v_this_guessError, .double v_this_guessValue])), (a_this_values, .inl (k 1, 256, aD v_this_values))])) (va_Qd (fun (r : UInt64) (_ : Unit) => r = o) (fun _ => bO D k (va_A [(a_this, .inr (0, [.ref a_this_values, .ref a_this_kinds, .int v_this_table, .double v_this_guard, .double v_this_ratio, .int v_this_bridging, .int v_this_length, .int v_this_guessColumn, .double v_this_guessError, .double v_this_guessValue])), (a_this_values, .inl (k 1, 256, aD v_this_values))] sz) [(a_this, .inr (0, [.ref a_this_values, .ref a_this_kinds, .int v_this_table, .double v_this_guard, .double v_this_ratio, .int v_this_bridging, .int v_this_length, .int v_this_guessColumn, .double v_this_guessError, .double v_this_guessValue])), (a_this_values, .inl (k 1, 256, aD v_this_values))]) (va_A [(a_this, .inr (0, [.ref a_this_values, .ref a_this_kinds, .int v_this_table, .double v_this_guard, .double v_this_ratio, .int v_this_bridging, .int v_this_length, .int v_this_guessColumn, .double v_this_guessError, .double v_this_guessValue])), (a_this_values, .inl (k 1, 256, aD v_this_values))] sz)) 0 0 (va_A [(a_this, .inr (0, [.ref a_this_values, .ref a_this_kinds, .int v_this_table, .double v_this_guard, .double v_this_ratio, .int v_this_bridging, .int v_this_length, .int v_this_guessColumn, .double v_this_guessError, .double v_this_guessValue])), (a_this_values, .inl (k 1, 256, aD v_this_values))] sz) := by
  unfold p_X1_valueAt at hf
  refine Met.ofW (cc := cX1_valueAt) (maxL := 3) (ret := (some .double)) (by decide) rfl ?_
  intro p e s m args below meth c s₁ B hml hv
  obtain ⟨rfl, hsz, hP, hK, hD0⟩ := hv
  have hx := B.exec
  have hb := B.bytes
  have hr := B.returns
  have hts := atoms_spec (ws := wsX1_valueAt) B.pre
  have hown : s.vm.findClass RX1 = some m.cls := findClass_of_methodNamed B.named
  have hlocks := B.notSynchronized
  subst hsz
  have hD := hD0.self (sz := s.heap.size)
  generalize hAe : va_A [(a_this, .inr (0, [.ref a_this_values, .ref a_this_kinds, .int v_this_table, .double v_this_guard, .double v_this_ratio, .int v_this_bridging, .int v_this_length, .int v_this_guessColumn, .double v_this_guessError, .double v_this_guessValue])), (a_this_values, .inl (k 1, 256, aD v_this_values))] s.heap.size = A at hD ⊢
  have hA : ∀ q : Nat, s.heap.size ≤ q → A q := fun q h => by rw [← hAe]; exact Or.inr h
  have hS : va_S A s.heap s.heap [] := va_S.rf
  have hl := lv_entry [.ref a_this, .int p1, .int p2] (n := 3) (Nat.le_of_ble_eq_true rfl)
  rw [lg_entry_eq]
  generalize (lg_sl [.ref a_this, .int p1, .int p2] ++ List.replicate (3 - (lg_sl [.ref a_this, .int p1, .int p2]).length) Slot.unset).toArray = ls at hl ⊢
  have hl : lv_has ls 3 [(0, .ref a_this), (1, .int p1), (2, .int p2)] := hl
  obtain ⟨H, hHe⟩ : ∃ H, H = s.heap := ⟨_, rfl⟩
  have hP : va_P D vwCl [(a_this, .inr (0, [.ref a_this_values, .ref a_this_kinds, .int v_this_table, .double v_this_guard, .double v_this_ratio, .int v_this_bridging, .int v_this_length, .int v_this_guessColumn, .double v_this_guessError, .double v_this_guessValue])), (a_this_values, .inl (k 1, 256, aD v_this_values))] H := by rw [hHe]; exact hP
  have hS : va_S A s.heap H [] := by rw [hHe]; exact hS
  rw [← hHe]
  obtain ⟨locs, hLe⟩ : ∃ locs : List Loc, locs = [] := ⟨_, rfl⟩
  rw [← hLe] at hS ⊢
  clear hLe
  refine lv_aload_n hx hb dX1_valueAt_0 rfl (lv_at hl 0 rfl) ?_
  refine va_get (D := D) (ci := 0) (v := .ref a_this_values) (C := RX1) (T := TX1) (N := 10) hx hb hts hinX1_X1_valueAt hown hK hP 0 rfl rfl 0 (by decide) (hts (.fieldLink RX1 9 "LimitTables$Grid" "values" "[D") (by decide +kernel)) (fun _ h9 => h9) rfl dX1_valueAt_1 ?_
  refine lv_iload_n hx hb dX1_valueAt_4 rfl (lv_at hl 1 rfl) ?_
  refine lv_bipush (v := 16) hx hb dX1_valueAt_5 (by decide) ?_
  refine lv_imul hx hb dX1_valueAt_7 ?_
  refine lv_iload_n hx hb dX1_valueAt_8 rfl (lv_at hl 2 rfl) ?_
  refine lv_iadd hx hb dX1_valueAt_9 ?_
  obtain ⟨g1, hf⟩ := gD_h hf
  refine va_dald hx hb hK hP 1 1 rfl rfl (inb_in g1) dX1_valueAt_10 ?_
  have ho := Option.some.inj hf
  subst ho
  exact W.dret (v := (v_this_values ((p1 * (16 : Int32)) + p2).toNatClampNeg)) hx hb hr (fun t ht hW => ⟨⟨(v_this_values ((p1 * (16 : Int32)) + p2).toNatClampNeg), (), rfl, rfl, by rw [ht]; exact hP.sub (ws' := [(a_this, .inr (0, [.ref a_this_values, .ref a_this_kinds, .int v_this_table, .double v_this_guard, .double v_this_ratio, .int v_this_bridging, .int v_this_length, .int v_this_guessColumn, .double v_this_guessError, .double v_this_guessValue])), (a_this_values, .inl (k 1, 256, aD v_this_values))]) [0, 1] rfl, va_K.moved hW.alike hK, hD.sub (ws' := [(a_this, .inr (0, [.ref a_this_values, .ref a_this_kinds, .int v_this_table, .double v_this_guard, .double v_this_ratio, .int v_this_bridging, .int v_this_length, .int v_this_guessColumn, .double v_this_guessError, .double v_this_guessValue])), (a_this_values, .inl (k 1, 256, aD v_this_values))]) [0, 1] (by decide) rfl⟩, hS.F ht⟩) hS.2.2 dX1_valueAt_11
theorem hinX4_X1_copyColumn : ∀ w ∈ wsX40, w ∈ wsX1_copyColumn := by decide +kernel
theorem hinX1_X1_copyColumn : ∀ w ∈ wsX10, w ∈ wsX1_copyColumn := by decide +kernel
def p_X1_copyColumn_L18 (v_this_values : Nat → UInt64) (v_this_kinds : Nat → Int32) (p1 : Int32) : Nat → Int32 → Int32 → (((Nat → UInt64) × Int32)) → Option (((Nat → UInt64) × Int32))
  | 0, _, _, _ => none
  | n18 + 1, x18_3, x18_4, w18_p2 => (if x18_3 ≤ x18_4 then some w18_p2 else (p_X1_isBroken v_this_kinds p1 x18_4).bind fun x1002 => (if x1002 = 0 then (p_X1_valueAt v_this_values p1 x18_4).bind fun x1004 => (p_X3_fitsRow x1004).bind fun x1005 => (if x1005 = 0 then p_X1_copyColumn_L18 v_this_values v_this_kinds p1 n18 x18_3 (x18_4 + 1) w18_p2 else (p_X1_valueAt v_this_values p1 x18_4).bind fun x1007 => (p_X4_append w18_p2 x1007).bind fun x1008 => p_X1_copyColumn_L18 v_this_values v_this_kinds p1 n18 x18_3 (x18_4 + 1) x1008) else p_X1_copyColumn_L18 v_this_values v_this_kinds p1 n18 x18_3 (x18_4 + 1) w18_p2))

def p_X1_copyColumn (v_this_values : Nat → UInt64) (v_this_kinds : Nat → Int32) (v_this_table : Int32) (v_this_length : Int32) (v_p2 : ((Nat → UInt64) × Int32)) (p1 : Int32) : Option (((Nat → UInt64) × Int32)) := (p_X1_manyIn v_this_table p1 v_this_length).bind fun x1 => p_X1_copyColumn_L18 v_this_values v_this_kinds p1 300 x1 (0 : Int32) (v_p2.1, (0 : Int32))
abbrev rm_X1_copyColumn : Room := { frames := 2, cells := 0, slots := 0, locals := 44 }
set_option maxHeartbeats 4000000 in
set_option maxRecDepth 100000 in
theorem mt_X1_copyColumn (l : Launch) (D : va_G) (k : Nat → ClassId) (a_this a_this_values a_this_kinds a_p2 a_p2_numbers : Nat) (sz : Nat) (v_this_values : Nat → UInt64) (v_this_kinds : Nat → Int32) (v_this_table : Int32) (v_this_guard : UInt64) (v_this_ratio : UInt64) (v_this_bridging : Int32) (v_this_length : Int32) (v_this_guessColumn : Int32) (v_this_guessError : UInt64) (v_this_guessValue : UInt64) (v_p2 : ((Nat → UInt64) × Int32)) (p1 : Int32) (o : ((Nat → UInt64) × Int32)) (hf : p_X1_copyColumn v_this_values v_this_kinds v_this_table v_this_length v_p2 p1 = some o)  : Met l yX1_copyColumn wsX1_copyColumn rm_X1_copyColumn (va_Pc [.ref a_this, .int p1, .ref a_p2] (bW D k sz [(a_this, .inr (0, [.ref a_this_values, .ref a_this_kinds, .int v_this_table, .double v_this_guard, .double v_this_ratio, .int v_this_bridging, .int v_this_length, .int v_this_guessColumn, .double v_this_guessError, .double v_this_guessValue])), (a_this_values, .inl (k 1, 256, aD v_this_values)), (a_this_kinds, .inl (k 2, 256, aI v_this_kinds)), (a_p2, .inr (2, [.ref a_p2_numbers, .int v_p2.2])), (a_p2_numbers, .inl (k 1, 16, aD v_p2.1))])) (va_Qv (fun (_ : Unit) => True) (fun _ => bO D k (va_A [(a_this, .inr (0, [.ref a_this_values, .ref a_this_kinds, .int v_this_table, .double v_this_guard, .double v_this_ratio, .int v_this_bridging, .int v_this_length, .int v_this_guessColumn, .double v_this_guessError, .double v_this_guessValue])), (a_this_values, .inl (k 1, 256, aD v_this_values)), (a_this_kinds, .inl (k 2, 256, aI v_this_kinds)), (a_p2, .inr (2, [.ref a_p2_numbers, .int v_p2.2])), (a_p2_numbers, .inl (k 1, 16, aD v_p2.1))] sz) [(a_this, .inr (0, [.ref a_this_values, .ref a_this_kinds, .int v_this_table, .double v_this_guard, .double v_this_ratio, .int v_this_bridging, .int v_this_length, .int v_this_guessColumn, .double v_this_guessError, .double v_this_guessValue])), (a_this_values, .inl (k 1, 256, aD v_this_values)), (a_this_kinds, .inl (k 2, 256, aI v_this_kinds)), (a_p2, .inr (2, [.ref a_p2_numbers, .int o.2])), (a_p2_numbers, .inl (k 1, 16, aD o.1))]) (va_A [(a_this, .inr (0, [.ref a_this_values, .ref a_this_kinds, .int v_this_table, .double v_this_guard, .double v_this_ratio, .int v_this_bridging, .int v_this_length, .int v_this_guessColumn, .double v_this_guessError, .double v_this_guessValue])), (a_this_values, .inl (k 1, 256, aD v_this_values)), (a_this_kinds, .inl (k 2, 256, aI v_this_kinds)), (a_p2, .inr (2, [.ref a_p2_numbers, .int v_p2.2])), (a_p2_numbers, .inl (k 1, 16, aD v_p2.1))] sz)) 0 0 (va_A [(a_this, .inr (0, [.ref a_this_values, .ref a_this_kinds, .int v_this_table, .double v_this_guard, .double v_this_ratio, .int v_this_bridging, .int v_this_length, .int v_this_guessColumn, .double v_this_guessError, .double v_this_guessValue])), (a_this_values, .inl (k 1, 256, aD v_this_values)), (a_this_kinds, .inl (k 2, 256, aI v_this_kinds)), (a_p2, .inr (2, [.ref a_p2_numbers, .int v_p2.2])), (a_p2_numbers, .inl (k 1, 16, aD v_p2.1))] sz) := by
  unfold p_X1_copyColumn at hf
  refine Met.ofW (cc := cX1_copyColumn) (maxL := 5) (ret := none) (by decide) rfl ?_
  intro p e s m args below meth c s₁ B hml hv
  obtain ⟨rfl, hsz, hP, hK, hD0⟩ := hv
  have hx := B.exec
  have hb := B.bytes
  have hr := B.returns
  have hts := atoms_spec (ws := wsX1_copyColumn) B.pre
  have hown : s.vm.findClass RX1 = some m.cls := findClass_of_methodNamed B.named
  have hlocks := B.notSynchronized
  subst hsz
  have hD := hD0.self (sz := s.heap.size)
  generalize hAe : va_A [(a_this, .inr (0, [.ref a_this_values, .ref a_this_kinds, .int v_this_table, .double v_this_guard, .double v_this_ratio, .int v_this_bridging, .int v_this_length, .int v_this_guessColumn, .double v_this_guessError, .double v_this_guessValue])), (a_this_values, .inl (k 1, 256, aD v_this_values)), (a_this_kinds, .inl (k 2, 256, aI v_this_kinds)), (a_p2, .inr (2, [.ref a_p2_numbers, .int v_p2.2])), (a_p2_numbers, .inl (k 1, 16, aD v_p2.1))] s.heap.size = A at hD ⊢
  have hA : ∀ q : Nat, s.heap.size ≤ q → A q := fun q h => by rw [← hAe]; exact Or.inr h
  have hS : va_S A s.heap s.heap [] := va_S.rf
  obtain ⟨Q, hQ⟩ : ∃ Q, Q = MQ below (va_Qv (fun (_ : Unit) => True) (fun _ => bO D k (A) [(a_this, .inr (0, [.ref a_this_values, .ref a_this_kinds, .int v_this_table, .double v_this_guard, .double v_this_ratio, .int v_this_bridging, .int v_this_length, .int v_this_guessColumn, .double v_this_guessError, .double v_this_guessValue])), (a_this_values, .inl (k 1, 256, aD v_this_values)), (a_this_kinds, .inl (k 2, 256, aI v_this_kinds)), (a_p2, .inr (2, [.ref a_p2_numbers, .int o.2])), (a_p2_numbers, .inl (k 1, 16, aD o.1))]) (A)) ([.ref a_this, .int p1, .ref a_p2] : List Value).toArray s 0 0 A := ⟨_, rfl⟩
  rw [← hQ]
  have hl := lv_entry [.ref a_this, .int p1, .ref a_p2] (n := 5) (Nat.le_of_ble_eq_true rfl)
  rw [lg_entry_eq]
  generalize (lg_sl [.ref a_this, .int p1, .ref a_p2] ++ List.replicate (5 - (lg_sl [.ref a_this, .int p1, .ref a_p2]).length) Slot.unset).toArray = ls at hl ⊢
  have hl : lv_has ls 5 [(0, .ref a_this), (1, .int p1), (2, .ref a_p2)] := hl
  obtain ⟨H, hHe⟩ : ∃ H, H = s.heap := ⟨_, rfl⟩
  have hP : va_P D vwCl [(a_this, .inr (0, [.ref a_this_values, .ref a_this_kinds, .int v_this_table, .double v_this_guard, .double v_this_ratio, .int v_this_bridging, .int v_this_length, .int v_this_guessColumn, .double v_this_guessError, .double v_this_guessValue])), (a_this_values, .inl (k 1, 256, aD v_this_values)), (a_this_kinds, .inl (k 2, 256, aI v_this_kinds)), (a_p2, .inr (2, [.ref a_p2_numbers, .int v_p2.2])), (a_p2_numbers, .inl (k 1, 16, aD v_p2.1))] H := by rw [hHe]; exact hP
  have hS : va_S A s.heap H [] := by rw [hHe]; exact hS
  rw [← hHe]
  obtain ⟨locs, hLe⟩ : ∃ locs : List Loc, locs = [] := ⟨_, rfl⟩
  rw [← hLe] at hS ⊢
  clear hLe
  refine lv_aload_n hx hb dX1_copyColumn_0 rfl (lv_at hl 2 rfl) ?_
  refine lv_iconst (v := 0) hx hb dX1_copyColumn_1 (by decide) ?_
  refine va_put (D := D) (ci := 2) (v := .int (0 : Int32)) (ty := .int) (C := RX4) (T := TX4) (N := 2) hx hb hts hinX4_X1_copyColumn tyX4 tyX4_ok nmX4 hown hK hP hD hS 3 rfl rfl 1 (by decide) (hts (.fieldLink RX1 56 "LimitTables$Row" "length" "I") (by decide +kernel)) (fun _ h9 => h9) rfl (by decide +kernel) rfl rfl (Nat.le_of_ble_eq_true rfl) dX1_copyColumn_2 (fun H locs hP hD hS => ?_)
  have hP : va_P D vwCl [(a_this, .inr (0, [.ref a_this_values, .ref a_this_kinds, .int v_this_table, .double v_this_guard, .double v_this_ratio, .int v_this_bridging, .int v_this_length, .int v_this_guessColumn, .double v_this_guessError, .double v_this_guessValue])), (a_this_values, .inl (k 1, 256, aD v_this_values)), (a_this_kinds, .inl (k 2, 256, aI v_this_kinds)), (a_p2, .inr (2, [.ref a_p2_numbers, .int (0 : Int32)])), (a_p2_numbers, .inl (k 1, 16, aD v_p2.1))] H := hP
  have hD : va_D A [(a_this, .inr (0, [.ref a_this_values, .ref a_this_kinds, .int v_this_table, .double v_this_guard, .double v_this_ratio, .int v_this_bridging, .int v_this_length, .int v_this_guessColumn, .double v_this_guessError, .double v_this_guessValue])), (a_this_values, .inl (k 1, 256, aD v_this_values)), (a_this_kinds, .inl (k 2, 256, aI v_this_kinds)), (a_p2, .inr (2, [.ref a_p2_numbers, .int (0 : Int32)])), (a_p2_numbers, .inl (k 1, 16, aD v_p2.1))] := hD
  refine lv_aload_n hx hb dX1_copyColumn_5 rfl (lv_at hl 0 rfl) ?_
  refine lv_iload_n hx hb dX1_copyColumn_6 rfl (lv_at hl 1 rfl) ?_
  refine lv_aload_n hx hb dX1_copyColumn_7 rfl (lv_at hl 0 rfl) ?_
  refine va_get (D := D) (ci := 0) (v := .int v_this_length) (C := RX1) (T := TX1) (N := 10) hx hb hts hinX1_X1_copyColumn hown hK hP 0 rfl rfl 6 (by decide) (hts (.fieldLink RX1 34 "LimitTables$Grid" "length" "I") (by decide +kernel)) (fun _ h9 => h9) rfl dX1_copyColumn_8 ?_
  obtain ⟨x1, hx1, hf⟩ := bind_s hf
  refine cc_i (r := x1) (wc := [(a_this, .inr (0, [.ref a_this_values, .ref a_this_kinds, .int v_this_table, .double v_this_guard, .double v_this_ratio, .int v_this_bridging, .int v_this_length, .int v_this_guessColumn, .double v_this_guessError, .double v_this_guessValue]))]) (wr := [(a_this_values, .inl (k 1, 256, aD v_this_values)), (a_this_kinds, .inl (k 2, 256, aI v_this_kinds)), (a_p2, .inr (2, [.ref a_p2_numbers, .int (0 : Int32)])), (a_p2_numbers, .inl (k 1, 16, aD v_p2.1))]) (w1 := [(a_this, .inr (0, [.ref a_this_values, .ref a_this_kinds, .int v_this_table, .double v_this_guard, .double v_this_ratio, .int v_this_bridging, .int v_this_length, .int v_this_guessColumn, .double v_this_guessError, .double v_this_guessValue]))]) (va_runV (As := [.int p1, .int v_this_length]) (rest := []) ⟨hx, hb, hml, hown, hts⟩ (mt_X1_manyIn l D k a_this a_this_values a_this_kinds _ v_this_table v_this_guard v_this_ratio v_this_bridging v_this_length v_this_guessColumn v_this_guessError v_this_guessValue p1 v_this_length x1 hx1) (cwV 2 hts gX1_copyColumn_X1_manyIn rfl rfl rfl (by decide +kernel) ⟨(Nat.le_of_ble_eq_true rfl), (Nat.le_of_ble_eq_true rfl)⟩) (cc_pv (wc := [(a_this, .inr (0, [.ref a_this_values, .ref a_this_kinds, .int v_this_table, .double v_this_guard, .double v_this_ratio, .int v_this_bridging, .int v_this_length, .int v_this_guessColumn, .double v_this_guessError, .double v_this_guessValue]))]) hK hP hD [0] (by decide) rfl rfl 0 0 rfl rfl rfl) rfl rfl hl.1 rfl (lv_room (Nat.le_of_ble_eq_true rfl)) dX1_copyColumn_11 ⟨Nat.zero_le _, Nat.zero_le _⟩) hP hD hS hA [0] [1, 2, 3, 4] rfl rfl (by decide) (by decide) (fun H locs hP hD hS => ?_)
  have hP : va_P D vwCl [(a_this_values, .inl (k 1, 256, aD v_this_values)), (a_this_kinds, .inl (k 2, 256, aI v_this_kinds)), (a_p2, .inr (2, [.ref a_p2_numbers, .int (0 : Int32)])), (a_p2_numbers, .inl (k 1, 16, aD v_p2.1)), (a_this, .inr (0, [.ref a_this_values, .ref a_this_kinds, .int v_this_table, .double v_this_guard, .double v_this_ratio, .int v_this_bridging, .int v_this_length, .int v_this_guessColumn, .double v_this_guessError, .double v_this_guessValue]))] H := hP
  have hD : va_D A [(a_this_values, .inl (k 1, 256, aD v_this_values)), (a_this_kinds, .inl (k 2, 256, aI v_this_kinds)), (a_p2, .inr (2, [.ref a_p2_numbers, .int (0 : Int32)])), (a_p2_numbers, .inl (k 1, 16, aD v_p2.1)), (a_this, .inr (0, [.ref a_this_values, .ref a_this_kinds, .int v_this_table, .double v_this_guard, .double v_this_ratio, .int v_this_bridging, .int v_this_length, .int v_this_guessColumn, .double v_this_guessError, .double v_this_guessValue]))] := hD
  refine lv_istore_n (lv' := [(3, .int x1), (0, .ref a_this), (1, .int p1), (2, .ref a_p2)]) hx hb dX1_copyColumn_14 rfl hl (by decide) rfl (fun ls hl => ?_)
  refine lv_iconst (v := 0) hx hb dX1_copyColumn_15 (by decide) ?_
  refine lv_istore (lv' := [(4, .int (0 : Int32)), (3, .int x1), (0, .ref a_this), (1, .int p1), (2, .ref a_p2)]) hx hb dX1_copyColumn_16 hl (by decide) rfl (fun ls hl => ?_)
  have L18 : ∀ (n18 : Nat) (x18_3 : Int32) (x18_4 : Int32) (w18_p2 : ((Nat → UInt64) × Int32)) (H : Heap) (locs : List Loc) (ls : Array Slot), va_P D vwCl [(a_this_values, .inl (k 1, 256, aD v_this_values)), (a_this_kinds, .inl (k 2, 256, aI v_this_kinds)), (a_p2, .inr (2, [.ref a_p2_numbers, .int w18_p2.2])), (a_p2_numbers, .inl (k 1, 16, aD w18_p2.1)), (a_this, .inr (0, [.ref a_this_values, .ref a_this_kinds, .int v_this_table, .double v_this_guard, .double v_this_ratio, .int v_this_bridging, .int v_this_length, .int v_this_guessColumn, .double v_this_guessError, .double v_this_guessValue]))] H → va_D A [(a_this_values, .inl (k 1, 256, aD v_this_values)), (a_this_kinds, .inl (k 2, 256, aI v_this_kinds)), (a_p2, .inr (2, [.ref a_p2_numbers, .int w18_p2.2])), (a_p2_numbers, .inl (k 1, 16, aD w18_p2.1)), (a_this, .inr (0, [.ref a_this_values, .ref a_this_kinds, .int v_this_table, .double v_this_guard, .double v_this_ratio, .int v_this_bridging, .int v_this_length, .int v_this_guessColumn, .double v_this_guessError, .double v_this_guessValue]))] → va_S A s.heap H locs → lv_has ls 5 [(0, .ref a_this), (1, .int p1), (2, .ref a_p2), (3, .int x18_3), (4, .int x18_4)] → p_X1_copyColumn_L18 v_this_values v_this_kinds p1 n18 x18_3 x18_4 w18_p2 = some o → W p l e (headSpec wsX1_copyColumn rm_X1_copyColumn).room s m ([.ref a_this, .int p1, .ref a_p2] : List Value).toArray below meth c H locs 0 0 Q (F0 m 18 ls []) := by
    intro n18
    induction n18 with
    | zero =>
      intro x18_3 x18_4 w18_p2 H locs ls hP hD hS hl hf
      exact absurd hf (by simp [p_X1_copyColumn_L18])
    | succ n18 ih18 =>
      intro x18_3 x18_4 w18_p2 H locs ls hP hD hS hl hf
      rw [p_X1_copyColumn_L18] at hf
      refine lv_iload hx hb dX1_copyColumn_18 (lv_at hl 4 rfl) ?_
      refine lv_iload_n hx hb dX1_copyColumn_20 rfl (lv_at hl 3 rfl) ?_
      refine lv_icmp_ge (tgt := 64) hx hb dX1_copyColumn_21 (by decide) (fun c1001 => ?_) (fun c1001 => ?_)
      · skip
        have hf := if_t c1001 hf
        have ho := Option.some.inj hf
        subst ho
        rw [hQ]
        exact W.vret hx hb hr (fun t ht hW => ⟨⟨(), rfl, trivial, by rw [ht]; exact hP.sub (ws' := [(a_this, .inr (0, [.ref a_this_values, .ref a_this_kinds, .int v_this_table, .double v_this_guard, .double v_this_ratio, .int v_this_bridging, .int v_this_length, .int v_this_guessColumn, .double v_this_guessError, .double v_this_guessValue])), (a_this_values, .inl (k 1, 256, aD v_this_values)), (a_this_kinds, .inl (k 2, 256, aI v_this_kinds)), (a_p2, .inr (2, [.ref a_p2_numbers, .int w18_p2.2])), (a_p2_numbers, .inl (k 1, 16, aD w18_p2.1))]) [4, 0, 1, 2, 3] rfl, va_K.moved hW.alike hK, hD.sub (ws' := [(a_this, .inr (0, [.ref a_this_values, .ref a_this_kinds, .int v_this_table, .double v_this_guard, .double v_this_ratio, .int v_this_bridging, .int v_this_length, .int v_this_guessColumn, .double v_this_guessError, .double v_this_guessValue])), (a_this_values, .inl (k 1, 256, aD v_this_values)), (a_this_kinds, .inl (k 2, 256, aI v_this_kinds)), (a_p2, .inr (2, [.ref a_p2_numbers, .int w18_p2.2])), (a_p2_numbers, .inl (k 1, 16, aD w18_p2.1))]) [4, 0, 1, 2, 3] (by decide) rfl⟩, hS.F ht⟩) hS.2.2 dX1_copyColumn_64
      · skip
        have hf := if_f c1001 hf
        refine lv_aload_n hx hb dX1_copyColumn_24 rfl (lv_at hl 0 rfl) ?_
        refine lv_iload_n hx hb dX1_copyColumn_25 rfl (lv_at hl 1 rfl) ?_
        refine lv_iload hx hb dX1_copyColumn_26 (lv_at hl 4 rfl) ?_
        obtain ⟨x1002, hx1002, hf⟩ := bind_s hf
        refine cc_i (r := x1002) (wc := [(a_this, .inr (0, [.ref a_this_values, .ref a_this_kinds, .int v_this_table, .double v_this_guard, .double v_this_ratio, .int v_this_bridging, .int v_this_length, .int v_this_guessColumn, .double v_this_guessError, .double v_this_guessValue])), (a_this_kinds, .inl (k 2, 256, aI v_this_kinds))]) (wr := [(a_this_values, .inl (k 1, 256, aD v_this_values)), (a_p2, .inr (2, [.ref a_p2_numbers, .int w18_p2.2])), (a_p2_numbers, .inl (k 1, 16, aD w18_p2.1))]) (w1 := [(a_this, .inr (0, [.ref a_this_values, .ref a_this_kinds, .int v_this_table, .double v_this_guard, .double v_this_ratio, .int v_this_bridging, .int v_this_length, .int v_this_guessColumn, .double v_this_guessError, .double v_this_guessValue])), (a_this_kinds, .inl (k 2, 256, aI v_this_kinds))]) (va_runV (As := [.int p1, .int x18_4]) (rest := []) ⟨hx, hb, hml, hown, hts⟩ (mt_X1_isBroken l D k a_this a_this_values a_this_kinds _ v_this_kinds v_this_table v_this_guard v_this_ratio v_this_bridging v_this_length v_this_guessColumn v_this_guessError v_this_guessValue p1 x18_4 x1002 hx1002) (cwV 2 hts gX1_copyColumn_X1_isBroken rfl rfl rfl (by decide +kernel) ⟨(Nat.le_of_ble_eq_true rfl), (Nat.le_of_ble_eq_true rfl)⟩) (cc_pv (wc := [(a_this, .inr (0, [.ref a_this_values, .ref a_this_kinds, .int v_this_table, .double v_this_guard, .double v_this_ratio, .int v_this_bridging, .int v_this_length, .int v_this_guessColumn, .double v_this_guessError, .double v_this_guessValue])), (a_this_kinds, .inl (k 2, 256, aI v_this_kinds))]) hK hP hD [4, 1] (by decide) rfl rfl 0 4 rfl rfl rfl) rfl rfl hl.1 rfl (lv_room (Nat.le_of_ble_eq_true rfl)) dX1_copyColumn_28 ⟨Nat.zero_le _, Nat.zero_le _⟩) hP hD hS hA [4, 1] [0, 2, 3] rfl rfl (by decide) (by decide) (fun H locs hP hD hS => ?_)
        have hP : va_P D vwCl [(a_this_values, .inl (k 1, 256, aD v_this_values)), (a_p2, .inr (2, [.ref a_p2_numbers, .int w18_p2.2])), (a_p2_numbers, .inl (k 1, 16, aD w18_p2.1)), (a_this, .inr (0, [.ref a_this_values, .ref a_this_kinds, .int v_this_table, .double v_this_guard, .double v_this_ratio, .int v_this_bridging, .int v_this_length, .int v_this_guessColumn, .double v_this_guessError, .double v_this_guessValue])), (a_this_kinds, .inl (k 2, 256, aI v_this_kinds))] H := hP
        have hD : va_D A [(a_this_values, .inl (k 1, 256, aD v_this_values)), (a_p2, .inr (2, [.ref a_p2_numbers, .int w18_p2.2])), (a_p2_numbers, .inl (k 1, 16, aD w18_p2.1)), (a_this, .inr (0, [.ref a_this_values, .ref a_this_kinds, .int v_this_table, .double v_this_guard, .double v_this_ratio, .int v_this_bridging, .int v_this_length, .int v_this_guessColumn, .double v_this_guessError, .double v_this_guessValue])), (a_this_kinds, .inl (k 2, 256, aI v_this_kinds))] := hD
        refine lv_if_ne (tgt := 58) hx hb dX1_copyColumn_31 (by decide) (fun c1003 => ?_) (fun c1003 => ?_)
        · skip
          have hf := if_f c1003 hf
          refine lv_iinc (v := (x18_4 + 1)) (lv' := [(4, .int (x18_4 + 1)), (0, .ref a_this), (1, .int p1), (2, .ref a_p2), (3, .int x18_3)]) hx hb dX1_copyColumn_58 hl (k := 4) rfl rfl (by decide) rfl (fun ls hl => ?_)
          refine lv_goto (tgt := 18) hx hb dX1_copyColumn_61 (by decide) ?_
          have hP := hP.sub (ws' := [(a_this_values, .inl (k 1, 256, aD v_this_values)), (a_this_kinds, .inl (k 2, 256, aI v_this_kinds)), (a_p2, .inr (2, [.ref a_p2_numbers, .int w18_p2.2])), (a_p2_numbers, .inl (k 1, 16, aD w18_p2.1)), (a_this, .inr (0, [.ref a_this_values, .ref a_this_kinds, .int v_this_table, .double v_this_guard, .double v_this_ratio, .int v_this_bridging, .int v_this_length, .int v_this_guessColumn, .double v_this_guessError, .double v_this_guessValue]))]) [0, 4, 1, 2, 3] rfl
          have hD := hD.sub (ws' := [(a_this_values, .inl (k 1, 256, aD v_this_values)), (a_this_kinds, .inl (k 2, 256, aI v_this_kinds)), (a_p2, .inr (2, [.ref a_p2_numbers, .int w18_p2.2])), (a_p2_numbers, .inl (k 1, 16, aD w18_p2.1)), (a_this, .inr (0, [.ref a_this_values, .ref a_this_kinds, .int v_this_table, .double v_this_guard, .double v_this_ratio, .int v_this_bridging, .int v_this_length, .int v_this_guessColumn, .double v_this_guessError, .double v_this_guessValue]))]) [0, 4, 1, 2, 3] (by decide) rfl
          exact ih18 x18_3 (x18_4 + 1) w18_p2 H locs ls hP hD hS (lv_sub hl [1, 2, 3, 4, 0] rfl) hf
        · skip
          have hf := if_t c1003 hf
          refine lv_aload_n hx hb dX1_copyColumn_34 rfl (lv_at hl 0 rfl) ?_
          refine lv_iload_n hx hb dX1_copyColumn_35 rfl (lv_at hl 1 rfl) ?_
          refine lv_iload hx hb dX1_copyColumn_36 (lv_at hl 4 rfl) ?_
          obtain ⟨x1004, hx1004, hf⟩ := bind_s hf
          refine cc_d (r := x1004) (wc := [(a_this, .inr (0, [.ref a_this_values, .ref a_this_kinds, .int v_this_table, .double v_this_guard, .double v_this_ratio, .int v_this_bridging, .int v_this_length, .int v_this_guessColumn, .double v_this_guessError, .double v_this_guessValue])), (a_this_values, .inl (k 1, 256, aD v_this_values))]) (wr := [(a_p2, .inr (2, [.ref a_p2_numbers, .int w18_p2.2])), (a_p2_numbers, .inl (k 1, 16, aD w18_p2.1)), (a_this_kinds, .inl (k 2, 256, aI v_this_kinds))]) (w1 := [(a_this, .inr (0, [.ref a_this_values, .ref a_this_kinds, .int v_this_table, .double v_this_guard, .double v_this_ratio, .int v_this_bridging, .int v_this_length, .int v_this_guessColumn, .double v_this_guessError, .double v_this_guessValue])), (a_this_values, .inl (k 1, 256, aD v_this_values))]) (va_runV (As := [.int p1, .int x18_4]) (rest := []) ⟨hx, hb, hml, hown, hts⟩ (mt_X1_valueAt l D k a_this a_this_values a_this_kinds _ v_this_values v_this_table v_this_guard v_this_ratio v_this_bridging v_this_length v_this_guessColumn v_this_guessError v_this_guessValue p1 x18_4 x1004 hx1004) (cwV 2 hts gX1_copyColumn_X1_valueAt rfl rfl rfl (by decide +kernel) ⟨(Nat.le_of_ble_eq_true rfl), (Nat.le_of_ble_eq_true rfl)⟩) (cc_pv (wc := [(a_this, .inr (0, [.ref a_this_values, .ref a_this_kinds, .int v_this_table, .double v_this_guard, .double v_this_ratio, .int v_this_bridging, .int v_this_length, .int v_this_guessColumn, .double v_this_guessError, .double v_this_guessValue])), (a_this_values, .inl (k 1, 256, aD v_this_values))]) hK hP hD [3, 0] (by decide) rfl rfl 0 3 rfl rfl rfl) rfl rfl hl.1 rfl (lv_room (Nat.le_of_ble_eq_true rfl)) dX1_copyColumn_38 ⟨Nat.zero_le _, Nat.zero_le _⟩) hP hD hS hA [3, 0] [1, 2, 4] rfl rfl (by decide) (by decide) (fun H locs hP hD hS => ?_)
          have hP : va_P D vwCl [(a_p2, .inr (2, [.ref a_p2_numbers, .int w18_p2.2])), (a_p2_numbers, .inl (k 1, 16, aD w18_p2.1)), (a_this_kinds, .inl (k 2, 256, aI v_this_kinds)), (a_this, .inr (0, [.ref a_this_values, .ref a_this_kinds, .int v_this_table, .double v_this_guard, .double v_this_ratio, .int v_this_bridging, .int v_this_length, .int v_this_guessColumn, .double v_this_guessError, .double v_this_guessValue])), (a_this_values, .inl (k 1, 256, aD v_this_values))] H := hP
          have hD : va_D A [(a_p2, .inr (2, [.ref a_p2_numbers, .int w18_p2.2])), (a_p2_numbers, .inl (k 1, 16, aD w18_p2.1)), (a_this_kinds, .inl (k 2, 256, aI v_this_kinds)), (a_this, .inr (0, [.ref a_this_values, .ref a_this_kinds, .int v_this_table, .double v_this_guard, .double v_this_ratio, .int v_this_bridging, .int v_this_length, .int v_this_guessColumn, .double v_this_guessError, .double v_this_guessValue])), (a_this_values, .inl (k 1, 256, aD v_this_values))] := hD
          obtain ⟨x1005, hx1005, hf⟩ := bind_s hf
          refine cc_i (r := x1005) (wc := []) (wr := [(a_p2, .inr (2, [.ref a_p2_numbers, .int w18_p2.2])), (a_p2_numbers, .inl (k 1, 16, aD w18_p2.1)), (a_this_kinds, .inl (k 2, 256, aI v_this_kinds)), (a_this, .inr (0, [.ref a_this_values, .ref a_this_kinds, .int v_this_table, .double v_this_guard, .double v_this_ratio, .int v_this_bridging, .int v_this_length, .int v_this_guessColumn, .double v_this_guessError, .double v_this_guessValue])), (a_this_values, .inl (k 1, 256, aD v_this_values))]) (w1 := []) (va_runS (As := [.double x1004]) (rest := []) ⟨hx, hb, hml, hown, hts⟩ (mt_X3_fitsRow l D k  _  x1004 x1005 hx1005) (va_cwS 1 hts gX1_copyColumn_X3_fitsRow rfl rfl rfl (by decide +kernel) ⟨(Nat.le_of_ble_eq_true rfl), (Nat.le_of_ble_eq_true rfl)⟩) (cc_ps (wc := []) hK hP hD [] (by decide) rfl rfl) rfl rfl hl.1 rfl (lv_room (Nat.le_of_ble_eq_true rfl)) dX1_copyColumn_41 ⟨Nat.zero_le _, Nat.zero_le _⟩) hP hD hS hA [] [0, 1, 2, 3, 4] rfl rfl (by decide) (by decide) (fun H locs hP hD hS => ?_)
          have hP : va_P D vwCl [(a_p2, .inr (2, [.ref a_p2_numbers, .int w18_p2.2])), (a_p2_numbers, .inl (k 1, 16, aD w18_p2.1)), (a_this_kinds, .inl (k 2, 256, aI v_this_kinds)), (a_this, .inr (0, [.ref a_this_values, .ref a_this_kinds, .int v_this_table, .double v_this_guard, .double v_this_ratio, .int v_this_bridging, .int v_this_length, .int v_this_guessColumn, .double v_this_guessError, .double v_this_guessValue])), (a_this_values, .inl (k 1, 256, aD v_this_values))] H := hP
          have hD : va_D A [(a_p2, .inr (2, [.ref a_p2_numbers, .int w18_p2.2])), (a_p2_numbers, .inl (k 1, 16, aD w18_p2.1)), (a_this_kinds, .inl (k 2, 256, aI v_this_kinds)), (a_this, .inr (0, [.ref a_this_values, .ref a_this_kinds, .int v_this_table, .double v_this_guard, .double v_this_ratio, .int v_this_bridging, .int v_this_length, .int v_this_guessColumn, .double v_this_guessError, .double v_this_guessValue])), (a_this_values, .inl (k 1, 256, aD v_this_values))] := hD
          refine lv_if_eq (tgt := 58) hx hb dX1_copyColumn_44 (by decide) (fun c1006 => ?_) (fun c1006 => ?_)
          · skip
            have hf := if_t c1006 hf
            refine lv_iinc (v := (x18_4 + 1)) (lv' := [(4, .int (x18_4 + 1)), (0, .ref a_this), (1, .int p1), (2, .ref a_p2), (3, .int x18_3)]) hx hb dX1_copyColumn_58 hl (k := 4) rfl rfl (by decide) rfl (fun ls hl => ?_)
            refine lv_goto (tgt := 18) hx hb dX1_copyColumn_61 (by decide) ?_
            have hP := hP.sub (ws' := [(a_this_values, .inl (k 1, 256, aD v_this_values)), (a_this_kinds, .inl (k 2, 256, aI v_this_kinds)), (a_p2, .inr (2, [.ref a_p2_numbers, .int w18_p2.2])), (a_p2_numbers, .inl (k 1, 16, aD w18_p2.1)), (a_this, .inr (0, [.ref a_this_values, .ref a_this_kinds, .int v_this_table, .double v_this_guard, .double v_this_ratio, .int v_this_bridging, .int v_this_length, .int v_this_guessColumn, .double v_this_guessError, .double v_this_guessValue]))]) [4, 2, 0, 1, 3] rfl
            have hD := hD.sub (ws' := [(a_this_values, .inl (k 1, 256, aD v_this_values)), (a_this_kinds, .inl (k 2, 256, aI v_this_kinds)), (a_p2, .inr (2, [.ref a_p2_numbers, .int w18_p2.2])), (a_p2_numbers, .inl (k 1, 16, aD w18_p2.1)), (a_this, .inr (0, [.ref a_this_values, .ref a_this_kinds, .int v_this_table, .double v_this_guard, .double v_this_ratio, .int v_this_bridging, .int v_this_length, .int v_this_guessColumn, .double v_this_guessError, .double v_this_guessValue]))]) [4, 2, 0, 1, 3] (by decide) rfl
            exact ih18 x18_3 (x18_4 + 1) w18_p2 H locs ls hP hD hS (lv_sub hl [1, 2, 3, 4, 0] rfl) hf
          · skip
            have hf := if_f c1006 hf
            refine lv_aload_n hx hb dX1_copyColumn_47 rfl (lv_at hl 2 rfl) ?_
            refine lv_aload_n hx hb dX1_copyColumn_48 rfl (lv_at hl 0 rfl) ?_
            refine lv_iload_n hx hb dX1_copyColumn_49 rfl (lv_at hl 1 rfl) ?_
            refine lv_iload hx hb dX1_copyColumn_50 (lv_at hl 4 rfl) ?_
            obtain ⟨x1007, hx1007, hf⟩ := bind_s hf
            refine cc_d (r := x1007) (wc := [(a_this, .inr (0, [.ref a_this_values, .ref a_this_kinds, .int v_this_table, .double v_this_guard, .double v_this_ratio, .int v_this_bridging, .int v_this_length, .int v_this_guessColumn, .double v_this_guessError, .double v_this_guessValue])), (a_this_values, .inl (k 1, 256, aD v_this_values))]) (wr := [(a_p2, .inr (2, [.ref a_p2_numbers, .int w18_p2.2])), (a_p2_numbers, .inl (k 1, 16, aD w18_p2.1)), (a_this_kinds, .inl (k 2, 256, aI v_this_kinds))]) (w1 := [(a_this, .inr (0, [.ref a_this_values, .ref a_this_kinds, .int v_this_table, .double v_this_guard, .double v_this_ratio, .int v_this_bridging, .int v_this_length, .int v_this_guessColumn, .double v_this_guessError, .double v_this_guessValue])), (a_this_values, .inl (k 1, 256, aD v_this_values))]) (va_runV (As := [.int p1, .int x18_4]) (rest := [.ref a_p2]) ⟨hx, hb, hml, hown, hts⟩ (mt_X1_valueAt l D k a_this a_this_values a_this_kinds _ v_this_values v_this_table v_this_guard v_this_ratio v_this_bridging v_this_length v_this_guessColumn v_this_guessError v_this_guessValue p1 x18_4 x1007 hx1007) (cwV 2 hts gX1_copyColumn_X1_valueAt rfl rfl rfl (by decide +kernel) ⟨(Nat.le_of_ble_eq_true rfl), (Nat.le_of_ble_eq_true rfl)⟩) (cc_pv (wc := [(a_this, .inr (0, [.ref a_this_values, .ref a_this_kinds, .int v_this_table, .double v_this_guard, .double v_this_ratio, .int v_this_bridging, .int v_this_length, .int v_this_guessColumn, .double v_this_guessError, .double v_this_guessValue])), (a_this_values, .inl (k 1, 256, aD v_this_values))]) hK hP hD [3, 4] (by decide) rfl rfl 0 3 rfl rfl rfl) rfl rfl hl.1 rfl (lv_room (Nat.le_of_ble_eq_true rfl)) dX1_copyColumn_52 ⟨Nat.zero_le _, Nat.zero_le _⟩) hP hD hS hA [3, 4] [0, 1, 2] rfl rfl (by decide) (by decide) (fun H locs hP hD hS => ?_)
            have hP : va_P D vwCl [(a_p2, .inr (2, [.ref a_p2_numbers, .int w18_p2.2])), (a_p2_numbers, .inl (k 1, 16, aD w18_p2.1)), (a_this_kinds, .inl (k 2, 256, aI v_this_kinds)), (a_this, .inr (0, [.ref a_this_values, .ref a_this_kinds, .int v_this_table, .double v_this_guard, .double v_this_ratio, .int v_this_bridging, .int v_this_length, .int v_this_guessColumn, .double v_this_guessError, .double v_this_guessValue])), (a_this_values, .inl (k 1, 256, aD v_this_values))] H := hP
            have hD : va_D A [(a_p2, .inr (2, [.ref a_p2_numbers, .int w18_p2.2])), (a_p2_numbers, .inl (k 1, 16, aD w18_p2.1)), (a_this_kinds, .inl (k 2, 256, aI v_this_kinds)), (a_this, .inr (0, [.ref a_this_values, .ref a_this_kinds, .int v_this_table, .double v_this_guard, .double v_this_ratio, .int v_this_bridging, .int v_this_length, .int v_this_guessColumn, .double v_this_guessError, .double v_this_guessValue])), (a_this_values, .inl (k 1, 256, aD v_this_values))] := hD
            obtain ⟨x1008, hx1008, hf⟩ := bind_s hf
            refine cc_v (wc := [(a_p2, .inr (2, [.ref a_p2_numbers, .int w18_p2.2])), (a_p2_numbers, .inl (k 1, 16, aD w18_p2.1))]) (wr := [(a_this_kinds, .inl (k 2, 256, aI v_this_kinds)), (a_this, .inr (0, [.ref a_this_values, .ref a_this_kinds, .int v_this_table, .double v_this_guard, .double v_this_ratio, .int v_this_bridging, .int v_this_length, .int v_this_guessColumn, .double v_this_guessError, .double v_this_guessValue])), (a_this_values, .inl (k 1, 256, aD v_this_values))]) (w1 := [(a_p2, .inr (2, [.ref a_p2_numbers, .int x1008.2])), (a_p2_numbers, .inl (k 1, 16, aD x1008.1))]) (va_runV (As := [.double x1007]) (rest := []) ⟨hx, hb, hml, hown, hts⟩ (mt_X4_append l D k a_p2 a_p2_numbers _ w18_p2 x1007 x1008 hx1008) (cwV 1 hts gX1_copyColumn_X4_append rfl rfl rfl (by decide +kernel) ⟨(Nat.le_of_ble_eq_true rfl), (Nat.le_of_ble_eq_true rfl)⟩) (cc_pv (wc := [(a_p2, .inr (2, [.ref a_p2_numbers, .int w18_p2.2])), (a_p2_numbers, .inl (k 1, 16, aD w18_p2.1))]) hK hP hD [0, 1] (by decide) rfl rfl 2 0 rfl rfl rfl) rfl rfl hl.1 rfl (lv_room (Nat.le_of_ble_eq_true rfl)) dX1_copyColumn_55 ⟨Nat.zero_le _, Nat.zero_le _⟩) hP hD hS hA [0, 1] [2, 3, 4] rfl rfl (by decide) (by decide) (fun H locs hP hD hS => ?_)
            have hP : va_P D vwCl [(a_this_kinds, .inl (k 2, 256, aI v_this_kinds)), (a_this, .inr (0, [.ref a_this_values, .ref a_this_kinds, .int v_this_table, .double v_this_guard, .double v_this_ratio, .int v_this_bridging, .int v_this_length, .int v_this_guessColumn, .double v_this_guessError, .double v_this_guessValue])), (a_this_values, .inl (k 1, 256, aD v_this_values)), (a_p2, .inr (2, [.ref a_p2_numbers, .int x1008.2])), (a_p2_numbers, .inl (k 1, 16, aD x1008.1))] H := hP
            have hD : va_D A [(a_this_kinds, .inl (k 2, 256, aI v_this_kinds)), (a_this, .inr (0, [.ref a_this_values, .ref a_this_kinds, .int v_this_table, .double v_this_guard, .double v_this_ratio, .int v_this_bridging, .int v_this_length, .int v_this_guessColumn, .double v_this_guessError, .double v_this_guessValue])), (a_this_values, .inl (k 1, 256, aD v_this_values)), (a_p2, .inr (2, [.ref a_p2_numbers, .int x1008.2])), (a_p2_numbers, .inl (k 1, 16, aD x1008.1))] := hD
            refine lv_iinc (v := (x18_4 + 1)) (lv' := [(4, .int (x18_4 + 1)), (0, .ref a_this), (1, .int p1), (2, .ref a_p2), (3, .int x18_3)]) hx hb dX1_copyColumn_58 hl (k := 4) rfl rfl (by decide) rfl (fun ls hl => ?_)
            refine lv_goto (tgt := 18) hx hb dX1_copyColumn_61 (by decide) ?_
            have hP := hP.sub (ws' := [(a_this_values, .inl (k 1, 256, aD v_this_values)), (a_this_kinds, .inl (k 2, 256, aI v_this_kinds)), (a_p2, .inr (2, [.ref a_p2_numbers, .int x1008.2])), (a_p2_numbers, .inl (k 1, 16, aD x1008.1)), (a_this, .inr (0, [.ref a_this_values, .ref a_this_kinds, .int v_this_table, .double v_this_guard, .double v_this_ratio, .int v_this_bridging, .int v_this_length, .int v_this_guessColumn, .double v_this_guessError, .double v_this_guessValue]))]) [2, 0, 3, 4, 1] rfl
            have hD := hD.sub (ws' := [(a_this_values, .inl (k 1, 256, aD v_this_values)), (a_this_kinds, .inl (k 2, 256, aI v_this_kinds)), (a_p2, .inr (2, [.ref a_p2_numbers, .int x1008.2])), (a_p2_numbers, .inl (k 1, 16, aD x1008.1)), (a_this, .inr (0, [.ref a_this_values, .ref a_this_kinds, .int v_this_table, .double v_this_guard, .double v_this_ratio, .int v_this_bridging, .int v_this_length, .int v_this_guessColumn, .double v_this_guessError, .double v_this_guessValue]))]) [2, 0, 3, 4, 1] (by decide) rfl
            exact ih18 x18_3 (x18_4 + 1) x1008 H locs ls hP hD hS (lv_sub hl [1, 2, 3, 4, 0] rfl) hf
  exact L18 300 x1 (0 : Int32) (v_p2.1, (0 : Int32)) H locs ls hP hD hS (lv_sub hl [2, 3, 4, 1, 0] rfl) hf
theorem hinX1_X1_manyColumns : ∀ w ∈ wsX10, w ∈ wsX1_manyColumns := by decide +kernel
def p_X1_manyColumns_L4 (v_this_table : Int32) (v_this_length : Int32) : Nat → Int32 → Int32 → Option (Int32)
  | 0, _, _ => none
  | n4 + 1, x4_1, x4_2 => (if (16 : Int32) ≤ x4_2 then some x4_1 else (p_X1_manyIn v_this_table x4_2 v_this_length).bind fun x1002 => (if x1002 ≤ 0 then p_X1_manyColumns_L4 v_this_table v_this_length n4 (x4_1 + (0 : Int32)) (x4_2 + 1) else p_X1_manyColumns_L4 v_this_table v_this_length n4 (x4_1 + (1 : Int32)) (x4_2 + 1)))

def p_X1_manyColumns (v_this_table : Int32) (v_this_length : Int32)  : Option (Int32) := (p_X1_manyColumns_L4 v_this_table v_this_length 300 (0 : Int32) (0 : Int32) ).bind fun x1 => some x1
abbrev rm_X1_manyColumns : Room := { frames := 1, cells := 0, slots := 0, locals := 23 }
set_option maxHeartbeats 4000000 in
set_option maxRecDepth 100000 in
theorem mt_X1_manyColumns (l : Launch) (D : va_G) (k : Nat → ClassId) (a_this a_this_values a_this_kinds : Nat) (sz : Nat) (v_this_table : Int32) (v_this_guard : UInt64) (v_this_ratio : UInt64) (v_this_bridging : Int32) (v_this_length : Int32) (v_this_guessColumn : Int32) (v_this_guessError : UInt64) (v_this_guessValue : UInt64)  (o : Int32) (hf : p_X1_manyColumns v_this_table v_this_length = some o)  : Met l yX1_manyColumns wsX1_manyColumns rm_X1_manyColumns (va_Pc [.ref a_this] (bW D k sz [(a_this, .inr (0, [.ref a_this_values, .ref a_this_kinds, .int v_this_table, .double v_this_guard, .double v_this_ratio, .int v_this_bridging, .int v_this_length, .int v_this_guessColumn, .double v_this_guessError, .double v_this_guessValue]))])) (va_Qi (fun (r : Int32) (_ : Unit) => r = o) (fun _ => bO D k (va_A [(a_this, .inr (0, [.ref a_this_values, .ref a_this_kinds, .int v_this_table, .double v_this_guard, .double v_this_ratio, .int v_this_bridging, .int v_this_length, .int v_this_guessColumn, .double v_this_guessError, .double v_this_guessValue]))] sz) [(a_this, .inr (0, [.ref a_this_values, .ref a_this_kinds, .int v_this_table, .double v_this_guard, .double v_this_ratio, .int v_this_bridging, .int v_this_length, .int v_this_guessColumn, .double v_this_guessError, .double v_this_guessValue]))]) (va_A [(a_this, .inr (0, [.ref a_this_values, .ref a_this_kinds, .int v_this_table, .double v_this_guard, .double v_this_ratio, .int v_this_bridging, .int v_this_length, .int v_this_guessColumn, .double v_this_guessError, .double v_this_guessValue]))] sz)) 0 0 (va_A [(a_this, .inr (0, [.ref a_this_values, .ref a_this_kinds, .int v_this_table, .double v_this_guard, .double v_this_ratio, .int v_this_bridging, .int v_this_length, .int v_this_guessColumn, .double v_this_guessError, .double v_this_guessValue]))] sz) := by
  unfold p_X1_manyColumns at hf
  refine Met.ofW (cc := cX1_manyColumns) (maxL := 3) (ret := (some .int)) (by decide) rfl ?_
  intro p e s m args below meth c s₁ B hml hv
  obtain ⟨rfl, hsz, hP, hK, hD0⟩ := hv
  have hx := B.exec
  have hb := B.bytes
  have hr := B.returns
  have hts := atoms_spec (ws := wsX1_manyColumns) B.pre
  have hown : s.vm.findClass RX1 = some m.cls := findClass_of_methodNamed B.named
  have hlocks := B.notSynchronized
  subst hsz
  have hD := hD0.self (sz := s.heap.size)
  generalize hAe : va_A [(a_this, .inr (0, [.ref a_this_values, .ref a_this_kinds, .int v_this_table, .double v_this_guard, .double v_this_ratio, .int v_this_bridging, .int v_this_length, .int v_this_guessColumn, .double v_this_guessError, .double v_this_guessValue]))] s.heap.size = A at hD ⊢
  have hA : ∀ q : Nat, s.heap.size ≤ q → A q := fun q h => by rw [← hAe]; exact Or.inr h
  have hS : va_S A s.heap s.heap [] := va_S.rf
  obtain ⟨Q, hQ⟩ : ∃ Q, Q = MQ below (va_Qi (fun (r : Int32) (_ : Unit) => r = o) (fun _ => bO D k (A) [(a_this, .inr (0, [.ref a_this_values, .ref a_this_kinds, .int v_this_table, .double v_this_guard, .double v_this_ratio, .int v_this_bridging, .int v_this_length, .int v_this_guessColumn, .double v_this_guessError, .double v_this_guessValue]))]) (A)) ([.ref a_this] : List Value).toArray s 0 0 A := ⟨_, rfl⟩
  rw [← hQ]
  have hl := lv_entry [.ref a_this] (n := 3) (Nat.le_of_ble_eq_true rfl)
  rw [lg_entry_eq]
  generalize (lg_sl [.ref a_this] ++ List.replicate (3 - (lg_sl [.ref a_this]).length) Slot.unset).toArray = ls at hl ⊢
  have hl : lv_has ls 3 [(0, .ref a_this)] := hl
  obtain ⟨H, hHe⟩ : ∃ H, H = s.heap := ⟨_, rfl⟩
  have hP : va_P D vwCl [(a_this, .inr (0, [.ref a_this_values, .ref a_this_kinds, .int v_this_table, .double v_this_guard, .double v_this_ratio, .int v_this_bridging, .int v_this_length, .int v_this_guessColumn, .double v_this_guessError, .double v_this_guessValue]))] H := by rw [hHe]; exact hP
  have hS : va_S A s.heap H [] := by rw [hHe]; exact hS
  rw [← hHe]
  obtain ⟨locs, hLe⟩ : ∃ locs : List Loc, locs = [] := ⟨_, rfl⟩
  rw [← hLe] at hS ⊢
  clear hLe
  refine lv_iconst (v := 0) hx hb dX1_manyColumns_0 (by decide) ?_
  refine lv_istore_n (lv' := [(1, .int (0 : Int32)), (0, .ref a_this)]) hx hb dX1_manyColumns_1 rfl hl (by decide) rfl (fun ls hl => ?_)
  refine lv_iconst (v := 0) hx hb dX1_manyColumns_2 (by decide) ?_
  refine lv_istore_n (lv' := [(2, .int (0 : Int32)), (1, .int (0 : Int32)), (0, .ref a_this)]) hx hb dX1_manyColumns_3 rfl hl (by decide) rfl (fun ls hl => ?_)
  obtain ⟨x1, hx1, hf⟩ := bind_s hf
  have X36 : ∀ (H : Heap) (locs : List Loc) (ls : Array Slot), va_P D vwCl [(a_this, .inr (0, [.ref a_this_values, .ref a_this_kinds, .int v_this_table, .double v_this_guard, .double v_this_ratio, .int v_this_bridging, .int v_this_length, .int v_this_guessColumn, .double v_this_guessError, .double v_this_guessValue]))] H → va_D A [(a_this, .inr (0, [.ref a_this_values, .ref a_this_kinds, .int v_this_table, .double v_this_guard, .double v_this_ratio, .int v_this_bridging, .int v_this_length, .int v_this_guessColumn, .double v_this_guessError, .double v_this_guessValue]))] → va_S A s.heap H locs → lv_has ls 3 [(1, .int x1)] → W p l e (headSpec wsX1_manyColumns rm_X1_manyColumns).room s m ([.ref a_this] : List Value).toArray below meth c H locs 0 0 Q (F0 m 36 ls []) := by
    intro H locs ls hP hD hS hl
    refine lv_iload_n hx hb dX1_manyColumns_36 rfl (lv_at hl 0 rfl) ?_
    have ho := Option.some.inj hf
    subst ho
    rw [hQ]
    exact W.iret (v := x1) hx hb hr (fun t ht hW => ⟨⟨x1, (), rfl, rfl, by rw [ht]; exact hP.sub (ws' := [(a_this, .inr (0, [.ref a_this_values, .ref a_this_kinds, .int v_this_table, .double v_this_guard, .double v_this_ratio, .int v_this_bridging, .int v_this_length, .int v_this_guessColumn, .double v_this_guessError, .double v_this_guessValue]))]) [0] rfl, va_K.moved hW.alike hK, hD.sub (ws' := [(a_this, .inr (0, [.ref a_this_values, .ref a_this_kinds, .int v_this_table, .double v_this_guard, .double v_this_ratio, .int v_this_bridging, .int v_this_length, .int v_this_guessColumn, .double v_this_guessError, .double v_this_guessValue]))]) [0] (by decide) rfl⟩, hS.F ht⟩) hS.2.2 dX1_manyColumns_37
  have L4 : ∀ (n4 : Nat) (x4_1 : Int32) (x4_2 : Int32)  (H : Heap) (locs : List Loc) (ls : Array Slot), va_P D vwCl [(a_this, .inr (0, [.ref a_this_values, .ref a_this_kinds, .int v_this_table, .double v_this_guard, .double v_this_ratio, .int v_this_bridging, .int v_this_length, .int v_this_guessColumn, .double v_this_guessError, .double v_this_guessValue]))] H → va_D A [(a_this, .inr (0, [.ref a_this_values, .ref a_this_kinds, .int v_this_table, .double v_this_guard, .double v_this_ratio, .int v_this_bridging, .int v_this_length, .int v_this_guessColumn, .double v_this_guessError, .double v_this_guessValue]))] → va_S A s.heap H locs → lv_has ls 3 [(0, .ref a_this), (1, .int x4_1), (2, .int x4_2)] → p_X1_manyColumns_L4 v_this_table v_this_length n4 x4_1 x4_2 = some x1 → W p l e (headSpec wsX1_manyColumns rm_X1_manyColumns).room s m ([.ref a_this] : List Value).toArray below meth c H locs 0 0 Q (F0 m 4 ls []) := by
    intro n4
    induction n4 with
    | zero =>
      intro x4_1 x4_2 H locs ls hP hD hS hl hx1
      exact absurd hx1 (by simp [p_X1_manyColumns_L4])
    | succ n4 ih4 =>
      intro x4_1 x4_2 H locs ls hP hD hS hl hx1
      rw [p_X1_manyColumns_L4] at hx1
      refine lv_iload_n hx hb dX1_manyColumns_4 rfl (lv_at hl 2 rfl) ?_
      refine lv_bipush (v := 16) hx hb dX1_manyColumns_5 (by decide) ?_
      refine lv_icmp_ge (tgt := 36) hx hb dX1_manyColumns_7 (by decide) (fun c1001 => ?_) (fun c1001 => ?_)
      · skip
        have hx1 := if_t c1001 hx1
        have ho := Option.some.inj hx1
        subst ho
        exact X36 H locs ls hP hD hS (lv_sub hl [1] rfl)
      · skip
        have hx1 := if_f c1001 hx1
        refine lv_iload_n hx hb dX1_manyColumns_10 rfl (lv_at hl 1 rfl) ?_
        refine lv_aload_n hx hb dX1_manyColumns_11 rfl (lv_at hl 0 rfl) ?_
        refine lv_iload_n hx hb dX1_manyColumns_12 rfl (lv_at hl 2 rfl) ?_
        refine lv_aload_n hx hb dX1_manyColumns_13 rfl (lv_at hl 0 rfl) ?_
        refine va_get (D := D) (ci := 0) (v := .int v_this_length) (C := RX1) (T := TX1) (N := 10) hx hb hts hinX1_X1_manyColumns hown hK hP 0 rfl rfl 6 (by decide) (hts (.fieldLink RX1 34 "LimitTables$Grid" "length" "I") (by decide +kernel)) (fun _ h9 => h9) rfl dX1_manyColumns_14 ?_
        obtain ⟨x1002, hx1002, hx1⟩ := bind_s hx1
        refine cc_i (r := x1002) (wc := [(a_this, .inr (0, [.ref a_this_values, .ref a_this_kinds, .int v_this_table, .double v_this_guard, .double v_this_ratio, .int v_this_bridging, .int v_this_length, .int v_this_guessColumn, .double v_this_guessError, .double v_this_guessValue]))]) (wr := []) (w1 := [(a_this, .inr (0, [.ref a_this_values, .ref a_this_kinds, .int v_this_table, .double v_this_guard, .double v_this_ratio, .int v_this_bridging, .int v_this_length, .int v_this_guessColumn, .double v_this_guessError, .double v_this_guessValue]))]) (va_runV (As := [.int x4_2, .int v_this_length]) (rest := [.int x4_1]) ⟨hx, hb, hml, hown, hts⟩ (mt_X1_manyIn l D k a_this a_this_values a_this_kinds _ v_this_table v_this_guard v_this_ratio v_this_bridging v_this_length v_this_guessColumn v_this_guessError v_this_guessValue x4_2 v_this_length x1002 hx1002) (cwV 2 hts gX1_manyColumns_X1_manyIn rfl rfl rfl (by decide +kernel) ⟨(Nat.le_of_ble_eq_true rfl), (Nat.le_of_ble_eq_true rfl)⟩) (cc_pv (wc := [(a_this, .inr (0, [.ref a_this_values, .ref a_this_kinds, .int v_this_table, .double v_this_guard, .double v_this_ratio, .int v_this_bridging, .int v_this_length, .int v_this_guessColumn, .double v_this_guessError, .double v_this_guessValue]))]) hK hP hD [0] (by decide) rfl rfl 0 0 rfl rfl rfl) rfl rfl hl.1 rfl (lv_room (Nat.le_of_ble_eq_true rfl)) dX1_manyColumns_17 ⟨Nat.zero_le _, Nat.zero_le _⟩) hP hD hS hA [0] [] rfl rfl (by decide) (by decide) (fun H locs hP hD hS => ?_)
        have hP : va_P D vwCl [(a_this, .inr (0, [.ref a_this_values, .ref a_this_kinds, .int v_this_table, .double v_this_guard, .double v_this_ratio, .int v_this_bridging, .int v_this_length, .int v_this_guessColumn, .double v_this_guessError, .double v_this_guessValue]))] H := hP
        have hD : va_D A [(a_this, .inr (0, [.ref a_this_values, .ref a_this_kinds, .int v_this_table, .double v_this_guard, .double v_this_ratio, .int v_this_bridging, .int v_this_length, .int v_this_guessColumn, .double v_this_guessError, .double v_this_guessValue]))] := hD
        refine lv_if_le (tgt := 27) hx hb dX1_manyColumns_20 (by decide) (fun c1003 => ?_) (fun c1003 => ?_)
        · skip
          have hx1 := if_t c1003 hx1
          refine lv_iconst (v := 0) hx hb dX1_manyColumns_27 (by decide) ?_
          refine lv_iadd hx hb dX1_manyColumns_28 ?_
          refine lv_istore_n (lv' := [(1, .int (x4_1 + (0 : Int32))), (0, .ref a_this), (2, .int x4_2)]) hx hb dX1_manyColumns_29 rfl hl (by decide) rfl (fun ls hl => ?_)
          refine lv_iinc (v := (x4_2 + 1)) (lv' := [(2, .int (x4_2 + 1)), (1, .int (x4_1 + (0 : Int32))), (0, .ref a_this)]) hx hb dX1_manyColumns_30 hl (k := 2) rfl rfl (by decide) rfl (fun ls hl => ?_)
          refine lv_goto (tgt := 4) hx hb dX1_manyColumns_33 (by decide) ?_
          exact ih4 (x4_1 + (0 : Int32)) (x4_2 + 1) H locs ls hP hD hS (lv_sub hl [2, 1, 0] rfl) hx1
        · skip
          have hx1 := if_f c1003 hx1
          refine lv_iconst (v := 1) hx hb dX1_manyColumns_23 (by decide) ?_
          refine lv_goto (tgt := 28) hx hb dX1_manyColumns_24 (by decide) ?_
          refine lv_iadd hx hb dX1_manyColumns_28 ?_
          refine lv_istore_n (lv' := [(1, .int (x4_1 + (1 : Int32))), (0, .ref a_this), (2, .int x4_2)]) hx hb dX1_manyColumns_29 rfl hl (by decide) rfl (fun ls hl => ?_)
          refine lv_iinc (v := (x4_2 + 1)) (lv' := [(2, .int (x4_2 + 1)), (1, .int (x4_1 + (1 : Int32))), (0, .ref a_this)]) hx hb dX1_manyColumns_30 hl (k := 2) rfl rfl (by decide) rfl (fun ls hl => ?_)
          refine lv_goto (tgt := 4) hx hb dX1_manyColumns_33 (by decide) ?_
          exact ih4 (x4_1 + (1 : Int32)) (x4_2 + 1) H locs ls hP hD hS (lv_sub hl [2, 1, 0] rfl) hx1
  exact L4 300 (0 : Int32) (0 : Int32)  H locs ls hP hD hS (lv_sub hl [2, 1, 0] rfl) hx1
theorem hinX1_X1_manyInColumn : ∀ w ∈ wsX10, w ∈ wsX1_manyInColumn := by decide +kernel
def p_X1_manyInColumn_L17 (v_this_kinds : Nat → Int32) (p1 : Int32) (p2 : Int32) (p3 : Int32) : Nat → Int32 → Int32 → Int32 → Option (Int32)
  | 0, _, _, _ => none
  | n17 + 1, x17_4, x17_5, x17_6 => (if x17_5 ≤ x17_6 then some x17_4 else (p_X1_kindAt v_this_kinds p1 x17_6).bind fun x1002 => (if x1002 < p2 then p_X1_manyInColumn_L17 v_this_kinds p1 p2 p3 n17 (x17_4 + (0 : Int32)) x17_5 (x17_6 + 1) else (if p3 < x1002 then p_X1_manyInColumn_L17 v_this_kinds p1 p2 p3 n17 (x17_4 + (0 : Int32)) x17_5 (x17_6 + 1) else p_X1_manyInColumn_L17 v_this_kinds p1 p2 p3 n17 (x17_4 + (1 : Int32)) x17_5 (x17_6 + 1))))

def p_X1_manyInColumn (v_this_kinds : Nat → Int32) (v_this_table : Int32) (v_this_length : Int32) (p1 : Int32) (p2 : Int32) (p3 : Int32) : Option (Int32) := (p_X1_manyIn v_this_table p1 v_this_length).bind fun x1 => (p_X1_manyInColumn_L17 v_this_kinds p1 p2 p3 300 (0 : Int32) x1 (0 : Int32) ).bind fun x2 => some x2
abbrev rm_X1_manyInColumn : Room := { frames := 1, cells := 0, slots := 0, locals := 23 }
set_option maxHeartbeats 4000000 in
set_option maxRecDepth 100000 in
theorem mt_X1_manyInColumn (l : Launch) (D : va_G) (k : Nat → ClassId) (a_this a_this_values a_this_kinds : Nat) (sz : Nat) (v_this_kinds : Nat → Int32) (v_this_table : Int32) (v_this_guard : UInt64) (v_this_ratio : UInt64) (v_this_bridging : Int32) (v_this_length : Int32) (v_this_guessColumn : Int32) (v_this_guessError : UInt64) (v_this_guessValue : UInt64) (p1 : Int32) (p2 : Int32) (p3 : Int32) (o : Int32) (hf : p_X1_manyInColumn v_this_kinds v_this_table v_this_length p1 p2 p3 = some o)  : Met l yX1_manyInColumn wsX1_manyInColumn rm_X1_manyInColumn (va_Pc [.ref a_this, .int p1, .int p2, .int p3] (bW D k sz [(a_this, .inr (0, [.ref a_this_values, .ref a_this_kinds, .int v_this_table, .double v_this_guard, .double v_this_ratio, .int v_this_bridging, .int v_this_length, .int v_this_guessColumn, .double v_this_guessError, .double v_this_guessValue])), (a_this_kinds, .inl (k 2, 256, aI v_this_kinds))])) (va_Qi (fun (r : Int32) (_ : Unit) => r = o) (fun _ => bO D k (va_A [(a_this, .inr (0, [.ref a_this_values, .ref a_this_kinds, .int v_this_table, .double v_this_guard, .double v_this_ratio, .int v_this_bridging, .int v_this_length, .int v_this_guessColumn, .double v_this_guessError, .double v_this_guessValue])), (a_this_kinds, .inl (k 2, 256, aI v_this_kinds))] sz) [(a_this, .inr (0, [.ref a_this_values, .ref a_this_kinds, .int v_this_table, .double v_this_guard, .double v_this_ratio, .int v_this_bridging, .int v_this_length, .int v_this_guessColumn, .double v_this_guessError, .double v_this_guessValue])), (a_this_kinds, .inl (k 2, 256, aI v_this_kinds))]) (va_A [(a_this, .inr (0, [.ref a_this_values, .ref a_this_kinds, .int v_this_table, .double v_this_guard, .double v_this_ratio, .int v_this_bridging, .int v_this_length, .int v_this_guessColumn, .double v_this_guessError, .double v_this_guessValue])), (a_this_kinds, .inl (k 2, 256, aI v_this_kinds))] sz)) 0 0 (va_A [(a_this, .inr (0, [.ref a_this_values, .ref a_this_kinds, .int v_this_table, .double v_this_guard, .double v_this_ratio, .int v_this_bridging, .int v_this_length, .int v_this_guessColumn, .double v_this_guessError, .double v_this_guessValue])), (a_this_kinds, .inl (k 2, 256, aI v_this_kinds))] sz) := by
  unfold p_X1_manyInColumn at hf
  refine Met.ofW (cc := cX1_manyInColumn) (maxL := 8) (ret := (some .int)) (by decide) rfl ?_
  intro p e s m args below meth c s₁ B hml hv
  obtain ⟨rfl, hsz, hP, hK, hD0⟩ := hv
  have hx := B.exec
  have hb := B.bytes
  have hr := B.returns
  have hts := atoms_spec (ws := wsX1_manyInColumn) B.pre
  have hown : s.vm.findClass RX1 = some m.cls := findClass_of_methodNamed B.named
  have hlocks := B.notSynchronized
  subst hsz
  have hD := hD0.self (sz := s.heap.size)
  generalize hAe : va_A [(a_this, .inr (0, [.ref a_this_values, .ref a_this_kinds, .int v_this_table, .double v_this_guard, .double v_this_ratio, .int v_this_bridging, .int v_this_length, .int v_this_guessColumn, .double v_this_guessError, .double v_this_guessValue])), (a_this_kinds, .inl (k 2, 256, aI v_this_kinds))] s.heap.size = A at hD ⊢
  have hA : ∀ q : Nat, s.heap.size ≤ q → A q := fun q h => by rw [← hAe]; exact Or.inr h
  have hS : va_S A s.heap s.heap [] := va_S.rf
  obtain ⟨Q, hQ⟩ : ∃ Q, Q = MQ below (va_Qi (fun (r : Int32) (_ : Unit) => r = o) (fun _ => bO D k (A) [(a_this, .inr (0, [.ref a_this_values, .ref a_this_kinds, .int v_this_table, .double v_this_guard, .double v_this_ratio, .int v_this_bridging, .int v_this_length, .int v_this_guessColumn, .double v_this_guessError, .double v_this_guessValue])), (a_this_kinds, .inl (k 2, 256, aI v_this_kinds))]) (A)) ([.ref a_this, .int p1, .int p2, .int p3] : List Value).toArray s 0 0 A := ⟨_, rfl⟩
  rw [← hQ]
  have hl := lv_entry [.ref a_this, .int p1, .int p2, .int p3] (n := 8) (Nat.le_of_ble_eq_true rfl)
  rw [lg_entry_eq]
  generalize (lg_sl [.ref a_this, .int p1, .int p2, .int p3] ++ List.replicate (8 - (lg_sl [.ref a_this, .int p1, .int p2, .int p3]).length) Slot.unset).toArray = ls at hl ⊢
  have hl : lv_has ls 8 [(0, .ref a_this), (1, .int p1), (2, .int p2), (3, .int p3)] := hl
  obtain ⟨H, hHe⟩ : ∃ H, H = s.heap := ⟨_, rfl⟩
  have hP : va_P D vwCl [(a_this, .inr (0, [.ref a_this_values, .ref a_this_kinds, .int v_this_table, .double v_this_guard, .double v_this_ratio, .int v_this_bridging, .int v_this_length, .int v_this_guessColumn, .double v_this_guessError, .double v_this_guessValue])), (a_this_kinds, .inl (k 2, 256, aI v_this_kinds))] H := by rw [hHe]; exact hP
  have hS : va_S A s.heap H [] := by rw [hHe]; exact hS
  rw [← hHe]
  obtain ⟨locs, hLe⟩ : ∃ locs : List Loc, locs = [] := ⟨_, rfl⟩
  rw [← hLe] at hS ⊢
  clear hLe
  refine lv_iconst (v := 0) hx hb dX1_manyInColumn_0 (by decide) ?_
  refine lv_istore (lv' := [(4, .int (0 : Int32)), (0, .ref a_this), (1, .int p1), (2, .int p2), (3, .int p3)]) hx hb dX1_manyInColumn_1 hl (by decide) rfl (fun ls hl => ?_)
  refine lv_aload_n hx hb dX1_manyInColumn_3 rfl (lv_at hl 1 rfl) ?_
  refine lv_iload_n hx hb dX1_manyInColumn_4 rfl (lv_at hl 2 rfl) ?_
  refine lv_aload_n hx hb dX1_manyInColumn_5 rfl (lv_at hl 1 rfl) ?_
  refine va_get (D := D) (ci := 0) (v := .int v_this_length) (C := RX1) (T := TX1) (N := 10) hx hb hts hinX1_X1_manyInColumn hown hK hP 0 rfl rfl 6 (by decide) (hts (.fieldLink RX1 34 "LimitTables$Grid" "length" "I") (by decide +kernel)) (fun _ h9 => h9) rfl dX1_manyInColumn_6 ?_
  obtain ⟨x1, hx1, hf⟩ := bind_s hf
  refine cc_i (r := x1) (wc := [(a_this, .inr (0, [.ref a_this_values, .ref a_this_kinds, .int v_this_table, .double v_this_guard, .double v_this_ratio, .int v_this_bridging, .int v_this_length, .int v_this_guessColumn, .double v_this_guessError, .double v_this_guessValue]))]) (wr := [(a_this_kinds, .inl (k 2, 256, aI v_this_kinds))]) (w1 := [(a_this, .inr (0, [.ref a_this_values, .ref a_this_kinds, .int v_this_table, .double v_this_guard, .double v_this_ratio, .int v_this_bridging, .int v_this_length, .int v_this_guessColumn, .double v_this_guessError, .double v_this_guessValue]))]) (va_runV (As := [.int p1, .int v_this_length]) (rest := []) ⟨hx, hb, hml, hown, hts⟩ (mt_X1_manyIn l D k a_this a_this_values a_this_kinds _ v_this_table v_this_guard v_this_ratio v_this_bridging v_this_length v_this_guessColumn v_this_guessError v_this_guessValue p1 v_this_length x1 hx1) (cwV 2 hts gX1_manyInColumn_X1_manyIn rfl rfl rfl (by decide +kernel) ⟨(Nat.le_of_ble_eq_true rfl), (Nat.le_of_ble_eq_true rfl)⟩) (cc_pv (wc := [(a_this, .inr (0, [.ref a_this_values, .ref a_this_kinds, .int v_this_table, .double v_this_guard, .double v_this_ratio, .int v_this_bridging, .int v_this_length, .int v_this_guessColumn, .double v_this_guessError, .double v_this_guessValue]))]) hK hP hD [0] (by decide) rfl rfl 0 0 rfl rfl rfl) rfl rfl hl.1 rfl (lv_room (Nat.le_of_ble_eq_true rfl)) dX1_manyInColumn_9 ⟨Nat.zero_le _, Nat.zero_le _⟩) hP hD hS hA [0] [1] rfl rfl (by decide) (by decide) (fun H locs hP hD hS => ?_)
  have hP : va_P D vwCl [(a_this_kinds, .inl (k 2, 256, aI v_this_kinds)), (a_this, .inr (0, [.ref a_this_values, .ref a_this_kinds, .int v_this_table, .double v_this_guard, .double v_this_ratio, .int v_this_bridging, .int v_this_length, .int v_this_guessColumn, .double v_this_guessError, .double v_this_guessValue]))] H := hP
  have hD : va_D A [(a_this_kinds, .inl (k 2, 256, aI v_this_kinds)), (a_this, .inr (0, [.ref a_this_values, .ref a_this_kinds, .int v_this_table, .double v_this_guard, .double v_this_ratio, .int v_this_bridging, .int v_this_length, .int v_this_guessColumn, .double v_this_guessError, .double v_this_guessValue]))] := hD
  refine lv_istore (lv' := [(5, .int x1), (4, .int (0 : Int32)), (0, .ref a_this), (1, .int p1), (2, .int p2), (3, .int p3)]) hx hb dX1_manyInColumn_12 hl (by decide) rfl (fun ls hl => ?_)
  refine lv_iconst (v := 0) hx hb dX1_manyInColumn_14 (by decide) ?_
  refine lv_istore (lv' := [(6, .int (0 : Int32)), (5, .int x1), (4, .int (0 : Int32)), (0, .ref a_this), (1, .int p1), (2, .int p2), (3, .int p3)]) hx hb dX1_manyInColumn_15 hl (by decide) rfl (fun ls hl => ?_)
  obtain ⟨x2, hx2, hf⟩ := bind_s hf
  have X61 : ∀ (H : Heap) (locs : List Loc) (ls : Array Slot), va_P D vwCl [(a_this_kinds, .inl (k 2, 256, aI v_this_kinds)), (a_this, .inr (0, [.ref a_this_values, .ref a_this_kinds, .int v_this_table, .double v_this_guard, .double v_this_ratio, .int v_this_bridging, .int v_this_length, .int v_this_guessColumn, .double v_this_guessError, .double v_this_guessValue]))] H → va_D A [(a_this_kinds, .inl (k 2, 256, aI v_this_kinds)), (a_this, .inr (0, [.ref a_this_values, .ref a_this_kinds, .int v_this_table, .double v_this_guard, .double v_this_ratio, .int v_this_bridging, .int v_this_length, .int v_this_guessColumn, .double v_this_guessError, .double v_this_guessValue]))] → va_S A s.heap H locs → lv_has ls 8 [(4, .int x2)] → W p l e (headSpec wsX1_manyInColumn rm_X1_manyInColumn).room s m ([.ref a_this, .int p1, .int p2, .int p3] : List Value).toArray below meth c H locs 0 0 Q (F0 m 61 ls []) := by
    intro H locs ls hP hD hS hl
    refine lv_iload hx hb dX1_manyInColumn_61 (lv_at hl 0 rfl) ?_
    have ho := Option.some.inj hf
    subst ho
    rw [hQ]
    exact W.iret (v := x2) hx hb hr (fun t ht hW => ⟨⟨x2, (), rfl, rfl, by rw [ht]; exact hP.sub (ws' := [(a_this, .inr (0, [.ref a_this_values, .ref a_this_kinds, .int v_this_table, .double v_this_guard, .double v_this_ratio, .int v_this_bridging, .int v_this_length, .int v_this_guessColumn, .double v_this_guessError, .double v_this_guessValue])), (a_this_kinds, .inl (k 2, 256, aI v_this_kinds))]) [1, 0] rfl, va_K.moved hW.alike hK, hD.sub (ws' := [(a_this, .inr (0, [.ref a_this_values, .ref a_this_kinds, .int v_this_table, .double v_this_guard, .double v_this_ratio, .int v_this_bridging, .int v_this_length, .int v_this_guessColumn, .double v_this_guessError, .double v_this_guessValue])), (a_this_kinds, .inl (k 2, 256, aI v_this_kinds))]) [1, 0] (by decide) rfl⟩, hS.F ht⟩) hS.2.2 dX1_manyInColumn_63
  have L17 : ∀ (n17 : Nat) (x17_4 : Int32) (x17_5 : Int32) (x17_6 : Int32)  (H : Heap) (locs : List Loc) (ls : Array Slot), va_P D vwCl [(a_this_kinds, .inl (k 2, 256, aI v_this_kinds)), (a_this, .inr (0, [.ref a_this_values, .ref a_this_kinds, .int v_this_table, .double v_this_guard, .double v_this_ratio, .int v_this_bridging, .int v_this_length, .int v_this_guessColumn, .double v_this_guessError, .double v_this_guessValue]))] H → va_D A [(a_this_kinds, .inl (k 2, 256, aI v_this_kinds)), (a_this, .inr (0, [.ref a_this_values, .ref a_this_kinds, .int v_this_table, .double v_this_guard, .double v_this_ratio, .int v_this_bridging, .int v_this_length, .int v_this_guessColumn, .double v_this_guessError, .double v_this_guessValue]))] → va_S A s.heap H locs → lv_has ls 8 [(0, .ref a_this), (1, .int p1), (2, .int p2), (3, .int p3), (4, .int x17_4), (5, .int x17_5), (6, .int x17_6)] → p_X1_manyInColumn_L17 v_this_kinds p1 p2 p3 n17 x17_4 x17_5 x17_6 = some x2 → W p l e (headSpec wsX1_manyInColumn rm_X1_manyInColumn).room s m ([.ref a_this, .int p1, .int p2, .int p3] : List Value).toArray below meth c H locs 0 0 Q (F0 m 17 ls []) := by
    intro n17
    induction n17 with
    | zero =>
      intro x17_4 x17_5 x17_6 H locs ls hP hD hS hl hx2
      exact absurd hx2 (by simp [p_X1_manyInColumn_L17])
    | succ n17 ih17 =>
      intro x17_4 x17_5 x17_6 H locs ls hP hD hS hl hx2
      rw [p_X1_manyInColumn_L17] at hx2
      refine lv_iload hx hb dX1_manyInColumn_17 (lv_at hl 6 rfl) ?_
      refine lv_iload hx hb dX1_manyInColumn_19 (lv_at hl 5 rfl) ?_
      refine lv_icmp_ge (tgt := 61) hx hb dX1_manyInColumn_21 (by decide) (fun c1001 => ?_) (fun c1001 => ?_)
      · skip
        have hx2 := if_t c1001 hx2
        have ho := Option.some.inj hx2
        subst ho
        exact X61 H locs ls hP hD hS (lv_sub hl [4] rfl)
      · skip
        have hx2 := if_f c1001 hx2
        refine lv_aload_n hx hb dX1_manyInColumn_24 rfl (lv_at hl 0 rfl) ?_
        refine lv_iload_n hx hb dX1_manyInColumn_25 rfl (lv_at hl 1 rfl) ?_
        refine lv_iload hx hb dX1_manyInColumn_26 (lv_at hl 6 rfl) ?_
        obtain ⟨x1002, hx1002, hx2⟩ := bind_s hx2
        refine cc_i (r := x1002) (wc := [(a_this, .inr (0, [.ref a_this_values, .ref a_this_kinds, .int v_this_table, .double v_this_guard, .double v_this_ratio, .int v_this_bridging, .int v_this_length, .int v_this_guessColumn, .double v_this_guessError, .double v_this_guessValue])), (a_this_kinds, .inl (k 2, 256, aI v_this_kinds))]) (wr := []) (w1 := [(a_this, .inr (0, [.ref a_this_values, .ref a_this_kinds, .int v_this_table, .double v_this_guard, .double v_this_ratio, .int v_this_bridging, .int v_this_length, .int v_this_guessColumn, .double v_this_guessError, .double v_this_guessValue])), (a_this_kinds, .inl (k 2, 256, aI v_this_kinds))]) (va_runV (As := [.int p1, .int x17_6]) (rest := []) ⟨hx, hb, hml, hown, hts⟩ (mt_X1_kindAt l D k a_this a_this_values a_this_kinds _ v_this_kinds v_this_table v_this_guard v_this_ratio v_this_bridging v_this_length v_this_guessColumn v_this_guessError v_this_guessValue p1 x17_6 x1002 hx1002) (cwV 2 hts gX1_manyInColumn_X1_kindAt rfl rfl rfl (by decide +kernel) ⟨(Nat.le_of_ble_eq_true rfl), (Nat.le_of_ble_eq_true rfl)⟩) (cc_pv (wc := [(a_this, .inr (0, [.ref a_this_values, .ref a_this_kinds, .int v_this_table, .double v_this_guard, .double v_this_ratio, .int v_this_bridging, .int v_this_length, .int v_this_guessColumn, .double v_this_guessError, .double v_this_guessValue])), (a_this_kinds, .inl (k 2, 256, aI v_this_kinds))]) hK hP hD [1, 0] (by decide) rfl rfl 0 1 rfl rfl rfl) rfl rfl hl.1 rfl (lv_room (Nat.le_of_ble_eq_true rfl)) dX1_manyInColumn_28 ⟨Nat.zero_le _, Nat.zero_le _⟩) hP hD hS hA [1, 0] [] rfl rfl (by decide) (by decide) (fun H locs hP hD hS => ?_)
        have hP : va_P D vwCl [(a_this, .inr (0, [.ref a_this_values, .ref a_this_kinds, .int v_this_table, .double v_this_guard, .double v_this_ratio, .int v_this_bridging, .int v_this_length, .int v_this_guessColumn, .double v_this_guessError, .double v_this_guessValue])), (a_this_kinds, .inl (k 2, 256, aI v_this_kinds))] H := hP
        have hD : va_D A [(a_this, .inr (0, [.ref a_this_values, .ref a_this_kinds, .int v_this_table, .double v_this_guard, .double v_this_ratio, .int v_this_bridging, .int v_this_length, .int v_this_guessColumn, .double v_this_guessError, .double v_this_guessValue])), (a_this_kinds, .inl (k 2, 256, aI v_this_kinds))] := hD
        refine lv_istore (lv' := [(7, .int x1002), (0, .ref a_this), (1, .int p1), (2, .int p2), (3, .int p3), (4, .int x17_4), (5, .int x17_5), (6, .int x17_6)]) hx hb dX1_manyInColumn_31 hl (by decide) rfl (fun ls hl => ?_)
        refine lv_iload hx hb dX1_manyInColumn_33 (lv_at hl 5 rfl) ?_
        refine lv_iload hx hb dX1_manyInColumn_35 (lv_at hl 0 rfl) ?_
        refine lv_iload_n hx hb dX1_manyInColumn_37 rfl (lv_at hl 3 rfl) ?_
        refine lv_icmp_lt (tgt := 51) hx hb dX1_manyInColumn_38 (by decide) (fun c1003 => ?_) (fun c1003 => ?_)
        · skip
          have hx2 := if_t c1003 hx2
          refine lv_iconst (v := 0) hx hb dX1_manyInColumn_51 (by decide) ?_
          refine lv_iadd hx hb dX1_manyInColumn_52 ?_
          refine lv_istore (lv' := [(4, .int (x17_4 + (0 : Int32))), (7, .int x1002), (0, .ref a_this), (1, .int p1), (2, .int p2), (3, .int p3), (5, .int x17_5), (6, .int x17_6)]) hx hb dX1_manyInColumn_53 hl (by decide) rfl (fun ls hl => ?_)
          refine lv_iinc (v := (x17_6 + 1)) (lv' := [(6, .int (x17_6 + 1)), (4, .int (x17_4 + (0 : Int32))), (7, .int x1002), (0, .ref a_this), (1, .int p1), (2, .int p2), (3, .int p3), (5, .int x17_5)]) hx hb dX1_manyInColumn_55 hl (k := 7) rfl rfl (by decide) rfl (fun ls hl => ?_)
          refine lv_goto (tgt := 17) hx hb dX1_manyInColumn_58 (by decide) ?_
          have hP := hP.sub (ws' := [(a_this_kinds, .inl (k 2, 256, aI v_this_kinds)), (a_this, .inr (0, [.ref a_this_values, .ref a_this_kinds, .int v_this_table, .double v_this_guard, .double v_this_ratio, .int v_this_bridging, .int v_this_length, .int v_this_guessColumn, .double v_this_guessError, .double v_this_guessValue]))]) [1, 0] rfl
          have hD := hD.sub (ws' := [(a_this_kinds, .inl (k 2, 256, aI v_this_kinds)), (a_this, .inr (0, [.ref a_this_values, .ref a_this_kinds, .int v_this_table, .double v_this_guard, .double v_this_ratio, .int v_this_bridging, .int v_this_length, .int v_this_guessColumn, .double v_this_guessError, .double v_this_guessValue]))]) [1, 0] (by decide) rfl
          exact ih17 (x17_4 + (0 : Int32)) x17_5 (x17_6 + 1) H locs ls hP hD hS (lv_sub hl [3, 4, 5, 6, 1, 7, 0] rfl) hx2
        · skip
          have hx2 := if_f c1003 hx2
          refine lv_iload hx hb dX1_manyInColumn_41 (lv_at hl 0 rfl) ?_
          refine lv_iload_n hx hb dX1_manyInColumn_43 rfl (lv_at hl 4 rfl) ?_
          refine lv_icmp_gt (tgt := 51) hx hb dX1_manyInColumn_44 (by decide) (fun c1004 => ?_) (fun c1004 => ?_)
          · skip
            have hx2 := if_t c1004 hx2
            refine lv_iconst (v := 0) hx hb dX1_manyInColumn_51 (by decide) ?_
            refine lv_iadd hx hb dX1_manyInColumn_52 ?_
            refine lv_istore (lv' := [(4, .int (x17_4 + (0 : Int32))), (7, .int x1002), (0, .ref a_this), (1, .int p1), (2, .int p2), (3, .int p3), (5, .int x17_5), (6, .int x17_6)]) hx hb dX1_manyInColumn_53 hl (by decide) rfl (fun ls hl => ?_)
            refine lv_iinc (v := (x17_6 + 1)) (lv' := [(6, .int (x17_6 + 1)), (4, .int (x17_4 + (0 : Int32))), (7, .int x1002), (0, .ref a_this), (1, .int p1), (2, .int p2), (3, .int p3), (5, .int x17_5)]) hx hb dX1_manyInColumn_55 hl (k := 7) rfl rfl (by decide) rfl (fun ls hl => ?_)
            refine lv_goto (tgt := 17) hx hb dX1_manyInColumn_58 (by decide) ?_
            have hP := hP.sub (ws' := [(a_this_kinds, .inl (k 2, 256, aI v_this_kinds)), (a_this, .inr (0, [.ref a_this_values, .ref a_this_kinds, .int v_this_table, .double v_this_guard, .double v_this_ratio, .int v_this_bridging, .int v_this_length, .int v_this_guessColumn, .double v_this_guessError, .double v_this_guessValue]))]) [1, 0] rfl
            have hD := hD.sub (ws' := [(a_this_kinds, .inl (k 2, 256, aI v_this_kinds)), (a_this, .inr (0, [.ref a_this_values, .ref a_this_kinds, .int v_this_table, .double v_this_guard, .double v_this_ratio, .int v_this_bridging, .int v_this_length, .int v_this_guessColumn, .double v_this_guessError, .double v_this_guessValue]))]) [1, 0] (by decide) rfl
            exact ih17 (x17_4 + (0 : Int32)) x17_5 (x17_6 + 1) H locs ls hP hD hS (lv_sub hl [3, 4, 5, 6, 1, 7, 0] rfl) hx2
          · skip
            have hx2 := if_f c1004 hx2
            refine lv_iconst (v := 1) hx hb dX1_manyInColumn_47 (by decide) ?_
            refine lv_goto (tgt := 52) hx hb dX1_manyInColumn_48 (by decide) ?_
            refine lv_iadd hx hb dX1_manyInColumn_52 ?_
            refine lv_istore (lv' := [(4, .int (x17_4 + (1 : Int32))), (7, .int x1002), (0, .ref a_this), (1, .int p1), (2, .int p2), (3, .int p3), (5, .int x17_5), (6, .int x17_6)]) hx hb dX1_manyInColumn_53 hl (by decide) rfl (fun ls hl => ?_)
            refine lv_iinc (v := (x17_6 + 1)) (lv' := [(6, .int (x17_6 + 1)), (4, .int (x17_4 + (1 : Int32))), (7, .int x1002), (0, .ref a_this), (1, .int p1), (2, .int p2), (3, .int p3), (5, .int x17_5)]) hx hb dX1_manyInColumn_55 hl (k := 7) rfl rfl (by decide) rfl (fun ls hl => ?_)
            refine lv_goto (tgt := 17) hx hb dX1_manyInColumn_58 (by decide) ?_
            have hP := hP.sub (ws' := [(a_this_kinds, .inl (k 2, 256, aI v_this_kinds)), (a_this, .inr (0, [.ref a_this_values, .ref a_this_kinds, .int v_this_table, .double v_this_guard, .double v_this_ratio, .int v_this_bridging, .int v_this_length, .int v_this_guessColumn, .double v_this_guessError, .double v_this_guessValue]))]) [1, 0] rfl
            have hD := hD.sub (ws' := [(a_this_kinds, .inl (k 2, 256, aI v_this_kinds)), (a_this, .inr (0, [.ref a_this_values, .ref a_this_kinds, .int v_this_table, .double v_this_guard, .double v_this_ratio, .int v_this_bridging, .int v_this_length, .int v_this_guessColumn, .double v_this_guessError, .double v_this_guessValue]))]) [1, 0] (by decide) rfl
            exact ih17 (x17_4 + (1 : Int32)) x17_5 (x17_6 + 1) H locs ls hP hD hS (lv_sub hl [3, 4, 5, 6, 1, 7, 0] rfl) hx2
  exact L17 300 (0 : Int32) x1 (0 : Int32)  H locs ls hP hD hS (lv_sub hl [3, 4, 5, 6, 2, 1, 0] rfl) hx2
def p_X1_manyOfKinds_L5 (v_this_kinds : Nat → Int32) (v_this_table : Int32) (v_this_length : Int32) (p1 : Int32) (p2 : Int32) : Nat → Int32 → Int32 → Option (Int32)
  | 0, _, _ => none
  | n5 + 1, x5_3, x5_4 => (if (16 : Int32) ≤ x5_4 then some x5_3 else (p_X1_manyInColumn v_this_kinds v_this_table v_this_length x5_4 p1 p2).bind fun x1002 => p_X1_manyOfKinds_L5 v_this_kinds v_this_table v_this_length p1 p2 n5 (x5_3 + x1002) (x5_4 + 1))

def p_X1_manyOfKinds (v_this_kinds : Nat → Int32) (v_this_table : Int32) (v_this_length : Int32) (p1 : Int32) (p2 : Int32) : Option (Int32) := (p_X1_manyOfKinds_L5 v_this_kinds v_this_table v_this_length p1 p2 300 (0 : Int32) (0 : Int32) ).bind fun x1 => some x1
abbrev rm_X1_manyOfKinds : Room := { frames := 2, cells := 0, slots := 0, locals := 50 }
set_option maxHeartbeats 4000000 in
set_option maxRecDepth 100000 in
theorem mt_X1_manyOfKinds (l : Launch) (D : va_G) (k : Nat → ClassId) (a_this a_this_values a_this_kinds : Nat) (sz : Nat) (v_this_kinds : Nat → Int32) (v_this_table : Int32) (v_this_guard : UInt64) (v_this_ratio : UInt64) (v_this_bridging : Int32) (v_this_length : Int32) (v_this_guessColumn : Int32) (v_this_guessError : UInt64) (v_this_guessValue : UInt64) (p1 : Int32) (p2 : Int32) (o : Int32) (hf : p_X1_manyOfKinds v_this_kinds v_this_table v_this_length p1 p2 = some o)  : Met l yX1_manyOfKinds wsX1_manyOfKinds rm_X1_manyOfKinds (va_Pc [.ref a_this, .int p1, .int p2] (bW D k sz [(a_this, .inr (0, [.ref a_this_values, .ref a_this_kinds, .int v_this_table, .double v_this_guard, .double v_this_ratio, .int v_this_bridging, .int v_this_length, .int v_this_guessColumn, .double v_this_guessError, .double v_this_guessValue])), (a_this_kinds, .inl (k 2, 256, aI v_this_kinds))])) (va_Qi (fun (r : Int32) (_ : Unit) => r = o) (fun _ => bO D k (va_A [(a_this, .inr (0, [.ref a_this_values, .ref a_this_kinds, .int v_this_table, .double v_this_guard, .double v_this_ratio, .int v_this_bridging, .int v_this_length, .int v_this_guessColumn, .double v_this_guessError, .double v_this_guessValue])), (a_this_kinds, .inl (k 2, 256, aI v_this_kinds))] sz) [(a_this, .inr (0, [.ref a_this_values, .ref a_this_kinds, .int v_this_table, .double v_this_guard, .double v_this_ratio, .int v_this_bridging, .int v_this_length, .int v_this_guessColumn, .double v_this_guessError, .double v_this_guessValue])), (a_this_kinds, .inl (k 2, 256, aI v_this_kinds))]) (va_A [(a_this, .inr (0, [.ref a_this_values, .ref a_this_kinds, .int v_this_table, .double v_this_guard, .double v_this_ratio, .int v_this_bridging, .int v_this_length, .int v_this_guessColumn, .double v_this_guessError, .double v_this_guessValue])), (a_this_kinds, .inl (k 2, 256, aI v_this_kinds))] sz)) 0 0 (va_A [(a_this, .inr (0, [.ref a_this_values, .ref a_this_kinds, .int v_this_table, .double v_this_guard, .double v_this_ratio, .int v_this_bridging, .int v_this_length, .int v_this_guessColumn, .double v_this_guessError, .double v_this_guessValue])), (a_this_kinds, .inl (k 2, 256, aI v_this_kinds))] sz) := by
  unfold p_X1_manyOfKinds at hf
  refine Met.ofW (cc := cX1_manyOfKinds) (maxL := 5) (ret := (some .int)) (by decide) rfl ?_
  intro p e s m args below meth c s₁ B hml hv
  obtain ⟨rfl, hsz, hP, hK, hD0⟩ := hv
  have hx := B.exec
  have hb := B.bytes
  have hr := B.returns
  have hts := atoms_spec (ws := wsX1_manyOfKinds) B.pre
  have hown : s.vm.findClass RX1 = some m.cls := findClass_of_methodNamed B.named
  have hlocks := B.notSynchronized
  subst hsz
  have hD := hD0.self (sz := s.heap.size)
  generalize hAe : va_A [(a_this, .inr (0, [.ref a_this_values, .ref a_this_kinds, .int v_this_table, .double v_this_guard, .double v_this_ratio, .int v_this_bridging, .int v_this_length, .int v_this_guessColumn, .double v_this_guessError, .double v_this_guessValue])), (a_this_kinds, .inl (k 2, 256, aI v_this_kinds))] s.heap.size = A at hD ⊢
  have hA : ∀ q : Nat, s.heap.size ≤ q → A q := fun q h => by rw [← hAe]; exact Or.inr h
  have hS : va_S A s.heap s.heap [] := va_S.rf
  obtain ⟨Q, hQ⟩ : ∃ Q, Q = MQ below (va_Qi (fun (r : Int32) (_ : Unit) => r = o) (fun _ => bO D k (A) [(a_this, .inr (0, [.ref a_this_values, .ref a_this_kinds, .int v_this_table, .double v_this_guard, .double v_this_ratio, .int v_this_bridging, .int v_this_length, .int v_this_guessColumn, .double v_this_guessError, .double v_this_guessValue])), (a_this_kinds, .inl (k 2, 256, aI v_this_kinds))]) (A)) ([.ref a_this, .int p1, .int p2] : List Value).toArray s 0 0 A := ⟨_, rfl⟩
  rw [← hQ]
  have hl := lv_entry [.ref a_this, .int p1, .int p2] (n := 5) (Nat.le_of_ble_eq_true rfl)
  rw [lg_entry_eq]
  generalize (lg_sl [.ref a_this, .int p1, .int p2] ++ List.replicate (5 - (lg_sl [.ref a_this, .int p1, .int p2]).length) Slot.unset).toArray = ls at hl ⊢
  have hl : lv_has ls 5 [(0, .ref a_this), (1, .int p1), (2, .int p2)] := hl
  obtain ⟨H, hHe⟩ : ∃ H, H = s.heap := ⟨_, rfl⟩
  have hP : va_P D vwCl [(a_this, .inr (0, [.ref a_this_values, .ref a_this_kinds, .int v_this_table, .double v_this_guard, .double v_this_ratio, .int v_this_bridging, .int v_this_length, .int v_this_guessColumn, .double v_this_guessError, .double v_this_guessValue])), (a_this_kinds, .inl (k 2, 256, aI v_this_kinds))] H := by rw [hHe]; exact hP
  have hS : va_S A s.heap H [] := by rw [hHe]; exact hS
  rw [← hHe]
  obtain ⟨locs, hLe⟩ : ∃ locs : List Loc, locs = [] := ⟨_, rfl⟩
  rw [← hLe] at hS ⊢
  clear hLe
  refine lv_iconst (v := 0) hx hb dX1_manyOfKinds_0 (by decide) ?_
  refine lv_istore_n (lv' := [(3, .int (0 : Int32)), (0, .ref a_this), (1, .int p1), (2, .int p2)]) hx hb dX1_manyOfKinds_1 rfl hl (by decide) rfl (fun ls hl => ?_)
  refine lv_iconst (v := 0) hx hb dX1_manyOfKinds_2 (by decide) ?_
  refine lv_istore (lv' := [(4, .int (0 : Int32)), (3, .int (0 : Int32)), (0, .ref a_this), (1, .int p1), (2, .int p2)]) hx hb dX1_manyOfKinds_3 hl (by decide) rfl (fun ls hl => ?_)
  obtain ⟨x1, hx1, hf⟩ := bind_s hf
  have X29 : ∀ (H : Heap) (locs : List Loc) (ls : Array Slot), va_P D vwCl [(a_this, .inr (0, [.ref a_this_values, .ref a_this_kinds, .int v_this_table, .double v_this_guard, .double v_this_ratio, .int v_this_bridging, .int v_this_length, .int v_this_guessColumn, .double v_this_guessError, .double v_this_guessValue])), (a_this_kinds, .inl (k 2, 256, aI v_this_kinds))] H → va_D A [(a_this, .inr (0, [.ref a_this_values, .ref a_this_kinds, .int v_this_table, .double v_this_guard, .double v_this_ratio, .int v_this_bridging, .int v_this_length, .int v_this_guessColumn, .double v_this_guessError, .double v_this_guessValue])), (a_this_kinds, .inl (k 2, 256, aI v_this_kinds))] → va_S A s.heap H locs → lv_has ls 5 [(3, .int x1)] → W p l e (headSpec wsX1_manyOfKinds rm_X1_manyOfKinds).room s m ([.ref a_this, .int p1, .int p2] : List Value).toArray below meth c H locs 0 0 Q (F0 m 29 ls []) := by
    intro H locs ls hP hD hS hl
    refine lv_iload_n hx hb dX1_manyOfKinds_29 rfl (lv_at hl 0 rfl) ?_
    have ho := Option.some.inj hf
    subst ho
    rw [hQ]
    exact W.iret (v := x1) hx hb hr (fun t ht hW => ⟨⟨x1, (), rfl, rfl, by rw [ht]; exact hP.sub (ws' := [(a_this, .inr (0, [.ref a_this_values, .ref a_this_kinds, .int v_this_table, .double v_this_guard, .double v_this_ratio, .int v_this_bridging, .int v_this_length, .int v_this_guessColumn, .double v_this_guessError, .double v_this_guessValue])), (a_this_kinds, .inl (k 2, 256, aI v_this_kinds))]) [0, 1] rfl, va_K.moved hW.alike hK, hD.sub (ws' := [(a_this, .inr (0, [.ref a_this_values, .ref a_this_kinds, .int v_this_table, .double v_this_guard, .double v_this_ratio, .int v_this_bridging, .int v_this_length, .int v_this_guessColumn, .double v_this_guessError, .double v_this_guessValue])), (a_this_kinds, .inl (k 2, 256, aI v_this_kinds))]) [0, 1] (by decide) rfl⟩, hS.F ht⟩) hS.2.2 dX1_manyOfKinds_30
  have L5 : ∀ (n5 : Nat) (x5_3 : Int32) (x5_4 : Int32)  (H : Heap) (locs : List Loc) (ls : Array Slot), va_P D vwCl [(a_this, .inr (0, [.ref a_this_values, .ref a_this_kinds, .int v_this_table, .double v_this_guard, .double v_this_ratio, .int v_this_bridging, .int v_this_length, .int v_this_guessColumn, .double v_this_guessError, .double v_this_guessValue])), (a_this_kinds, .inl (k 2, 256, aI v_this_kinds))] H → va_D A [(a_this, .inr (0, [.ref a_this_values, .ref a_this_kinds, .int v_this_table, .double v_this_guard, .double v_this_ratio, .int v_this_bridging, .int v_this_length, .int v_this_guessColumn, .double v_this_guessError, .double v_this_guessValue])), (a_this_kinds, .inl (k 2, 256, aI v_this_kinds))] → va_S A s.heap H locs → lv_has ls 5 [(0, .ref a_this), (1, .int p1), (2, .int p2), (3, .int x5_3), (4, .int x5_4)] → p_X1_manyOfKinds_L5 v_this_kinds v_this_table v_this_length p1 p2 n5 x5_3 x5_4 = some x1 → W p l e (headSpec wsX1_manyOfKinds rm_X1_manyOfKinds).room s m ([.ref a_this, .int p1, .int p2] : List Value).toArray below meth c H locs 0 0 Q (F0 m 5 ls []) := by
    intro n5
    induction n5 with
    | zero =>
      intro x5_3 x5_4 H locs ls hP hD hS hl hx1
      exact absurd hx1 (by simp [p_X1_manyOfKinds_L5])
    | succ n5 ih5 =>
      intro x5_3 x5_4 H locs ls hP hD hS hl hx1
      rw [p_X1_manyOfKinds_L5] at hx1
      refine lv_iload hx hb dX1_manyOfKinds_5 (lv_at hl 4 rfl) ?_
      refine lv_bipush (v := 16) hx hb dX1_manyOfKinds_7 (by decide) ?_
      refine lv_icmp_ge (tgt := 29) hx hb dX1_manyOfKinds_9 (by decide) (fun c1001 => ?_) (fun c1001 => ?_)
      · skip
        have hx1 := if_t c1001 hx1
        have ho := Option.some.inj hx1
        subst ho
        exact X29 H locs ls hP hD hS (lv_sub hl [3] rfl)
      · skip
        have hx1 := if_f c1001 hx1
        refine lv_iload_n hx hb dX1_manyOfKinds_12 rfl (lv_at hl 3 rfl) ?_
        refine lv_aload_n hx hb dX1_manyOfKinds_13 rfl (lv_at hl 0 rfl) ?_
        refine lv_iload hx hb dX1_manyOfKinds_14 (lv_at hl 4 rfl) ?_
        refine lv_iload_n hx hb dX1_manyOfKinds_16 rfl (lv_at hl 1 rfl) ?_
        refine lv_iload_n hx hb dX1_manyOfKinds_17 rfl (lv_at hl 2 rfl) ?_
        obtain ⟨x1002, hx1002, hx1⟩ := bind_s hx1
        refine cc_i (r := x1002) (wc := [(a_this, .inr (0, [.ref a_this_values, .ref a_this_kinds, .int v_this_table, .double v_this_guard, .double v_this_ratio, .int v_this_bridging, .int v_this_length, .int v_this_guessColumn, .double v_this_guessError, .double v_this_guessValue])), (a_this_kinds, .inl (k 2, 256, aI v_this_kinds))]) (wr := []) (w1 := [(a_this, .inr (0, [.ref a_this_values, .ref a_this_kinds, .int v_this_table, .double v_this_guard, .double v_this_ratio, .int v_this_bridging, .int v_this_length, .int v_this_guessColumn, .double v_this_guessError, .double v_this_guessValue])), (a_this_kinds, .inl (k 2, 256, aI v_this_kinds))]) (va_runV (As := [.int x5_4, .int p1, .int p2]) (rest := [.int x5_3]) ⟨hx, hb, hml, hown, hts⟩ (mt_X1_manyInColumn l D k a_this a_this_values a_this_kinds _ v_this_kinds v_this_table v_this_guard v_this_ratio v_this_bridging v_this_length v_this_guessColumn v_this_guessError v_this_guessValue x5_4 p1 p2 x1002 hx1002) (cwV 3 hts gX1_manyOfKinds_X1_manyInColumn rfl rfl rfl (by decide +kernel) ⟨(Nat.le_of_ble_eq_true rfl), (Nat.le_of_ble_eq_true rfl)⟩) (cc_pv (wc := [(a_this, .inr (0, [.ref a_this_values, .ref a_this_kinds, .int v_this_table, .double v_this_guard, .double v_this_ratio, .int v_this_bridging, .int v_this_length, .int v_this_guessColumn, .double v_this_guessError, .double v_this_guessValue])), (a_this_kinds, .inl (k 2, 256, aI v_this_kinds))]) hK hP hD [0, 1] (by decide) rfl rfl 0 0 rfl rfl rfl) rfl rfl hl.1 rfl (lv_room (Nat.le_of_ble_eq_true rfl)) dX1_manyOfKinds_18 ⟨Nat.zero_le _, Nat.zero_le _⟩) hP hD hS hA [0, 1] [] rfl rfl (by decide) (by decide) (fun H locs hP hD hS => ?_)
        have hP : va_P D vwCl [(a_this, .inr (0, [.ref a_this_values, .ref a_this_kinds, .int v_this_table, .double v_this_guard, .double v_this_ratio, .int v_this_bridging, .int v_this_length, .int v_this_guessColumn, .double v_this_guessError, .double v_this_guessValue])), (a_this_kinds, .inl (k 2, 256, aI v_this_kinds))] H := hP
        have hD : va_D A [(a_this, .inr (0, [.ref a_this_values, .ref a_this_kinds, .int v_this_table, .double v_this_guard, .double v_this_ratio, .int v_this_bridging, .int v_this_length, .int v_this_guessColumn, .double v_this_guessError, .double v_this_guessValue])), (a_this_kinds, .inl (k 2, 256, aI v_this_kinds))] := hD
        refine lv_iadd hx hb dX1_manyOfKinds_21 ?_
        refine lv_istore_n (lv' := [(3, .int (x5_3 + x1002)), (0, .ref a_this), (1, .int p1), (2, .int p2), (4, .int x5_4)]) hx hb dX1_manyOfKinds_22 rfl hl (by decide) rfl (fun ls hl => ?_)
        refine lv_iinc (v := (x5_4 + 1)) (lv' := [(4, .int (x5_4 + 1)), (3, .int (x5_3 + x1002)), (0, .ref a_this), (1, .int p1), (2, .int p2)]) hx hb dX1_manyOfKinds_23 hl (k := 4) rfl rfl (by decide) rfl (fun ls hl => ?_)
        refine lv_goto (tgt := 5) hx hb dX1_manyOfKinds_26 (by decide) ?_
        exact ih5 (x5_3 + x1002) (x5_4 + 1) H locs ls hP hD hS (lv_sub hl [2, 3, 4, 1, 0] rfl) hx1
  exact L5 300 (0 : Int32) (0 : Int32)  H locs ls hP hD hS (lv_sub hl [2, 3, 4, 1, 0] rfl) hx1
def p_X1_manyBroken (v_this_kinds : Nat → Int32) (v_this_table : Int32) (v_this_length : Int32)  : Option (Int32) := (p_X1_manyOfKinds v_this_kinds v_this_table v_this_length (2 : Int32) (3 : Int32)).bind fun x1 => some x1
abbrev rm_X1_manyBroken : Room := { frames := 3, cells := 0, slots := 0, locals := 74 }
set_option maxHeartbeats 4000000 in
set_option maxRecDepth 100000 in
theorem mt_X1_manyBroken (l : Launch) (D : va_G) (k : Nat → ClassId) (a_this a_this_values a_this_kinds : Nat) (sz : Nat) (v_this_kinds : Nat → Int32) (v_this_table : Int32) (v_this_guard : UInt64) (v_this_ratio : UInt64) (v_this_bridging : Int32) (v_this_length : Int32) (v_this_guessColumn : Int32) (v_this_guessError : UInt64) (v_this_guessValue : UInt64)  (o : Int32) (hf : p_X1_manyBroken v_this_kinds v_this_table v_this_length = some o)  : Met l yX1_manyBroken wsX1_manyBroken rm_X1_manyBroken (va_Pc [.ref a_this] (bW D k sz [(a_this, .inr (0, [.ref a_this_values, .ref a_this_kinds, .int v_this_table, .double v_this_guard, .double v_this_ratio, .int v_this_bridging, .int v_this_length, .int v_this_guessColumn, .double v_this_guessError, .double v_this_guessValue])), (a_this_kinds, .inl (k 2, 256, aI v_this_kinds))])) (va_Qi (fun (r : Int32) (_ : Unit) => r = o) (fun _ => bO D k (va_A [(a_this, .inr (0, [.ref a_this_values, .ref a_this_kinds, .int v_this_table, .double v_this_guard, .double v_this_ratio, .int v_this_bridging, .int v_this_length, .int v_this_guessColumn, .double v_this_guessError, .double v_this_guessValue])), (a_this_kinds, .inl (k 2, 256, aI v_this_kinds))] sz) [(a_this, .inr (0, [.ref a_this_values, .ref a_this_kinds, .int v_this_table, .double v_this_guard, .double v_this_ratio, .int v_this_bridging, .int v_this_length, .int v_this_guessColumn, .double v_this_guessError, .double v_this_guessValue])), (a_this_kinds, .inl (k 2, 256, aI v_this_kinds))]) (va_A [(a_this, .inr (0, [.ref a_this_values, .ref a_this_kinds, .int v_this_table, .double v_this_guard, .double v_this_ratio, .int v_this_bridging, .int v_this_length, .int v_this_guessColumn, .double v_this_guessError, .double v_this_guessValue])), (a_this_kinds, .inl (k 2, 256, aI v_this_kinds))] sz)) 0 0 (va_A [(a_this, .inr (0, [.ref a_this_values, .ref a_this_kinds, .int v_this_table, .double v_this_guard, .double v_this_ratio, .int v_this_bridging, .int v_this_length, .int v_this_guessColumn, .double v_this_guessError, .double v_this_guessValue])), (a_this_kinds, .inl (k 2, 256, aI v_this_kinds))] sz) := by
  unfold p_X1_manyBroken at hf
  refine Met.ofW (cc := cX1_manyBroken) (maxL := 1) (ret := (some .int)) (by decide) rfl ?_
  intro p e s m args below meth c s₁ B hml hv
  obtain ⟨rfl, hsz, hP, hK, hD0⟩ := hv
  have hx := B.exec
  have hb := B.bytes
  have hr := B.returns
  have hts := atoms_spec (ws := wsX1_manyBroken) B.pre
  have hown : s.vm.findClass RX1 = some m.cls := findClass_of_methodNamed B.named
  have hlocks := B.notSynchronized
  subst hsz
  have hD := hD0.self (sz := s.heap.size)
  generalize hAe : va_A [(a_this, .inr (0, [.ref a_this_values, .ref a_this_kinds, .int v_this_table, .double v_this_guard, .double v_this_ratio, .int v_this_bridging, .int v_this_length, .int v_this_guessColumn, .double v_this_guessError, .double v_this_guessValue])), (a_this_kinds, .inl (k 2, 256, aI v_this_kinds))] s.heap.size = A at hD ⊢
  have hA : ∀ q : Nat, s.heap.size ≤ q → A q := fun q h => by rw [← hAe]; exact Or.inr h
  have hS : va_S A s.heap s.heap [] := va_S.rf
  have hl := lv_entry [.ref a_this] (n := 1) (Nat.le_of_ble_eq_true rfl)
  rw [lg_entry_eq]
  generalize (lg_sl [.ref a_this] ++ List.replicate (1 - (lg_sl [.ref a_this]).length) Slot.unset).toArray = ls at hl ⊢
  have hl : lv_has ls 1 [(0, .ref a_this)] := hl
  obtain ⟨H, hHe⟩ : ∃ H, H = s.heap := ⟨_, rfl⟩
  have hP : va_P D vwCl [(a_this, .inr (0, [.ref a_this_values, .ref a_this_kinds, .int v_this_table, .double v_this_guard, .double v_this_ratio, .int v_this_bridging, .int v_this_length, .int v_this_guessColumn, .double v_this_guessError, .double v_this_guessValue])), (a_this_kinds, .inl (k 2, 256, aI v_this_kinds))] H := by rw [hHe]; exact hP
  have hS : va_S A s.heap H [] := by rw [hHe]; exact hS
  rw [← hHe]
  obtain ⟨locs, hLe⟩ : ∃ locs : List Loc, locs = [] := ⟨_, rfl⟩
  rw [← hLe] at hS ⊢
  clear hLe
  refine lv_aload_n hx hb dX1_manyBroken_0 rfl (lv_at hl 0 rfl) ?_
  refine lv_iconst (v := 2) hx hb dX1_manyBroken_1 (by decide) ?_
  refine lv_iconst (v := 3) hx hb dX1_manyBroken_2 (by decide) ?_
  obtain ⟨x1, hx1, hf⟩ := bind_s hf
  refine cc_i (r := x1) (wc := [(a_this, .inr (0, [.ref a_this_values, .ref a_this_kinds, .int v_this_table, .double v_this_guard, .double v_this_ratio, .int v_this_bridging, .int v_this_length, .int v_this_guessColumn, .double v_this_guessError, .double v_this_guessValue])), (a_this_kinds, .inl (k 2, 256, aI v_this_kinds))]) (wr := []) (w1 := [(a_this, .inr (0, [.ref a_this_values, .ref a_this_kinds, .int v_this_table, .double v_this_guard, .double v_this_ratio, .int v_this_bridging, .int v_this_length, .int v_this_guessColumn, .double v_this_guessError, .double v_this_guessValue])), (a_this_kinds, .inl (k 2, 256, aI v_this_kinds))]) (va_runV (As := [.int (2 : Int32), .int (3 : Int32)]) (rest := []) ⟨hx, hb, hml, hown, hts⟩ (mt_X1_manyOfKinds l D k a_this a_this_values a_this_kinds _ v_this_kinds v_this_table v_this_guard v_this_ratio v_this_bridging v_this_length v_this_guessColumn v_this_guessError v_this_guessValue (2 : Int32) (3 : Int32) x1 hx1) (cwV 2 hts gX1_manyBroken_X1_manyOfKinds rfl rfl rfl (by decide +kernel) ⟨(Nat.le_of_ble_eq_true rfl), (Nat.le_of_ble_eq_true rfl)⟩) (cc_pv (wc := [(a_this, .inr (0, [.ref a_this_values, .ref a_this_kinds, .int v_this_table, .double v_this_guard, .double v_this_ratio, .int v_this_bridging, .int v_this_length, .int v_this_guessColumn, .double v_this_guessError, .double v_this_guessValue])), (a_this_kinds, .inl (k 2, 256, aI v_this_kinds))]) hK hP hD [0, 1] (by decide) rfl rfl 0 0 rfl rfl rfl) rfl rfl hl.1 rfl (lv_room (Nat.le_of_ble_eq_true rfl)) dX1_manyBroken_3 ⟨Nat.zero_le _, Nat.zero_le _⟩) hP hD hS hA [0, 1] [] rfl rfl (by decide) (by decide) (fun H locs hP hD hS => ?_)
  have hP : va_P D vwCl [(a_this, .inr (0, [.ref a_this_values, .ref a_this_kinds, .int v_this_table, .double v_this_guard, .double v_this_ratio, .int v_this_bridging, .int v_this_length, .int v_this_guessColumn, .double v_this_guessError, .double v_this_guessValue])), (a_this_kinds, .inl (k 2, 256, aI v_this_kinds))] H := hP
  have hD : va_D A [(a_this, .inr (0, [.ref a_this_values, .ref a_this_kinds, .int v_this_table, .double v_this_guard, .double v_this_ratio, .int v_this_bridging, .int v_this_length, .int v_this_guessColumn, .double v_this_guessError, .double v_this_guessValue])), (a_this_kinds, .inl (k 2, 256, aI v_this_kinds))] := hD
  have ho := Option.some.inj hf
  subst ho
  exact W.iret (v := x1) hx hb hr (fun t ht hW => ⟨⟨x1, (), rfl, rfl, by rw [ht]; exact hP.sub (ws' := [(a_this, .inr (0, [.ref a_this_values, .ref a_this_kinds, .int v_this_table, .double v_this_guard, .double v_this_ratio, .int v_this_bridging, .int v_this_length, .int v_this_guessColumn, .double v_this_guessError, .double v_this_guessValue])), (a_this_kinds, .inl (k 2, 256, aI v_this_kinds))]) [0, 1] rfl, va_K.moved hW.alike hK, hD.sub (ws' := [(a_this, .inr (0, [.ref a_this_values, .ref a_this_kinds, .int v_this_table, .double v_this_guard, .double v_this_ratio, .int v_this_bridging, .int v_this_length, .int v_this_guessColumn, .double v_this_guessError, .double v_this_guessValue])), (a_this_kinds, .inl (k 2, 256, aI v_this_kinds))]) [0, 1] (by decide) rfl⟩, hS.F ht⟩) hS.2.2 dX1_manyBroken_6
def p_X1_manyBridged (v_this_kinds : Nat → Int32) (v_this_table : Int32) (v_this_length : Int32)  : Option (Int32) := (p_X1_manyOfKinds v_this_kinds v_this_table v_this_length (1 : Int32) (1 : Int32)).bind fun x1 => some x1
abbrev rm_X1_manyBridged : Room := { frames := 3, cells := 0, slots := 0, locals := 74 }
set_option maxHeartbeats 4000000 in
set_option maxRecDepth 100000 in
theorem mt_X1_manyBridged (l : Launch) (D : va_G) (k : Nat → ClassId) (a_this a_this_values a_this_kinds : Nat) (sz : Nat) (v_this_kinds : Nat → Int32) (v_this_table : Int32) (v_this_guard : UInt64) (v_this_ratio : UInt64) (v_this_bridging : Int32) (v_this_length : Int32) (v_this_guessColumn : Int32) (v_this_guessError : UInt64) (v_this_guessValue : UInt64)  (o : Int32) (hf : p_X1_manyBridged v_this_kinds v_this_table v_this_length = some o)  : Met l yX1_manyBridged wsX1_manyBridged rm_X1_manyBridged (va_Pc [.ref a_this] (bW D k sz [(a_this, .inr (0, [.ref a_this_values, .ref a_this_kinds, .int v_this_table, .double v_this_guard, .double v_this_ratio, .int v_this_bridging, .int v_this_length, .int v_this_guessColumn, .double v_this_guessError, .double v_this_guessValue])), (a_this_kinds, .inl (k 2, 256, aI v_this_kinds))])) (va_Qi (fun (r : Int32) (_ : Unit) => r = o) (fun _ => bO D k (va_A [(a_this, .inr (0, [.ref a_this_values, .ref a_this_kinds, .int v_this_table, .double v_this_guard, .double v_this_ratio, .int v_this_bridging, .int v_this_length, .int v_this_guessColumn, .double v_this_guessError, .double v_this_guessValue])), (a_this_kinds, .inl (k 2, 256, aI v_this_kinds))] sz) [(a_this, .inr (0, [.ref a_this_values, .ref a_this_kinds, .int v_this_table, .double v_this_guard, .double v_this_ratio, .int v_this_bridging, .int v_this_length, .int v_this_guessColumn, .double v_this_guessError, .double v_this_guessValue])), (a_this_kinds, .inl (k 2, 256, aI v_this_kinds))]) (va_A [(a_this, .inr (0, [.ref a_this_values, .ref a_this_kinds, .int v_this_table, .double v_this_guard, .double v_this_ratio, .int v_this_bridging, .int v_this_length, .int v_this_guessColumn, .double v_this_guessError, .double v_this_guessValue])), (a_this_kinds, .inl (k 2, 256, aI v_this_kinds))] sz)) 0 0 (va_A [(a_this, .inr (0, [.ref a_this_values, .ref a_this_kinds, .int v_this_table, .double v_this_guard, .double v_this_ratio, .int v_this_bridging, .int v_this_length, .int v_this_guessColumn, .double v_this_guessError, .double v_this_guessValue])), (a_this_kinds, .inl (k 2, 256, aI v_this_kinds))] sz) := by
  unfold p_X1_manyBridged at hf
  refine Met.ofW (cc := cX1_manyBridged) (maxL := 1) (ret := (some .int)) (by decide) rfl ?_
  intro p e s m args below meth c s₁ B hml hv
  obtain ⟨rfl, hsz, hP, hK, hD0⟩ := hv
  have hx := B.exec
  have hb := B.bytes
  have hr := B.returns
  have hts := atoms_spec (ws := wsX1_manyBridged) B.pre
  have hown : s.vm.findClass RX1 = some m.cls := findClass_of_methodNamed B.named
  have hlocks := B.notSynchronized
  subst hsz
  have hD := hD0.self (sz := s.heap.size)
  generalize hAe : va_A [(a_this, .inr (0, [.ref a_this_values, .ref a_this_kinds, .int v_this_table, .double v_this_guard, .double v_this_ratio, .int v_this_bridging, .int v_this_length, .int v_this_guessColumn, .double v_this_guessError, .double v_this_guessValue])), (a_this_kinds, .inl (k 2, 256, aI v_this_kinds))] s.heap.size = A at hD ⊢
  have hA : ∀ q : Nat, s.heap.size ≤ q → A q := fun q h => by rw [← hAe]; exact Or.inr h
  have hS : va_S A s.heap s.heap [] := va_S.rf
  have hl := lv_entry [.ref a_this] (n := 1) (Nat.le_of_ble_eq_true rfl)
  rw [lg_entry_eq]
  generalize (lg_sl [.ref a_this] ++ List.replicate (1 - (lg_sl [.ref a_this]).length) Slot.unset).toArray = ls at hl ⊢
  have hl : lv_has ls 1 [(0, .ref a_this)] := hl
  obtain ⟨H, hHe⟩ : ∃ H, H = s.heap := ⟨_, rfl⟩
  have hP : va_P D vwCl [(a_this, .inr (0, [.ref a_this_values, .ref a_this_kinds, .int v_this_table, .double v_this_guard, .double v_this_ratio, .int v_this_bridging, .int v_this_length, .int v_this_guessColumn, .double v_this_guessError, .double v_this_guessValue])), (a_this_kinds, .inl (k 2, 256, aI v_this_kinds))] H := by rw [hHe]; exact hP
  have hS : va_S A s.heap H [] := by rw [hHe]; exact hS
  rw [← hHe]
  obtain ⟨locs, hLe⟩ : ∃ locs : List Loc, locs = [] := ⟨_, rfl⟩
  rw [← hLe] at hS ⊢
  clear hLe
  refine lv_aload_n hx hb dX1_manyBridged_0 rfl (lv_at hl 0 rfl) ?_
  refine lv_iconst (v := 1) hx hb dX1_manyBridged_1 (by decide) ?_
  refine lv_iconst (v := 1) hx hb dX1_manyBridged_2 (by decide) ?_
  obtain ⟨x1, hx1, hf⟩ := bind_s hf
  refine cc_i (r := x1) (wc := [(a_this, .inr (0, [.ref a_this_values, .ref a_this_kinds, .int v_this_table, .double v_this_guard, .double v_this_ratio, .int v_this_bridging, .int v_this_length, .int v_this_guessColumn, .double v_this_guessError, .double v_this_guessValue])), (a_this_kinds, .inl (k 2, 256, aI v_this_kinds))]) (wr := []) (w1 := [(a_this, .inr (0, [.ref a_this_values, .ref a_this_kinds, .int v_this_table, .double v_this_guard, .double v_this_ratio, .int v_this_bridging, .int v_this_length, .int v_this_guessColumn, .double v_this_guessError, .double v_this_guessValue])), (a_this_kinds, .inl (k 2, 256, aI v_this_kinds))]) (va_runV (As := [.int (1 : Int32), .int (1 : Int32)]) (rest := []) ⟨hx, hb, hml, hown, hts⟩ (mt_X1_manyOfKinds l D k a_this a_this_values a_this_kinds _ v_this_kinds v_this_table v_this_guard v_this_ratio v_this_bridging v_this_length v_this_guessColumn v_this_guessError v_this_guessValue (1 : Int32) (1 : Int32) x1 hx1) (cwV 2 hts gX1_manyBridged_X1_manyOfKinds rfl rfl rfl (by decide +kernel) ⟨(Nat.le_of_ble_eq_true rfl), (Nat.le_of_ble_eq_true rfl)⟩) (cc_pv (wc := [(a_this, .inr (0, [.ref a_this_values, .ref a_this_kinds, .int v_this_table, .double v_this_guard, .double v_this_ratio, .int v_this_bridging, .int v_this_length, .int v_this_guessColumn, .double v_this_guessError, .double v_this_guessValue])), (a_this_kinds, .inl (k 2, 256, aI v_this_kinds))]) hK hP hD [0, 1] (by decide) rfl rfl 0 0 rfl rfl rfl) rfl rfl hl.1 rfl (lv_room (Nat.le_of_ble_eq_true rfl)) dX1_manyBridged_3 ⟨Nat.zero_le _, Nat.zero_le _⟩) hP hD hS hA [0, 1] [] rfl rfl (by decide) (by decide) (fun H locs hP hD hS => ?_)
  have hP : va_P D vwCl [(a_this, .inr (0, [.ref a_this_values, .ref a_this_kinds, .int v_this_table, .double v_this_guard, .double v_this_ratio, .int v_this_bridging, .int v_this_length, .int v_this_guessColumn, .double v_this_guessError, .double v_this_guessValue])), (a_this_kinds, .inl (k 2, 256, aI v_this_kinds))] H := hP
  have hD : va_D A [(a_this, .inr (0, [.ref a_this_values, .ref a_this_kinds, .int v_this_table, .double v_this_guard, .double v_this_ratio, .int v_this_bridging, .int v_this_length, .int v_this_guessColumn, .double v_this_guessError, .double v_this_guessValue])), (a_this_kinds, .inl (k 2, 256, aI v_this_kinds))] := hD
  have ho := Option.some.inj hf
  subst ho
  exact W.iret (v := x1) hx hb hr (fun t ht hW => ⟨⟨x1, (), rfl, rfl, by rw [ht]; exact hP.sub (ws' := [(a_this, .inr (0, [.ref a_this_values, .ref a_this_kinds, .int v_this_table, .double v_this_guard, .double v_this_ratio, .int v_this_bridging, .int v_this_length, .int v_this_guessColumn, .double v_this_guessError, .double v_this_guessValue])), (a_this_kinds, .inl (k 2, 256, aI v_this_kinds))]) [0, 1] rfl, va_K.moved hW.alike hK, hD.sub (ws' := [(a_this, .inr (0, [.ref a_this_values, .ref a_this_kinds, .int v_this_table, .double v_this_guard, .double v_this_ratio, .int v_this_bridging, .int v_this_length, .int v_this_guessColumn, .double v_this_guessError, .double v_this_guessValue])), (a_this_kinds, .inl (k 2, 256, aI v_this_kinds))]) [0, 1] (by decide) rfl⟩, hS.F ht⟩) hS.2.2 dX1_manyBridged_6
def p_X1_lowestBroken_L2 (v_this_kinds : Nat → Int32) (v_this_table : Int32) (v_this_length : Int32) : Nat → Int32 → Option (Int32)
  | 0, _ => none
  | n2 + 1, x2_1 => (if (16 : Int32) ≤ x2_1 then some (-5 : Int32) else (p_X1_manyInColumn v_this_kinds v_this_table v_this_length x2_1 (2 : Int32) (3 : Int32)).bind fun x1002 => (if x1002 ≤ 0 then p_X1_lowestBroken_L2 v_this_kinds v_this_table v_this_length n2 (x2_1 + 1) else some x2_1))

def p_X1_lowestBroken (v_this_kinds : Nat → Int32) (v_this_table : Int32) (v_this_length : Int32)  : Option (Int32) := p_X1_lowestBroken_L2 v_this_kinds v_this_table v_this_length 300 (0 : Int32) 
abbrev rm_X1_lowestBroken : Room := { frames := 2, cells := 0, slots := 0, locals := 50 }
set_option maxHeartbeats 4000000 in
set_option maxRecDepth 100000 in
theorem mt_X1_lowestBroken (l : Launch) (D : va_G) (k : Nat → ClassId) (a_this a_this_values a_this_kinds : Nat) (sz : Nat) (v_this_kinds : Nat → Int32) (v_this_table : Int32) (v_this_guard : UInt64) (v_this_ratio : UInt64) (v_this_bridging : Int32) (v_this_length : Int32) (v_this_guessColumn : Int32) (v_this_guessError : UInt64) (v_this_guessValue : UInt64)  (o : Int32) (hf : p_X1_lowestBroken v_this_kinds v_this_table v_this_length = some o)  : Met l yX1_lowestBroken wsX1_lowestBroken rm_X1_lowestBroken (va_Pc [.ref a_this] (bW D k sz [(a_this, .inr (0, [.ref a_this_values, .ref a_this_kinds, .int v_this_table, .double v_this_guard, .double v_this_ratio, .int v_this_bridging, .int v_this_length, .int v_this_guessColumn, .double v_this_guessError, .double v_this_guessValue])), (a_this_kinds, .inl (k 2, 256, aI v_this_kinds))])) (va_Qi (fun (r : Int32) (_ : Unit) => r = o) (fun _ => bO D k (va_A [(a_this, .inr (0, [.ref a_this_values, .ref a_this_kinds, .int v_this_table, .double v_this_guard, .double v_this_ratio, .int v_this_bridging, .int v_this_length, .int v_this_guessColumn, .double v_this_guessError, .double v_this_guessValue])), (a_this_kinds, .inl (k 2, 256, aI v_this_kinds))] sz) [(a_this, .inr (0, [.ref a_this_values, .ref a_this_kinds, .int v_this_table, .double v_this_guard, .double v_this_ratio, .int v_this_bridging, .int v_this_length, .int v_this_guessColumn, .double v_this_guessError, .double v_this_guessValue])), (a_this_kinds, .inl (k 2, 256, aI v_this_kinds))]) (va_A [(a_this, .inr (0, [.ref a_this_values, .ref a_this_kinds, .int v_this_table, .double v_this_guard, .double v_this_ratio, .int v_this_bridging, .int v_this_length, .int v_this_guessColumn, .double v_this_guessError, .double v_this_guessValue])), (a_this_kinds, .inl (k 2, 256, aI v_this_kinds))] sz)) 0 0 (va_A [(a_this, .inr (0, [.ref a_this_values, .ref a_this_kinds, .int v_this_table, .double v_this_guard, .double v_this_ratio, .int v_this_bridging, .int v_this_length, .int v_this_guessColumn, .double v_this_guessError, .double v_this_guessValue])), (a_this_kinds, .inl (k 2, 256, aI v_this_kinds))] sz) := by
  unfold p_X1_lowestBroken at hf
  refine Met.ofW (cc := cX1_lowestBroken) (maxL := 2) (ret := (some .int)) (by decide) rfl ?_
  intro p e s m args below meth c s₁ B hml hv
  obtain ⟨rfl, hsz, hP, hK, hD0⟩ := hv
  have hx := B.exec
  have hb := B.bytes
  have hr := B.returns
  have hts := atoms_spec (ws := wsX1_lowestBroken) B.pre
  have hown : s.vm.findClass RX1 = some m.cls := findClass_of_methodNamed B.named
  have hlocks := B.notSynchronized
  subst hsz
  have hD := hD0.self (sz := s.heap.size)
  generalize hAe : va_A [(a_this, .inr (0, [.ref a_this_values, .ref a_this_kinds, .int v_this_table, .double v_this_guard, .double v_this_ratio, .int v_this_bridging, .int v_this_length, .int v_this_guessColumn, .double v_this_guessError, .double v_this_guessValue])), (a_this_kinds, .inl (k 2, 256, aI v_this_kinds))] s.heap.size = A at hD ⊢
  have hA : ∀ q : Nat, s.heap.size ≤ q → A q := fun q h => by rw [← hAe]; exact Or.inr h
  have hS : va_S A s.heap s.heap [] := va_S.rf
  obtain ⟨Q, hQ⟩ : ∃ Q, Q = MQ below (va_Qi (fun (r : Int32) (_ : Unit) => r = o) (fun _ => bO D k (A) [(a_this, .inr (0, [.ref a_this_values, .ref a_this_kinds, .int v_this_table, .double v_this_guard, .double v_this_ratio, .int v_this_bridging, .int v_this_length, .int v_this_guessColumn, .double v_this_guessError, .double v_this_guessValue])), (a_this_kinds, .inl (k 2, 256, aI v_this_kinds))]) (A)) ([.ref a_this] : List Value).toArray s 0 0 A := ⟨_, rfl⟩
  rw [← hQ]
  have hl := lv_entry [.ref a_this] (n := 2) (Nat.le_of_ble_eq_true rfl)
  rw [lg_entry_eq]
  generalize (lg_sl [.ref a_this] ++ List.replicate (2 - (lg_sl [.ref a_this]).length) Slot.unset).toArray = ls at hl ⊢
  have hl : lv_has ls 2 [(0, .ref a_this)] := hl
  obtain ⟨H, hHe⟩ : ∃ H, H = s.heap := ⟨_, rfl⟩
  have hP : va_P D vwCl [(a_this, .inr (0, [.ref a_this_values, .ref a_this_kinds, .int v_this_table, .double v_this_guard, .double v_this_ratio, .int v_this_bridging, .int v_this_length, .int v_this_guessColumn, .double v_this_guessError, .double v_this_guessValue])), (a_this_kinds, .inl (k 2, 256, aI v_this_kinds))] H := by rw [hHe]; exact hP
  have hS : va_S A s.heap H [] := by rw [hHe]; exact hS
  rw [← hHe]
  obtain ⟨locs, hLe⟩ : ∃ locs : List Loc, locs = [] := ⟨_, rfl⟩
  rw [← hLe] at hS ⊢
  clear hLe
  refine lv_iconst (v := 0) hx hb dX1_lowestBroken_0 (by decide) ?_
  refine lv_istore_n (lv' := [(1, .int (0 : Int32)), (0, .ref a_this)]) hx hb dX1_lowestBroken_1 rfl hl (by decide) rfl (fun ls hl => ?_)
  have L2 : ∀ (n2 : Nat) (x2_1 : Int32)  (H : Heap) (locs : List Loc) (ls : Array Slot), va_P D vwCl [(a_this, .inr (0, [.ref a_this_values, .ref a_this_kinds, .int v_this_table, .double v_this_guard, .double v_this_ratio, .int v_this_bridging, .int v_this_length, .int v_this_guessColumn, .double v_this_guessError, .double v_this_guessValue])), (a_this_kinds, .inl (k 2, 256, aI v_this_kinds))] H → va_D A [(a_this, .inr (0, [.ref a_this_values, .ref a_this_kinds, .int v_this_table, .double v_this_guard, .double v_this_ratio, .int v_this_bridging, .int v_this_length, .int v_this_guessColumn, .double v_this_guessError, .double v_this_guessValue])), (a_this_kinds, .inl (k 2, 256, aI v_this_kinds))] → va_S A s.heap H locs → lv_has ls 2 [(0, .ref a_this), (1, .int x2_1)] → p_X1_lowestBroken_L2 v_this_kinds v_this_table v_this_length n2 x2_1 = some o → W p l e (headSpec wsX1_lowestBroken rm_X1_lowestBroken).room s m ([.ref a_this] : List Value).toArray below meth c H locs 0 0 Q (F0 m 2 ls []) := by
    intro n2
    induction n2 with
    | zero =>
      intro x2_1 H locs ls hP hD hS hl hf
      exact absurd hf (by simp [p_X1_lowestBroken_L2])
    | succ n2 ih2 =>
      intro x2_1 H locs ls hP hD hS hl hf
      rw [p_X1_lowestBroken_L2] at hf
      refine lv_iload_n hx hb dX1_lowestBroken_2 rfl (lv_at hl 1 rfl) ?_
      refine lv_bipush (v := 16) hx hb dX1_lowestBroken_3 (by decide) ?_
      refine lv_icmp_ge (tgt := 26) hx hb dX1_lowestBroken_5 (by decide) (fun c1001 => ?_) (fun c1001 => ?_)
      · skip
        have hf := if_t c1001 hf
        refine lv_bipush (v := -5) hx hb dX1_lowestBroken_26 (by decide) ?_
        have ho := Option.some.inj hf
        subst ho
        rw [hQ]
        exact W.iret (v := (-5 : Int32)) hx hb hr (fun t ht hW => ⟨⟨(-5 : Int32), (), rfl, rfl, by rw [ht]; exact hP.sub (ws' := [(a_this, .inr (0, [.ref a_this_values, .ref a_this_kinds, .int v_this_table, .double v_this_guard, .double v_this_ratio, .int v_this_bridging, .int v_this_length, .int v_this_guessColumn, .double v_this_guessError, .double v_this_guessValue])), (a_this_kinds, .inl (k 2, 256, aI v_this_kinds))]) [0, 1] rfl, va_K.moved hW.alike hK, hD.sub (ws' := [(a_this, .inr (0, [.ref a_this_values, .ref a_this_kinds, .int v_this_table, .double v_this_guard, .double v_this_ratio, .int v_this_bridging, .int v_this_length, .int v_this_guessColumn, .double v_this_guessError, .double v_this_guessValue])), (a_this_kinds, .inl (k 2, 256, aI v_this_kinds))]) [0, 1] (by decide) rfl⟩, hS.F ht⟩) hS.2.2 dX1_lowestBroken_28
      · skip
        have hf := if_f c1001 hf
        refine lv_aload_n hx hb dX1_lowestBroken_8 rfl (lv_at hl 0 rfl) ?_
        refine lv_iload_n hx hb dX1_lowestBroken_9 rfl (lv_at hl 1 rfl) ?_
        refine lv_iconst (v := 2) hx hb dX1_lowestBroken_10 (by decide) ?_
        refine lv_iconst (v := 3) hx hb dX1_lowestBroken_11 (by decide) ?_
        obtain ⟨x1002, hx1002, hf⟩ := bind_s hf
        refine cc_i (r := x1002) (wc := [(a_this, .inr (0, [.ref a_this_values, .ref a_this_kinds, .int v_this_table, .double v_this_guard, .double v_this_ratio, .int v_this_bridging, .int v_this_length, .int v_this_guessColumn, .double v_this_guessError, .double v_this_guessValue])), (a_this_kinds, .inl (k 2, 256, aI v_this_kinds))]) (wr := []) (w1 := [(a_this, .inr (0, [.ref a_this_values, .ref a_this_kinds, .int v_this_table, .double v_this_guard, .double v_this_ratio, .int v_this_bridging, .int v_this_length, .int v_this_guessColumn, .double v_this_guessError, .double v_this_guessValue])), (a_this_kinds, .inl (k 2, 256, aI v_this_kinds))]) (va_runV (As := [.int x2_1, .int (2 : Int32), .int (3 : Int32)]) (rest := []) ⟨hx, hb, hml, hown, hts⟩ (mt_X1_manyInColumn l D k a_this a_this_values a_this_kinds _ v_this_kinds v_this_table v_this_guard v_this_ratio v_this_bridging v_this_length v_this_guessColumn v_this_guessError v_this_guessValue x2_1 (2 : Int32) (3 : Int32) x1002 hx1002) (cwV 3 hts gX1_lowestBroken_X1_manyInColumn rfl rfl rfl (by decide +kernel) ⟨(Nat.le_of_ble_eq_true rfl), (Nat.le_of_ble_eq_true rfl)⟩) (cc_pv (wc := [(a_this, .inr (0, [.ref a_this_values, .ref a_this_kinds, .int v_this_table, .double v_this_guard, .double v_this_ratio, .int v_this_bridging, .int v_this_length, .int v_this_guessColumn, .double v_this_guessError, .double v_this_guessValue])), (a_this_kinds, .inl (k 2, 256, aI v_this_kinds))]) hK hP hD [0, 1] (by decide) rfl rfl 0 0 rfl rfl rfl) rfl rfl hl.1 rfl (lv_room (Nat.le_of_ble_eq_true rfl)) dX1_lowestBroken_12 ⟨Nat.zero_le _, Nat.zero_le _⟩) hP hD hS hA [0, 1] [] rfl rfl (by decide) (by decide) (fun H locs hP hD hS => ?_)
        have hP : va_P D vwCl [(a_this, .inr (0, [.ref a_this_values, .ref a_this_kinds, .int v_this_table, .double v_this_guard, .double v_this_ratio, .int v_this_bridging, .int v_this_length, .int v_this_guessColumn, .double v_this_guessError, .double v_this_guessValue])), (a_this_kinds, .inl (k 2, 256, aI v_this_kinds))] H := hP
        have hD : va_D A [(a_this, .inr (0, [.ref a_this_values, .ref a_this_kinds, .int v_this_table, .double v_this_guard, .double v_this_ratio, .int v_this_bridging, .int v_this_length, .int v_this_guessColumn, .double v_this_guessError, .double v_this_guessValue])), (a_this_kinds, .inl (k 2, 256, aI v_this_kinds))] := hD
        refine lv_if_le (tgt := 20) hx hb dX1_lowestBroken_15 (by decide) (fun c1003 => ?_) (fun c1003 => ?_)
        · skip
          have hf := if_t c1003 hf
          refine lv_iinc (v := (x2_1 + 1)) (lv' := [(1, .int (x2_1 + 1)), (0, .ref a_this)]) hx hb dX1_lowestBroken_20 hl (k := 1) rfl rfl (by decide) rfl (fun ls hl => ?_)
          refine lv_goto (tgt := 2) hx hb dX1_lowestBroken_23 (by decide) ?_
          exact ih2 (x2_1 + 1) H locs ls hP hD hS (lv_sub hl [1, 0] rfl) hf
        · skip
          have hf := if_f c1003 hf
          refine lv_iload_n hx hb dX1_lowestBroken_18 rfl (lv_at hl 1 rfl) ?_
          have ho := Option.some.inj hf
          subst ho
          rw [hQ]
          exact W.iret (v := x2_1) hx hb hr (fun t ht hW => ⟨⟨x2_1, (), rfl, rfl, by rw [ht]; exact hP.sub (ws' := [(a_this, .inr (0, [.ref a_this_values, .ref a_this_kinds, .int v_this_table, .double v_this_guard, .double v_this_ratio, .int v_this_bridging, .int v_this_length, .int v_this_guessColumn, .double v_this_guessError, .double v_this_guessValue])), (a_this_kinds, .inl (k 2, 256, aI v_this_kinds))]) [0, 1] rfl, va_K.moved hW.alike hK, hD.sub (ws' := [(a_this, .inr (0, [.ref a_this_values, .ref a_this_kinds, .int v_this_table, .double v_this_guard, .double v_this_ratio, .int v_this_bridging, .int v_this_length, .int v_this_guessColumn, .double v_this_guessError, .double v_this_guessValue])), (a_this_kinds, .inl (k 2, 256, aI v_this_kinds))]) [0, 1] (by decide) rfl⟩, hS.F ht⟩) hS.2.2 dX1_lowestBroken_19
  exact L2 300 (0 : Int32)  H locs ls hP hD hS (lv_sub hl [1, 0] rfl) hf
def p_X1_endOf_L9 (v_this_kinds : Nat → Int32) (p1 : Int32) : Nat → Int32 → Option (Int32)
  | 0, _ => none
  | n9 + 1, x9_3 => (if x9_3 < 0 then some (-1 : Int32) else (p_X1_isBroken v_this_kinds p1 x9_3).bind fun x1002 => (if x1002 = 0 then some x9_3 else p_X1_endOf_L9 v_this_kinds p1 n9 (x9_3 + (-1))))

def p_X1_endOf (v_this_kinds : Nat → Int32) (v_this_table : Int32) (p1 : Int32) (p2 : Int32) : Option (Int32) := (p_X1_manyIn v_this_table p1 p2).bind fun x1 => p_X1_endOf_L9 v_this_kinds p1 300 (x1 - (1 : Int32)) 
abbrev rm_X1_endOf : Room := { frames := 2, cells := 0, slots := 0, locals := 44 }
set_option maxHeartbeats 4000000 in
set_option maxRecDepth 100000 in
theorem mt_X1_endOf (l : Launch) (D : va_G) (k : Nat → ClassId) (a_this a_this_values a_this_kinds : Nat) (sz : Nat) (v_this_kinds : Nat → Int32) (v_this_table : Int32) (v_this_guard : UInt64) (v_this_ratio : UInt64) (v_this_bridging : Int32) (v_this_length : Int32) (v_this_guessColumn : Int32) (v_this_guessError : UInt64) (v_this_guessValue : UInt64) (p1 : Int32) (p2 : Int32) (o : Int32) (hf : p_X1_endOf v_this_kinds v_this_table p1 p2 = some o)  : Met l yX1_endOf wsX1_endOf rm_X1_endOf (va_Pc [.ref a_this, .int p1, .int p2] (bW D k sz [(a_this, .inr (0, [.ref a_this_values, .ref a_this_kinds, .int v_this_table, .double v_this_guard, .double v_this_ratio, .int v_this_bridging, .int v_this_length, .int v_this_guessColumn, .double v_this_guessError, .double v_this_guessValue])), (a_this_kinds, .inl (k 2, 256, aI v_this_kinds))])) (va_Qi (fun (r : Int32) (_ : Unit) => r = o) (fun _ => bO D k (va_A [(a_this, .inr (0, [.ref a_this_values, .ref a_this_kinds, .int v_this_table, .double v_this_guard, .double v_this_ratio, .int v_this_bridging, .int v_this_length, .int v_this_guessColumn, .double v_this_guessError, .double v_this_guessValue])), (a_this_kinds, .inl (k 2, 256, aI v_this_kinds))] sz) [(a_this, .inr (0, [.ref a_this_values, .ref a_this_kinds, .int v_this_table, .double v_this_guard, .double v_this_ratio, .int v_this_bridging, .int v_this_length, .int v_this_guessColumn, .double v_this_guessError, .double v_this_guessValue])), (a_this_kinds, .inl (k 2, 256, aI v_this_kinds))]) (va_A [(a_this, .inr (0, [.ref a_this_values, .ref a_this_kinds, .int v_this_table, .double v_this_guard, .double v_this_ratio, .int v_this_bridging, .int v_this_length, .int v_this_guessColumn, .double v_this_guessError, .double v_this_guessValue])), (a_this_kinds, .inl (k 2, 256, aI v_this_kinds))] sz)) 0 0 (va_A [(a_this, .inr (0, [.ref a_this_values, .ref a_this_kinds, .int v_this_table, .double v_this_guard, .double v_this_ratio, .int v_this_bridging, .int v_this_length, .int v_this_guessColumn, .double v_this_guessError, .double v_this_guessValue])), (a_this_kinds, .inl (k 2, 256, aI v_this_kinds))] sz) := by
  unfold p_X1_endOf at hf
  refine Met.ofW (cc := cX1_endOf) (maxL := 4) (ret := (some .int)) (by decide) rfl ?_
  intro p e s m args below meth c s₁ B hml hv
  obtain ⟨rfl, hsz, hP, hK, hD0⟩ := hv
  have hx := B.exec
  have hb := B.bytes
  have hr := B.returns
  have hts := atoms_spec (ws := wsX1_endOf) B.pre
  have hown : s.vm.findClass RX1 = some m.cls := findClass_of_methodNamed B.named
  have hlocks := B.notSynchronized
  subst hsz
  have hD := hD0.self (sz := s.heap.size)
  generalize hAe : va_A [(a_this, .inr (0, [.ref a_this_values, .ref a_this_kinds, .int v_this_table, .double v_this_guard, .double v_this_ratio, .int v_this_bridging, .int v_this_length, .int v_this_guessColumn, .double v_this_guessError, .double v_this_guessValue])), (a_this_kinds, .inl (k 2, 256, aI v_this_kinds))] s.heap.size = A at hD ⊢
  have hA : ∀ q : Nat, s.heap.size ≤ q → A q := fun q h => by rw [← hAe]; exact Or.inr h
  have hS : va_S A s.heap s.heap [] := va_S.rf
  obtain ⟨Q, hQ⟩ : ∃ Q, Q = MQ below (va_Qi (fun (r : Int32) (_ : Unit) => r = o) (fun _ => bO D k (A) [(a_this, .inr (0, [.ref a_this_values, .ref a_this_kinds, .int v_this_table, .double v_this_guard, .double v_this_ratio, .int v_this_bridging, .int v_this_length, .int v_this_guessColumn, .double v_this_guessError, .double v_this_guessValue])), (a_this_kinds, .inl (k 2, 256, aI v_this_kinds))]) (A)) ([.ref a_this, .int p1, .int p2] : List Value).toArray s 0 0 A := ⟨_, rfl⟩
  rw [← hQ]
  have hl := lv_entry [.ref a_this, .int p1, .int p2] (n := 4) (Nat.le_of_ble_eq_true rfl)
  rw [lg_entry_eq]
  generalize (lg_sl [.ref a_this, .int p1, .int p2] ++ List.replicate (4 - (lg_sl [.ref a_this, .int p1, .int p2]).length) Slot.unset).toArray = ls at hl ⊢
  have hl : lv_has ls 4 [(0, .ref a_this), (1, .int p1), (2, .int p2)] := hl
  obtain ⟨H, hHe⟩ : ∃ H, H = s.heap := ⟨_, rfl⟩
  have hP : va_P D vwCl [(a_this, .inr (0, [.ref a_this_values, .ref a_this_kinds, .int v_this_table, .double v_this_guard, .double v_this_ratio, .int v_this_bridging, .int v_this_length, .int v_this_guessColumn, .double v_this_guessError, .double v_this_guessValue])), (a_this_kinds, .inl (k 2, 256, aI v_this_kinds))] H := by rw [hHe]; exact hP
  have hS : va_S A s.heap H [] := by rw [hHe]; exact hS
  rw [← hHe]
  obtain ⟨locs, hLe⟩ : ∃ locs : List Loc, locs = [] := ⟨_, rfl⟩
  rw [← hLe] at hS ⊢
  clear hLe
  refine lv_aload_n hx hb dX1_endOf_0 rfl (lv_at hl 0 rfl) ?_
  refine lv_iload_n hx hb dX1_endOf_1 rfl (lv_at hl 1 rfl) ?_
  refine lv_iload_n hx hb dX1_endOf_2 rfl (lv_at hl 2 rfl) ?_
  obtain ⟨x1, hx1, hf⟩ := bind_s hf
  refine cc_i (r := x1) (wc := [(a_this, .inr (0, [.ref a_this_values, .ref a_this_kinds, .int v_this_table, .double v_this_guard, .double v_this_ratio, .int v_this_bridging, .int v_this_length, .int v_this_guessColumn, .double v_this_guessError, .double v_this_guessValue]))]) (wr := [(a_this_kinds, .inl (k 2, 256, aI v_this_kinds))]) (w1 := [(a_this, .inr (0, [.ref a_this_values, .ref a_this_kinds, .int v_this_table, .double v_this_guard, .double v_this_ratio, .int v_this_bridging, .int v_this_length, .int v_this_guessColumn, .double v_this_guessError, .double v_this_guessValue]))]) (va_runV (As := [.int p1, .int p2]) (rest := []) ⟨hx, hb, hml, hown, hts⟩ (mt_X1_manyIn l D k a_this a_this_values a_this_kinds _ v_this_table v_this_guard v_this_ratio v_this_bridging v_this_length v_this_guessColumn v_this_guessError v_this_guessValue p1 p2 x1 hx1) (cwV 2 hts gX1_endOf_X1_manyIn rfl rfl rfl (by decide +kernel) ⟨(Nat.le_of_ble_eq_true rfl), (Nat.le_of_ble_eq_true rfl)⟩) (cc_pv (wc := [(a_this, .inr (0, [.ref a_this_values, .ref a_this_kinds, .int v_this_table, .double v_this_guard, .double v_this_ratio, .int v_this_bridging, .int v_this_length, .int v_this_guessColumn, .double v_this_guessError, .double v_this_guessValue]))]) hK hP hD [0] (by decide) rfl rfl 0 0 rfl rfl rfl) rfl rfl hl.1 rfl (lv_room (Nat.le_of_ble_eq_true rfl)) dX1_endOf_3 ⟨Nat.zero_le _, Nat.zero_le _⟩) hP hD hS hA [0] [1] rfl rfl (by decide) (by decide) (fun H locs hP hD hS => ?_)
  have hP : va_P D vwCl [(a_this_kinds, .inl (k 2, 256, aI v_this_kinds)), (a_this, .inr (0, [.ref a_this_values, .ref a_this_kinds, .int v_this_table, .double v_this_guard, .double v_this_ratio, .int v_this_bridging, .int v_this_length, .int v_this_guessColumn, .double v_this_guessError, .double v_this_guessValue]))] H := hP
  have hD : va_D A [(a_this_kinds, .inl (k 2, 256, aI v_this_kinds)), (a_this, .inr (0, [.ref a_this_values, .ref a_this_kinds, .int v_this_table, .double v_this_guard, .double v_this_ratio, .int v_this_bridging, .int v_this_length, .int v_this_guessColumn, .double v_this_guessError, .double v_this_guessValue]))] := hD
  refine lv_iconst (v := 1) hx hb dX1_endOf_6 (by decide) ?_
  refine lv_isub hx hb dX1_endOf_7 ?_
  refine lv_istore_n (lv' := [(3, .int (x1 - (1 : Int32))), (0, .ref a_this), (1, .int p1), (2, .int p2)]) hx hb dX1_endOf_8 rfl hl (by decide) rfl (fun ls hl => ?_)
  have L9 : ∀ (n9 : Nat) (x9_3 : Int32)  (H : Heap) (locs : List Loc) (ls : Array Slot), va_P D vwCl [(a_this_kinds, .inl (k 2, 256, aI v_this_kinds)), (a_this, .inr (0, [.ref a_this_values, .ref a_this_kinds, .int v_this_table, .double v_this_guard, .double v_this_ratio, .int v_this_bridging, .int v_this_length, .int v_this_guessColumn, .double v_this_guessError, .double v_this_guessValue]))] H → va_D A [(a_this_kinds, .inl (k 2, 256, aI v_this_kinds)), (a_this, .inr (0, [.ref a_this_values, .ref a_this_kinds, .int v_this_table, .double v_this_guard, .double v_this_ratio, .int v_this_bridging, .int v_this_length, .int v_this_guessColumn, .double v_this_guessError, .double v_this_guessValue]))] → va_S A s.heap H locs → lv_has ls 4 [(0, .ref a_this), (1, .int p1), (3, .int x9_3)] → p_X1_endOf_L9 v_this_kinds p1 n9 x9_3 = some o → W p l e (headSpec wsX1_endOf rm_X1_endOf).room s m ([.ref a_this, .int p1, .int p2] : List Value).toArray below meth c H locs 0 0 Q (F0 m 9 ls []) := by
    intro n9
    induction n9 with
    | zero =>
      intro x9_3 H locs ls hP hD hS hl hf
      exact absurd hf (by simp [p_X1_endOf_L9])
    | succ n9 ih9 =>
      intro x9_3 H locs ls hP hD hS hl hf
      rw [p_X1_endOf_L9] at hf
      refine lv_iload_n hx hb dX1_endOf_9 rfl (lv_at hl 2 rfl) ?_
      refine lv_if_lt (tgt := 30) hx hb dX1_endOf_10 (by decide) (fun c1001 => ?_) (fun c1001 => ?_)
      · skip
        have hf := if_t c1001 hf
        refine lv_iconst (v := -1) hx hb dX1_endOf_30 (by decide) ?_
        have ho := Option.some.inj hf
        subst ho
        rw [hQ]
        exact W.iret (v := (-1 : Int32)) hx hb hr (fun t ht hW => ⟨⟨(-1 : Int32), (), rfl, rfl, by rw [ht]; exact hP.sub (ws' := [(a_this, .inr (0, [.ref a_this_values, .ref a_this_kinds, .int v_this_table, .double v_this_guard, .double v_this_ratio, .int v_this_bridging, .int v_this_length, .int v_this_guessColumn, .double v_this_guessError, .double v_this_guessValue])), (a_this_kinds, .inl (k 2, 256, aI v_this_kinds))]) [1, 0] rfl, va_K.moved hW.alike hK, hD.sub (ws' := [(a_this, .inr (0, [.ref a_this_values, .ref a_this_kinds, .int v_this_table, .double v_this_guard, .double v_this_ratio, .int v_this_bridging, .int v_this_length, .int v_this_guessColumn, .double v_this_guessError, .double v_this_guessValue])), (a_this_kinds, .inl (k 2, 256, aI v_this_kinds))]) [1, 0] (by decide) rfl⟩, hS.F ht⟩) hS.2.2 dX1_endOf_31
      · skip
        have hf := if_f c1001 hf
        refine lv_aload_n hx hb dX1_endOf_13 rfl (lv_at hl 0 rfl) ?_
        refine lv_iload_n hx hb dX1_endOf_14 rfl (lv_at hl 1 rfl) ?_
        refine lv_iload_n hx hb dX1_endOf_15 rfl (lv_at hl 2 rfl) ?_
        obtain ⟨x1002, hx1002, hf⟩ := bind_s hf
        refine cc_i (r := x1002) (wc := [(a_this, .inr (0, [.ref a_this_values, .ref a_this_kinds, .int v_this_table, .double v_this_guard, .double v_this_ratio, .int v_this_bridging, .int v_this_length, .int v_this_guessColumn, .double v_this_guessError, .double v_this_guessValue])), (a_this_kinds, .inl (k 2, 256, aI v_this_kinds))]) (wr := []) (w1 := [(a_this, .inr (0, [.ref a_this_values, .ref a_this_kinds, .int v_this_table, .double v_this_guard, .double v_this_ratio, .int v_this_bridging, .int v_this_length, .int v_this_guessColumn, .double v_this_guessError, .double v_this_guessValue])), (a_this_kinds, .inl (k 2, 256, aI v_this_kinds))]) (va_runV (As := [.int p1, .int x9_3]) (rest := []) ⟨hx, hb, hml, hown, hts⟩ (mt_X1_isBroken l D k a_this a_this_values a_this_kinds _ v_this_kinds v_this_table v_this_guard v_this_ratio v_this_bridging v_this_length v_this_guessColumn v_this_guessError v_this_guessValue p1 x9_3 x1002 hx1002) (cwV 2 hts gX1_endOf_X1_isBroken rfl rfl rfl (by decide +kernel) ⟨(Nat.le_of_ble_eq_true rfl), (Nat.le_of_ble_eq_true rfl)⟩) (cc_pv (wc := [(a_this, .inr (0, [.ref a_this_values, .ref a_this_kinds, .int v_this_table, .double v_this_guard, .double v_this_ratio, .int v_this_bridging, .int v_this_length, .int v_this_guessColumn, .double v_this_guessError, .double v_this_guessValue])), (a_this_kinds, .inl (k 2, 256, aI v_this_kinds))]) hK hP hD [1, 0] (by decide) rfl rfl 0 1 rfl rfl rfl) rfl rfl hl.1 rfl (lv_room (Nat.le_of_ble_eq_true rfl)) dX1_endOf_16 ⟨Nat.zero_le _, Nat.zero_le _⟩) hP hD hS hA [1, 0] [] rfl rfl (by decide) (by decide) (fun H locs hP hD hS => ?_)
        have hP : va_P D vwCl [(a_this, .inr (0, [.ref a_this_values, .ref a_this_kinds, .int v_this_table, .double v_this_guard, .double v_this_ratio, .int v_this_bridging, .int v_this_length, .int v_this_guessColumn, .double v_this_guessError, .double v_this_guessValue])), (a_this_kinds, .inl (k 2, 256, aI v_this_kinds))] H := hP
        have hD : va_D A [(a_this, .inr (0, [.ref a_this_values, .ref a_this_kinds, .int v_this_table, .double v_this_guard, .double v_this_ratio, .int v_this_bridging, .int v_this_length, .int v_this_guessColumn, .double v_this_guessError, .double v_this_guessValue])), (a_this_kinds, .inl (k 2, 256, aI v_this_kinds))] := hD
        refine lv_if_ne (tgt := 24) hx hb dX1_endOf_19 (by decide) (fun c1003 => ?_) (fun c1003 => ?_)
        · skip
          have hf := if_f c1003 hf
          refine lv_iinc (v := (x9_3 + (-1))) (lv' := [(3, .int (x9_3 + (-1))), (0, .ref a_this), (1, .int p1)]) hx hb dX1_endOf_24 hl (k := 2) rfl rfl (by decide) rfl (fun ls hl => ?_)
          refine lv_goto (tgt := 9) hx hb dX1_endOf_27 (by decide) ?_
          have hP := hP.sub (ws' := [(a_this_kinds, .inl (k 2, 256, aI v_this_kinds)), (a_this, .inr (0, [.ref a_this_values, .ref a_this_kinds, .int v_this_table, .double v_this_guard, .double v_this_ratio, .int v_this_bridging, .int v_this_length, .int v_this_guessColumn, .double v_this_guessError, .double v_this_guessValue]))]) [1, 0] rfl
          have hD := hD.sub (ws' := [(a_this_kinds, .inl (k 2, 256, aI v_this_kinds)), (a_this, .inr (0, [.ref a_this_values, .ref a_this_kinds, .int v_this_table, .double v_this_guard, .double v_this_ratio, .int v_this_bridging, .int v_this_length, .int v_this_guessColumn, .double v_this_guessError, .double v_this_guessValue]))]) [1, 0] (by decide) rfl
          exact ih9 (x9_3 + (-1)) H locs ls hP hD hS (lv_sub hl [1, 2, 0] rfl) hf
        · skip
          have hf := if_t c1003 hf
          refine lv_iload_n hx hb dX1_endOf_22 rfl (lv_at hl 2 rfl) ?_
          have ho := Option.some.inj hf
          subst ho
          rw [hQ]
          exact W.iret (v := x9_3) hx hb hr (fun t ht hW => ⟨⟨x9_3, (), rfl, rfl, by rw [ht]; exact hP.sub (ws' := [(a_this, .inr (0, [.ref a_this_values, .ref a_this_kinds, .int v_this_table, .double v_this_guard, .double v_this_ratio, .int v_this_bridging, .int v_this_length, .int v_this_guessColumn, .double v_this_guessError, .double v_this_guessValue])), (a_this_kinds, .inl (k 2, 256, aI v_this_kinds))]) [0, 1] rfl, va_K.moved hW.alike hK, hD.sub (ws' := [(a_this, .inr (0, [.ref a_this_values, .ref a_this_kinds, .int v_this_table, .double v_this_guard, .double v_this_ratio, .int v_this_bridging, .int v_this_length, .int v_this_guessColumn, .double v_this_guessError, .double v_this_guessValue])), (a_this_kinds, .inl (k 2, 256, aI v_this_kinds))]) [0, 1] (by decide) rfl⟩, hS.F ht⟩) hS.2.2 dX1_endOf_23
  exact L9 300 (x1 - (1 : Int32))  H locs ls hP hD hS (lv_sub hl [1, 2, 0] rfl) hf
theorem hinX1_X1_seekGuess : ∀ w ∈ wsX10, w ∈ wsX1_seekGuess := by decide +kernel
def p_X1_seekGuess_L49 (v_this_values : Nat → UInt64) (v_this_kinds : Nat → Int32) (v_this_table : Int32) (p1 : Int32) : Nat → Int32 → Int32 → Int32 → Int32 → UInt64 → UInt64 → Option (Int32 × Int32 × UInt64 × UInt64)
  | 0, _, _, _, _, _, _ => none
  | n49 + 1, x49_2, x49_3, x49_4, w49_this_guessColumn, w49_this_guessError, w49_this_guessValue => (if (16 : Int32) ≤ x49_4 then some (x49_3, w49_this_guessColumn, w49_this_guessError, w49_this_guessValue) else (p_X1_endOf v_this_kinds v_this_table x49_4 p1).bind fun x1002 => (p_X1_endOf v_this_kinds v_this_table (x49_4 - x49_2) p1).bind fun x1003 => (if x1002 < 0 then p_X1_seekGuess_L49 v_this_values v_this_kinds v_this_table p1 n49 x49_2 x49_3 (x49_4 + x49_2) w49_this_guessColumn w49_this_guessError w49_this_guessValue else (if 0 ≤ x1003 then (p_X1_valueAt v_this_values x49_4 x1002).bind fun x1006 => (p_X1_valueAt v_this_values (x49_4 - x49_2) x1003).bind fun x1007 => dop (FP.dsub x1006 x1007) fun d1008 => (p_X3_sizeOf d1008).bind fun x1009 => (if x49_3 = 0 then p_X1_seekGuess_L49 v_this_values v_this_kinds v_this_table p1 n49 x49_2 (1 : Int32) (x49_4 + x49_2) x49_4 x1009 x1006 else (if 0 ≤ (Op.cmpValue (FP.dcmp x1009 w49_this_guessError) CmpOp.g) then p_X1_seekGuess_L49 v_this_values v_this_kinds v_this_table p1 n49 x49_2 x49_3 (x49_4 + x49_2) w49_this_guessColumn w49_this_guessError w49_this_guessValue else p_X1_seekGuess_L49 v_this_values v_this_kinds v_this_table p1 n49 x49_2 (1 : Int32) (x49_4 + x49_2) x49_4 x1009 x1006)) else p_X1_seekGuess_L49 v_this_values v_this_kinds v_this_table p1 n49 x49_2 x49_3 (x49_4 + x49_2) w49_this_guessColumn w49_this_guessError w49_this_guessValue)))

def p_X1_seekGuess (v_this_values : Nat → UInt64) (v_this_kinds : Nat → Int32) (v_this_table : Int32) (p1 : Int32) : Option (Int32 × Int32 × UInt64 × UInt64) := (if (2 : Int32) ≤ v_this_table then (if p1 ≤ 0 then (p_X1_seekGuess_L49 v_this_values v_this_kinds v_this_table p1 300 (1 : Int32) (0 : Int32) (1 : Int32) (0 : Int32) FP.dconst0 FP.dconst0).bind fun x3 => gD (isB x3.1) (some (x3.1, x3.2.1, x3.2.2.1, x3.2.2.2)) else gD (inb (p1 - (1 : Int32)) 256) ((p_X1_seekGuess_L49 v_this_values v_this_kinds v_this_table p1 300 (1 : Int32) (0 : Int32) (1 : Int32) (0 : Int32) FP.dconst0 (v_this_values (p1 - (1 : Int32)).toNatClampNeg)).bind fun x6 => gD (isB x6.1) (some (x6.1, x6.2.1, x6.2.2.1, x6.2.2.2)))) else (if p1 ≤ 0 then (p_X1_seekGuess_L49 v_this_values v_this_kinds v_this_table p1 300 (2 : Int32) (0 : Int32) (2 : Int32) (0 : Int32) FP.dconst0 FP.dconst0).bind fun x9 => gD (isB x9.1) (some (x9.1, x9.2.1, x9.2.2.1, x9.2.2.2)) else gD (inb (p1 - (1 : Int32)) 256) ((p_X1_seekGuess_L49 v_this_values v_this_kinds v_this_table p1 300 (2 : Int32) (0 : Int32) (2 : Int32) (0 : Int32) FP.dconst0 (v_this_values (p1 - (1 : Int32)).toNatClampNeg)).bind fun x12 => gD (isB x12.1) (some (x12.1, x12.2.1, x12.2.2.1, x12.2.2.2)))))
abbrev rm_X1_seekGuess : Room := { frames := 3, cells := 0, slots := 0, locals := 67 }
set_option maxHeartbeats 4000000 in
set_option maxRecDepth 100000 in
theorem mt_X1_seekGuess (l : Launch) (D : va_G) (k : Nat → ClassId) (a_this a_this_values a_this_kinds : Nat) (sz : Nat) (v_this_values : Nat → UInt64) (v_this_kinds : Nat → Int32) (v_this_table : Int32) (v_this_guard : UInt64) (v_this_ratio : UInt64) (v_this_bridging : Int32) (v_this_length : Int32) (v_this_guessColumn : Int32) (v_this_guessError : UInt64) (v_this_guessValue : UInt64) (p1 : Int32) (o : Int32 × Int32 × UInt64 × UInt64) (hf : p_X1_seekGuess v_this_values v_this_kinds v_this_table p1 = some o)  : Met l yX1_seekGuess wsX1_seekGuess rm_X1_seekGuess (va_Pc [.ref a_this, .int p1] (bW D k sz [(a_this, .inr (0, [.ref a_this_values, .ref a_this_kinds, .int v_this_table, .double v_this_guard, .double v_this_ratio, .int v_this_bridging, .int v_this_length, .int v_this_guessColumn, .double v_this_guessError, .double v_this_guessValue])), (a_this_values, .inl (k 1, 256, aD v_this_values)), (a_this_kinds, .inl (k 2, 256, aI v_this_kinds))])) (va_Qi (fun (r : Int32) (_ : Unit) => r = o.1) (fun _ => bO D k (va_A [(a_this, .inr (0, [.ref a_this_values, .ref a_this_kinds, .int v_this_table, .double v_this_guard, .double v_this_ratio, .int v_this_bridging, .int v_this_length, .int v_this_guessColumn, .double v_this_guessError, .double v_this_guessValue])), (a_this_values, .inl (k 1, 256, aD v_this_values)), (a_this_kinds, .inl (k 2, 256, aI v_this_kinds))] sz) [(a_this, .inr (0, [.ref a_this_values, .ref a_this_kinds, .int v_this_table, .double v_this_guard, .double v_this_ratio, .int v_this_bridging, .int v_this_length, .int o.2.1, .double o.2.2.1, .double o.2.2.2])), (a_this_values, .inl (k 1, 256, aD v_this_values)), (a_this_kinds, .inl (k 2, 256, aI v_this_kinds))]) (va_A [(a_this, .inr (0, [.ref a_this_values, .ref a_this_kinds, .int v_this_table, .double v_this_guard, .double v_this_ratio, .int v_this_bridging, .int v_this_length, .int v_this_guessColumn, .double v_this_guessError, .double v_this_guessValue])), (a_this_values, .inl (k 1, 256, aD v_this_values)), (a_this_kinds, .inl (k 2, 256, aI v_this_kinds))] sz)) 0 0 (va_A [(a_this, .inr (0, [.ref a_this_values, .ref a_this_kinds, .int v_this_table, .double v_this_guard, .double v_this_ratio, .int v_this_bridging, .int v_this_length, .int v_this_guessColumn, .double v_this_guessError, .double v_this_guessValue])), (a_this_values, .inl (k 1, 256, aD v_this_values)), (a_this_kinds, .inl (k 2, 256, aI v_this_kinds))] sz) := by
  unfold p_X1_seekGuess at hf
  refine Met.ofW (cc := cX1_seekGuess) (maxL := 11) (ret := (some .boolean)) (by decide) rfl ?_
  intro p e s m args below meth c s₁ B hml hv
  obtain ⟨rfl, hsz, hP, hK, hD0⟩ := hv
  have hx := B.exec
  have hb := B.bytes
  have hr := B.returns
  have hts := atoms_spec (ws := wsX1_seekGuess) B.pre
  have hown : s.vm.findClass RX1 = some m.cls := findClass_of_methodNamed B.named
  have hlocks := B.notSynchronized
  subst hsz
  have hD := hD0.self (sz := s.heap.size)
  generalize hAe : va_A [(a_this, .inr (0, [.ref a_this_values, .ref a_this_kinds, .int v_this_table, .double v_this_guard, .double v_this_ratio, .int v_this_bridging, .int v_this_length, .int v_this_guessColumn, .double v_this_guessError, .double v_this_guessValue])), (a_this_values, .inl (k 1, 256, aD v_this_values)), (a_this_kinds, .inl (k 2, 256, aI v_this_kinds))] s.heap.size = A at hD ⊢
  have hA : ∀ q : Nat, s.heap.size ≤ q → A q := fun q h => by rw [← hAe]; exact Or.inr h
  have hS : va_S A s.heap s.heap [] := va_S.rf
  obtain ⟨Q, hQ⟩ : ∃ Q, Q = MQ below (va_Qi (fun (r : Int32) (_ : Unit) => r = o.1) (fun _ => bO D k (A) [(a_this, .inr (0, [.ref a_this_values, .ref a_this_kinds, .int v_this_table, .double v_this_guard, .double v_this_ratio, .int v_this_bridging, .int v_this_length, .int o.2.1, .double o.2.2.1, .double o.2.2.2])), (a_this_values, .inl (k 1, 256, aD v_this_values)), (a_this_kinds, .inl (k 2, 256, aI v_this_kinds))]) (A)) ([.ref a_this, .int p1] : List Value).toArray s 0 0 A := ⟨_, rfl⟩
  rw [← hQ]
  have hl := lv_entry [.ref a_this, .int p1] (n := 11) (Nat.le_of_ble_eq_true rfl)
  rw [lg_entry_eq]
  generalize (lg_sl [.ref a_this, .int p1] ++ List.replicate (11 - (lg_sl [.ref a_this, .int p1]).length) Slot.unset).toArray = ls at hl ⊢
  have hl : lv_has ls 11 [(0, .ref a_this), (1, .int p1)] := hl
  obtain ⟨H, hHe⟩ : ∃ H, H = s.heap := ⟨_, rfl⟩
  have hP : va_P D vwCl [(a_this, .inr (0, [.ref a_this_values, .ref a_this_kinds, .int v_this_table, .double v_this_guard, .double v_this_ratio, .int v_this_bridging, .int v_this_length, .int v_this_guessColumn, .double v_this_guessError, .double v_this_guessValue])), (a_this_values, .inl (k 1, 256, aD v_this_values)), (a_this_kinds, .inl (k 2, 256, aI v_this_kinds))] H := by rw [hHe]; exact hP
  have hS : va_S A s.heap H [] := by rw [hHe]; exact hS
  rw [← hHe]
  obtain ⟨locs, hLe⟩ : ∃ locs : List Loc, locs = [] := ⟨_, rfl⟩
  rw [← hLe] at hS ⊢
  clear hLe
  refine lv_aload_n hx hb dX1_seekGuess_0 rfl (lv_at hl 0 rfl) ?_
  refine va_get (D := D) (ci := 0) (v := .int v_this_table) (C := RX1) (T := TX1) (N := 10) hx hb hts hinX1_X1_seekGuess hown hK hP 0 rfl rfl 2 (by decide) (hts (.fieldLink RX1 19 "LimitTables$Grid" "table" "I") (by decide +kernel)) (fun _ h9 => h9) rfl dX1_seekGuess_1 ?_
  refine lv_iconst (v := 2) hx hb dX1_seekGuess_4 (by decide) ?_
  refine lv_icmp_ge (tgt := 12) hx hb dX1_seekGuess_5 (by decide) (fun c1 => ?_) (fun c1 => ?_)
  · skip
    have hf := if_t c1 hf
    refine lv_iconst (v := 1) hx hb dX1_seekGuess_12 (by decide) ?_
    refine lv_istore_n (lv' := [(2, .int (1 : Int32)), (0, .ref a_this), (1, .int p1)]) hx hb dX1_seekGuess_13 rfl hl (by decide) rfl (fun ls hl => ?_)
    refine lv_iconst (v := 0) hx hb dX1_seekGuess_14 (by decide) ?_
    refine lv_istore_n (lv' := [(3, .int (0 : Int32)), (2, .int (1 : Int32)), (0, .ref a_this), (1, .int p1)]) hx hb dX1_seekGuess_15 rfl hl (by decide) rfl (fun ls hl => ?_)
    refine lv_aload_n hx hb dX1_seekGuess_16 rfl (lv_at hl 2 rfl) ?_
    refine lv_iconst (v := 0) hx hb dX1_seekGuess_17 (by decide) ?_
    refine va_put (D := D) (ci := 0) (v := .int (0 : Int32)) (ty := .int) (C := RX1) (T := TX1) (N := 10) hx hb hts hinX1_X1_seekGuess tyX1 tyX1_ok nmX1 hown hK hP hD hS 0 rfl rfl 7 (by decide) (hts (.fieldLink RX1 37 "LimitTables$Grid" "guessColumn" "I") (by decide +kernel)) (fun _ h9 => h9) rfl (by decide +kernel) rfl rfl (Nat.le_of_ble_eq_true rfl) dX1_seekGuess_18 (fun H locs hP hD hS => ?_)
    have hP : va_P D vwCl [(a_this, .inr (0, [.ref a_this_values, .ref a_this_kinds, .int v_this_table, .double v_this_guard, .double v_this_ratio, .int v_this_bridging, .int v_this_length, .int (0 : Int32), .double v_this_guessError, .double v_this_guessValue])), (a_this_values, .inl (k 1, 256, aD v_this_values)), (a_this_kinds, .inl (k 2, 256, aI v_this_kinds))] H := hP
    have hD : va_D A [(a_this, .inr (0, [.ref a_this_values, .ref a_this_kinds, .int v_this_table, .double v_this_guard, .double v_this_ratio, .int v_this_bridging, .int v_this_length, .int (0 : Int32), .double v_this_guessError, .double v_this_guessValue])), (a_this_values, .inl (k 1, 256, aD v_this_values)), (a_this_kinds, .inl (k 2, 256, aI v_this_kinds))] := hD
    refine lv_aload_n hx hb dX1_seekGuess_21 rfl (lv_at hl 2 rfl) ?_
    refine lv_dconst0 hx hb dX1_seekGuess_22 ?_
    refine va_put (D := D) (ci := 0) (v := .double FP.dconst0) (ty := .double) (C := RX1) (T := TX1) (N := 10) hx hb hts hinX1_X1_seekGuess tyX1 tyX1_ok nmX1 hown hK hP hD hS 0 rfl rfl 8 (by decide) (hts (.fieldLink RX1 40 "LimitTables$Grid" "guessError" "D") (by decide +kernel)) (fun _ h9 => h9) rfl (by decide +kernel) rfl rfl (Nat.le_of_ble_eq_true rfl) dX1_seekGuess_23 (fun H locs hP hD hS => ?_)
    have hP : va_P D vwCl [(a_this, .inr (0, [.ref a_this_values, .ref a_this_kinds, .int v_this_table, .double v_this_guard, .double v_this_ratio, .int v_this_bridging, .int v_this_length, .int (0 : Int32), .double FP.dconst0, .double v_this_guessValue])), (a_this_values, .inl (k 1, 256, aD v_this_values)), (a_this_kinds, .inl (k 2, 256, aI v_this_kinds))] H := hP
    have hD : va_D A [(a_this, .inr (0, [.ref a_this_values, .ref a_this_kinds, .int v_this_table, .double v_this_guard, .double v_this_ratio, .int v_this_bridging, .int v_this_length, .int (0 : Int32), .double FP.dconst0, .double v_this_guessValue])), (a_this_values, .inl (k 1, 256, aD v_this_values)), (a_this_kinds, .inl (k 2, 256, aI v_this_kinds))] := hD
    refine lv_aload_n hx hb dX1_seekGuess_26 rfl (lv_at hl 2 rfl) ?_
    refine lv_iload_n hx hb dX1_seekGuess_27 rfl (lv_at hl 3 rfl) ?_
    refine lv_if_le (tgt := 42) hx hb dX1_seekGuess_28 (by decide) (fun c2 => ?_) (fun c2 => ?_)
    · skip
      have hf := if_t c2 hf
      refine lv_dconst0 hx hb dX1_seekGuess_42 ?_
      refine va_put (D := D) (ci := 0) (v := .double FP.dconst0) (ty := .double) (C := RX1) (T := TX1) (N := 10) hx hb hts hinX1_X1_seekGuess tyX1 tyX1_ok nmX1 hown hK hP hD hS 0 rfl rfl 9 (by decide) (hts (.fieldLink RX1 43 "LimitTables$Grid" "guessValue" "D") (by decide +kernel)) (fun _ h9 => h9) rfl (by decide +kernel) rfl rfl (Nat.le_of_ble_eq_true rfl) dX1_seekGuess_43 (fun H locs hP hD hS => ?_)
      have hP : va_P D vwCl [(a_this, .inr (0, [.ref a_this_values, .ref a_this_kinds, .int v_this_table, .double v_this_guard, .double v_this_ratio, .int v_this_bridging, .int v_this_length, .int (0 : Int32), .double FP.dconst0, .double FP.dconst0])), (a_this_values, .inl (k 1, 256, aD v_this_values)), (a_this_kinds, .inl (k 2, 256, aI v_this_kinds))] H := hP
      have hD : va_D A [(a_this, .inr (0, [.ref a_this_values, .ref a_this_kinds, .int v_this_table, .double v_this_guard, .double v_this_ratio, .int v_this_bridging, .int v_this_length, .int (0 : Int32), .double FP.dconst0, .double FP.dconst0])), (a_this_values, .inl (k 1, 256, aD v_this_values)), (a_this_kinds, .inl (k 2, 256, aI v_this_kinds))] := hD
      refine lv_iload_n hx hb dX1_seekGuess_46 rfl (lv_at hl 1 rfl) ?_
      refine lv_istore (lv' := [(4, .int (1 : Int32)), (3, .int (0 : Int32)), (2, .int (1 : Int32)), (0, .ref a_this), (1, .int p1)]) hx hb dX1_seekGuess_47 hl (by decide) rfl (fun ls hl => ?_)
      obtain ⟨x3, hx3, hf⟩ := bind_s hf
      have X160 : ∀ (H : Heap) (locs : List Loc) (ls : Array Slot), va_P D vwCl [(a_this, .inr (0, [.ref a_this_values, .ref a_this_kinds, .int v_this_table, .double v_this_guard, .double v_this_ratio, .int v_this_bridging, .int v_this_length, .int x3.2.1, .double x3.2.2.1, .double x3.2.2.2])), (a_this_values, .inl (k 1, 256, aD v_this_values)), (a_this_kinds, .inl (k 2, 256, aI v_this_kinds))] H → va_D A [(a_this, .inr (0, [.ref a_this_values, .ref a_this_kinds, .int v_this_table, .double v_this_guard, .double v_this_ratio, .int v_this_bridging, .int v_this_length, .int x3.2.1, .double x3.2.2.1, .double x3.2.2.2])), (a_this_values, .inl (k 1, 256, aD v_this_values)), (a_this_kinds, .inl (k 2, 256, aI v_this_kinds))] → va_S A s.heap H locs → lv_has ls 11 [(3, .int x3.1)] → W p l e (headSpec wsX1_seekGuess rm_X1_seekGuess).room s m ([.ref a_this, .int p1] : List Value).toArray below meth c H locs 0 0 Q (F0 m 160 ls []) := by
        intro H locs ls hP hD hS hl
        refine lv_iload_n hx hb dX1_seekGuess_160 rfl (lv_at hl 0 rfl) ?_
        obtain ⟨g4, hf⟩ := gD_h hf
        have ho := Option.some.inj hf
        subst ho
        rw [hQ]
        exact W.zret (v := x3.1) (ty := .boolean) hx hb hr (isB_n g4) (fun t ht hW => ⟨⟨x3.1, (), rfl, rfl, by rw [ht]; exact hP.sub (ws' := [(a_this, .inr (0, [.ref a_this_values, .ref a_this_kinds, .int v_this_table, .double v_this_guard, .double v_this_ratio, .int v_this_bridging, .int v_this_length, .int x3.2.1, .double x3.2.2.1, .double x3.2.2.2])), (a_this_values, .inl (k 1, 256, aD v_this_values)), (a_this_kinds, .inl (k 2, 256, aI v_this_kinds))]) [0, 1, 2] rfl, va_K.moved hW.alike hK, hD.sub (ws' := [(a_this, .inr (0, [.ref a_this_values, .ref a_this_kinds, .int v_this_table, .double v_this_guard, .double v_this_ratio, .int v_this_bridging, .int v_this_length, .int x3.2.1, .double x3.2.2.1, .double x3.2.2.2])), (a_this_values, .inl (k 1, 256, aD v_this_values)), (a_this_kinds, .inl (k 2, 256, aI v_this_kinds))]) [0, 1, 2] (by decide) rfl⟩, hS.F ht⟩) hS.2.2 dX1_seekGuess_161
      have L49 : ∀ (n49 : Nat) (x49_2 : Int32) (x49_3 : Int32) (x49_4 : Int32) (w49_this_guessColumn : Int32) (w49_this_guessError : UInt64) (w49_this_guessValue : UInt64) (H : Heap) (locs : List Loc) (ls : Array Slot), va_P D vwCl [(a_this, .inr (0, [.ref a_this_values, .ref a_this_kinds, .int v_this_table, .double v_this_guard, .double v_this_ratio, .int v_this_bridging, .int v_this_length, .int w49_this_guessColumn, .double w49_this_guessError, .double w49_this_guessValue])), (a_this_values, .inl (k 1, 256, aD v_this_values)), (a_this_kinds, .inl (k 2, 256, aI v_this_kinds))] H → va_D A [(a_this, .inr (0, [.ref a_this_values, .ref a_this_kinds, .int v_this_table, .double v_this_guard, .double v_this_ratio, .int v_this_bridging, .int v_this_length, .int w49_this_guessColumn, .double w49_this_guessError, .double w49_this_guessValue])), (a_this_values, .inl (k 1, 256, aD v_this_values)), (a_this_kinds, .inl (k 2, 256, aI v_this_kinds))] → va_S A s.heap H locs → lv_has ls 11 [(0, .ref a_this), (1, .int p1), (2, .int x49_2), (3, .int x49_3), (4, .int x49_4)] → p_X1_seekGuess_L49 v_this_values v_this_kinds v_this_table p1 n49 x49_2 x49_3 x49_4 w49_this_guessColumn w49_this_guessError w49_this_guessValue = some x3 → W p l e (headSpec wsX1_seekGuess rm_X1_seekGuess).room s m ([.ref a_this, .int p1] : List Value).toArray below meth c H locs 0 0 Q (F0 m 49 ls []) := by
        intro n49
        induction n49 with
        | zero =>
          intro x49_2 x49_3 x49_4 w49_this_guessColumn w49_this_guessError w49_this_guessValue H locs ls hP hD hS hl hx3
          exact absurd hx3 (by simp [p_X1_seekGuess_L49])
        | succ n49 ih49 =>
          intro x49_2 x49_3 x49_4 w49_this_guessColumn w49_this_guessError w49_this_guessValue H locs ls hP hD hS hl hx3
          rw [p_X1_seekGuess_L49] at hx3
          refine lv_iload hx hb dX1_seekGuess_49 (lv_at hl 4 rfl) ?_
          refine lv_bipush (v := 16) hx hb dX1_seekGuess_51 (by decide) ?_
          refine lv_icmp_ge (tgt := 160) hx hb dX1_seekGuess_53 (by decide) (fun c1001 => ?_) (fun c1001 => ?_)
          · skip
            have hx3 := if_t c1001 hx3
            have ho := Option.some.inj hx3
            subst ho
            exact X160 H locs ls hP hD hS (lv_sub hl [3] rfl)
          · skip
            have hx3 := if_f c1001 hx3
            refine lv_aload_n hx hb dX1_seekGuess_56 rfl (lv_at hl 0 rfl) ?_
            refine lv_iload hx hb dX1_seekGuess_57 (lv_at hl 4 rfl) ?_
            refine lv_iload_n hx hb dX1_seekGuess_59 rfl (lv_at hl 1 rfl) ?_
            obtain ⟨x1002, hx1002, hx3⟩ := bind_s hx3
            refine cc_i (r := x1002) (wc := [(a_this, .inr (0, [.ref a_this_values, .ref a_this_kinds, .int v_this_table, .double v_this_guard, .double v_this_ratio, .int v_this_bridging, .int v_this_length, .int w49_this_guessColumn, .double w49_this_guessError, .double w49_this_guessValue])), (a_this_kinds, .inl (k 2, 256, aI v_this_kinds))]) (wr := [(a_this_values, .inl (k 1, 256, aD v_this_values))]) (w1 := [(a_this, .inr (0, [.ref a_this_values, .ref a_this_kinds, .int v_this_table, .double v_this_guard, .double v_this_ratio, .int v_this_bridging, .int v_this_length, .int w49_this_guessColumn, .double w49_this_guessError, .double w49_this_guessValue])), (a_this_kinds, .inl (k 2, 256, aI v_this_kinds))]) (va_runV (As := [.int x49_4, .int p1]) (rest := []) ⟨hx, hb, hml, hown, hts⟩ (mt_X1_endOf l D k a_this a_this_values a_this_kinds _ v_this_kinds v_this_table v_this_guard v_this_ratio v_this_bridging v_this_length w49_this_guessColumn w49_this_guessError w49_this_guessValue x49_4 p1 x1002 hx1002) (cwV 2 hts gX1_seekGuess_X1_endOf rfl rfl rfl (by decide +kernel) ⟨(Nat.le_of_ble_eq_true rfl), (Nat.le_of_ble_eq_true rfl)⟩) (cc_pv (wc := [(a_this, .inr (0, [.ref a_this_values, .ref a_this_kinds, .int v_this_table, .double v_this_guard, .double v_this_ratio, .int v_this_bridging, .int v_this_length, .int w49_this_guessColumn, .double w49_this_guessError, .double w49_this_guessValue])), (a_this_kinds, .inl (k 2, 256, aI v_this_kinds))]) hK hP hD [0, 2] (by decide) rfl rfl 0 0 rfl rfl rfl) rfl rfl hl.1 rfl (lv_room (Nat.le_of_ble_eq_true rfl)) dX1_seekGuess_60 ⟨Nat.zero_le _, Nat.zero_le _⟩) hP hD hS hA [0, 2] [1] rfl rfl (by decide) (by decide) (fun H locs hP hD hS => ?_)
            have hP : va_P D vwCl [(a_this_values, .inl (k 1, 256, aD v_this_values)), (a_this, .inr (0, [.ref a_this_values, .ref a_this_kinds, .int v_this_table, .double v_this_guard, .double v_this_ratio, .int v_this_bridging, .int v_this_length, .int w49_this_guessColumn, .double w49_this_guessError, .double w49_this_guessValue])), (a_this_kinds, .inl (k 2, 256, aI v_this_kinds))] H := hP
            have hD : va_D A [(a_this_values, .inl (k 1, 256, aD v_this_values)), (a_this, .inr (0, [.ref a_this_values, .ref a_this_kinds, .int v_this_table, .double v_this_guard, .double v_this_ratio, .int v_this_bridging, .int v_this_length, .int w49_this_guessColumn, .double w49_this_guessError, .double w49_this_guessValue])), (a_this_kinds, .inl (k 2, 256, aI v_this_kinds))] := hD
            refine lv_istore (lv' := [(5, .int x1002), (0, .ref a_this), (1, .int p1), (2, .int x49_2), (3, .int x49_3), (4, .int x49_4)]) hx hb dX1_seekGuess_63 hl (by decide) rfl (fun ls hl => ?_)
            refine lv_aload_n hx hb dX1_seekGuess_65 rfl (lv_at hl 1 rfl) ?_
            refine lv_iload hx hb dX1_seekGuess_66 (lv_at hl 5 rfl) ?_
            refine lv_iload_n hx hb dX1_seekGuess_68 rfl (lv_at hl 3 rfl) ?_
            refine lv_isub hx hb dX1_seekGuess_69 ?_
            refine lv_iload_n hx hb dX1_seekGuess_70 rfl (lv_at hl 2 rfl) ?_
            obtain ⟨x1003, hx1003, hx3⟩ := bind_s hx3
            refine cc_i (r := x1003) (wc := [(a_this, .inr (0, [.ref a_this_values, .ref a_this_kinds, .int v_this_table, .double v_this_guard, .double v_this_ratio, .int v_this_bridging, .int v_this_length, .int w49_this_guessColumn, .double w49_this_guessError, .double w49_this_guessValue])), (a_this_kinds, .inl (k 2, 256, aI v_this_kinds))]) (wr := [(a_this_values, .inl (k 1, 256, aD v_this_values))]) (w1 := [(a_this, .inr (0, [.ref a_this_values, .ref a_this_kinds, .int v_this_table, .double v_this_guard, .double v_this_ratio, .int v_this_bridging, .int v_this_length, .int w49_this_guessColumn, .double w49_this_guessError, .double w49_this_guessValue])), (a_this_kinds, .inl (k 2, 256, aI v_this_kinds))]) (va_runV (As := [.int (x49_4 - x49_2), .int p1]) (rest := []) ⟨hx, hb, hml, hown, hts⟩ (mt_X1_endOf l D k a_this a_this_values a_this_kinds _ v_this_kinds v_this_table v_this_guard v_this_ratio v_this_bridging v_this_length w49_this_guessColumn w49_this_guessError w49_this_guessValue (x49_4 - x49_2) p1 x1003 hx1003) (cwV 2 hts gX1_seekGuess_X1_endOf rfl rfl rfl (by decide +kernel) ⟨(Nat.le_of_ble_eq_true rfl), (Nat.le_of_ble_eq_true rfl)⟩) (cc_pv (wc := [(a_this, .inr (0, [.ref a_this_values, .ref a_this_kinds, .int v_this_table, .double v_this_guard, .double v_this_ratio, .int v_this_bridging, .int v_this_length, .int w49_this_guessColumn, .double w49_this_guessError, .double w49_this_guessValue])), (a_this_kinds, .inl (k 2, 256, aI v_this_kinds))]) hK hP hD [1, 2] (by decide) rfl rfl 0 1 rfl rfl rfl) rfl rfl hl.1 rfl (lv_room (Nat.le_of_ble_eq_true rfl)) dX1_seekGuess_71 ⟨Nat.zero_le _, Nat.zero_le _⟩) hP hD hS hA [1, 2] [0] rfl rfl (by decide) (by decide) (fun H locs hP hD hS => ?_)
            have hP : va_P D vwCl [(a_this_values, .inl (k 1, 256, aD v_this_values)), (a_this, .inr (0, [.ref a_this_values, .ref a_this_kinds, .int v_this_table, .double v_this_guard, .double v_this_ratio, .int v_this_bridging, .int v_this_length, .int w49_this_guessColumn, .double w49_this_guessError, .double w49_this_guessValue])), (a_this_kinds, .inl (k 2, 256, aI v_this_kinds))] H := hP
            have hD : va_D A [(a_this_values, .inl (k 1, 256, aD v_this_values)), (a_this, .inr (0, [.ref a_this_values, .ref a_this_kinds, .int v_this_table, .double v_this_guard, .double v_this_ratio, .int v_this_bridging, .int v_this_length, .int w49_this_guessColumn, .double w49_this_guessError, .double w49_this_guessValue])), (a_this_kinds, .inl (k 2, 256, aI v_this_kinds))] := hD
            refine lv_istore (lv' := [(6, .int x1003), (5, .int x1002), (0, .ref a_this), (1, .int p1), (2, .int x49_2), (3, .int x49_3), (4, .int x49_4)]) hx hb dX1_seekGuess_74 hl (by decide) rfl (fun ls hl => ?_)
            refine lv_iload hx hb dX1_seekGuess_76 (lv_at hl 1 rfl) ?_
            refine lv_if_lt (tgt := 151) hx hb dX1_seekGuess_78 (by decide) (fun c1004 => ?_) (fun c1004 => ?_)
            · skip
              have hx3 := if_t c1004 hx3
              refine lv_iload hx hb dX1_seekGuess_151 (lv_at hl 6 rfl) ?_
              refine lv_iload_n hx hb dX1_seekGuess_153 rfl (lv_at hl 4 rfl) ?_
              refine lv_iadd hx hb dX1_seekGuess_154 ?_
              refine lv_istore (lv' := [(4, .int (x49_4 + x49_2)), (6, .int x1003), (5, .int x1002), (0, .ref a_this), (1, .int p1), (2, .int x49_2), (3, .int x49_3)]) hx hb dX1_seekGuess_155 hl (by decide) rfl (fun ls hl => ?_)
              refine lv_goto (tgt := 49) hx hb dX1_seekGuess_157 (by decide) ?_
              have hP := hP.sub (ws' := [(a_this, .inr (0, [.ref a_this_values, .ref a_this_kinds, .int v_this_table, .double v_this_guard, .double v_this_ratio, .int v_this_bridging, .int v_this_length, .int w49_this_guessColumn, .double w49_this_guessError, .double w49_this_guessValue])), (a_this_values, .inl (k 1, 256, aD v_this_values)), (a_this_kinds, .inl (k 2, 256, aI v_this_kinds))]) [1, 0, 2] rfl
              have hD := hD.sub (ws' := [(a_this, .inr (0, [.ref a_this_values, .ref a_this_kinds, .int v_this_table, .double v_this_guard, .double v_this_ratio, .int v_this_bridging, .int v_this_length, .int w49_this_guessColumn, .double w49_this_guessError, .double w49_this_guessValue])), (a_this_values, .inl (k 1, 256, aD v_this_values)), (a_this_kinds, .inl (k 2, 256, aI v_this_kinds))]) [1, 0, 2] (by decide) rfl
              exact ih49 x49_2 x49_3 (x49_4 + x49_2) w49_this_guessColumn w49_this_guessError w49_this_guessValue H locs ls hP hD hS (lv_sub hl [3, 4, 5, 6, 0] rfl) hx3
            · skip
              have hx3 := if_f c1004 hx3
              refine lv_iload hx hb dX1_seekGuess_81 (lv_at hl 0 rfl) ?_
              refine lv_if_ge (tgt := 89) hx hb dX1_seekGuess_83 (by decide) (fun c1005 => ?_) (fun c1005 => ?_)
              · skip
                have hx3 := if_t c1005 hx3
                refine lv_aload_n hx hb dX1_seekGuess_89 rfl (lv_at hl 2 rfl) ?_
                refine lv_iload hx hb dX1_seekGuess_90 (lv_at hl 6 rfl) ?_
                refine lv_iload hx hb dX1_seekGuess_92 (lv_at hl 1 rfl) ?_
                obtain ⟨x1006, hx1006, hx3⟩ := bind_s hx3
                refine cc_d (r := x1006) (wc := [(a_this, .inr (0, [.ref a_this_values, .ref a_this_kinds, .int v_this_table, .double v_this_guard, .double v_this_ratio, .int v_this_bridging, .int v_this_length, .int w49_this_guessColumn, .double w49_this_guessError, .double w49_this_guessValue])), (a_this_values, .inl (k 1, 256, aD v_this_values))]) (wr := [(a_this_kinds, .inl (k 2, 256, aI v_this_kinds))]) (w1 := [(a_this, .inr (0, [.ref a_this_values, .ref a_this_kinds, .int v_this_table, .double v_this_guard, .double v_this_ratio, .int v_this_bridging, .int v_this_length, .int w49_this_guessColumn, .double w49_this_guessError, .double w49_this_guessValue])), (a_this_values, .inl (k 1, 256, aD v_this_values))]) (va_runV (As := [.int x49_4, .int x1002]) (rest := []) ⟨hx, hb, hml, hown, hts⟩ (mt_X1_valueAt l D k a_this a_this_values a_this_kinds _ v_this_values v_this_table v_this_guard v_this_ratio v_this_bridging v_this_length w49_this_guessColumn w49_this_guessError w49_this_guessValue x49_4 x1002 x1006 hx1006) (cwV 2 hts gX1_seekGuess_X1_valueAt rfl rfl rfl (by decide +kernel) ⟨(Nat.le_of_ble_eq_true rfl), (Nat.le_of_ble_eq_true rfl)⟩) (cc_pv (wc := [(a_this, .inr (0, [.ref a_this_values, .ref a_this_kinds, .int v_this_table, .double v_this_guard, .double v_this_ratio, .int v_this_bridging, .int v_this_length, .int w49_this_guessColumn, .double w49_this_guessError, .double w49_this_guessValue])), (a_this_values, .inl (k 1, 256, aD v_this_values))]) hK hP hD [1, 0] (by decide) rfl rfl 0 1 rfl rfl rfl) rfl rfl hl.1 rfl (lv_room (Nat.le_of_ble_eq_true rfl)) dX1_seekGuess_94 ⟨Nat.zero_le _, Nat.zero_le _⟩) hP hD hS hA [1, 0] [2] rfl rfl (by decide) (by decide) (fun H locs hP hD hS => ?_)
                have hP : va_P D vwCl [(a_this_kinds, .inl (k 2, 256, aI v_this_kinds)), (a_this, .inr (0, [.ref a_this_values, .ref a_this_kinds, .int v_this_table, .double v_this_guard, .double v_this_ratio, .int v_this_bridging, .int v_this_length, .int w49_this_guessColumn, .double w49_this_guessError, .double w49_this_guessValue])), (a_this_values, .inl (k 1, 256, aD v_this_values))] H := hP
                have hD : va_D A [(a_this_kinds, .inl (k 2, 256, aI v_this_kinds)), (a_this, .inr (0, [.ref a_this_values, .ref a_this_kinds, .int v_this_table, .double v_this_guard, .double v_this_ratio, .int v_this_bridging, .int v_this_length, .int w49_this_guessColumn, .double w49_this_guessError, .double w49_this_guessValue])), (a_this_values, .inl (k 1, 256, aD v_this_values))] := hD
                refine lv_dstore (lv' := [(7, .double x1006), (6, .int x1003), (5, .int x1002), (0, .ref a_this), (1, .int p1), (2, .int x49_2), (3, .int x49_3), (4, .int x49_4)]) hx hb dX1_seekGuess_97 hl (by decide) rfl (fun ls hl => ?_)
                refine lv_dload hx hb dX1_seekGuess_99 (lv_at hl 0 rfl) ?_
                refine lv_aload_n hx hb dX1_seekGuess_101 rfl (lv_at hl 3 rfl) ?_
                refine lv_iload hx hb dX1_seekGuess_102 (lv_at hl 7 rfl) ?_
                refine lv_iload_n hx hb dX1_seekGuess_104 rfl (lv_at hl 5 rfl) ?_
                refine lv_isub hx hb dX1_seekGuess_105 ?_
                refine lv_iload hx hb dX1_seekGuess_106 (lv_at hl 1 rfl) ?_
                obtain ⟨x1007, hx1007, hx3⟩ := bind_s hx3
                refine cc_d (r := x1007) (wc := [(a_this, .inr (0, [.ref a_this_values, .ref a_this_kinds, .int v_this_table, .double v_this_guard, .double v_this_ratio, .int v_this_bridging, .int v_this_length, .int w49_this_guessColumn, .double w49_this_guessError, .double w49_this_guessValue])), (a_this_values, .inl (k 1, 256, aD v_this_values))]) (wr := [(a_this_kinds, .inl (k 2, 256, aI v_this_kinds))]) (w1 := [(a_this, .inr (0, [.ref a_this_values, .ref a_this_kinds, .int v_this_table, .double v_this_guard, .double v_this_ratio, .int v_this_bridging, .int v_this_length, .int w49_this_guessColumn, .double w49_this_guessError, .double w49_this_guessValue])), (a_this_values, .inl (k 1, 256, aD v_this_values))]) (va_runV (As := [.int (x49_4 - x49_2), .int x1003]) (rest := [.double x1006]) ⟨hx, hb, hml, hown, hts⟩ (mt_X1_valueAt l D k a_this a_this_values a_this_kinds _ v_this_values v_this_table v_this_guard v_this_ratio v_this_bridging v_this_length w49_this_guessColumn w49_this_guessError w49_this_guessValue (x49_4 - x49_2) x1003 x1007 hx1007) (cwV 2 hts gX1_seekGuess_X1_valueAt rfl rfl rfl (by decide +kernel) ⟨(Nat.le_of_ble_eq_true rfl), (Nat.le_of_ble_eq_true rfl)⟩) (cc_pv (wc := [(a_this, .inr (0, [.ref a_this_values, .ref a_this_kinds, .int v_this_table, .double v_this_guard, .double v_this_ratio, .int v_this_bridging, .int v_this_length, .int w49_this_guessColumn, .double w49_this_guessError, .double w49_this_guessValue])), (a_this_values, .inl (k 1, 256, aD v_this_values))]) hK hP hD [1, 2] (by decide) rfl rfl 0 1 rfl rfl rfl) rfl rfl hl.1 rfl (lv_room (Nat.le_of_ble_eq_true rfl)) dX1_seekGuess_108 ⟨Nat.zero_le _, Nat.zero_le _⟩) hP hD hS hA [1, 2] [0] rfl rfl (by decide) (by decide) (fun H locs hP hD hS => ?_)
                have hP : va_P D vwCl [(a_this_kinds, .inl (k 2, 256, aI v_this_kinds)), (a_this, .inr (0, [.ref a_this_values, .ref a_this_kinds, .int v_this_table, .double v_this_guard, .double v_this_ratio, .int v_this_bridging, .int v_this_length, .int w49_this_guessColumn, .double w49_this_guessError, .double w49_this_guessValue])), (a_this_values, .inl (k 1, 256, aD v_this_values))] H := hP
                have hD : va_D A [(a_this_kinds, .inl (k 2, 256, aI v_this_kinds)), (a_this, .inr (0, [.ref a_this_values, .ref a_this_kinds, .int v_this_table, .double v_this_guard, .double v_this_ratio, .int v_this_bridging, .int v_this_length, .int w49_this_guessColumn, .double w49_this_guessError, .double w49_this_guessValue])), (a_this_values, .inl (k 1, 256, aD v_this_values))] := hD
                refine lv_dsub hx hb dX1_seekGuess_111 (dop_h hx3) ?_
                refine lv_topd (fun d1008 ed1008 => ?_)
                have hx3 := dop_at ed1008 hx3
                obtain ⟨x1009, hx1009, hx3⟩ := bind_s hx3
                refine cc_d (r := x1009) (wc := []) (wr := [(a_this_kinds, .inl (k 2, 256, aI v_this_kinds)), (a_this, .inr (0, [.ref a_this_values, .ref a_this_kinds, .int v_this_table, .double v_this_guard, .double v_this_ratio, .int v_this_bridging, .int v_this_length, .int w49_this_guessColumn, .double w49_this_guessError, .double w49_this_guessValue])), (a_this_values, .inl (k 1, 256, aD v_this_values))]) (w1 := []) (va_runS (As := [.double d1008]) (rest := []) ⟨hx, hb, hml, hown, hts⟩ (mt_X3_sizeOf l D k  _  d1008 x1009 hx1009) (va_cwS 1 hts gX1_seekGuess_X3_sizeOf rfl rfl rfl (by decide +kernel) ⟨(Nat.le_of_ble_eq_true rfl), (Nat.le_of_ble_eq_true rfl)⟩) (cc_ps (wc := []) hK hP hD [] (by decide) rfl rfl) rfl rfl hl.1 rfl (lv_room (Nat.le_of_ble_eq_true rfl)) dX1_seekGuess_112 ⟨Nat.zero_le _, Nat.zero_le _⟩) hP hD hS hA [] [0, 1, 2] rfl rfl (by decide) (by decide) (fun H locs hP hD hS => ?_)
                have hP : va_P D vwCl [(a_this_kinds, .inl (k 2, 256, aI v_this_kinds)), (a_this, .inr (0, [.ref a_this_values, .ref a_this_kinds, .int v_this_table, .double v_this_guard, .double v_this_ratio, .int v_this_bridging, .int v_this_length, .int w49_this_guessColumn, .double w49_this_guessError, .double w49_this_guessValue])), (a_this_values, .inl (k 1, 256, aD v_this_values))] H := hP
                have hD : va_D A [(a_this_kinds, .inl (k 2, 256, aI v_this_kinds)), (a_this, .inr (0, [.ref a_this_values, .ref a_this_kinds, .int v_this_table, .double v_this_guard, .double v_this_ratio, .int v_this_bridging, .int v_this_length, .int w49_this_guessColumn, .double w49_this_guessError, .double w49_this_guessValue])), (a_this_values, .inl (k 1, 256, aD v_this_values))] := hD
                refine lv_dstore (lv' := [(9, .double x1009), (7, .double x1006), (6, .int x1003), (5, .int x1002), (0, .ref a_this), (1, .int p1), (2, .int x49_2), (3, .int x49_3), (4, .int x49_4)]) hx hb dX1_seekGuess_115 hl (by decide) rfl (fun ls hl => ?_)
                refine lv_iload_n hx hb dX1_seekGuess_117 rfl (lv_at hl 7 rfl) ?_
                refine lv_if_eq (tgt := 131) hx hb dX1_seekGuess_118 (by decide) (fun c1010 => ?_) (fun c1010 => ?_)
                · skip
                  have hx3 := if_t c1010 hx3
                  refine lv_iconst (v := 1) hx hb dX1_seekGuess_131 (by decide) ?_
                  refine lv_istore_n (lv' := [(3, .int (1 : Int32)), (9, .double x1009), (7, .double x1006), (6, .int x1003), (5, .int x1002), (0, .ref a_this), (1, .int p1), (2, .int x49_2), (4, .int x49_4)]) hx hb dX1_seekGuess_132 rfl hl (by decide) rfl (fun ls hl => ?_)
                  refine lv_aload_n hx hb dX1_seekGuess_133 rfl (lv_at hl 5 rfl) ?_
                  refine lv_iload hx hb dX1_seekGuess_134 (lv_at hl 8 rfl) ?_
                  refine va_put (D := D) (ci := 0) (v := .int x49_4) (ty := .int) (C := RX1) (T := TX1) (N := 10) hx hb hts hinX1_X1_seekGuess tyX1 tyX1_ok nmX1 hown hK hP hD hS 1 rfl rfl 7 (by decide) (hts (.fieldLink RX1 37 "LimitTables$Grid" "guessColumn" "I") (by decide +kernel)) (fun _ h9 => h9) rfl (by decide +kernel) rfl rfl (Nat.le_of_ble_eq_true rfl) dX1_seekGuess_136 (fun H locs hP hD hS => ?_)
                  have hP : va_P D vwCl [(a_this_kinds, .inl (k 2, 256, aI v_this_kinds)), (a_this, .inr (0, [.ref a_this_values, .ref a_this_kinds, .int v_this_table, .double v_this_guard, .double v_this_ratio, .int v_this_bridging, .int v_this_length, .int x49_4, .double w49_this_guessError, .double w49_this_guessValue])), (a_this_values, .inl (k 1, 256, aD v_this_values))] H := hP
                  have hD : va_D A [(a_this_kinds, .inl (k 2, 256, aI v_this_kinds)), (a_this, .inr (0, [.ref a_this_values, .ref a_this_kinds, .int v_this_table, .double v_this_guard, .double v_this_ratio, .int v_this_bridging, .int v_this_length, .int x49_4, .double w49_this_guessError, .double w49_this_guessValue])), (a_this_values, .inl (k 1, 256, aD v_this_values))] := hD
                  refine lv_aload_n hx hb dX1_seekGuess_139 rfl (lv_at hl 5 rfl) ?_
                  refine lv_dload hx hb dX1_seekGuess_140 (lv_at hl 1 rfl) ?_
                  refine va_put (D := D) (ci := 0) (v := .double x1009) (ty := .double) (C := RX1) (T := TX1) (N := 10) hx hb hts hinX1_X1_seekGuess tyX1 tyX1_ok nmX1 hown hK hP hD hS 1 rfl rfl 8 (by decide) (hts (.fieldLink RX1 40 "LimitTables$Grid" "guessError" "D") (by decide +kernel)) (fun _ h9 => h9) rfl (by decide +kernel) rfl rfl (Nat.le_of_ble_eq_true rfl) dX1_seekGuess_142 (fun H locs hP hD hS => ?_)
                  have hP : va_P D vwCl [(a_this_kinds, .inl (k 2, 256, aI v_this_kinds)), (a_this, .inr (0, [.ref a_this_values, .ref a_this_kinds, .int v_this_table, .double v_this_guard, .double v_this_ratio, .int v_this_bridging, .int v_this_length, .int x49_4, .double x1009, .double w49_this_guessValue])), (a_this_values, .inl (k 1, 256, aD v_this_values))] H := hP
                  have hD : va_D A [(a_this_kinds, .inl (k 2, 256, aI v_this_kinds)), (a_this, .inr (0, [.ref a_this_values, .ref a_this_kinds, .int v_this_table, .double v_this_guard, .double v_this_ratio, .int v_this_bridging, .int v_this_length, .int x49_4, .double x1009, .double w49_this_guessValue])), (a_this_values, .inl (k 1, 256, aD v_this_values))] := hD
                  refine lv_aload_n hx hb dX1_seekGuess_145 rfl (lv_at hl 5 rfl) ?_
                  refine lv_dload hx hb dX1_seekGuess_146 (lv_at hl 2 rfl) ?_
                  refine va_put (D := D) (ci := 0) (v := .double x1006) (ty := .double) (C := RX1) (T := TX1) (N := 10) hx hb hts hinX1_X1_seekGuess tyX1 tyX1_ok nmX1 hown hK hP hD hS 1 rfl rfl 9 (by decide) (hts (.fieldLink RX1 43 "LimitTables$Grid" "guessValue" "D") (by decide +kernel)) (fun _ h9 => h9) rfl (by decide +kernel) rfl rfl (Nat.le_of_ble_eq_true rfl) dX1_seekGuess_148 (fun H locs hP hD hS => ?_)
                  have hP : va_P D vwCl [(a_this_kinds, .inl (k 2, 256, aI v_this_kinds)), (a_this, .inr (0, [.ref a_this_values, .ref a_this_kinds, .int v_this_table, .double v_this_guard, .double v_this_ratio, .int v_this_bridging, .int v_this_length, .int x49_4, .double x1009, .double x1006])), (a_this_values, .inl (k 1, 256, aD v_this_values))] H := hP
                  have hD : va_D A [(a_this_kinds, .inl (k 2, 256, aI v_this_kinds)), (a_this, .inr (0, [.ref a_this_values, .ref a_this_kinds, .int v_this_table, .double v_this_guard, .double v_this_ratio, .int v_this_bridging, .int v_this_length, .int x49_4, .double x1009, .double x1006])), (a_this_values, .inl (k 1, 256, aD v_this_values))] := hD
                  refine lv_iload hx hb dX1_seekGuess_151 (lv_at hl 8 rfl) ?_
                  refine lv_iload_n hx hb dX1_seekGuess_153 rfl (lv_at hl 7 rfl) ?_
                  refine lv_iadd hx hb dX1_seekGuess_154 ?_
                  refine lv_istore (lv' := [(4, .int (x49_4 + x49_2)), (3, .int (1 : Int32)), (9, .double x1009), (7, .double x1006), (6, .int x1003), (5, .int x1002), (0, .ref a_this), (1, .int p1), (2, .int x49_2)]) hx hb dX1_seekGuess_155 hl (by decide) rfl (fun ls hl => ?_)
                  refine lv_goto (tgt := 49) hx hb dX1_seekGuess_157 (by decide) ?_
                  have hP := hP.sub (ws' := [(a_this, .inr (0, [.ref a_this_values, .ref a_this_kinds, .int v_this_table, .double v_this_guard, .double v_this_ratio, .int v_this_bridging, .int v_this_length, .int x49_4, .double x1009, .double x1006])), (a_this_values, .inl (k 1, 256, aD v_this_values)), (a_this_kinds, .inl (k 2, 256, aI v_this_kinds))]) [1, 2, 0] rfl
                  have hD := hD.sub (ws' := [(a_this, .inr (0, [.ref a_this_values, .ref a_this_kinds, .int v_this_table, .double v_this_guard, .double v_this_ratio, .int v_this_bridging, .int v_this_length, .int x49_4, .double x1009, .double x1006])), (a_this_values, .inl (k 1, 256, aD v_this_values)), (a_this_kinds, .inl (k 2, 256, aI v_this_kinds))]) [1, 2, 0] (by decide) rfl
                  exact ih49 x49_2 (1 : Int32) (x49_4 + x49_2) x49_4 x1009 x1006 H locs ls hP hD hS (lv_sub hl [6, 7, 8, 1, 0] rfl) hx3
                · skip
                  have hx3 := if_f c1010 hx3
                  refine lv_dload hx hb dX1_seekGuess_121 (lv_at hl 0 rfl) ?_
                  refine lv_aload_n hx hb dX1_seekGuess_123 rfl (lv_at hl 4 rfl) ?_
                  refine va_get (D := D) (ci := 0) (v := .double w49_this_guessError) (C := RX1) (T := TX1) (N := 10) hx hb hts hinX1_X1_seekGuess hown hK hP 1 rfl rfl 8 (by decide) (hts (.fieldLink RX1 40 "LimitTables$Grid" "guessError" "D") (by decide +kernel)) (fun _ h9 => h9) rfl dX1_seekGuess_124 ?_
                  refine lv_dcmp hx hb dX1_seekGuess_127 ?_
                  refine lv_if_ge (tgt := 151) hx hb dX1_seekGuess_128 (by decide) (fun c1011 => ?_) (fun c1011 => ?_)
                  · skip
                    have hx3 := if_t c1011 hx3
                    refine lv_iload hx hb dX1_seekGuess_151 (lv_at hl 8 rfl) ?_
                    refine lv_iload_n hx hb dX1_seekGuess_153 rfl (lv_at hl 6 rfl) ?_
                    refine lv_iadd hx hb dX1_seekGuess_154 ?_
                    refine lv_istore (lv' := [(4, .int (x49_4 + x49_2)), (9, .double x1009), (7, .double x1006), (6, .int x1003), (5, .int x1002), (0, .ref a_this), (1, .int p1), (2, .int x49_2), (3, .int x49_3)]) hx hb dX1_seekGuess_155 hl (by decide) rfl (fun ls hl => ?_)
                    refine lv_goto (tgt := 49) hx hb dX1_seekGuess_157 (by decide) ?_
                    have hP := hP.sub (ws' := [(a_this, .inr (0, [.ref a_this_values, .ref a_this_kinds, .int v_this_table, .double v_this_guard, .double v_this_ratio, .int v_this_bridging, .int v_this_length, .int w49_this_guessColumn, .double w49_this_guessError, .double w49_this_guessValue])), (a_this_values, .inl (k 1, 256, aD v_this_values)), (a_this_kinds, .inl (k 2, 256, aI v_this_kinds))]) [1, 2, 0] rfl
                    have hD := hD.sub (ws' := [(a_this, .inr (0, [.ref a_this_values, .ref a_this_kinds, .int v_this_table, .double v_this_guard, .double v_this_ratio, .int v_this_bridging, .int v_this_length, .int w49_this_guessColumn, .double w49_this_guessError, .double w49_this_guessValue])), (a_this_values, .inl (k 1, 256, aD v_this_values)), (a_this_kinds, .inl (k 2, 256, aI v_this_kinds))]) [1, 2, 0] (by decide) rfl
                    exact ih49 x49_2 x49_3 (x49_4 + x49_2) w49_this_guessColumn w49_this_guessError w49_this_guessValue H locs ls hP hD hS (lv_sub hl [5, 6, 7, 8, 0] rfl) hx3
                  · skip
                    have hx3 := if_f c1011 hx3
                    refine lv_iconst (v := 1) hx hb dX1_seekGuess_131 (by decide) ?_
                    refine lv_istore_n (lv' := [(3, .int (1 : Int32)), (9, .double x1009), (7, .double x1006), (6, .int x1003), (5, .int x1002), (0, .ref a_this), (1, .int p1), (2, .int x49_2), (4, .int x49_4)]) hx hb dX1_seekGuess_132 rfl hl (by decide) rfl (fun ls hl => ?_)
                    refine lv_aload_n hx hb dX1_seekGuess_133 rfl (lv_at hl 5 rfl) ?_
                    refine lv_iload hx hb dX1_seekGuess_134 (lv_at hl 8 rfl) ?_
                    refine va_put (D := D) (ci := 0) (v := .int x49_4) (ty := .int) (C := RX1) (T := TX1) (N := 10) hx hb hts hinX1_X1_seekGuess tyX1 tyX1_ok nmX1 hown hK hP hD hS 1 rfl rfl 7 (by decide) (hts (.fieldLink RX1 37 "LimitTables$Grid" "guessColumn" "I") (by decide +kernel)) (fun _ h9 => h9) rfl (by decide +kernel) rfl rfl (Nat.le_of_ble_eq_true rfl) dX1_seekGuess_136 (fun H locs hP hD hS => ?_)
                    have hP : va_P D vwCl [(a_this_kinds, .inl (k 2, 256, aI v_this_kinds)), (a_this, .inr (0, [.ref a_this_values, .ref a_this_kinds, .int v_this_table, .double v_this_guard, .double v_this_ratio, .int v_this_bridging, .int v_this_length, .int x49_4, .double w49_this_guessError, .double w49_this_guessValue])), (a_this_values, .inl (k 1, 256, aD v_this_values))] H := hP
                    have hD : va_D A [(a_this_kinds, .inl (k 2, 256, aI v_this_kinds)), (a_this, .inr (0, [.ref a_this_values, .ref a_this_kinds, .int v_this_table, .double v_this_guard, .double v_this_ratio, .int v_this_bridging, .int v_this_length, .int x49_4, .double w49_this_guessError, .double w49_this_guessValue])), (a_this_values, .inl (k 1, 256, aD v_this_values))] := hD
                    refine lv_aload_n hx hb dX1_seekGuess_139 rfl (lv_at hl 5 rfl) ?_
                    refine lv_dload hx hb dX1_seekGuess_140 (lv_at hl 1 rfl) ?_
                    refine va_put (D := D) (ci := 0) (v := .double x1009) (ty := .double) (C := RX1) (T := TX1) (N := 10) hx hb hts hinX1_X1_seekGuess tyX1 tyX1_ok nmX1 hown hK hP hD hS 1 rfl rfl 8 (by decide) (hts (.fieldLink RX1 40 "LimitTables$Grid" "guessError" "D") (by decide +kernel)) (fun _ h9 => h9) rfl (by decide +kernel) rfl rfl (Nat.le_of_ble_eq_true rfl) dX1_seekGuess_142 (fun H locs hP hD hS => ?_)
                    have hP : va_P D vwCl [(a_this_kinds, .inl (k 2, 256, aI v_this_kinds)), (a_this, .inr (0, [.ref a_this_values, .ref a_this_kinds, .int v_this_table, .double v_this_guard, .double v_this_ratio, .int v_this_bridging, .int v_this_length, .int x49_4, .double x1009, .double w49_this_guessValue])), (a_this_values, .inl (k 1, 256, aD v_this_values))] H := hP
                    have hD : va_D A [(a_this_kinds, .inl (k 2, 256, aI v_this_kinds)), (a_this, .inr (0, [.ref a_this_values, .ref a_this_kinds, .int v_this_table, .double v_this_guard, .double v_this_ratio, .int v_this_bridging, .int v_this_length, .int x49_4, .double x1009, .double w49_this_guessValue])), (a_this_values, .inl (k 1, 256, aD v_this_values))] := hD
                    refine lv_aload_n hx hb dX1_seekGuess_145 rfl (lv_at hl 5 rfl) ?_
                    refine lv_dload hx hb dX1_seekGuess_146 (lv_at hl 2 rfl) ?_
                    refine va_put (D := D) (ci := 0) (v := .double x1006) (ty := .double) (C := RX1) (T := TX1) (N := 10) hx hb hts hinX1_X1_seekGuess tyX1 tyX1_ok nmX1 hown hK hP hD hS 1 rfl rfl 9 (by decide) (hts (.fieldLink RX1 43 "LimitTables$Grid" "guessValue" "D") (by decide +kernel)) (fun _ h9 => h9) rfl (by decide +kernel) rfl rfl (Nat.le_of_ble_eq_true rfl) dX1_seekGuess_148 (fun H locs hP hD hS => ?_)
                    have hP : va_P D vwCl [(a_this_kinds, .inl (k 2, 256, aI v_this_kinds)), (a_this, .inr (0, [.ref a_this_values, .ref a_this_kinds, .int v_this_table, .double v_this_guard, .double v_this_ratio, .int v_this_bridging, .int v_this_length, .int x49_4, .double x1009, .double x1006])), (a_this_values, .inl (k 1, 256, aD v_this_values))] H := hP
                    have hD : va_D A [(a_this_kinds, .inl (k 2, 256, aI v_this_kinds)), (a_this, .inr (0, [.ref a_this_values, .ref a_this_kinds, .int v_this_table, .double v_this_guard, .double v_this_ratio, .int v_this_bridging, .int v_this_length, .int x49_4, .double x1009, .double x1006])), (a_this_values, .inl (k 1, 256, aD v_this_values))] := hD
                    refine lv_iload hx hb dX1_seekGuess_151 (lv_at hl 8 rfl) ?_
                    refine lv_iload_n hx hb dX1_seekGuess_153 rfl (lv_at hl 7 rfl) ?_
                    refine lv_iadd hx hb dX1_seekGuess_154 ?_
                    refine lv_istore (lv' := [(4, .int (x49_4 + x49_2)), (3, .int (1 : Int32)), (9, .double x1009), (7, .double x1006), (6, .int x1003), (5, .int x1002), (0, .ref a_this), (1, .int p1), (2, .int x49_2)]) hx hb dX1_seekGuess_155 hl (by decide) rfl (fun ls hl => ?_)
                    refine lv_goto (tgt := 49) hx hb dX1_seekGuess_157 (by decide) ?_
                    have hP := hP.sub (ws' := [(a_this, .inr (0, [.ref a_this_values, .ref a_this_kinds, .int v_this_table, .double v_this_guard, .double v_this_ratio, .int v_this_bridging, .int v_this_length, .int x49_4, .double x1009, .double x1006])), (a_this_values, .inl (k 1, 256, aD v_this_values)), (a_this_kinds, .inl (k 2, 256, aI v_this_kinds))]) [1, 2, 0] rfl
                    have hD := hD.sub (ws' := [(a_this, .inr (0, [.ref a_this_values, .ref a_this_kinds, .int v_this_table, .double v_this_guard, .double v_this_ratio, .int v_this_bridging, .int v_this_length, .int x49_4, .double x1009, .double x1006])), (a_this_values, .inl (k 1, 256, aD v_this_values)), (a_this_kinds, .inl (k 2, 256, aI v_this_kinds))]) [1, 2, 0] (by decide) rfl
                    exact ih49 x49_2 (1 : Int32) (x49_4 + x49_2) x49_4 x1009 x1006 H locs ls hP hD hS (lv_sub hl [6, 7, 8, 1, 0] rfl) hx3
              · skip
                have hx3 := if_f c1005 hx3
                refine lv_goto (tgt := 151) hx hb dX1_seekGuess_86 (by decide) ?_
                refine lv_iload hx hb dX1_seekGuess_151 (lv_at hl 6 rfl) ?_
                refine lv_iload_n hx hb dX1_seekGuess_153 rfl (lv_at hl 4 rfl) ?_
                refine lv_iadd hx hb dX1_seekGuess_154 ?_
                refine lv_istore (lv' := [(4, .int (x49_4 + x49_2)), (6, .int x1003), (5, .int x1002), (0, .ref a_this), (1, .int p1), (2, .int x49_2), (3, .int x49_3)]) hx hb dX1_seekGuess_155 hl (by decide) rfl (fun ls hl => ?_)
                refine lv_goto (tgt := 49) hx hb dX1_seekGuess_157 (by decide) ?_
                have hP := hP.sub (ws' := [(a_this, .inr (0, [.ref a_this_values, .ref a_this_kinds, .int v_this_table, .double v_this_guard, .double v_this_ratio, .int v_this_bridging, .int v_this_length, .int w49_this_guessColumn, .double w49_this_guessError, .double w49_this_guessValue])), (a_this_values, .inl (k 1, 256, aD v_this_values)), (a_this_kinds, .inl (k 2, 256, aI v_this_kinds))]) [1, 0, 2] rfl
                have hD := hD.sub (ws' := [(a_this, .inr (0, [.ref a_this_values, .ref a_this_kinds, .int v_this_table, .double v_this_guard, .double v_this_ratio, .int v_this_bridging, .int v_this_length, .int w49_this_guessColumn, .double w49_this_guessError, .double w49_this_guessValue])), (a_this_values, .inl (k 1, 256, aD v_this_values)), (a_this_kinds, .inl (k 2, 256, aI v_this_kinds))]) [1, 0, 2] (by decide) rfl
                exact ih49 x49_2 x49_3 (x49_4 + x49_2) w49_this_guessColumn w49_this_guessError w49_this_guessValue H locs ls hP hD hS (lv_sub hl [3, 4, 5, 6, 0] rfl) hx3
      exact L49 300 (1 : Int32) (0 : Int32) (1 : Int32) (0 : Int32) FP.dconst0 FP.dconst0 H locs ls hP hD hS (lv_sub hl [3, 4, 2, 1, 0] rfl) hx3
    · skip
      have hf := if_f c2 hf
      refine lv_aload_n hx hb dX1_seekGuess_31 rfl (lv_at hl 2 rfl) ?_
      refine va_get (D := D) (ci := 0) (v := .ref a_this_values) (C := RX1) (T := TX1) (N := 10) hx hb hts hinX1_X1_seekGuess hown hK hP 0 rfl rfl 0 (by decide) (hts (.fieldLink RX1 9 "LimitTables$Grid" "values" "[D") (by decide +kernel)) (fun _ h9 => h9) rfl dX1_seekGuess_32 ?_
      refine lv_iload_n hx hb dX1_seekGuess_35 rfl (lv_at hl 3 rfl) ?_
      refine lv_iconst (v := 1) hx hb dX1_seekGuess_36 (by decide) ?_
      refine lv_isub hx hb dX1_seekGuess_37 ?_
      obtain ⟨g5, hf⟩ := gD_h hf
      refine va_dald hx hb hK hP 1 1 rfl rfl (inb_in g5) dX1_seekGuess_38 ?_
      refine lv_goto (tgt := 43) hx hb dX1_seekGuess_39 (by decide) ?_
      refine va_put (D := D) (ci := 0) (v := .double (v_this_values (p1 - (1 : Int32)).toNatClampNeg)) (ty := .double) (C := RX1) (T := TX1) (N := 10) hx hb hts hinX1_X1_seekGuess tyX1 tyX1_ok nmX1 hown hK hP hD hS 0 rfl rfl 9 (by decide) (hts (.fieldLink RX1 43 "LimitTables$Grid" "guessValue" "D") (by decide +kernel)) (fun _ h9 => h9) rfl (by decide +kernel) rfl rfl (Nat.le_of_ble_eq_true rfl) dX1_seekGuess_43 (fun H locs hP hD hS => ?_)
      have hP : va_P D vwCl [(a_this, .inr (0, [.ref a_this_values, .ref a_this_kinds, .int v_this_table, .double v_this_guard, .double v_this_ratio, .int v_this_bridging, .int v_this_length, .int (0 : Int32), .double FP.dconst0, .double (v_this_values (p1 - (1 : Int32)).toNatClampNeg)])), (a_this_values, .inl (k 1, 256, aD v_this_values)), (a_this_kinds, .inl (k 2, 256, aI v_this_kinds))] H := hP
      have hD : va_D A [(a_this, .inr (0, [.ref a_this_values, .ref a_this_kinds, .int v_this_table, .double v_this_guard, .double v_this_ratio, .int v_this_bridging, .int v_this_length, .int (0 : Int32), .double FP.dconst0, .double (v_this_values (p1 - (1 : Int32)).toNatClampNeg)])), (a_this_values, .inl (k 1, 256, aD v_this_values)), (a_this_kinds, .inl (k 2, 256, aI v_this_kinds))] := hD
      refine lv_iload_n hx hb dX1_seekGuess_46 rfl (lv_at hl 1 rfl) ?_
      refine lv_istore (lv' := [(4, .int (1 : Int32)), (3, .int (0 : Int32)), (2, .int (1 : Int32)), (0, .ref a_this), (1, .int p1)]) hx hb dX1_seekGuess_47 hl (by decide) rfl (fun ls hl => ?_)
      obtain ⟨x6, hx6, hf⟩ := bind_s hf
      have X160 : ∀ (H : Heap) (locs : List Loc) (ls : Array Slot), va_P D vwCl [(a_this, .inr (0, [.ref a_this_values, .ref a_this_kinds, .int v_this_table, .double v_this_guard, .double v_this_ratio, .int v_this_bridging, .int v_this_length, .int x6.2.1, .double x6.2.2.1, .double x6.2.2.2])), (a_this_values, .inl (k 1, 256, aD v_this_values)), (a_this_kinds, .inl (k 2, 256, aI v_this_kinds))] H → va_D A [(a_this, .inr (0, [.ref a_this_values, .ref a_this_kinds, .int v_this_table, .double v_this_guard, .double v_this_ratio, .int v_this_bridging, .int v_this_length, .int x6.2.1, .double x6.2.2.1, .double x6.2.2.2])), (a_this_values, .inl (k 1, 256, aD v_this_values)), (a_this_kinds, .inl (k 2, 256, aI v_this_kinds))] → va_S A s.heap H locs → lv_has ls 11 [(3, .int x6.1)] → W p l e (headSpec wsX1_seekGuess rm_X1_seekGuess).room s m ([.ref a_this, .int p1] : List Value).toArray below meth c H locs 0 0 Q (F0 m 160 ls []) := by
        intro H locs ls hP hD hS hl
        refine lv_iload_n hx hb dX1_seekGuess_160 rfl (lv_at hl 0 rfl) ?_
        obtain ⟨g7, hf⟩ := gD_h hf
        have ho := Option.some.inj hf
        subst ho
        rw [hQ]
        exact W.zret (v := x6.1) (ty := .boolean) hx hb hr (isB_n g7) (fun t ht hW => ⟨⟨x6.1, (), rfl, rfl, by rw [ht]; exact hP.sub (ws' := [(a_this, .inr (0, [.ref a_this_values, .ref a_this_kinds, .int v_this_table, .double v_this_guard, .double v_this_ratio, .int v_this_bridging, .int v_this_length, .int x6.2.1, .double x6.2.2.1, .double x6.2.2.2])), (a_this_values, .inl (k 1, 256, aD v_this_values)), (a_this_kinds, .inl (k 2, 256, aI v_this_kinds))]) [0, 1, 2] rfl, va_K.moved hW.alike hK, hD.sub (ws' := [(a_this, .inr (0, [.ref a_this_values, .ref a_this_kinds, .int v_this_table, .double v_this_guard, .double v_this_ratio, .int v_this_bridging, .int v_this_length, .int x6.2.1, .double x6.2.2.1, .double x6.2.2.2])), (a_this_values, .inl (k 1, 256, aD v_this_values)), (a_this_kinds, .inl (k 2, 256, aI v_this_kinds))]) [0, 1, 2] (by decide) rfl⟩, hS.F ht⟩) hS.2.2 dX1_seekGuess_161
      have L49 : ∀ (n49 : Nat) (x49_2 : Int32) (x49_3 : Int32) (x49_4 : Int32) (w49_this_guessColumn : Int32) (w49_this_guessError : UInt64) (w49_this_guessValue : UInt64) (H : Heap) (locs : List Loc) (ls : Array Slot), va_P D vwCl [(a_this, .inr (0, [.ref a_this_values, .ref a_this_kinds, .int v_this_table, .double v_this_guard, .double v_this_ratio, .int v_this_bridging, .int v_this_length, .int w49_this_guessColumn, .double w49_this_guessError, .double w49_this_guessValue])), (a_this_values, .inl (k 1, 256, aD v_this_values)), (a_this_kinds, .inl (k 2, 256, aI v_this_kinds))] H → va_D A [(a_this, .inr (0, [.ref a_this_values, .ref a_this_kinds, .int v_this_table, .double v_this_guard, .double v_this_ratio, .int v_this_bridging, .int v_this_length, .int w49_this_guessColumn, .double w49_this_guessError, .double w49_this_guessValue])), (a_this_values, .inl (k 1, 256, aD v_this_values)), (a_this_kinds, .inl (k 2, 256, aI v_this_kinds))] → va_S A s.heap H locs → lv_has ls 11 [(0, .ref a_this), (1, .int p1), (2, .int x49_2), (3, .int x49_3), (4, .int x49_4)] → p_X1_seekGuess_L49 v_this_values v_this_kinds v_this_table p1 n49 x49_2 x49_3 x49_4 w49_this_guessColumn w49_this_guessError w49_this_guessValue = some x6 → W p l e (headSpec wsX1_seekGuess rm_X1_seekGuess).room s m ([.ref a_this, .int p1] : List Value).toArray below meth c H locs 0 0 Q (F0 m 49 ls []) := by
        intro n49
        induction n49 with
        | zero =>
          intro x49_2 x49_3 x49_4 w49_this_guessColumn w49_this_guessError w49_this_guessValue H locs ls hP hD hS hl hx6
          exact absurd hx6 (by simp [p_X1_seekGuess_L49])
        | succ n49 ih49 =>
          intro x49_2 x49_3 x49_4 w49_this_guessColumn w49_this_guessError w49_this_guessValue H locs ls hP hD hS hl hx6
          rw [p_X1_seekGuess_L49] at hx6
          refine lv_iload hx hb dX1_seekGuess_49 (lv_at hl 4 rfl) ?_
          refine lv_bipush (v := 16) hx hb dX1_seekGuess_51 (by decide) ?_
          refine lv_icmp_ge (tgt := 160) hx hb dX1_seekGuess_53 (by decide) (fun c1001 => ?_) (fun c1001 => ?_)
          · skip
            have hx6 := if_t c1001 hx6
            have ho := Option.some.inj hx6
            subst ho
            exact X160 H locs ls hP hD hS (lv_sub hl [3] rfl)
          · skip
            have hx6 := if_f c1001 hx6
            refine lv_aload_n hx hb dX1_seekGuess_56 rfl (lv_at hl 0 rfl) ?_
            refine lv_iload hx hb dX1_seekGuess_57 (lv_at hl 4 rfl) ?_
            refine lv_iload_n hx hb dX1_seekGuess_59 rfl (lv_at hl 1 rfl) ?_
            obtain ⟨x1002, hx1002, hx6⟩ := bind_s hx6
            refine cc_i (r := x1002) (wc := [(a_this, .inr (0, [.ref a_this_values, .ref a_this_kinds, .int v_this_table, .double v_this_guard, .double v_this_ratio, .int v_this_bridging, .int v_this_length, .int w49_this_guessColumn, .double w49_this_guessError, .double w49_this_guessValue])), (a_this_kinds, .inl (k 2, 256, aI v_this_kinds))]) (wr := [(a_this_values, .inl (k 1, 256, aD v_this_values))]) (w1 := [(a_this, .inr (0, [.ref a_this_values, .ref a_this_kinds, .int v_this_table, .double v_this_guard, .double v_this_ratio, .int v_this_bridging, .int v_this_length, .int w49_this_guessColumn, .double w49_this_guessError, .double w49_this_guessValue])), (a_this_kinds, .inl (k 2, 256, aI v_this_kinds))]) (va_runV (As := [.int x49_4, .int p1]) (rest := []) ⟨hx, hb, hml, hown, hts⟩ (mt_X1_endOf l D k a_this a_this_values a_this_kinds _ v_this_kinds v_this_table v_this_guard v_this_ratio v_this_bridging v_this_length w49_this_guessColumn w49_this_guessError w49_this_guessValue x49_4 p1 x1002 hx1002) (cwV 2 hts gX1_seekGuess_X1_endOf rfl rfl rfl (by decide +kernel) ⟨(Nat.le_of_ble_eq_true rfl), (Nat.le_of_ble_eq_true rfl)⟩) (cc_pv (wc := [(a_this, .inr (0, [.ref a_this_values, .ref a_this_kinds, .int v_this_table, .double v_this_guard, .double v_this_ratio, .int v_this_bridging, .int v_this_length, .int w49_this_guessColumn, .double w49_this_guessError, .double w49_this_guessValue])), (a_this_kinds, .inl (k 2, 256, aI v_this_kinds))]) hK hP hD [0, 2] (by decide) rfl rfl 0 0 rfl rfl rfl) rfl rfl hl.1 rfl (lv_room (Nat.le_of_ble_eq_true rfl)) dX1_seekGuess_60 ⟨Nat.zero_le _, Nat.zero_le _⟩) hP hD hS hA [0, 2] [1] rfl rfl (by decide) (by decide) (fun H locs hP hD hS => ?_)
            have hP : va_P D vwCl [(a_this_values, .inl (k 1, 256, aD v_this_values)), (a_this, .inr (0, [.ref a_this_values, .ref a_this_kinds, .int v_this_table, .double v_this_guard, .double v_this_ratio, .int v_this_bridging, .int v_this_length, .int w49_this_guessColumn, .double w49_this_guessError, .double w49_this_guessValue])), (a_this_kinds, .inl (k 2, 256, aI v_this_kinds))] H := hP
            have hD : va_D A [(a_this_values, .inl (k 1, 256, aD v_this_values)), (a_this, .inr (0, [.ref a_this_values, .ref a_this_kinds, .int v_this_table, .double v_this_guard, .double v_this_ratio, .int v_this_bridging, .int v_this_length, .int w49_this_guessColumn, .double w49_this_guessError, .double w49_this_guessValue])), (a_this_kinds, .inl (k 2, 256, aI v_this_kinds))] := hD
            refine lv_istore (lv' := [(5, .int x1002), (0, .ref a_this), (1, .int p1), (2, .int x49_2), (3, .int x49_3), (4, .int x49_4)]) hx hb dX1_seekGuess_63 hl (by decide) rfl (fun ls hl => ?_)
            refine lv_aload_n hx hb dX1_seekGuess_65 rfl (lv_at hl 1 rfl) ?_
            refine lv_iload hx hb dX1_seekGuess_66 (lv_at hl 5 rfl) ?_
            refine lv_iload_n hx hb dX1_seekGuess_68 rfl (lv_at hl 3 rfl) ?_
            refine lv_isub hx hb dX1_seekGuess_69 ?_
            refine lv_iload_n hx hb dX1_seekGuess_70 rfl (lv_at hl 2 rfl) ?_
            obtain ⟨x1003, hx1003, hx6⟩ := bind_s hx6
            refine cc_i (r := x1003) (wc := [(a_this, .inr (0, [.ref a_this_values, .ref a_this_kinds, .int v_this_table, .double v_this_guard, .double v_this_ratio, .int v_this_bridging, .int v_this_length, .int w49_this_guessColumn, .double w49_this_guessError, .double w49_this_guessValue])), (a_this_kinds, .inl (k 2, 256, aI v_this_kinds))]) (wr := [(a_this_values, .inl (k 1, 256, aD v_this_values))]) (w1 := [(a_this, .inr (0, [.ref a_this_values, .ref a_this_kinds, .int v_this_table, .double v_this_guard, .double v_this_ratio, .int v_this_bridging, .int v_this_length, .int w49_this_guessColumn, .double w49_this_guessError, .double w49_this_guessValue])), (a_this_kinds, .inl (k 2, 256, aI v_this_kinds))]) (va_runV (As := [.int (x49_4 - x49_2), .int p1]) (rest := []) ⟨hx, hb, hml, hown, hts⟩ (mt_X1_endOf l D k a_this a_this_values a_this_kinds _ v_this_kinds v_this_table v_this_guard v_this_ratio v_this_bridging v_this_length w49_this_guessColumn w49_this_guessError w49_this_guessValue (x49_4 - x49_2) p1 x1003 hx1003) (cwV 2 hts gX1_seekGuess_X1_endOf rfl rfl rfl (by decide +kernel) ⟨(Nat.le_of_ble_eq_true rfl), (Nat.le_of_ble_eq_true rfl)⟩) (cc_pv (wc := [(a_this, .inr (0, [.ref a_this_values, .ref a_this_kinds, .int v_this_table, .double v_this_guard, .double v_this_ratio, .int v_this_bridging, .int v_this_length, .int w49_this_guessColumn, .double w49_this_guessError, .double w49_this_guessValue])), (a_this_kinds, .inl (k 2, 256, aI v_this_kinds))]) hK hP hD [1, 2] (by decide) rfl rfl 0 1 rfl rfl rfl) rfl rfl hl.1 rfl (lv_room (Nat.le_of_ble_eq_true rfl)) dX1_seekGuess_71 ⟨Nat.zero_le _, Nat.zero_le _⟩) hP hD hS hA [1, 2] [0] rfl rfl (by decide) (by decide) (fun H locs hP hD hS => ?_)
            have hP : va_P D vwCl [(a_this_values, .inl (k 1, 256, aD v_this_values)), (a_this, .inr (0, [.ref a_this_values, .ref a_this_kinds, .int v_this_table, .double v_this_guard, .double v_this_ratio, .int v_this_bridging, .int v_this_length, .int w49_this_guessColumn, .double w49_this_guessError, .double w49_this_guessValue])), (a_this_kinds, .inl (k 2, 256, aI v_this_kinds))] H := hP
            have hD : va_D A [(a_this_values, .inl (k 1, 256, aD v_this_values)), (a_this, .inr (0, [.ref a_this_values, .ref a_this_kinds, .int v_this_table, .double v_this_guard, .double v_this_ratio, .int v_this_bridging, .int v_this_length, .int w49_this_guessColumn, .double w49_this_guessError, .double w49_this_guessValue])), (a_this_kinds, .inl (k 2, 256, aI v_this_kinds))] := hD
            refine lv_istore (lv' := [(6, .int x1003), (5, .int x1002), (0, .ref a_this), (1, .int p1), (2, .int x49_2), (3, .int x49_3), (4, .int x49_4)]) hx hb dX1_seekGuess_74 hl (by decide) rfl (fun ls hl => ?_)
            refine lv_iload hx hb dX1_seekGuess_76 (lv_at hl 1 rfl) ?_
            refine lv_if_lt (tgt := 151) hx hb dX1_seekGuess_78 (by decide) (fun c1004 => ?_) (fun c1004 => ?_)
            · skip
              have hx6 := if_t c1004 hx6
              refine lv_iload hx hb dX1_seekGuess_151 (lv_at hl 6 rfl) ?_
              refine lv_iload_n hx hb dX1_seekGuess_153 rfl (lv_at hl 4 rfl) ?_
              refine lv_iadd hx hb dX1_seekGuess_154 ?_
              refine lv_istore (lv' := [(4, .int (x49_4 + x49_2)), (6, .int x1003), (5, .int x1002), (0, .ref a_this), (1, .int p1), (2, .int x49_2), (3, .int x49_3)]) hx hb dX1_seekGuess_155 hl (by decide) rfl (fun ls hl => ?_)
              refine lv_goto (tgt := 49) hx hb dX1_seekGuess_157 (by decide) ?_
              have hP := hP.sub (ws' := [(a_this, .inr (0, [.ref a_this_values, .ref a_this_kinds, .int v_this_table, .double v_this_guard, .double v_this_ratio, .int v_this_bridging, .int v_this_length, .int w49_this_guessColumn, .double w49_this_guessError, .double w49_this_guessValue])), (a_this_values, .inl (k 1, 256, aD v_this_values)), (a_this_kinds, .inl (k 2, 256, aI v_this_kinds))]) [1, 0, 2] rfl
              have hD := hD.sub (ws' := [(a_this, .inr (0, [.ref a_this_values, .ref a_this_kinds, .int v_this_table, .double v_this_guard, .double v_this_ratio, .int v_this_bridging, .int v_this_length, .int w49_this_guessColumn, .double w49_this_guessError, .double w49_this_guessValue])), (a_this_values, .inl (k 1, 256, aD v_this_values)), (a_this_kinds, .inl (k 2, 256, aI v_this_kinds))]) [1, 0, 2] (by decide) rfl
              exact ih49 x49_2 x49_3 (x49_4 + x49_2) w49_this_guessColumn w49_this_guessError w49_this_guessValue H locs ls hP hD hS (lv_sub hl [3, 4, 5, 6, 0] rfl) hx6
            · skip
              have hx6 := if_f c1004 hx6
              refine lv_iload hx hb dX1_seekGuess_81 (lv_at hl 0 rfl) ?_
              refine lv_if_ge (tgt := 89) hx hb dX1_seekGuess_83 (by decide) (fun c1005 => ?_) (fun c1005 => ?_)
              · skip
                have hx6 := if_t c1005 hx6
                refine lv_aload_n hx hb dX1_seekGuess_89 rfl (lv_at hl 2 rfl) ?_
                refine lv_iload hx hb dX1_seekGuess_90 (lv_at hl 6 rfl) ?_
                refine lv_iload hx hb dX1_seekGuess_92 (lv_at hl 1 rfl) ?_
                obtain ⟨x1006, hx1006, hx6⟩ := bind_s hx6
                refine cc_d (r := x1006) (wc := [(a_this, .inr (0, [.ref a_this_values, .ref a_this_kinds, .int v_this_table, .double v_this_guard, .double v_this_ratio, .int v_this_bridging, .int v_this_length, .int w49_this_guessColumn, .double w49_this_guessError, .double w49_this_guessValue])), (a_this_values, .inl (k 1, 256, aD v_this_values))]) (wr := [(a_this_kinds, .inl (k 2, 256, aI v_this_kinds))]) (w1 := [(a_this, .inr (0, [.ref a_this_values, .ref a_this_kinds, .int v_this_table, .double v_this_guard, .double v_this_ratio, .int v_this_bridging, .int v_this_length, .int w49_this_guessColumn, .double w49_this_guessError, .double w49_this_guessValue])), (a_this_values, .inl (k 1, 256, aD v_this_values))]) (va_runV (As := [.int x49_4, .int x1002]) (rest := []) ⟨hx, hb, hml, hown, hts⟩ (mt_X1_valueAt l D k a_this a_this_values a_this_kinds _ v_this_values v_this_table v_this_guard v_this_ratio v_this_bridging v_this_length w49_this_guessColumn w49_this_guessError w49_this_guessValue x49_4 x1002 x1006 hx1006) (cwV 2 hts gX1_seekGuess_X1_valueAt rfl rfl rfl (by decide +kernel) ⟨(Nat.le_of_ble_eq_true rfl), (Nat.le_of_ble_eq_true rfl)⟩) (cc_pv (wc := [(a_this, .inr (0, [.ref a_this_values, .ref a_this_kinds, .int v_this_table, .double v_this_guard, .double v_this_ratio, .int v_this_bridging, .int v_this_length, .int w49_this_guessColumn, .double w49_this_guessError, .double w49_this_guessValue])), (a_this_values, .inl (k 1, 256, aD v_this_values))]) hK hP hD [1, 0] (by decide) rfl rfl 0 1 rfl rfl rfl) rfl rfl hl.1 rfl (lv_room (Nat.le_of_ble_eq_true rfl)) dX1_seekGuess_94 ⟨Nat.zero_le _, Nat.zero_le _⟩) hP hD hS hA [1, 0] [2] rfl rfl (by decide) (by decide) (fun H locs hP hD hS => ?_)
                have hP : va_P D vwCl [(a_this_kinds, .inl (k 2, 256, aI v_this_kinds)), (a_this, .inr (0, [.ref a_this_values, .ref a_this_kinds, .int v_this_table, .double v_this_guard, .double v_this_ratio, .int v_this_bridging, .int v_this_length, .int w49_this_guessColumn, .double w49_this_guessError, .double w49_this_guessValue])), (a_this_values, .inl (k 1, 256, aD v_this_values))] H := hP
                have hD : va_D A [(a_this_kinds, .inl (k 2, 256, aI v_this_kinds)), (a_this, .inr (0, [.ref a_this_values, .ref a_this_kinds, .int v_this_table, .double v_this_guard, .double v_this_ratio, .int v_this_bridging, .int v_this_length, .int w49_this_guessColumn, .double w49_this_guessError, .double w49_this_guessValue])), (a_this_values, .inl (k 1, 256, aD v_this_values))] := hD
                refine lv_dstore (lv' := [(7, .double x1006), (6, .int x1003), (5, .int x1002), (0, .ref a_this), (1, .int p1), (2, .int x49_2), (3, .int x49_3), (4, .int x49_4)]) hx hb dX1_seekGuess_97 hl (by decide) rfl (fun ls hl => ?_)
                refine lv_dload hx hb dX1_seekGuess_99 (lv_at hl 0 rfl) ?_
                refine lv_aload_n hx hb dX1_seekGuess_101 rfl (lv_at hl 3 rfl) ?_
                refine lv_iload hx hb dX1_seekGuess_102 (lv_at hl 7 rfl) ?_
                refine lv_iload_n hx hb dX1_seekGuess_104 rfl (lv_at hl 5 rfl) ?_
                refine lv_isub hx hb dX1_seekGuess_105 ?_
                refine lv_iload hx hb dX1_seekGuess_106 (lv_at hl 1 rfl) ?_
                obtain ⟨x1007, hx1007, hx6⟩ := bind_s hx6
                refine cc_d (r := x1007) (wc := [(a_this, .inr (0, [.ref a_this_values, .ref a_this_kinds, .int v_this_table, .double v_this_guard, .double v_this_ratio, .int v_this_bridging, .int v_this_length, .int w49_this_guessColumn, .double w49_this_guessError, .double w49_this_guessValue])), (a_this_values, .inl (k 1, 256, aD v_this_values))]) (wr := [(a_this_kinds, .inl (k 2, 256, aI v_this_kinds))]) (w1 := [(a_this, .inr (0, [.ref a_this_values, .ref a_this_kinds, .int v_this_table, .double v_this_guard, .double v_this_ratio, .int v_this_bridging, .int v_this_length, .int w49_this_guessColumn, .double w49_this_guessError, .double w49_this_guessValue])), (a_this_values, .inl (k 1, 256, aD v_this_values))]) (va_runV (As := [.int (x49_4 - x49_2), .int x1003]) (rest := [.double x1006]) ⟨hx, hb, hml, hown, hts⟩ (mt_X1_valueAt l D k a_this a_this_values a_this_kinds _ v_this_values v_this_table v_this_guard v_this_ratio v_this_bridging v_this_length w49_this_guessColumn w49_this_guessError w49_this_guessValue (x49_4 - x49_2) x1003 x1007 hx1007) (cwV 2 hts gX1_seekGuess_X1_valueAt rfl rfl rfl (by decide +kernel) ⟨(Nat.le_of_ble_eq_true rfl), (Nat.le_of_ble_eq_true rfl)⟩) (cc_pv (wc := [(a_this, .inr (0, [.ref a_this_values, .ref a_this_kinds, .int v_this_table, .double v_this_guard, .double v_this_ratio, .int v_this_bridging, .int v_this_length, .int w49_this_guessColumn, .double w49_this_guessError, .double w49_this_guessValue])), (a_this_values, .inl (k 1, 256, aD v_this_values))]) hK hP hD [1, 2] (by decide) rfl rfl 0 1 rfl rfl rfl) rfl rfl hl.1 rfl (lv_room (Nat.le_of_ble_eq_true rfl)) dX1_seekGuess_108 ⟨Nat.zero_le _, Nat.zero_le _⟩) hP hD hS hA [1, 2] [0] rfl rfl (by decide) (by decide) (fun H locs hP hD hS => ?_)
                have hP : va_P D vwCl [(a_this_kinds, .inl (k 2, 256, aI v_this_kinds)), (a_this, .inr (0, [.ref a_this_values, .ref a_this_kinds, .int v_this_table, .double v_this_guard, .double v_this_ratio, .int v_this_bridging, .int v_this_length, .int w49_this_guessColumn, .double w49_this_guessError, .double w49_this_guessValue])), (a_this_values, .inl (k 1, 256, aD v_this_values))] H := hP
                have hD : va_D A [(a_this_kinds, .inl (k 2, 256, aI v_this_kinds)), (a_this, .inr (0, [.ref a_this_values, .ref a_this_kinds, .int v_this_table, .double v_this_guard, .double v_this_ratio, .int v_this_bridging, .int v_this_length, .int w49_this_guessColumn, .double w49_this_guessError, .double w49_this_guessValue])), (a_this_values, .inl (k 1, 256, aD v_this_values))] := hD
                refine lv_dsub hx hb dX1_seekGuess_111 (dop_h hx6) ?_
                refine lv_topd (fun d1008 ed1008 => ?_)
                have hx6 := dop_at ed1008 hx6
                obtain ⟨x1009, hx1009, hx6⟩ := bind_s hx6
                refine cc_d (r := x1009) (wc := []) (wr := [(a_this_kinds, .inl (k 2, 256, aI v_this_kinds)), (a_this, .inr (0, [.ref a_this_values, .ref a_this_kinds, .int v_this_table, .double v_this_guard, .double v_this_ratio, .int v_this_bridging, .int v_this_length, .int w49_this_guessColumn, .double w49_this_guessError, .double w49_this_guessValue])), (a_this_values, .inl (k 1, 256, aD v_this_values))]) (w1 := []) (va_runS (As := [.double d1008]) (rest := []) ⟨hx, hb, hml, hown, hts⟩ (mt_X3_sizeOf l D k  _  d1008 x1009 hx1009) (va_cwS 1 hts gX1_seekGuess_X3_sizeOf rfl rfl rfl (by decide +kernel) ⟨(Nat.le_of_ble_eq_true rfl), (Nat.le_of_ble_eq_true rfl)⟩) (cc_ps (wc := []) hK hP hD [] (by decide) rfl rfl) rfl rfl hl.1 rfl (lv_room (Nat.le_of_ble_eq_true rfl)) dX1_seekGuess_112 ⟨Nat.zero_le _, Nat.zero_le _⟩) hP hD hS hA [] [0, 1, 2] rfl rfl (by decide) (by decide) (fun H locs hP hD hS => ?_)
                have hP : va_P D vwCl [(a_this_kinds, .inl (k 2, 256, aI v_this_kinds)), (a_this, .inr (0, [.ref a_this_values, .ref a_this_kinds, .int v_this_table, .double v_this_guard, .double v_this_ratio, .int v_this_bridging, .int v_this_length, .int w49_this_guessColumn, .double w49_this_guessError, .double w49_this_guessValue])), (a_this_values, .inl (k 1, 256, aD v_this_values))] H := hP
                have hD : va_D A [(a_this_kinds, .inl (k 2, 256, aI v_this_kinds)), (a_this, .inr (0, [.ref a_this_values, .ref a_this_kinds, .int v_this_table, .double v_this_guard, .double v_this_ratio, .int v_this_bridging, .int v_this_length, .int w49_this_guessColumn, .double w49_this_guessError, .double w49_this_guessValue])), (a_this_values, .inl (k 1, 256, aD v_this_values))] := hD
                refine lv_dstore (lv' := [(9, .double x1009), (7, .double x1006), (6, .int x1003), (5, .int x1002), (0, .ref a_this), (1, .int p1), (2, .int x49_2), (3, .int x49_3), (4, .int x49_4)]) hx hb dX1_seekGuess_115 hl (by decide) rfl (fun ls hl => ?_)
                refine lv_iload_n hx hb dX1_seekGuess_117 rfl (lv_at hl 7 rfl) ?_
                refine lv_if_eq (tgt := 131) hx hb dX1_seekGuess_118 (by decide) (fun c1010 => ?_) (fun c1010 => ?_)
                · skip
                  have hx6 := if_t c1010 hx6
                  refine lv_iconst (v := 1) hx hb dX1_seekGuess_131 (by decide) ?_
                  refine lv_istore_n (lv' := [(3, .int (1 : Int32)), (9, .double x1009), (7, .double x1006), (6, .int x1003), (5, .int x1002), (0, .ref a_this), (1, .int p1), (2, .int x49_2), (4, .int x49_4)]) hx hb dX1_seekGuess_132 rfl hl (by decide) rfl (fun ls hl => ?_)
                  refine lv_aload_n hx hb dX1_seekGuess_133 rfl (lv_at hl 5 rfl) ?_
                  refine lv_iload hx hb dX1_seekGuess_134 (lv_at hl 8 rfl) ?_
                  refine va_put (D := D) (ci := 0) (v := .int x49_4) (ty := .int) (C := RX1) (T := TX1) (N := 10) hx hb hts hinX1_X1_seekGuess tyX1 tyX1_ok nmX1 hown hK hP hD hS 1 rfl rfl 7 (by decide) (hts (.fieldLink RX1 37 "LimitTables$Grid" "guessColumn" "I") (by decide +kernel)) (fun _ h9 => h9) rfl (by decide +kernel) rfl rfl (Nat.le_of_ble_eq_true rfl) dX1_seekGuess_136 (fun H locs hP hD hS => ?_)
                  have hP : va_P D vwCl [(a_this_kinds, .inl (k 2, 256, aI v_this_kinds)), (a_this, .inr (0, [.ref a_this_values, .ref a_this_kinds, .int v_this_table, .double v_this_guard, .double v_this_ratio, .int v_this_bridging, .int v_this_length, .int x49_4, .double w49_this_guessError, .double w49_this_guessValue])), (a_this_values, .inl (k 1, 256, aD v_this_values))] H := hP
                  have hD : va_D A [(a_this_kinds, .inl (k 2, 256, aI v_this_kinds)), (a_this, .inr (0, [.ref a_this_values, .ref a_this_kinds, .int v_this_table, .double v_this_guard, .double v_this_ratio, .int v_this_bridging, .int v_this_length, .int x49_4, .double w49_this_guessError, .double w49_this_guessValue])), (a_this_values, .inl (k 1, 256, aD v_this_values))] := hD
                  refine lv_aload_n hx hb dX1_seekGuess_139 rfl (lv_at hl 5 rfl) ?_
                  refine lv_dload hx hb dX1_seekGuess_140 (lv_at hl 1 rfl) ?_
                  refine va_put (D := D) (ci := 0) (v := .double x1009) (ty := .double) (C := RX1) (T := TX1) (N := 10) hx hb hts hinX1_X1_seekGuess tyX1 tyX1_ok nmX1 hown hK hP hD hS 1 rfl rfl 8 (by decide) (hts (.fieldLink RX1 40 "LimitTables$Grid" "guessError" "D") (by decide +kernel)) (fun _ h9 => h9) rfl (by decide +kernel) rfl rfl (Nat.le_of_ble_eq_true rfl) dX1_seekGuess_142 (fun H locs hP hD hS => ?_)
                  have hP : va_P D vwCl [(a_this_kinds, .inl (k 2, 256, aI v_this_kinds)), (a_this, .inr (0, [.ref a_this_values, .ref a_this_kinds, .int v_this_table, .double v_this_guard, .double v_this_ratio, .int v_this_bridging, .int v_this_length, .int x49_4, .double x1009, .double w49_this_guessValue])), (a_this_values, .inl (k 1, 256, aD v_this_values))] H := hP
                  have hD : va_D A [(a_this_kinds, .inl (k 2, 256, aI v_this_kinds)), (a_this, .inr (0, [.ref a_this_values, .ref a_this_kinds, .int v_this_table, .double v_this_guard, .double v_this_ratio, .int v_this_bridging, .int v_this_length, .int x49_4, .double x1009, .double w49_this_guessValue])), (a_this_values, .inl (k 1, 256, aD v_this_values))] := hD
                  refine lv_aload_n hx hb dX1_seekGuess_145 rfl (lv_at hl 5 rfl) ?_
                  refine lv_dload hx hb dX1_seekGuess_146 (lv_at hl 2 rfl) ?_
                  refine va_put (D := D) (ci := 0) (v := .double x1006) (ty := .double) (C := RX1) (T := TX1) (N := 10) hx hb hts hinX1_X1_seekGuess tyX1 tyX1_ok nmX1 hown hK hP hD hS 1 rfl rfl 9 (by decide) (hts (.fieldLink RX1 43 "LimitTables$Grid" "guessValue" "D") (by decide +kernel)) (fun _ h9 => h9) rfl (by decide +kernel) rfl rfl (Nat.le_of_ble_eq_true rfl) dX1_seekGuess_148 (fun H locs hP hD hS => ?_)
                  have hP : va_P D vwCl [(a_this_kinds, .inl (k 2, 256, aI v_this_kinds)), (a_this, .inr (0, [.ref a_this_values, .ref a_this_kinds, .int v_this_table, .double v_this_guard, .double v_this_ratio, .int v_this_bridging, .int v_this_length, .int x49_4, .double x1009, .double x1006])), (a_this_values, .inl (k 1, 256, aD v_this_values))] H := hP
                  have hD : va_D A [(a_this_kinds, .inl (k 2, 256, aI v_this_kinds)), (a_this, .inr (0, [.ref a_this_values, .ref a_this_kinds, .int v_this_table, .double v_this_guard, .double v_this_ratio, .int v_this_bridging, .int v_this_length, .int x49_4, .double x1009, .double x1006])), (a_this_values, .inl (k 1, 256, aD v_this_values))] := hD
                  refine lv_iload hx hb dX1_seekGuess_151 (lv_at hl 8 rfl) ?_
                  refine lv_iload_n hx hb dX1_seekGuess_153 rfl (lv_at hl 7 rfl) ?_
                  refine lv_iadd hx hb dX1_seekGuess_154 ?_
                  refine lv_istore (lv' := [(4, .int (x49_4 + x49_2)), (3, .int (1 : Int32)), (9, .double x1009), (7, .double x1006), (6, .int x1003), (5, .int x1002), (0, .ref a_this), (1, .int p1), (2, .int x49_2)]) hx hb dX1_seekGuess_155 hl (by decide) rfl (fun ls hl => ?_)
                  refine lv_goto (tgt := 49) hx hb dX1_seekGuess_157 (by decide) ?_
                  have hP := hP.sub (ws' := [(a_this, .inr (0, [.ref a_this_values, .ref a_this_kinds, .int v_this_table, .double v_this_guard, .double v_this_ratio, .int v_this_bridging, .int v_this_length, .int x49_4, .double x1009, .double x1006])), (a_this_values, .inl (k 1, 256, aD v_this_values)), (a_this_kinds, .inl (k 2, 256, aI v_this_kinds))]) [1, 2, 0] rfl
                  have hD := hD.sub (ws' := [(a_this, .inr (0, [.ref a_this_values, .ref a_this_kinds, .int v_this_table, .double v_this_guard, .double v_this_ratio, .int v_this_bridging, .int v_this_length, .int x49_4, .double x1009, .double x1006])), (a_this_values, .inl (k 1, 256, aD v_this_values)), (a_this_kinds, .inl (k 2, 256, aI v_this_kinds))]) [1, 2, 0] (by decide) rfl
                  exact ih49 x49_2 (1 : Int32) (x49_4 + x49_2) x49_4 x1009 x1006 H locs ls hP hD hS (lv_sub hl [6, 7, 8, 1, 0] rfl) hx6
                · skip
                  have hx6 := if_f c1010 hx6
                  refine lv_dload hx hb dX1_seekGuess_121 (lv_at hl 0 rfl) ?_
                  refine lv_aload_n hx hb dX1_seekGuess_123 rfl (lv_at hl 4 rfl) ?_
                  refine va_get (D := D) (ci := 0) (v := .double w49_this_guessError) (C := RX1) (T := TX1) (N := 10) hx hb hts hinX1_X1_seekGuess hown hK hP 1 rfl rfl 8 (by decide) (hts (.fieldLink RX1 40 "LimitTables$Grid" "guessError" "D") (by decide +kernel)) (fun _ h9 => h9) rfl dX1_seekGuess_124 ?_
                  refine lv_dcmp hx hb dX1_seekGuess_127 ?_
                  refine lv_if_ge (tgt := 151) hx hb dX1_seekGuess_128 (by decide) (fun c1011 => ?_) (fun c1011 => ?_)
                  · skip
                    have hx6 := if_t c1011 hx6
                    refine lv_iload hx hb dX1_seekGuess_151 (lv_at hl 8 rfl) ?_
                    refine lv_iload_n hx hb dX1_seekGuess_153 rfl (lv_at hl 6 rfl) ?_
                    refine lv_iadd hx hb dX1_seekGuess_154 ?_
                    refine lv_istore (lv' := [(4, .int (x49_4 + x49_2)), (9, .double x1009), (7, .double x1006), (6, .int x1003), (5, .int x1002), (0, .ref a_this), (1, .int p1), (2, .int x49_2), (3, .int x49_3)]) hx hb dX1_seekGuess_155 hl (by decide) rfl (fun ls hl => ?_)
                    refine lv_goto (tgt := 49) hx hb dX1_seekGuess_157 (by decide) ?_
                    have hP := hP.sub (ws' := [(a_this, .inr (0, [.ref a_this_values, .ref a_this_kinds, .int v_this_table, .double v_this_guard, .double v_this_ratio, .int v_this_bridging, .int v_this_length, .int w49_this_guessColumn, .double w49_this_guessError, .double w49_this_guessValue])), (a_this_values, .inl (k 1, 256, aD v_this_values)), (a_this_kinds, .inl (k 2, 256, aI v_this_kinds))]) [1, 2, 0] rfl
                    have hD := hD.sub (ws' := [(a_this, .inr (0, [.ref a_this_values, .ref a_this_kinds, .int v_this_table, .double v_this_guard, .double v_this_ratio, .int v_this_bridging, .int v_this_length, .int w49_this_guessColumn, .double w49_this_guessError, .double w49_this_guessValue])), (a_this_values, .inl (k 1, 256, aD v_this_values)), (a_this_kinds, .inl (k 2, 256, aI v_this_kinds))]) [1, 2, 0] (by decide) rfl
                    exact ih49 x49_2 x49_3 (x49_4 + x49_2) w49_this_guessColumn w49_this_guessError w49_this_guessValue H locs ls hP hD hS (lv_sub hl [5, 6, 7, 8, 0] rfl) hx6
                  · skip
                    have hx6 := if_f c1011 hx6
                    refine lv_iconst (v := 1) hx hb dX1_seekGuess_131 (by decide) ?_
                    refine lv_istore_n (lv' := [(3, .int (1 : Int32)), (9, .double x1009), (7, .double x1006), (6, .int x1003), (5, .int x1002), (0, .ref a_this), (1, .int p1), (2, .int x49_2), (4, .int x49_4)]) hx hb dX1_seekGuess_132 rfl hl (by decide) rfl (fun ls hl => ?_)
                    refine lv_aload_n hx hb dX1_seekGuess_133 rfl (lv_at hl 5 rfl) ?_
                    refine lv_iload hx hb dX1_seekGuess_134 (lv_at hl 8 rfl) ?_
                    refine va_put (D := D) (ci := 0) (v := .int x49_4) (ty := .int) (C := RX1) (T := TX1) (N := 10) hx hb hts hinX1_X1_seekGuess tyX1 tyX1_ok nmX1 hown hK hP hD hS 1 rfl rfl 7 (by decide) (hts (.fieldLink RX1 37 "LimitTables$Grid" "guessColumn" "I") (by decide +kernel)) (fun _ h9 => h9) rfl (by decide +kernel) rfl rfl (Nat.le_of_ble_eq_true rfl) dX1_seekGuess_136 (fun H locs hP hD hS => ?_)
                    have hP : va_P D vwCl [(a_this_kinds, .inl (k 2, 256, aI v_this_kinds)), (a_this, .inr (0, [.ref a_this_values, .ref a_this_kinds, .int v_this_table, .double v_this_guard, .double v_this_ratio, .int v_this_bridging, .int v_this_length, .int x49_4, .double w49_this_guessError, .double w49_this_guessValue])), (a_this_values, .inl (k 1, 256, aD v_this_values))] H := hP
                    have hD : va_D A [(a_this_kinds, .inl (k 2, 256, aI v_this_kinds)), (a_this, .inr (0, [.ref a_this_values, .ref a_this_kinds, .int v_this_table, .double v_this_guard, .double v_this_ratio, .int v_this_bridging, .int v_this_length, .int x49_4, .double w49_this_guessError, .double w49_this_guessValue])), (a_this_values, .inl (k 1, 256, aD v_this_values))] := hD
                    refine lv_aload_n hx hb dX1_seekGuess_139 rfl (lv_at hl 5 rfl) ?_
                    refine lv_dload hx hb dX1_seekGuess_140 (lv_at hl 1 rfl) ?_
                    refine va_put (D := D) (ci := 0) (v := .double x1009) (ty := .double) (C := RX1) (T := TX1) (N := 10) hx hb hts hinX1_X1_seekGuess tyX1 tyX1_ok nmX1 hown hK hP hD hS 1 rfl rfl 8 (by decide) (hts (.fieldLink RX1 40 "LimitTables$Grid" "guessError" "D") (by decide +kernel)) (fun _ h9 => h9) rfl (by decide +kernel) rfl rfl (Nat.le_of_ble_eq_true rfl) dX1_seekGuess_142 (fun H locs hP hD hS => ?_)
                    have hP : va_P D vwCl [(a_this_kinds, .inl (k 2, 256, aI v_this_kinds)), (a_this, .inr (0, [.ref a_this_values, .ref a_this_kinds, .int v_this_table, .double v_this_guard, .double v_this_ratio, .int v_this_bridging, .int v_this_length, .int x49_4, .double x1009, .double w49_this_guessValue])), (a_this_values, .inl (k 1, 256, aD v_this_values))] H := hP
                    have hD : va_D A [(a_this_kinds, .inl (k 2, 256, aI v_this_kinds)), (a_this, .inr (0, [.ref a_this_values, .ref a_this_kinds, .int v_this_table, .double v_this_guard, .double v_this_ratio, .int v_this_bridging, .int v_this_length, .int x49_4, .double x1009, .double w49_this_guessValue])), (a_this_values, .inl (k 1, 256, aD v_this_values))] := hD
                    refine lv_aload_n hx hb dX1_seekGuess_145 rfl (lv_at hl 5 rfl) ?_
                    refine lv_dload hx hb dX1_seekGuess_146 (lv_at hl 2 rfl) ?_
                    refine va_put (D := D) (ci := 0) (v := .double x1006) (ty := .double) (C := RX1) (T := TX1) (N := 10) hx hb hts hinX1_X1_seekGuess tyX1 tyX1_ok nmX1 hown hK hP hD hS 1 rfl rfl 9 (by decide) (hts (.fieldLink RX1 43 "LimitTables$Grid" "guessValue" "D") (by decide +kernel)) (fun _ h9 => h9) rfl (by decide +kernel) rfl rfl (Nat.le_of_ble_eq_true rfl) dX1_seekGuess_148 (fun H locs hP hD hS => ?_)
                    have hP : va_P D vwCl [(a_this_kinds, .inl (k 2, 256, aI v_this_kinds)), (a_this, .inr (0, [.ref a_this_values, .ref a_this_kinds, .int v_this_table, .double v_this_guard, .double v_this_ratio, .int v_this_bridging, .int v_this_length, .int x49_4, .double x1009, .double x1006])), (a_this_values, .inl (k 1, 256, aD v_this_values))] H := hP
                    have hD : va_D A [(a_this_kinds, .inl (k 2, 256, aI v_this_kinds)), (a_this, .inr (0, [.ref a_this_values, .ref a_this_kinds, .int v_this_table, .double v_this_guard, .double v_this_ratio, .int v_this_bridging, .int v_this_length, .int x49_4, .double x1009, .double x1006])), (a_this_values, .inl (k 1, 256, aD v_this_values))] := hD
                    refine lv_iload hx hb dX1_seekGuess_151 (lv_at hl 8 rfl) ?_
                    refine lv_iload_n hx hb dX1_seekGuess_153 rfl (lv_at hl 7 rfl) ?_
                    refine lv_iadd hx hb dX1_seekGuess_154 ?_
                    refine lv_istore (lv' := [(4, .int (x49_4 + x49_2)), (3, .int (1 : Int32)), (9, .double x1009), (7, .double x1006), (6, .int x1003), (5, .int x1002), (0, .ref a_this), (1, .int p1), (2, .int x49_2)]) hx hb dX1_seekGuess_155 hl (by decide) rfl (fun ls hl => ?_)
                    refine lv_goto (tgt := 49) hx hb dX1_seekGuess_157 (by decide) ?_
                    have hP := hP.sub (ws' := [(a_this, .inr (0, [.ref a_this_values, .ref a_this_kinds, .int v_this_table, .double v_this_guard, .double v_this_ratio, .int v_this_bridging, .int v_this_length, .int x49_4, .double x1009, .double x1006])), (a_this_values, .inl (k 1, 256, aD v_this_values)), (a_this_kinds, .inl (k 2, 256, aI v_this_kinds))]) [1, 2, 0] rfl
                    have hD := hD.sub (ws' := [(a_this, .inr (0, [.ref a_this_values, .ref a_this_kinds, .int v_this_table, .double v_this_guard, .double v_this_ratio, .int v_this_bridging, .int v_this_length, .int x49_4, .double x1009, .double x1006])), (a_this_values, .inl (k 1, 256, aD v_this_values)), (a_this_kinds, .inl (k 2, 256, aI v_this_kinds))]) [1, 2, 0] (by decide) rfl
                    exact ih49 x49_2 (1 : Int32) (x49_4 + x49_2) x49_4 x1009 x1006 H locs ls hP hD hS (lv_sub hl [6, 7, 8, 1, 0] rfl) hx6
              · skip
                have hx6 := if_f c1005 hx6
                refine lv_goto (tgt := 151) hx hb dX1_seekGuess_86 (by decide) ?_
                refine lv_iload hx hb dX1_seekGuess_151 (lv_at hl 6 rfl) ?_
                refine lv_iload_n hx hb dX1_seekGuess_153 rfl (lv_at hl 4 rfl) ?_
                refine lv_iadd hx hb dX1_seekGuess_154 ?_
                refine lv_istore (lv' := [(4, .int (x49_4 + x49_2)), (6, .int x1003), (5, .int x1002), (0, .ref a_this), (1, .int p1), (2, .int x49_2), (3, .int x49_3)]) hx hb dX1_seekGuess_155 hl (by decide) rfl (fun ls hl => ?_)
                refine lv_goto (tgt := 49) hx hb dX1_seekGuess_157 (by decide) ?_
                have hP := hP.sub (ws' := [(a_this, .inr (0, [.ref a_this_values, .ref a_this_kinds, .int v_this_table, .double v_this_guard, .double v_this_ratio, .int v_this_bridging, .int v_this_length, .int w49_this_guessColumn, .double w49_this_guessError, .double w49_this_guessValue])), (a_this_values, .inl (k 1, 256, aD v_this_values)), (a_this_kinds, .inl (k 2, 256, aI v_this_kinds))]) [1, 0, 2] rfl
                have hD := hD.sub (ws' := [(a_this, .inr (0, [.ref a_this_values, .ref a_this_kinds, .int v_this_table, .double v_this_guard, .double v_this_ratio, .int v_this_bridging, .int v_this_length, .int w49_this_guessColumn, .double w49_this_guessError, .double w49_this_guessValue])), (a_this_values, .inl (k 1, 256, aD v_this_values)), (a_this_kinds, .inl (k 2, 256, aI v_this_kinds))]) [1, 0, 2] (by decide) rfl
                exact ih49 x49_2 x49_3 (x49_4 + x49_2) w49_this_guessColumn w49_this_guessError w49_this_guessValue H locs ls hP hD hS (lv_sub hl [3, 4, 5, 6, 0] rfl) hx6
      exact L49 300 (1 : Int32) (0 : Int32) (1 : Int32) (0 : Int32) FP.dconst0 (v_this_values (p1 - (1 : Int32)).toNatClampNeg) H locs ls hP hD hS (lv_sub hl [3, 4, 2, 1, 0] rfl) hx6
  · skip
    have hf := if_f c1 hf
    refine lv_iconst (v := 2) hx hb dX1_seekGuess_8 (by decide) ?_
    refine lv_goto (tgt := 13) hx hb dX1_seekGuess_9 (by decide) ?_
    refine lv_istore_n (lv' := [(2, .int (2 : Int32)), (0, .ref a_this), (1, .int p1)]) hx hb dX1_seekGuess_13 rfl hl (by decide) rfl (fun ls hl => ?_)
    refine lv_iconst (v := 0) hx hb dX1_seekGuess_14 (by decide) ?_
    refine lv_istore_n (lv' := [(3, .int (0 : Int32)), (2, .int (2 : Int32)), (0, .ref a_this), (1, .int p1)]) hx hb dX1_seekGuess_15 rfl hl (by decide) rfl (fun ls hl => ?_)
    refine lv_aload_n hx hb dX1_seekGuess_16 rfl (lv_at hl 2 rfl) ?_
    refine lv_iconst (v := 0) hx hb dX1_seekGuess_17 (by decide) ?_
    refine va_put (D := D) (ci := 0) (v := .int (0 : Int32)) (ty := .int) (C := RX1) (T := TX1) (N := 10) hx hb hts hinX1_X1_seekGuess tyX1 tyX1_ok nmX1 hown hK hP hD hS 0 rfl rfl 7 (by decide) (hts (.fieldLink RX1 37 "LimitTables$Grid" "guessColumn" "I") (by decide +kernel)) (fun _ h9 => h9) rfl (by decide +kernel) rfl rfl (Nat.le_of_ble_eq_true rfl) dX1_seekGuess_18 (fun H locs hP hD hS => ?_)
    have hP : va_P D vwCl [(a_this, .inr (0, [.ref a_this_values, .ref a_this_kinds, .int v_this_table, .double v_this_guard, .double v_this_ratio, .int v_this_bridging, .int v_this_length, .int (0 : Int32), .double v_this_guessError, .double v_this_guessValue])), (a_this_values, .inl (k 1, 256, aD v_this_values)), (a_this_kinds, .inl (k 2, 256, aI v_this_kinds))] H := hP
    have hD : va_D A [(a_this, .inr (0, [.ref a_this_values, .ref a_this_kinds, .int v_this_table, .double v_this_guard, .double v_this_ratio, .int v_this_bridging, .int v_this_length, .int (0 : Int32), .double v_this_guessError, .double v_this_guessValue])), (a_this_values, .inl (k 1, 256, aD v_this_values)), (a_this_kinds, .inl (k 2, 256, aI v_this_kinds))] := hD
    refine lv_aload_n hx hb dX1_seekGuess_21 rfl (lv_at hl 2 rfl) ?_
    refine lv_dconst0 hx hb dX1_seekGuess_22 ?_
    refine va_put (D := D) (ci := 0) (v := .double FP.dconst0) (ty := .double) (C := RX1) (T := TX1) (N := 10) hx hb hts hinX1_X1_seekGuess tyX1 tyX1_ok nmX1 hown hK hP hD hS 0 rfl rfl 8 (by decide) (hts (.fieldLink RX1 40 "LimitTables$Grid" "guessError" "D") (by decide +kernel)) (fun _ h9 => h9) rfl (by decide +kernel) rfl rfl (Nat.le_of_ble_eq_true rfl) dX1_seekGuess_23 (fun H locs hP hD hS => ?_)
    have hP : va_P D vwCl [(a_this, .inr (0, [.ref a_this_values, .ref a_this_kinds, .int v_this_table, .double v_this_guard, .double v_this_ratio, .int v_this_bridging, .int v_this_length, .int (0 : Int32), .double FP.dconst0, .double v_this_guessValue])), (a_this_values, .inl (k 1, 256, aD v_this_values)), (a_this_kinds, .inl (k 2, 256, aI v_this_kinds))] H := hP
    have hD : va_D A [(a_this, .inr (0, [.ref a_this_values, .ref a_this_kinds, .int v_this_table, .double v_this_guard, .double v_this_ratio, .int v_this_bridging, .int v_this_length, .int (0 : Int32), .double FP.dconst0, .double v_this_guessValue])), (a_this_values, .inl (k 1, 256, aD v_this_values)), (a_this_kinds, .inl (k 2, 256, aI v_this_kinds))] := hD
    refine lv_aload_n hx hb dX1_seekGuess_26 rfl (lv_at hl 2 rfl) ?_
    refine lv_iload_n hx hb dX1_seekGuess_27 rfl (lv_at hl 3 rfl) ?_
    refine lv_if_le (tgt := 42) hx hb dX1_seekGuess_28 (by decide) (fun c8 => ?_) (fun c8 => ?_)
    · skip
      have hf := if_t c8 hf
      refine lv_dconst0 hx hb dX1_seekGuess_42 ?_
      refine va_put (D := D) (ci := 0) (v := .double FP.dconst0) (ty := .double) (C := RX1) (T := TX1) (N := 10) hx hb hts hinX1_X1_seekGuess tyX1 tyX1_ok nmX1 hown hK hP hD hS 0 rfl rfl 9 (by decide) (hts (.fieldLink RX1 43 "LimitTables$Grid" "guessValue" "D") (by decide +kernel)) (fun _ h9 => h9) rfl (by decide +kernel) rfl rfl (Nat.le_of_ble_eq_true rfl) dX1_seekGuess_43 (fun H locs hP hD hS => ?_)
      have hP : va_P D vwCl [(a_this, .inr (0, [.ref a_this_values, .ref a_this_kinds, .int v_this_table, .double v_this_guard, .double v_this_ratio, .int v_this_bridging, .int v_this_length, .int (0 : Int32), .double FP.dconst0, .double FP.dconst0])), (a_this_values, .inl (k 1, 256, aD v_this_values)), (a_this_kinds, .inl (k 2, 256, aI v_this_kinds))] H := hP
      have hD : va_D A [(a_this, .inr (0, [.ref a_this_values, .ref a_this_kinds, .int v_this_table, .double v_this_guard, .double v_this_ratio, .int v_this_bridging, .int v_this_length, .int (0 : Int32), .double FP.dconst0, .double FP.dconst0])), (a_this_values, .inl (k 1, 256, aD v_this_values)), (a_this_kinds, .inl (k 2, 256, aI v_this_kinds))] := hD
      refine lv_iload_n hx hb dX1_seekGuess_46 rfl (lv_at hl 1 rfl) ?_
      refine lv_istore (lv' := [(4, .int (2 : Int32)), (3, .int (0 : Int32)), (2, .int (2 : Int32)), (0, .ref a_this), (1, .int p1)]) hx hb dX1_seekGuess_47 hl (by decide) rfl (fun ls hl => ?_)
      obtain ⟨x9, hx9, hf⟩ := bind_s hf
      have X160 : ∀ (H : Heap) (locs : List Loc) (ls : Array Slot), va_P D vwCl [(a_this, .inr (0, [.ref a_this_values, .ref a_this_kinds, .int v_this_table, .double v_this_guard, .double v_this_ratio, .int v_this_bridging, .int v_this_length, .int x9.2.1, .double x9.2.2.1, .double x9.2.2.2])), (a_this_values, .inl (k 1, 256, aD v_this_values)), (a_this_kinds, .inl (k 2, 256, aI v_this_kinds))] H → va_D A [(a_this, .inr (0, [.ref a_this_values, .ref a_this_kinds, .int v_this_table, .double v_this_guard, .double v_this_ratio, .int v_this_bridging, .int v_this_length, .int x9.2.1, .double x9.2.2.1, .double x9.2.2.2])), (a_this_values, .inl (k 1, 256, aD v_this_values)), (a_this_kinds, .inl (k 2, 256, aI v_this_kinds))] → va_S A s.heap H locs → lv_has ls 11 [(3, .int x9.1)] → W p l e (headSpec wsX1_seekGuess rm_X1_seekGuess).room s m ([.ref a_this, .int p1] : List Value).toArray below meth c H locs 0 0 Q (F0 m 160 ls []) := by
        intro H locs ls hP hD hS hl
        refine lv_iload_n hx hb dX1_seekGuess_160 rfl (lv_at hl 0 rfl) ?_
        obtain ⟨g10, hf⟩ := gD_h hf
        have ho := Option.some.inj hf
        subst ho
        rw [hQ]
        exact W.zret (v := x9.1) (ty := .boolean) hx hb hr (isB_n g10) (fun t ht hW => ⟨⟨x9.1, (), rfl, rfl, by rw [ht]; exact hP.sub (ws' := [(a_this, .inr (0, [.ref a_this_values, .ref a_this_kinds, .int v_this_table, .double v_this_guard, .double v_this_ratio, .int v_this_bridging, .int v_this_length, .int x9.2.1, .double x9.2.2.1, .double x9.2.2.2])), (a_this_values, .inl (k 1, 256, aD v_this_values)), (a_this_kinds, .inl (k 2, 256, aI v_this_kinds))]) [0, 1, 2] rfl, va_K.moved hW.alike hK, hD.sub (ws' := [(a_this, .inr (0, [.ref a_this_values, .ref a_this_kinds, .int v_this_table, .double v_this_guard, .double v_this_ratio, .int v_this_bridging, .int v_this_length, .int x9.2.1, .double x9.2.2.1, .double x9.2.2.2])), (a_this_values, .inl (k 1, 256, aD v_this_values)), (a_this_kinds, .inl (k 2, 256, aI v_this_kinds))]) [0, 1, 2] (by decide) rfl⟩, hS.F ht⟩) hS.2.2 dX1_seekGuess_161
      have L49 : ∀ (n49 : Nat) (x49_2 : Int32) (x49_3 : Int32) (x49_4 : Int32) (w49_this_guessColumn : Int32) (w49_this_guessError : UInt64) (w49_this_guessValue : UInt64) (H : Heap) (locs : List Loc) (ls : Array Slot), va_P D vwCl [(a_this, .inr (0, [.ref a_this_values, .ref a_this_kinds, .int v_this_table, .double v_this_guard, .double v_this_ratio, .int v_this_bridging, .int v_this_length, .int w49_this_guessColumn, .double w49_this_guessError, .double w49_this_guessValue])), (a_this_values, .inl (k 1, 256, aD v_this_values)), (a_this_kinds, .inl (k 2, 256, aI v_this_kinds))] H → va_D A [(a_this, .inr (0, [.ref a_this_values, .ref a_this_kinds, .int v_this_table, .double v_this_guard, .double v_this_ratio, .int v_this_bridging, .int v_this_length, .int w49_this_guessColumn, .double w49_this_guessError, .double w49_this_guessValue])), (a_this_values, .inl (k 1, 256, aD v_this_values)), (a_this_kinds, .inl (k 2, 256, aI v_this_kinds))] → va_S A s.heap H locs → lv_has ls 11 [(0, .ref a_this), (1, .int p1), (2, .int x49_2), (3, .int x49_3), (4, .int x49_4)] → p_X1_seekGuess_L49 v_this_values v_this_kinds v_this_table p1 n49 x49_2 x49_3 x49_4 w49_this_guessColumn w49_this_guessError w49_this_guessValue = some x9 → W p l e (headSpec wsX1_seekGuess rm_X1_seekGuess).room s m ([.ref a_this, .int p1] : List Value).toArray below meth c H locs 0 0 Q (F0 m 49 ls []) := by
        intro n49
        induction n49 with
        | zero =>
          intro x49_2 x49_3 x49_4 w49_this_guessColumn w49_this_guessError w49_this_guessValue H locs ls hP hD hS hl hx9
          exact absurd hx9 (by simp [p_X1_seekGuess_L49])
        | succ n49 ih49 =>
          intro x49_2 x49_3 x49_4 w49_this_guessColumn w49_this_guessError w49_this_guessValue H locs ls hP hD hS hl hx9
          rw [p_X1_seekGuess_L49] at hx9
          refine lv_iload hx hb dX1_seekGuess_49 (lv_at hl 4 rfl) ?_
          refine lv_bipush (v := 16) hx hb dX1_seekGuess_51 (by decide) ?_
          refine lv_icmp_ge (tgt := 160) hx hb dX1_seekGuess_53 (by decide) (fun c1001 => ?_) (fun c1001 => ?_)
          · skip
            have hx9 := if_t c1001 hx9
            have ho := Option.some.inj hx9
            subst ho
            exact X160 H locs ls hP hD hS (lv_sub hl [3] rfl)
          · skip
            have hx9 := if_f c1001 hx9
            refine lv_aload_n hx hb dX1_seekGuess_56 rfl (lv_at hl 0 rfl) ?_
            refine lv_iload hx hb dX1_seekGuess_57 (lv_at hl 4 rfl) ?_
            refine lv_iload_n hx hb dX1_seekGuess_59 rfl (lv_at hl 1 rfl) ?_
            obtain ⟨x1002, hx1002, hx9⟩ := bind_s hx9
            refine cc_i (r := x1002) (wc := [(a_this, .inr (0, [.ref a_this_values, .ref a_this_kinds, .int v_this_table, .double v_this_guard, .double v_this_ratio, .int v_this_bridging, .int v_this_length, .int w49_this_guessColumn, .double w49_this_guessError, .double w49_this_guessValue])), (a_this_kinds, .inl (k 2, 256, aI v_this_kinds))]) (wr := [(a_this_values, .inl (k 1, 256, aD v_this_values))]) (w1 := [(a_this, .inr (0, [.ref a_this_values, .ref a_this_kinds, .int v_this_table, .double v_this_guard, .double v_this_ratio, .int v_this_bridging, .int v_this_length, .int w49_this_guessColumn, .double w49_this_guessError, .double w49_this_guessValue])), (a_this_kinds, .inl (k 2, 256, aI v_this_kinds))]) (va_runV (As := [.int x49_4, .int p1]) (rest := []) ⟨hx, hb, hml, hown, hts⟩ (mt_X1_endOf l D k a_this a_this_values a_this_kinds _ v_this_kinds v_this_table v_this_guard v_this_ratio v_this_bridging v_this_length w49_this_guessColumn w49_this_guessError w49_this_guessValue x49_4 p1 x1002 hx1002) (cwV 2 hts gX1_seekGuess_X1_endOf rfl rfl rfl (by decide +kernel) ⟨(Nat.le_of_ble_eq_true rfl), (Nat.le_of_ble_eq_true rfl)⟩) (cc_pv (wc := [(a_this, .inr (0, [.ref a_this_values, .ref a_this_kinds, .int v_this_table, .double v_this_guard, .double v_this_ratio, .int v_this_bridging, .int v_this_length, .int w49_this_guessColumn, .double w49_this_guessError, .double w49_this_guessValue])), (a_this_kinds, .inl (k 2, 256, aI v_this_kinds))]) hK hP hD [0, 2] (by decide) rfl rfl 0 0 rfl rfl rfl) rfl rfl hl.1 rfl (lv_room (Nat.le_of_ble_eq_true rfl)) dX1_seekGuess_60 ⟨Nat.zero_le _, Nat.zero_le _⟩) hP hD hS hA [0, 2] [1] rfl rfl (by decide) (by decide) (fun H locs hP hD hS => ?_)
            have hP : va_P D vwCl [(a_this_values, .inl (k 1, 256, aD v_this_values)), (a_this, .inr (0, [.ref a_this_values, .ref a_this_kinds, .int v_this_table, .double v_this_guard, .double v_this_ratio, .int v_this_bridging, .int v_this_length, .int w49_this_guessColumn, .double w49_this_guessError, .double w49_this_guessValue])), (a_this_kinds, .inl (k 2, 256, aI v_this_kinds))] H := hP
            have hD : va_D A [(a_this_values, .inl (k 1, 256, aD v_this_values)), (a_this, .inr (0, [.ref a_this_values, .ref a_this_kinds, .int v_this_table, .double v_this_guard, .double v_this_ratio, .int v_this_bridging, .int v_this_length, .int w49_this_guessColumn, .double w49_this_guessError, .double w49_this_guessValue])), (a_this_kinds, .inl (k 2, 256, aI v_this_kinds))] := hD
            refine lv_istore (lv' := [(5, .int x1002), (0, .ref a_this), (1, .int p1), (2, .int x49_2), (3, .int x49_3), (4, .int x49_4)]) hx hb dX1_seekGuess_63 hl (by decide) rfl (fun ls hl => ?_)
            refine lv_aload_n hx hb dX1_seekGuess_65 rfl (lv_at hl 1 rfl) ?_
            refine lv_iload hx hb dX1_seekGuess_66 (lv_at hl 5 rfl) ?_
            refine lv_iload_n hx hb dX1_seekGuess_68 rfl (lv_at hl 3 rfl) ?_
            refine lv_isub hx hb dX1_seekGuess_69 ?_
            refine lv_iload_n hx hb dX1_seekGuess_70 rfl (lv_at hl 2 rfl) ?_
            obtain ⟨x1003, hx1003, hx9⟩ := bind_s hx9
            refine cc_i (r := x1003) (wc := [(a_this, .inr (0, [.ref a_this_values, .ref a_this_kinds, .int v_this_table, .double v_this_guard, .double v_this_ratio, .int v_this_bridging, .int v_this_length, .int w49_this_guessColumn, .double w49_this_guessError, .double w49_this_guessValue])), (a_this_kinds, .inl (k 2, 256, aI v_this_kinds))]) (wr := [(a_this_values, .inl (k 1, 256, aD v_this_values))]) (w1 := [(a_this, .inr (0, [.ref a_this_values, .ref a_this_kinds, .int v_this_table, .double v_this_guard, .double v_this_ratio, .int v_this_bridging, .int v_this_length, .int w49_this_guessColumn, .double w49_this_guessError, .double w49_this_guessValue])), (a_this_kinds, .inl (k 2, 256, aI v_this_kinds))]) (va_runV (As := [.int (x49_4 - x49_2), .int p1]) (rest := []) ⟨hx, hb, hml, hown, hts⟩ (mt_X1_endOf l D k a_this a_this_values a_this_kinds _ v_this_kinds v_this_table v_this_guard v_this_ratio v_this_bridging v_this_length w49_this_guessColumn w49_this_guessError w49_this_guessValue (x49_4 - x49_2) p1 x1003 hx1003) (cwV 2 hts gX1_seekGuess_X1_endOf rfl rfl rfl (by decide +kernel) ⟨(Nat.le_of_ble_eq_true rfl), (Nat.le_of_ble_eq_true rfl)⟩) (cc_pv (wc := [(a_this, .inr (0, [.ref a_this_values, .ref a_this_kinds, .int v_this_table, .double v_this_guard, .double v_this_ratio, .int v_this_bridging, .int v_this_length, .int w49_this_guessColumn, .double w49_this_guessError, .double w49_this_guessValue])), (a_this_kinds, .inl (k 2, 256, aI v_this_kinds))]) hK hP hD [1, 2] (by decide) rfl rfl 0 1 rfl rfl rfl) rfl rfl hl.1 rfl (lv_room (Nat.le_of_ble_eq_true rfl)) dX1_seekGuess_71 ⟨Nat.zero_le _, Nat.zero_le _⟩) hP hD hS hA [1, 2] [0] rfl rfl (by decide) (by decide) (fun H locs hP hD hS => ?_)
            have hP : va_P D vwCl [(a_this_values, .inl (k 1, 256, aD v_this_values)), (a_this, .inr (0, [.ref a_this_values, .ref a_this_kinds, .int v_this_table, .double v_this_guard, .double v_this_ratio, .int v_this_bridging, .int v_this_length, .int w49_this_guessColumn, .double w49_this_guessError, .double w49_this_guessValue])), (a_this_kinds, .inl (k 2, 256, aI v_this_kinds))] H := hP
            have hD : va_D A [(a_this_values, .inl (k 1, 256, aD v_this_values)), (a_this, .inr (0, [.ref a_this_values, .ref a_this_kinds, .int v_this_table, .double v_this_guard, .double v_this_ratio, .int v_this_bridging, .int v_this_length, .int w49_this_guessColumn, .double w49_this_guessError, .double w49_this_guessValue])), (a_this_kinds, .inl (k 2, 256, aI v_this_kinds))] := hD
            refine lv_istore (lv' := [(6, .int x1003), (5, .int x1002), (0, .ref a_this), (1, .int p1), (2, .int x49_2), (3, .int x49_3), (4, .int x49_4)]) hx hb dX1_seekGuess_74 hl (by decide) rfl (fun ls hl => ?_)
            refine lv_iload hx hb dX1_seekGuess_76 (lv_at hl 1 rfl) ?_
            refine lv_if_lt (tgt := 151) hx hb dX1_seekGuess_78 (by decide) (fun c1004 => ?_) (fun c1004 => ?_)
            · skip
              have hx9 := if_t c1004 hx9
              refine lv_iload hx hb dX1_seekGuess_151 (lv_at hl 6 rfl) ?_
              refine lv_iload_n hx hb dX1_seekGuess_153 rfl (lv_at hl 4 rfl) ?_
              refine lv_iadd hx hb dX1_seekGuess_154 ?_
              refine lv_istore (lv' := [(4, .int (x49_4 + x49_2)), (6, .int x1003), (5, .int x1002), (0, .ref a_this), (1, .int p1), (2, .int x49_2), (3, .int x49_3)]) hx hb dX1_seekGuess_155 hl (by decide) rfl (fun ls hl => ?_)
              refine lv_goto (tgt := 49) hx hb dX1_seekGuess_157 (by decide) ?_
              have hP := hP.sub (ws' := [(a_this, .inr (0, [.ref a_this_values, .ref a_this_kinds, .int v_this_table, .double v_this_guard, .double v_this_ratio, .int v_this_bridging, .int v_this_length, .int w49_this_guessColumn, .double w49_this_guessError, .double w49_this_guessValue])), (a_this_values, .inl (k 1, 256, aD v_this_values)), (a_this_kinds, .inl (k 2, 256, aI v_this_kinds))]) [1, 0, 2] rfl
              have hD := hD.sub (ws' := [(a_this, .inr (0, [.ref a_this_values, .ref a_this_kinds, .int v_this_table, .double v_this_guard, .double v_this_ratio, .int v_this_bridging, .int v_this_length, .int w49_this_guessColumn, .double w49_this_guessError, .double w49_this_guessValue])), (a_this_values, .inl (k 1, 256, aD v_this_values)), (a_this_kinds, .inl (k 2, 256, aI v_this_kinds))]) [1, 0, 2] (by decide) rfl
              exact ih49 x49_2 x49_3 (x49_4 + x49_2) w49_this_guessColumn w49_this_guessError w49_this_guessValue H locs ls hP hD hS (lv_sub hl [3, 4, 5, 6, 0] rfl) hx9
            · skip
              have hx9 := if_f c1004 hx9
              refine lv_iload hx hb dX1_seekGuess_81 (lv_at hl 0 rfl) ?_
              refine lv_if_ge (tgt := 89) hx hb dX1_seekGuess_83 (by decide) (fun c1005 => ?_) (fun c1005 => ?_)
              · skip
                have hx9 := if_t c1005 hx9
                refine lv_aload_n hx hb dX1_seekGuess_89 rfl (lv_at hl 2 rfl) ?_
                refine lv_iload hx hb dX1_seekGuess_90 (lv_at hl 6 rfl) ?_
                refine lv_iload hx hb dX1_seekGuess_92 (lv_at hl 1 rfl) ?_
                obtain ⟨x1006, hx1006, hx9⟩ := bind_s hx9
                refine cc_d (r := x1006) (wc := [(a_this, .inr (0, [.ref a_this_values, .ref a_this_kinds, .int v_this_table, .double v_this_guard, .double v_this_ratio, .int v_this_bridging, .int v_this_length, .int w49_this_guessColumn, .double w49_this_guessError, .double w49_this_guessValue])), (a_this_values, .inl (k 1, 256, aD v_this_values))]) (wr := [(a_this_kinds, .inl (k 2, 256, aI v_this_kinds))]) (w1 := [(a_this, .inr (0, [.ref a_this_values, .ref a_this_kinds, .int v_this_table, .double v_this_guard, .double v_this_ratio, .int v_this_bridging, .int v_this_length, .int w49_this_guessColumn, .double w49_this_guessError, .double w49_this_guessValue])), (a_this_values, .inl (k 1, 256, aD v_this_values))]) (va_runV (As := [.int x49_4, .int x1002]) (rest := []) ⟨hx, hb, hml, hown, hts⟩ (mt_X1_valueAt l D k a_this a_this_values a_this_kinds _ v_this_values v_this_table v_this_guard v_this_ratio v_this_bridging v_this_length w49_this_guessColumn w49_this_guessError w49_this_guessValue x49_4 x1002 x1006 hx1006) (cwV 2 hts gX1_seekGuess_X1_valueAt rfl rfl rfl (by decide +kernel) ⟨(Nat.le_of_ble_eq_true rfl), (Nat.le_of_ble_eq_true rfl)⟩) (cc_pv (wc := [(a_this, .inr (0, [.ref a_this_values, .ref a_this_kinds, .int v_this_table, .double v_this_guard, .double v_this_ratio, .int v_this_bridging, .int v_this_length, .int w49_this_guessColumn, .double w49_this_guessError, .double w49_this_guessValue])), (a_this_values, .inl (k 1, 256, aD v_this_values))]) hK hP hD [1, 0] (by decide) rfl rfl 0 1 rfl rfl rfl) rfl rfl hl.1 rfl (lv_room (Nat.le_of_ble_eq_true rfl)) dX1_seekGuess_94 ⟨Nat.zero_le _, Nat.zero_le _⟩) hP hD hS hA [1, 0] [2] rfl rfl (by decide) (by decide) (fun H locs hP hD hS => ?_)
                have hP : va_P D vwCl [(a_this_kinds, .inl (k 2, 256, aI v_this_kinds)), (a_this, .inr (0, [.ref a_this_values, .ref a_this_kinds, .int v_this_table, .double v_this_guard, .double v_this_ratio, .int v_this_bridging, .int v_this_length, .int w49_this_guessColumn, .double w49_this_guessError, .double w49_this_guessValue])), (a_this_values, .inl (k 1, 256, aD v_this_values))] H := hP
                have hD : va_D A [(a_this_kinds, .inl (k 2, 256, aI v_this_kinds)), (a_this, .inr (0, [.ref a_this_values, .ref a_this_kinds, .int v_this_table, .double v_this_guard, .double v_this_ratio, .int v_this_bridging, .int v_this_length, .int w49_this_guessColumn, .double w49_this_guessError, .double w49_this_guessValue])), (a_this_values, .inl (k 1, 256, aD v_this_values))] := hD
                refine lv_dstore (lv' := [(7, .double x1006), (6, .int x1003), (5, .int x1002), (0, .ref a_this), (1, .int p1), (2, .int x49_2), (3, .int x49_3), (4, .int x49_4)]) hx hb dX1_seekGuess_97 hl (by decide) rfl (fun ls hl => ?_)
                refine lv_dload hx hb dX1_seekGuess_99 (lv_at hl 0 rfl) ?_
                refine lv_aload_n hx hb dX1_seekGuess_101 rfl (lv_at hl 3 rfl) ?_
                refine lv_iload hx hb dX1_seekGuess_102 (lv_at hl 7 rfl) ?_
                refine lv_iload_n hx hb dX1_seekGuess_104 rfl (lv_at hl 5 rfl) ?_
                refine lv_isub hx hb dX1_seekGuess_105 ?_
                refine lv_iload hx hb dX1_seekGuess_106 (lv_at hl 1 rfl) ?_
                obtain ⟨x1007, hx1007, hx9⟩ := bind_s hx9
                refine cc_d (r := x1007) (wc := [(a_this, .inr (0, [.ref a_this_values, .ref a_this_kinds, .int v_this_table, .double v_this_guard, .double v_this_ratio, .int v_this_bridging, .int v_this_length, .int w49_this_guessColumn, .double w49_this_guessError, .double w49_this_guessValue])), (a_this_values, .inl (k 1, 256, aD v_this_values))]) (wr := [(a_this_kinds, .inl (k 2, 256, aI v_this_kinds))]) (w1 := [(a_this, .inr (0, [.ref a_this_values, .ref a_this_kinds, .int v_this_table, .double v_this_guard, .double v_this_ratio, .int v_this_bridging, .int v_this_length, .int w49_this_guessColumn, .double w49_this_guessError, .double w49_this_guessValue])), (a_this_values, .inl (k 1, 256, aD v_this_values))]) (va_runV (As := [.int (x49_4 - x49_2), .int x1003]) (rest := [.double x1006]) ⟨hx, hb, hml, hown, hts⟩ (mt_X1_valueAt l D k a_this a_this_values a_this_kinds _ v_this_values v_this_table v_this_guard v_this_ratio v_this_bridging v_this_length w49_this_guessColumn w49_this_guessError w49_this_guessValue (x49_4 - x49_2) x1003 x1007 hx1007) (cwV 2 hts gX1_seekGuess_X1_valueAt rfl rfl rfl (by decide +kernel) ⟨(Nat.le_of_ble_eq_true rfl), (Nat.le_of_ble_eq_true rfl)⟩) (cc_pv (wc := [(a_this, .inr (0, [.ref a_this_values, .ref a_this_kinds, .int v_this_table, .double v_this_guard, .double v_this_ratio, .int v_this_bridging, .int v_this_length, .int w49_this_guessColumn, .double w49_this_guessError, .double w49_this_guessValue])), (a_this_values, .inl (k 1, 256, aD v_this_values))]) hK hP hD [1, 2] (by decide) rfl rfl 0 1 rfl rfl rfl) rfl rfl hl.1 rfl (lv_room (Nat.le_of_ble_eq_true rfl)) dX1_seekGuess_108 ⟨Nat.zero_le _, Nat.zero_le _⟩) hP hD hS hA [1, 2] [0] rfl rfl (by decide) (by decide) (fun H locs hP hD hS => ?_)
                have hP : va_P D vwCl [(a_this_kinds, .inl (k 2, 256, aI v_this_kinds)), (a_this, .inr (0, [.ref a_this_values, .ref a_this_kinds, .int v_this_table, .double v_this_guard, .double v_this_ratio, .int v_this_bridging, .int v_this_length, .int w49_this_guessColumn, .double w49_this_guessError, .double w49_this_guessValue])), (a_this_values, .inl (k 1, 256, aD v_this_values))] H := hP
                have hD : va_D A [(a_this_kinds, .inl (k 2, 256, aI v_this_kinds)), (a_this, .inr (0, [.ref a_this_values, .ref a_this_kinds, .int v_this_table, .double v_this_guard, .double v_this_ratio, .int v_this_bridging, .int v_this_length, .int w49_this_guessColumn, .double w49_this_guessError, .double w49_this_guessValue])), (a_this_values, .inl (k 1, 256, aD v_this_values))] := hD
                refine lv_dsub hx hb dX1_seekGuess_111 (dop_h hx9) ?_
                refine lv_topd (fun d1008 ed1008 => ?_)
                have hx9 := dop_at ed1008 hx9
                obtain ⟨x1009, hx1009, hx9⟩ := bind_s hx9
                refine cc_d (r := x1009) (wc := []) (wr := [(a_this_kinds, .inl (k 2, 256, aI v_this_kinds)), (a_this, .inr (0, [.ref a_this_values, .ref a_this_kinds, .int v_this_table, .double v_this_guard, .double v_this_ratio, .int v_this_bridging, .int v_this_length, .int w49_this_guessColumn, .double w49_this_guessError, .double w49_this_guessValue])), (a_this_values, .inl (k 1, 256, aD v_this_values))]) (w1 := []) (va_runS (As := [.double d1008]) (rest := []) ⟨hx, hb, hml, hown, hts⟩ (mt_X3_sizeOf l D k  _  d1008 x1009 hx1009) (va_cwS 1 hts gX1_seekGuess_X3_sizeOf rfl rfl rfl (by decide +kernel) ⟨(Nat.le_of_ble_eq_true rfl), (Nat.le_of_ble_eq_true rfl)⟩) (cc_ps (wc := []) hK hP hD [] (by decide) rfl rfl) rfl rfl hl.1 rfl (lv_room (Nat.le_of_ble_eq_true rfl)) dX1_seekGuess_112 ⟨Nat.zero_le _, Nat.zero_le _⟩) hP hD hS hA [] [0, 1, 2] rfl rfl (by decide) (by decide) (fun H locs hP hD hS => ?_)
                have hP : va_P D vwCl [(a_this_kinds, .inl (k 2, 256, aI v_this_kinds)), (a_this, .inr (0, [.ref a_this_values, .ref a_this_kinds, .int v_this_table, .double v_this_guard, .double v_this_ratio, .int v_this_bridging, .int v_this_length, .int w49_this_guessColumn, .double w49_this_guessError, .double w49_this_guessValue])), (a_this_values, .inl (k 1, 256, aD v_this_values))] H := hP
                have hD : va_D A [(a_this_kinds, .inl (k 2, 256, aI v_this_kinds)), (a_this, .inr (0, [.ref a_this_values, .ref a_this_kinds, .int v_this_table, .double v_this_guard, .double v_this_ratio, .int v_this_bridging, .int v_this_length, .int w49_this_guessColumn, .double w49_this_guessError, .double w49_this_guessValue])), (a_this_values, .inl (k 1, 256, aD v_this_values))] := hD
                refine lv_dstore (lv' := [(9, .double x1009), (7, .double x1006), (6, .int x1003), (5, .int x1002), (0, .ref a_this), (1, .int p1), (2, .int x49_2), (3, .int x49_3), (4, .int x49_4)]) hx hb dX1_seekGuess_115 hl (by decide) rfl (fun ls hl => ?_)
                refine lv_iload_n hx hb dX1_seekGuess_117 rfl (lv_at hl 7 rfl) ?_
                refine lv_if_eq (tgt := 131) hx hb dX1_seekGuess_118 (by decide) (fun c1010 => ?_) (fun c1010 => ?_)
                · skip
                  have hx9 := if_t c1010 hx9
                  refine lv_iconst (v := 1) hx hb dX1_seekGuess_131 (by decide) ?_
                  refine lv_istore_n (lv' := [(3, .int (1 : Int32)), (9, .double x1009), (7, .double x1006), (6, .int x1003), (5, .int x1002), (0, .ref a_this), (1, .int p1), (2, .int x49_2), (4, .int x49_4)]) hx hb dX1_seekGuess_132 rfl hl (by decide) rfl (fun ls hl => ?_)
                  refine lv_aload_n hx hb dX1_seekGuess_133 rfl (lv_at hl 5 rfl) ?_
                  refine lv_iload hx hb dX1_seekGuess_134 (lv_at hl 8 rfl) ?_
                  refine va_put (D := D) (ci := 0) (v := .int x49_4) (ty := .int) (C := RX1) (T := TX1) (N := 10) hx hb hts hinX1_X1_seekGuess tyX1 tyX1_ok nmX1 hown hK hP hD hS 1 rfl rfl 7 (by decide) (hts (.fieldLink RX1 37 "LimitTables$Grid" "guessColumn" "I") (by decide +kernel)) (fun _ h9 => h9) rfl (by decide +kernel) rfl rfl (Nat.le_of_ble_eq_true rfl) dX1_seekGuess_136 (fun H locs hP hD hS => ?_)
                  have hP : va_P D vwCl [(a_this_kinds, .inl (k 2, 256, aI v_this_kinds)), (a_this, .inr (0, [.ref a_this_values, .ref a_this_kinds, .int v_this_table, .double v_this_guard, .double v_this_ratio, .int v_this_bridging, .int v_this_length, .int x49_4, .double w49_this_guessError, .double w49_this_guessValue])), (a_this_values, .inl (k 1, 256, aD v_this_values))] H := hP
                  have hD : va_D A [(a_this_kinds, .inl (k 2, 256, aI v_this_kinds)), (a_this, .inr (0, [.ref a_this_values, .ref a_this_kinds, .int v_this_table, .double v_this_guard, .double v_this_ratio, .int v_this_bridging, .int v_this_length, .int x49_4, .double w49_this_guessError, .double w49_this_guessValue])), (a_this_values, .inl (k 1, 256, aD v_this_values))] := hD
                  refine lv_aload_n hx hb dX1_seekGuess_139 rfl (lv_at hl 5 rfl) ?_
                  refine lv_dload hx hb dX1_seekGuess_140 (lv_at hl 1 rfl) ?_
                  refine va_put (D := D) (ci := 0) (v := .double x1009) (ty := .double) (C := RX1) (T := TX1) (N := 10) hx hb hts hinX1_X1_seekGuess tyX1 tyX1_ok nmX1 hown hK hP hD hS 1 rfl rfl 8 (by decide) (hts (.fieldLink RX1 40 "LimitTables$Grid" "guessError" "D") (by decide +kernel)) (fun _ h9 => h9) rfl (by decide +kernel) rfl rfl (Nat.le_of_ble_eq_true rfl) dX1_seekGuess_142 (fun H locs hP hD hS => ?_)
                  have hP : va_P D vwCl [(a_this_kinds, .inl (k 2, 256, aI v_this_kinds)), (a_this, .inr (0, [.ref a_this_values, .ref a_this_kinds, .int v_this_table, .double v_this_guard, .double v_this_ratio, .int v_this_bridging, .int v_this_length, .int x49_4, .double x1009, .double w49_this_guessValue])), (a_this_values, .inl (k 1, 256, aD v_this_values))] H := hP
                  have hD : va_D A [(a_this_kinds, .inl (k 2, 256, aI v_this_kinds)), (a_this, .inr (0, [.ref a_this_values, .ref a_this_kinds, .int v_this_table, .double v_this_guard, .double v_this_ratio, .int v_this_bridging, .int v_this_length, .int x49_4, .double x1009, .double w49_this_guessValue])), (a_this_values, .inl (k 1, 256, aD v_this_values))] := hD
                  refine lv_aload_n hx hb dX1_seekGuess_145 rfl (lv_at hl 5 rfl) ?_
                  refine lv_dload hx hb dX1_seekGuess_146 (lv_at hl 2 rfl) ?_
                  refine va_put (D := D) (ci := 0) (v := .double x1006) (ty := .double) (C := RX1) (T := TX1) (N := 10) hx hb hts hinX1_X1_seekGuess tyX1 tyX1_ok nmX1 hown hK hP hD hS 1 rfl rfl 9 (by decide) (hts (.fieldLink RX1 43 "LimitTables$Grid" "guessValue" "D") (by decide +kernel)) (fun _ h9 => h9) rfl (by decide +kernel) rfl rfl (Nat.le_of_ble_eq_true rfl) dX1_seekGuess_148 (fun H locs hP hD hS => ?_)
                  have hP : va_P D vwCl [(a_this_kinds, .inl (k 2, 256, aI v_this_kinds)), (a_this, .inr (0, [.ref a_this_values, .ref a_this_kinds, .int v_this_table, .double v_this_guard, .double v_this_ratio, .int v_this_bridging, .int v_this_length, .int x49_4, .double x1009, .double x1006])), (a_this_values, .inl (k 1, 256, aD v_this_values))] H := hP
                  have hD : va_D A [(a_this_kinds, .inl (k 2, 256, aI v_this_kinds)), (a_this, .inr (0, [.ref a_this_values, .ref a_this_kinds, .int v_this_table, .double v_this_guard, .double v_this_ratio, .int v_this_bridging, .int v_this_length, .int x49_4, .double x1009, .double x1006])), (a_this_values, .inl (k 1, 256, aD v_this_values))] := hD
                  refine lv_iload hx hb dX1_seekGuess_151 (lv_at hl 8 rfl) ?_
                  refine lv_iload_n hx hb dX1_seekGuess_153 rfl (lv_at hl 7 rfl) ?_
                  refine lv_iadd hx hb dX1_seekGuess_154 ?_
                  refine lv_istore (lv' := [(4, .int (x49_4 + x49_2)), (3, .int (1 : Int32)), (9, .double x1009), (7, .double x1006), (6, .int x1003), (5, .int x1002), (0, .ref a_this), (1, .int p1), (2, .int x49_2)]) hx hb dX1_seekGuess_155 hl (by decide) rfl (fun ls hl => ?_)
                  refine lv_goto (tgt := 49) hx hb dX1_seekGuess_157 (by decide) ?_
                  have hP := hP.sub (ws' := [(a_this, .inr (0, [.ref a_this_values, .ref a_this_kinds, .int v_this_table, .double v_this_guard, .double v_this_ratio, .int v_this_bridging, .int v_this_length, .int x49_4, .double x1009, .double x1006])), (a_this_values, .inl (k 1, 256, aD v_this_values)), (a_this_kinds, .inl (k 2, 256, aI v_this_kinds))]) [1, 2, 0] rfl
                  have hD := hD.sub (ws' := [(a_this, .inr (0, [.ref a_this_values, .ref a_this_kinds, .int v_this_table, .double v_this_guard, .double v_this_ratio, .int v_this_bridging, .int v_this_length, .int x49_4, .double x1009, .double x1006])), (a_this_values, .inl (k 1, 256, aD v_this_values)), (a_this_kinds, .inl (k 2, 256, aI v_this_kinds))]) [1, 2, 0] (by decide) rfl
                  exact ih49 x49_2 (1 : Int32) (x49_4 + x49_2) x49_4 x1009 x1006 H locs ls hP hD hS (lv_sub hl [6, 7, 8, 1, 0] rfl) hx9
                · skip
                  have hx9 := if_f c1010 hx9
                  refine lv_dload hx hb dX1_seekGuess_121 (lv_at hl 0 rfl) ?_
                  refine lv_aload_n hx hb dX1_seekGuess_123 rfl (lv_at hl 4 rfl) ?_
                  refine va_get (D := D) (ci := 0) (v := .double w49_this_guessError) (C := RX1) (T := TX1) (N := 10) hx hb hts hinX1_X1_seekGuess hown hK hP 1 rfl rfl 8 (by decide) (hts (.fieldLink RX1 40 "LimitTables$Grid" "guessError" "D") (by decide +kernel)) (fun _ h9 => h9) rfl dX1_seekGuess_124 ?_
                  refine lv_dcmp hx hb dX1_seekGuess_127 ?_
                  refine lv_if_ge (tgt := 151) hx hb dX1_seekGuess_128 (by decide) (fun c1011 => ?_) (fun c1011 => ?_)
                  · skip
                    have hx9 := if_t c1011 hx9
                    refine lv_iload hx hb dX1_seekGuess_151 (lv_at hl 8 rfl) ?_
                    refine lv_iload_n hx hb dX1_seekGuess_153 rfl (lv_at hl 6 rfl) ?_
                    refine lv_iadd hx hb dX1_seekGuess_154 ?_
                    refine lv_istore (lv' := [(4, .int (x49_4 + x49_2)), (9, .double x1009), (7, .double x1006), (6, .int x1003), (5, .int x1002), (0, .ref a_this), (1, .int p1), (2, .int x49_2), (3, .int x49_3)]) hx hb dX1_seekGuess_155 hl (by decide) rfl (fun ls hl => ?_)
                    refine lv_goto (tgt := 49) hx hb dX1_seekGuess_157 (by decide) ?_
                    have hP := hP.sub (ws' := [(a_this, .inr (0, [.ref a_this_values, .ref a_this_kinds, .int v_this_table, .double v_this_guard, .double v_this_ratio, .int v_this_bridging, .int v_this_length, .int w49_this_guessColumn, .double w49_this_guessError, .double w49_this_guessValue])), (a_this_values, .inl (k 1, 256, aD v_this_values)), (a_this_kinds, .inl (k 2, 256, aI v_this_kinds))]) [1, 2, 0] rfl
                    have hD := hD.sub (ws' := [(a_this, .inr (0, [.ref a_this_values, .ref a_this_kinds, .int v_this_table, .double v_this_guard, .double v_this_ratio, .int v_this_bridging, .int v_this_length, .int w49_this_guessColumn, .double w49_this_guessError, .double w49_this_guessValue])), (a_this_values, .inl (k 1, 256, aD v_this_values)), (a_this_kinds, .inl (k 2, 256, aI v_this_kinds))]) [1, 2, 0] (by decide) rfl
                    exact ih49 x49_2 x49_3 (x49_4 + x49_2) w49_this_guessColumn w49_this_guessError w49_this_guessValue H locs ls hP hD hS (lv_sub hl [5, 6, 7, 8, 0] rfl) hx9
                  · skip
                    have hx9 := if_f c1011 hx9
                    refine lv_iconst (v := 1) hx hb dX1_seekGuess_131 (by decide) ?_
                    refine lv_istore_n (lv' := [(3, .int (1 : Int32)), (9, .double x1009), (7, .double x1006), (6, .int x1003), (5, .int x1002), (0, .ref a_this), (1, .int p1), (2, .int x49_2), (4, .int x49_4)]) hx hb dX1_seekGuess_132 rfl hl (by decide) rfl (fun ls hl => ?_)
                    refine lv_aload_n hx hb dX1_seekGuess_133 rfl (lv_at hl 5 rfl) ?_
                    refine lv_iload hx hb dX1_seekGuess_134 (lv_at hl 8 rfl) ?_
                    refine va_put (D := D) (ci := 0) (v := .int x49_4) (ty := .int) (C := RX1) (T := TX1) (N := 10) hx hb hts hinX1_X1_seekGuess tyX1 tyX1_ok nmX1 hown hK hP hD hS 1 rfl rfl 7 (by decide) (hts (.fieldLink RX1 37 "LimitTables$Grid" "guessColumn" "I") (by decide +kernel)) (fun _ h9 => h9) rfl (by decide +kernel) rfl rfl (Nat.le_of_ble_eq_true rfl) dX1_seekGuess_136 (fun H locs hP hD hS => ?_)
                    have hP : va_P D vwCl [(a_this_kinds, .inl (k 2, 256, aI v_this_kinds)), (a_this, .inr (0, [.ref a_this_values, .ref a_this_kinds, .int v_this_table, .double v_this_guard, .double v_this_ratio, .int v_this_bridging, .int v_this_length, .int x49_4, .double w49_this_guessError, .double w49_this_guessValue])), (a_this_values, .inl (k 1, 256, aD v_this_values))] H := hP
                    have hD : va_D A [(a_this_kinds, .inl (k 2, 256, aI v_this_kinds)), (a_this, .inr (0, [.ref a_this_values, .ref a_this_kinds, .int v_this_table, .double v_this_guard, .double v_this_ratio, .int v_this_bridging, .int v_this_length, .int x49_4, .double w49_this_guessError, .double w49_this_guessValue])), (a_this_values, .inl (k 1, 256, aD v_this_values))] := hD
                    refine lv_aload_n hx hb dX1_seekGuess_139 rfl (lv_at hl 5 rfl) ?_
                    refine lv_dload hx hb dX1_seekGuess_140 (lv_at hl 1 rfl) ?_
                    refine va_put (D := D) (ci := 0) (v := .double x1009) (ty := .double) (C := RX1) (T := TX1) (N := 10) hx hb hts hinX1_X1_seekGuess tyX1 tyX1_ok nmX1 hown hK hP hD hS 1 rfl rfl 8 (by decide) (hts (.fieldLink RX1 40 "LimitTables$Grid" "guessError" "D") (by decide +kernel)) (fun _ h9 => h9) rfl (by decide +kernel) rfl rfl (Nat.le_of_ble_eq_true rfl) dX1_seekGuess_142 (fun H locs hP hD hS => ?_)
                    have hP : va_P D vwCl [(a_this_kinds, .inl (k 2, 256, aI v_this_kinds)), (a_this, .inr (0, [.ref a_this_values, .ref a_this_kinds, .int v_this_table, .double v_this_guard, .double v_this_ratio, .int v_this_bridging, .int v_this_length, .int x49_4, .double x1009, .double w49_this_guessValue])), (a_this_values, .inl (k 1, 256, aD v_this_values))] H := hP
                    have hD : va_D A [(a_this_kinds, .inl (k 2, 256, aI v_this_kinds)), (a_this, .inr (0, [.ref a_this_values, .ref a_this_kinds, .int v_this_table, .double v_this_guard, .double v_this_ratio, .int v_this_bridging, .int v_this_length, .int x49_4, .double x1009, .double w49_this_guessValue])), (a_this_values, .inl (k 1, 256, aD v_this_values))] := hD
                    refine lv_aload_n hx hb dX1_seekGuess_145 rfl (lv_at hl 5 rfl) ?_
                    refine lv_dload hx hb dX1_seekGuess_146 (lv_at hl 2 rfl) ?_
                    refine va_put (D := D) (ci := 0) (v := .double x1006) (ty := .double) (C := RX1) (T := TX1) (N := 10) hx hb hts hinX1_X1_seekGuess tyX1 tyX1_ok nmX1 hown hK hP hD hS 1 rfl rfl 9 (by decide) (hts (.fieldLink RX1 43 "LimitTables$Grid" "guessValue" "D") (by decide +kernel)) (fun _ h9 => h9) rfl (by decide +kernel) rfl rfl (Nat.le_of_ble_eq_true rfl) dX1_seekGuess_148 (fun H locs hP hD hS => ?_)
                    have hP : va_P D vwCl [(a_this_kinds, .inl (k 2, 256, aI v_this_kinds)), (a_this, .inr (0, [.ref a_this_values, .ref a_this_kinds, .int v_this_table, .double v_this_guard, .double v_this_ratio, .int v_this_bridging, .int v_this_length, .int x49_4, .double x1009, .double x1006])), (a_this_values, .inl (k 1, 256, aD v_this_values))] H := hP
                    have hD : va_D A [(a_this_kinds, .inl (k 2, 256, aI v_this_kinds)), (a_this, .inr (0, [.ref a_this_values, .ref a_this_kinds, .int v_this_table, .double v_this_guard, .double v_this_ratio, .int v_this_bridging, .int v_this_length, .int x49_4, .double x1009, .double x1006])), (a_this_values, .inl (k 1, 256, aD v_this_values))] := hD
                    refine lv_iload hx hb dX1_seekGuess_151 (lv_at hl 8 rfl) ?_
                    refine lv_iload_n hx hb dX1_seekGuess_153 rfl (lv_at hl 7 rfl) ?_
                    refine lv_iadd hx hb dX1_seekGuess_154 ?_
                    refine lv_istore (lv' := [(4, .int (x49_4 + x49_2)), (3, .int (1 : Int32)), (9, .double x1009), (7, .double x1006), (6, .int x1003), (5, .int x1002), (0, .ref a_this), (1, .int p1), (2, .int x49_2)]) hx hb dX1_seekGuess_155 hl (by decide) rfl (fun ls hl => ?_)
                    refine lv_goto (tgt := 49) hx hb dX1_seekGuess_157 (by decide) ?_
                    have hP := hP.sub (ws' := [(a_this, .inr (0, [.ref a_this_values, .ref a_this_kinds, .int v_this_table, .double v_this_guard, .double v_this_ratio, .int v_this_bridging, .int v_this_length, .int x49_4, .double x1009, .double x1006])), (a_this_values, .inl (k 1, 256, aD v_this_values)), (a_this_kinds, .inl (k 2, 256, aI v_this_kinds))]) [1, 2, 0] rfl
                    have hD := hD.sub (ws' := [(a_this, .inr (0, [.ref a_this_values, .ref a_this_kinds, .int v_this_table, .double v_this_guard, .double v_this_ratio, .int v_this_bridging, .int v_this_length, .int x49_4, .double x1009, .double x1006])), (a_this_values, .inl (k 1, 256, aD v_this_values)), (a_this_kinds, .inl (k 2, 256, aI v_this_kinds))]) [1, 2, 0] (by decide) rfl
                    exact ih49 x49_2 (1 : Int32) (x49_4 + x49_2) x49_4 x1009 x1006 H locs ls hP hD hS (lv_sub hl [6, 7, 8, 1, 0] rfl) hx9
              · skip
                have hx9 := if_f c1005 hx9
                refine lv_goto (tgt := 151) hx hb dX1_seekGuess_86 (by decide) ?_
                refine lv_iload hx hb dX1_seekGuess_151 (lv_at hl 6 rfl) ?_
                refine lv_iload_n hx hb dX1_seekGuess_153 rfl (lv_at hl 4 rfl) ?_
                refine lv_iadd hx hb dX1_seekGuess_154 ?_
                refine lv_istore (lv' := [(4, .int (x49_4 + x49_2)), (6, .int x1003), (5, .int x1002), (0, .ref a_this), (1, .int p1), (2, .int x49_2), (3, .int x49_3)]) hx hb dX1_seekGuess_155 hl (by decide) rfl (fun ls hl => ?_)
                refine lv_goto (tgt := 49) hx hb dX1_seekGuess_157 (by decide) ?_
                have hP := hP.sub (ws' := [(a_this, .inr (0, [.ref a_this_values, .ref a_this_kinds, .int v_this_table, .double v_this_guard, .double v_this_ratio, .int v_this_bridging, .int v_this_length, .int w49_this_guessColumn, .double w49_this_guessError, .double w49_this_guessValue])), (a_this_values, .inl (k 1, 256, aD v_this_values)), (a_this_kinds, .inl (k 2, 256, aI v_this_kinds))]) [1, 0, 2] rfl
                have hD := hD.sub (ws' := [(a_this, .inr (0, [.ref a_this_values, .ref a_this_kinds, .int v_this_table, .double v_this_guard, .double v_this_ratio, .int v_this_bridging, .int v_this_length, .int w49_this_guessColumn, .double w49_this_guessError, .double w49_this_guessValue])), (a_this_values, .inl (k 1, 256, aD v_this_values)), (a_this_kinds, .inl (k 2, 256, aI v_this_kinds))]) [1, 0, 2] (by decide) rfl
                exact ih49 x49_2 x49_3 (x49_4 + x49_2) w49_this_guessColumn w49_this_guessError w49_this_guessValue H locs ls hP hD hS (lv_sub hl [3, 4, 5, 6, 0] rfl) hx9
      exact L49 300 (2 : Int32) (0 : Int32) (2 : Int32) (0 : Int32) FP.dconst0 FP.dconst0 H locs ls hP hD hS (lv_sub hl [3, 4, 2, 1, 0] rfl) hx9
    · skip
      have hf := if_f c8 hf
      refine lv_aload_n hx hb dX1_seekGuess_31 rfl (lv_at hl 2 rfl) ?_
      refine va_get (D := D) (ci := 0) (v := .ref a_this_values) (C := RX1) (T := TX1) (N := 10) hx hb hts hinX1_X1_seekGuess hown hK hP 0 rfl rfl 0 (by decide) (hts (.fieldLink RX1 9 "LimitTables$Grid" "values" "[D") (by decide +kernel)) (fun _ h9 => h9) rfl dX1_seekGuess_32 ?_
      refine lv_iload_n hx hb dX1_seekGuess_35 rfl (lv_at hl 3 rfl) ?_
      refine lv_iconst (v := 1) hx hb dX1_seekGuess_36 (by decide) ?_
      refine lv_isub hx hb dX1_seekGuess_37 ?_
      obtain ⟨g11, hf⟩ := gD_h hf
      refine va_dald hx hb hK hP 1 1 rfl rfl (inb_in g11) dX1_seekGuess_38 ?_
      refine lv_goto (tgt := 43) hx hb dX1_seekGuess_39 (by decide) ?_
      refine va_put (D := D) (ci := 0) (v := .double (v_this_values (p1 - (1 : Int32)).toNatClampNeg)) (ty := .double) (C := RX1) (T := TX1) (N := 10) hx hb hts hinX1_X1_seekGuess tyX1 tyX1_ok nmX1 hown hK hP hD hS 0 rfl rfl 9 (by decide) (hts (.fieldLink RX1 43 "LimitTables$Grid" "guessValue" "D") (by decide +kernel)) (fun _ h9 => h9) rfl (by decide +kernel) rfl rfl (Nat.le_of_ble_eq_true rfl) dX1_seekGuess_43 (fun H locs hP hD hS => ?_)
      have hP : va_P D vwCl [(a_this, .inr (0, [.ref a_this_values, .ref a_this_kinds, .int v_this_table, .double v_this_guard, .double v_this_ratio, .int v_this_bridging, .int v_this_length, .int (0 : Int32), .double FP.dconst0, .double (v_this_values (p1 - (1 : Int32)).toNatClampNeg)])), (a_this_values, .inl (k 1, 256, aD v_this_values)), (a_this_kinds, .inl (k 2, 256, aI v_this_kinds))] H := hP
      have hD : va_D A [(a_this, .inr (0, [.ref a_this_values, .ref a_this_kinds, .int v_this_table, .double v_this_guard, .double v_this_ratio, .int v_this_bridging, .int v_this_length, .int (0 : Int32), .double FP.dconst0, .double (v_this_values (p1 - (1 : Int32)).toNatClampNeg)])), (a_this_values, .inl (k 1, 256, aD v_this_values)), (a_this_kinds, .inl (k 2, 256, aI v_this_kinds))] := hD
      refine lv_iload_n hx hb dX1_seekGuess_46 rfl (lv_at hl 1 rfl) ?_
      refine lv_istore (lv' := [(4, .int (2 : Int32)), (3, .int (0 : Int32)), (2, .int (2 : Int32)), (0, .ref a_this), (1, .int p1)]) hx hb dX1_seekGuess_47 hl (by decide) rfl (fun ls hl => ?_)
      obtain ⟨x12, hx12, hf⟩ := bind_s hf
      have X160 : ∀ (H : Heap) (locs : List Loc) (ls : Array Slot), va_P D vwCl [(a_this, .inr (0, [.ref a_this_values, .ref a_this_kinds, .int v_this_table, .double v_this_guard, .double v_this_ratio, .int v_this_bridging, .int v_this_length, .int x12.2.1, .double x12.2.2.1, .double x12.2.2.2])), (a_this_values, .inl (k 1, 256, aD v_this_values)), (a_this_kinds, .inl (k 2, 256, aI v_this_kinds))] H → va_D A [(a_this, .inr (0, [.ref a_this_values, .ref a_this_kinds, .int v_this_table, .double v_this_guard, .double v_this_ratio, .int v_this_bridging, .int v_this_length, .int x12.2.1, .double x12.2.2.1, .double x12.2.2.2])), (a_this_values, .inl (k 1, 256, aD v_this_values)), (a_this_kinds, .inl (k 2, 256, aI v_this_kinds))] → va_S A s.heap H locs → lv_has ls 11 [(3, .int x12.1)] → W p l e (headSpec wsX1_seekGuess rm_X1_seekGuess).room s m ([.ref a_this, .int p1] : List Value).toArray below meth c H locs 0 0 Q (F0 m 160 ls []) := by
        intro H locs ls hP hD hS hl
        refine lv_iload_n hx hb dX1_seekGuess_160 rfl (lv_at hl 0 rfl) ?_
        obtain ⟨g13, hf⟩ := gD_h hf
        have ho := Option.some.inj hf
        subst ho
        rw [hQ]
        exact W.zret (v := x12.1) (ty := .boolean) hx hb hr (isB_n g13) (fun t ht hW => ⟨⟨x12.1, (), rfl, rfl, by rw [ht]; exact hP.sub (ws' := [(a_this, .inr (0, [.ref a_this_values, .ref a_this_kinds, .int v_this_table, .double v_this_guard, .double v_this_ratio, .int v_this_bridging, .int v_this_length, .int x12.2.1, .double x12.2.2.1, .double x12.2.2.2])), (a_this_values, .inl (k 1, 256, aD v_this_values)), (a_this_kinds, .inl (k 2, 256, aI v_this_kinds))]) [0, 1, 2] rfl, va_K.moved hW.alike hK, hD.sub (ws' := [(a_this, .inr (0, [.ref a_this_values, .ref a_this_kinds, .int v_this_table, .double v_this_guard, .double v_this_ratio, .int v_this_bridging, .int v_this_length, .int x12.2.1, .double x12.2.2.1, .double x12.2.2.2])), (a_this_values, .inl (k 1, 256, aD v_this_values)), (a_this_kinds, .inl (k 2, 256, aI v_this_kinds))]) [0, 1, 2] (by decide) rfl⟩, hS.F ht⟩) hS.2.2 dX1_seekGuess_161
      have L49 : ∀ (n49 : Nat) (x49_2 : Int32) (x49_3 : Int32) (x49_4 : Int32) (w49_this_guessColumn : Int32) (w49_this_guessError : UInt64) (w49_this_guessValue : UInt64) (H : Heap) (locs : List Loc) (ls : Array Slot), va_P D vwCl [(a_this, .inr (0, [.ref a_this_values, .ref a_this_kinds, .int v_this_table, .double v_this_guard, .double v_this_ratio, .int v_this_bridging, .int v_this_length, .int w49_this_guessColumn, .double w49_this_guessError, .double w49_this_guessValue])), (a_this_values, .inl (k 1, 256, aD v_this_values)), (a_this_kinds, .inl (k 2, 256, aI v_this_kinds))] H → va_D A [(a_this, .inr (0, [.ref a_this_values, .ref a_this_kinds, .int v_this_table, .double v_this_guard, .double v_this_ratio, .int v_this_bridging, .int v_this_length, .int w49_this_guessColumn, .double w49_this_guessError, .double w49_this_guessValue])), (a_this_values, .inl (k 1, 256, aD v_this_values)), (a_this_kinds, .inl (k 2, 256, aI v_this_kinds))] → va_S A s.heap H locs → lv_has ls 11 [(0, .ref a_this), (1, .int p1), (2, .int x49_2), (3, .int x49_3), (4, .int x49_4)] → p_X1_seekGuess_L49 v_this_values v_this_kinds v_this_table p1 n49 x49_2 x49_3 x49_4 w49_this_guessColumn w49_this_guessError w49_this_guessValue = some x12 → W p l e (headSpec wsX1_seekGuess rm_X1_seekGuess).room s m ([.ref a_this, .int p1] : List Value).toArray below meth c H locs 0 0 Q (F0 m 49 ls []) := by
        intro n49
        induction n49 with
        | zero =>
          intro x49_2 x49_3 x49_4 w49_this_guessColumn w49_this_guessError w49_this_guessValue H locs ls hP hD hS hl hx12
          exact absurd hx12 (by simp [p_X1_seekGuess_L49])
        | succ n49 ih49 =>
          intro x49_2 x49_3 x49_4 w49_this_guessColumn w49_this_guessError w49_this_guessValue H locs ls hP hD hS hl hx12
          rw [p_X1_seekGuess_L49] at hx12
          refine lv_iload hx hb dX1_seekGuess_49 (lv_at hl 4 rfl) ?_
          refine lv_bipush (v := 16) hx hb dX1_seekGuess_51 (by decide) ?_
          refine lv_icmp_ge (tgt := 160) hx hb dX1_seekGuess_53 (by decide) (fun c1001 => ?_) (fun c1001 => ?_)
          · skip
            have hx12 := if_t c1001 hx12
            have ho := Option.some.inj hx12
            subst ho
            exact X160 H locs ls hP hD hS (lv_sub hl [3] rfl)
          · skip
            have hx12 := if_f c1001 hx12
            refine lv_aload_n hx hb dX1_seekGuess_56 rfl (lv_at hl 0 rfl) ?_
            refine lv_iload hx hb dX1_seekGuess_57 (lv_at hl 4 rfl) ?_
            refine lv_iload_n hx hb dX1_seekGuess_59 rfl (lv_at hl 1 rfl) ?_
            obtain ⟨x1002, hx1002, hx12⟩ := bind_s hx12
            refine cc_i (r := x1002) (wc := [(a_this, .inr (0, [.ref a_this_values, .ref a_this_kinds, .int v_this_table, .double v_this_guard, .double v_this_ratio, .int v_this_bridging, .int v_this_length, .int w49_this_guessColumn, .double w49_this_guessError, .double w49_this_guessValue])), (a_this_kinds, .inl (k 2, 256, aI v_this_kinds))]) (wr := [(a_this_values, .inl (k 1, 256, aD v_this_values))]) (w1 := [(a_this, .inr (0, [.ref a_this_values, .ref a_this_kinds, .int v_this_table, .double v_this_guard, .double v_this_ratio, .int v_this_bridging, .int v_this_length, .int w49_this_guessColumn, .double w49_this_guessError, .double w49_this_guessValue])), (a_this_kinds, .inl (k 2, 256, aI v_this_kinds))]) (va_runV (As := [.int x49_4, .int p1]) (rest := []) ⟨hx, hb, hml, hown, hts⟩ (mt_X1_endOf l D k a_this a_this_values a_this_kinds _ v_this_kinds v_this_table v_this_guard v_this_ratio v_this_bridging v_this_length w49_this_guessColumn w49_this_guessError w49_this_guessValue x49_4 p1 x1002 hx1002) (cwV 2 hts gX1_seekGuess_X1_endOf rfl rfl rfl (by decide +kernel) ⟨(Nat.le_of_ble_eq_true rfl), (Nat.le_of_ble_eq_true rfl)⟩) (cc_pv (wc := [(a_this, .inr (0, [.ref a_this_values, .ref a_this_kinds, .int v_this_table, .double v_this_guard, .double v_this_ratio, .int v_this_bridging, .int v_this_length, .int w49_this_guessColumn, .double w49_this_guessError, .double w49_this_guessValue])), (a_this_kinds, .inl (k 2, 256, aI v_this_kinds))]) hK hP hD [0, 2] (by decide) rfl rfl 0 0 rfl rfl rfl) rfl rfl hl.1 rfl (lv_room (Nat.le_of_ble_eq_true rfl)) dX1_seekGuess_60 ⟨Nat.zero_le _, Nat.zero_le _⟩) hP hD hS hA [0, 2] [1] rfl rfl (by decide) (by decide) (fun H locs hP hD hS => ?_)
            have hP : va_P D vwCl [(a_this_values, .inl (k 1, 256, aD v_this_values)), (a_this, .inr (0, [.ref a_this_values, .ref a_this_kinds, .int v_this_table, .double v_this_guard, .double v_this_ratio, .int v_this_bridging, .int v_this_length, .int w49_this_guessColumn, .double w49_this_guessError, .double w49_this_guessValue])), (a_this_kinds, .inl (k 2, 256, aI v_this_kinds))] H := hP
            have hD : va_D A [(a_this_values, .inl (k 1, 256, aD v_this_values)), (a_this, .inr (0, [.ref a_this_values, .ref a_this_kinds, .int v_this_table, .double v_this_guard, .double v_this_ratio, .int v_this_bridging, .int v_this_length, .int w49_this_guessColumn, .double w49_this_guessError, .double w49_this_guessValue])), (a_this_kinds, .inl (k 2, 256, aI v_this_kinds))] := hD
            refine lv_istore (lv' := [(5, .int x1002), (0, .ref a_this), (1, .int p1), (2, .int x49_2), (3, .int x49_3), (4, .int x49_4)]) hx hb dX1_seekGuess_63 hl (by decide) rfl (fun ls hl => ?_)
            refine lv_aload_n hx hb dX1_seekGuess_65 rfl (lv_at hl 1 rfl) ?_
            refine lv_iload hx hb dX1_seekGuess_66 (lv_at hl 5 rfl) ?_
            refine lv_iload_n hx hb dX1_seekGuess_68 rfl (lv_at hl 3 rfl) ?_
            refine lv_isub hx hb dX1_seekGuess_69 ?_
            refine lv_iload_n hx hb dX1_seekGuess_70 rfl (lv_at hl 2 rfl) ?_
            obtain ⟨x1003, hx1003, hx12⟩ := bind_s hx12
            refine cc_i (r := x1003) (wc := [(a_this, .inr (0, [.ref a_this_values, .ref a_this_kinds, .int v_this_table, .double v_this_guard, .double v_this_ratio, .int v_this_bridging, .int v_this_length, .int w49_this_guessColumn, .double w49_this_guessError, .double w49_this_guessValue])), (a_this_kinds, .inl (k 2, 256, aI v_this_kinds))]) (wr := [(a_this_values, .inl (k 1, 256, aD v_this_values))]) (w1 := [(a_this, .inr (0, [.ref a_this_values, .ref a_this_kinds, .int v_this_table, .double v_this_guard, .double v_this_ratio, .int v_this_bridging, .int v_this_length, .int w49_this_guessColumn, .double w49_this_guessError, .double w49_this_guessValue])), (a_this_kinds, .inl (k 2, 256, aI v_this_kinds))]) (va_runV (As := [.int (x49_4 - x49_2), .int p1]) (rest := []) ⟨hx, hb, hml, hown, hts⟩ (mt_X1_endOf l D k a_this a_this_values a_this_kinds _ v_this_kinds v_this_table v_this_guard v_this_ratio v_this_bridging v_this_length w49_this_guessColumn w49_this_guessError w49_this_guessValue (x49_4 - x49_2) p1 x1003 hx1003) (cwV 2 hts gX1_seekGuess_X1_endOf rfl rfl rfl (by decide +kernel) ⟨(Nat.le_of_ble_eq_true rfl), (Nat.le_of_ble_eq_true rfl)⟩) (cc_pv (wc := [(a_this, .inr (0, [.ref a_this_values, .ref a_this_kinds, .int v_this_table, .double v_this_guard, .double v_this_ratio, .int v_this_bridging, .int v_this_length, .int w49_this_guessColumn, .double w49_this_guessError, .double w49_this_guessValue])), (a_this_kinds, .inl (k 2, 256, aI v_this_kinds))]) hK hP hD [1, 2] (by decide) rfl rfl 0 1 rfl rfl rfl) rfl rfl hl.1 rfl (lv_room (Nat.le_of_ble_eq_true rfl)) dX1_seekGuess_71 ⟨Nat.zero_le _, Nat.zero_le _⟩) hP hD hS hA [1, 2] [0] rfl rfl (by decide) (by decide) (fun H locs hP hD hS => ?_)
            have hP : va_P D vwCl [(a_this_values, .inl (k 1, 256, aD v_this_values)), (a_this, .inr (0, [.ref a_this_values, .ref a_this_kinds, .int v_this_table, .double v_this_guard, .double v_this_ratio, .int v_this_bridging, .int v_this_length, .int w49_this_guessColumn, .double w49_this_guessError, .double w49_this_guessValue])), (a_this_kinds, .inl (k 2, 256, aI v_this_kinds))] H := hP
            have hD : va_D A [(a_this_values, .inl (k 1, 256, aD v_this_values)), (a_this, .inr (0, [.ref a_this_values, .ref a_this_kinds, .int v_this_table, .double v_this_guard, .double v_this_ratio, .int v_this_bridging, .int v_this_length, .int w49_this_guessColumn, .double w49_this_guessError, .double w49_this_guessValue])), (a_this_kinds, .inl (k 2, 256, aI v_this_kinds))] := hD
            refine lv_istore (lv' := [(6, .int x1003), (5, .int x1002), (0, .ref a_this), (1, .int p1), (2, .int x49_2), (3, .int x49_3), (4, .int x49_4)]) hx hb dX1_seekGuess_74 hl (by decide) rfl (fun ls hl => ?_)
            refine lv_iload hx hb dX1_seekGuess_76 (lv_at hl 1 rfl) ?_
            refine lv_if_lt (tgt := 151) hx hb dX1_seekGuess_78 (by decide) (fun c1004 => ?_) (fun c1004 => ?_)
            · skip
              have hx12 := if_t c1004 hx12
              refine lv_iload hx hb dX1_seekGuess_151 (lv_at hl 6 rfl) ?_
              refine lv_iload_n hx hb dX1_seekGuess_153 rfl (lv_at hl 4 rfl) ?_
              refine lv_iadd hx hb dX1_seekGuess_154 ?_
              refine lv_istore (lv' := [(4, .int (x49_4 + x49_2)), (6, .int x1003), (5, .int x1002), (0, .ref a_this), (1, .int p1), (2, .int x49_2), (3, .int x49_3)]) hx hb dX1_seekGuess_155 hl (by decide) rfl (fun ls hl => ?_)
              refine lv_goto (tgt := 49) hx hb dX1_seekGuess_157 (by decide) ?_
              have hP := hP.sub (ws' := [(a_this, .inr (0, [.ref a_this_values, .ref a_this_kinds, .int v_this_table, .double v_this_guard, .double v_this_ratio, .int v_this_bridging, .int v_this_length, .int w49_this_guessColumn, .double w49_this_guessError, .double w49_this_guessValue])), (a_this_values, .inl (k 1, 256, aD v_this_values)), (a_this_kinds, .inl (k 2, 256, aI v_this_kinds))]) [1, 0, 2] rfl
              have hD := hD.sub (ws' := [(a_this, .inr (0, [.ref a_this_values, .ref a_this_kinds, .int v_this_table, .double v_this_guard, .double v_this_ratio, .int v_this_bridging, .int v_this_length, .int w49_this_guessColumn, .double w49_this_guessError, .double w49_this_guessValue])), (a_this_values, .inl (k 1, 256, aD v_this_values)), (a_this_kinds, .inl (k 2, 256, aI v_this_kinds))]) [1, 0, 2] (by decide) rfl
              exact ih49 x49_2 x49_3 (x49_4 + x49_2) w49_this_guessColumn w49_this_guessError w49_this_guessValue H locs ls hP hD hS (lv_sub hl [3, 4, 5, 6, 0] rfl) hx12
            · skip
              have hx12 := if_f c1004 hx12
              refine lv_iload hx hb dX1_seekGuess_81 (lv_at hl 0 rfl) ?_
              refine lv_if_ge (tgt := 89) hx hb dX1_seekGuess_83 (by decide) (fun c1005 => ?_) (fun c1005 => ?_)
              · skip
                have hx12 := if_t c1005 hx12
                refine lv_aload_n hx hb dX1_seekGuess_89 rfl (lv_at hl 2 rfl) ?_
                refine lv_iload hx hb dX1_seekGuess_90 (lv_at hl 6 rfl) ?_
                refine lv_iload hx hb dX1_seekGuess_92 (lv_at hl 1 rfl) ?_
                obtain ⟨x1006, hx1006, hx12⟩ := bind_s hx12
                refine cc_d (r := x1006) (wc := [(a_this, .inr (0, [.ref a_this_values, .ref a_this_kinds, .int v_this_table, .double v_this_guard, .double v_this_ratio, .int v_this_bridging, .int v_this_length, .int w49_this_guessColumn, .double w49_this_guessError, .double w49_this_guessValue])), (a_this_values, .inl (k 1, 256, aD v_this_values))]) (wr := [(a_this_kinds, .inl (k 2, 256, aI v_this_kinds))]) (w1 := [(a_this, .inr (0, [.ref a_this_values, .ref a_this_kinds, .int v_this_table, .double v_this_guard, .double v_this_ratio, .int v_this_bridging, .int v_this_length, .int w49_this_guessColumn, .double w49_this_guessError, .double w49_this_guessValue])), (a_this_values, .inl (k 1, 256, aD v_this_values))]) (va_runV (As := [.int x49_4, .int x1002]) (rest := []) ⟨hx, hb, hml, hown, hts⟩ (mt_X1_valueAt l D k a_this a_this_values a_this_kinds _ v_this_values v_this_table v_this_guard v_this_ratio v_this_bridging v_this_length w49_this_guessColumn w49_this_guessError w49_this_guessValue x49_4 x1002 x1006 hx1006) (cwV 2 hts gX1_seekGuess_X1_valueAt rfl rfl rfl (by decide +kernel) ⟨(Nat.le_of_ble_eq_true rfl), (Nat.le_of_ble_eq_true rfl)⟩) (cc_pv (wc := [(a_this, .inr (0, [.ref a_this_values, .ref a_this_kinds, .int v_this_table, .double v_this_guard, .double v_this_ratio, .int v_this_bridging, .int v_this_length, .int w49_this_guessColumn, .double w49_this_guessError, .double w49_this_guessValue])), (a_this_values, .inl (k 1, 256, aD v_this_values))]) hK hP hD [1, 0] (by decide) rfl rfl 0 1 rfl rfl rfl) rfl rfl hl.1 rfl (lv_room (Nat.le_of_ble_eq_true rfl)) dX1_seekGuess_94 ⟨Nat.zero_le _, Nat.zero_le _⟩) hP hD hS hA [1, 0] [2] rfl rfl (by decide) (by decide) (fun H locs hP hD hS => ?_)
                have hP : va_P D vwCl [(a_this_kinds, .inl (k 2, 256, aI v_this_kinds)), (a_this, .inr (0, [.ref a_this_values, .ref a_this_kinds, .int v_this_table, .double v_this_guard, .double v_this_ratio, .int v_this_bridging, .int v_this_length, .int w49_this_guessColumn, .double w49_this_guessError, .double w49_this_guessValue])), (a_this_values, .inl (k 1, 256, aD v_this_values))] H := hP
                have hD : va_D A [(a_this_kinds, .inl (k 2, 256, aI v_this_kinds)), (a_this, .inr (0, [.ref a_this_values, .ref a_this_kinds, .int v_this_table, .double v_this_guard, .double v_this_ratio, .int v_this_bridging, .int v_this_length, .int w49_this_guessColumn, .double w49_this_guessError, .double w49_this_guessValue])), (a_this_values, .inl (k 1, 256, aD v_this_values))] := hD
                refine lv_dstore (lv' := [(7, .double x1006), (6, .int x1003), (5, .int x1002), (0, .ref a_this), (1, .int p1), (2, .int x49_2), (3, .int x49_3), (4, .int x49_4)]) hx hb dX1_seekGuess_97 hl (by decide) rfl (fun ls hl => ?_)
                refine lv_dload hx hb dX1_seekGuess_99 (lv_at hl 0 rfl) ?_
                refine lv_aload_n hx hb dX1_seekGuess_101 rfl (lv_at hl 3 rfl) ?_
                refine lv_iload hx hb dX1_seekGuess_102 (lv_at hl 7 rfl) ?_
                refine lv_iload_n hx hb dX1_seekGuess_104 rfl (lv_at hl 5 rfl) ?_
                refine lv_isub hx hb dX1_seekGuess_105 ?_
                refine lv_iload hx hb dX1_seekGuess_106 (lv_at hl 1 rfl) ?_
                obtain ⟨x1007, hx1007, hx12⟩ := bind_s hx12
                refine cc_d (r := x1007) (wc := [(a_this, .inr (0, [.ref a_this_values, .ref a_this_kinds, .int v_this_table, .double v_this_guard, .double v_this_ratio, .int v_this_bridging, .int v_this_length, .int w49_this_guessColumn, .double w49_this_guessError, .double w49_this_guessValue])), (a_this_values, .inl (k 1, 256, aD v_this_values))]) (wr := [(a_this_kinds, .inl (k 2, 256, aI v_this_kinds))]) (w1 := [(a_this, .inr (0, [.ref a_this_values, .ref a_this_kinds, .int v_this_table, .double v_this_guard, .double v_this_ratio, .int v_this_bridging, .int v_this_length, .int w49_this_guessColumn, .double w49_this_guessError, .double w49_this_guessValue])), (a_this_values, .inl (k 1, 256, aD v_this_values))]) (va_runV (As := [.int (x49_4 - x49_2), .int x1003]) (rest := [.double x1006]) ⟨hx, hb, hml, hown, hts⟩ (mt_X1_valueAt l D k a_this a_this_values a_this_kinds _ v_this_values v_this_table v_this_guard v_this_ratio v_this_bridging v_this_length w49_this_guessColumn w49_this_guessError w49_this_guessValue (x49_4 - x49_2) x1003 x1007 hx1007) (cwV 2 hts gX1_seekGuess_X1_valueAt rfl rfl rfl (by decide +kernel) ⟨(Nat.le_of_ble_eq_true rfl), (Nat.le_of_ble_eq_true rfl)⟩) (cc_pv (wc := [(a_this, .inr (0, [.ref a_this_values, .ref a_this_kinds, .int v_this_table, .double v_this_guard, .double v_this_ratio, .int v_this_bridging, .int v_this_length, .int w49_this_guessColumn, .double w49_this_guessError, .double w49_this_guessValue])), (a_this_values, .inl (k 1, 256, aD v_this_values))]) hK hP hD [1, 2] (by decide) rfl rfl 0 1 rfl rfl rfl) rfl rfl hl.1 rfl (lv_room (Nat.le_of_ble_eq_true rfl)) dX1_seekGuess_108 ⟨Nat.zero_le _, Nat.zero_le _⟩) hP hD hS hA [1, 2] [0] rfl rfl (by decide) (by decide) (fun H locs hP hD hS => ?_)
                have hP : va_P D vwCl [(a_this_kinds, .inl (k 2, 256, aI v_this_kinds)), (a_this, .inr (0, [.ref a_this_values, .ref a_this_kinds, .int v_this_table, .double v_this_guard, .double v_this_ratio, .int v_this_bridging, .int v_this_length, .int w49_this_guessColumn, .double w49_this_guessError, .double w49_this_guessValue])), (a_this_values, .inl (k 1, 256, aD v_this_values))] H := hP
                have hD : va_D A [(a_this_kinds, .inl (k 2, 256, aI v_this_kinds)), (a_this, .inr (0, [.ref a_this_values, .ref a_this_kinds, .int v_this_table, .double v_this_guard, .double v_this_ratio, .int v_this_bridging, .int v_this_length, .int w49_this_guessColumn, .double w49_this_guessError, .double w49_this_guessValue])), (a_this_values, .inl (k 1, 256, aD v_this_values))] := hD
                refine lv_dsub hx hb dX1_seekGuess_111 (dop_h hx12) ?_
                refine lv_topd (fun d1008 ed1008 => ?_)
                have hx12 := dop_at ed1008 hx12
                obtain ⟨x1009, hx1009, hx12⟩ := bind_s hx12
                refine cc_d (r := x1009) (wc := []) (wr := [(a_this_kinds, .inl (k 2, 256, aI v_this_kinds)), (a_this, .inr (0, [.ref a_this_values, .ref a_this_kinds, .int v_this_table, .double v_this_guard, .double v_this_ratio, .int v_this_bridging, .int v_this_length, .int w49_this_guessColumn, .double w49_this_guessError, .double w49_this_guessValue])), (a_this_values, .inl (k 1, 256, aD v_this_values))]) (w1 := []) (va_runS (As := [.double d1008]) (rest := []) ⟨hx, hb, hml, hown, hts⟩ (mt_X3_sizeOf l D k  _  d1008 x1009 hx1009) (va_cwS 1 hts gX1_seekGuess_X3_sizeOf rfl rfl rfl (by decide +kernel) ⟨(Nat.le_of_ble_eq_true rfl), (Nat.le_of_ble_eq_true rfl)⟩) (cc_ps (wc := []) hK hP hD [] (by decide) rfl rfl) rfl rfl hl.1 rfl (lv_room (Nat.le_of_ble_eq_true rfl)) dX1_seekGuess_112 ⟨Nat.zero_le _, Nat.zero_le _⟩) hP hD hS hA [] [0, 1, 2] rfl rfl (by decide) (by decide) (fun H locs hP hD hS => ?_)
                have hP : va_P D vwCl [(a_this_kinds, .inl (k 2, 256, aI v_this_kinds)), (a_this, .inr (0, [.ref a_this_values, .ref a_this_kinds, .int v_this_table, .double v_this_guard, .double v_this_ratio, .int v_this_bridging, .int v_this_length, .int w49_this_guessColumn, .double w49_this_guessError, .double w49_this_guessValue])), (a_this_values, .inl (k 1, 256, aD v_this_values))] H := hP
                have hD : va_D A [(a_this_kinds, .inl (k 2, 256, aI v_this_kinds)), (a_this, .inr (0, [.ref a_this_values, .ref a_this_kinds, .int v_this_table, .double v_this_guard, .double v_this_ratio, .int v_this_bridging, .int v_this_length, .int w49_this_guessColumn, .double w49_this_guessError, .double w49_this_guessValue])), (a_this_values, .inl (k 1, 256, aD v_this_values))] := hD
                refine lv_dstore (lv' := [(9, .double x1009), (7, .double x1006), (6, .int x1003), (5, .int x1002), (0, .ref a_this), (1, .int p1), (2, .int x49_2), (3, .int x49_3), (4, .int x49_4)]) hx hb dX1_seekGuess_115 hl (by decide) rfl (fun ls hl => ?_)
                refine lv_iload_n hx hb dX1_seekGuess_117 rfl (lv_at hl 7 rfl) ?_
                refine lv_if_eq (tgt := 131) hx hb dX1_seekGuess_118 (by decide) (fun c1010 => ?_) (fun c1010 => ?_)
                · skip
                  have hx12 := if_t c1010 hx12
                  refine lv_iconst (v := 1) hx hb dX1_seekGuess_131 (by decide) ?_
                  refine lv_istore_n (lv' := [(3, .int (1 : Int32)), (9, .double x1009), (7, .double x1006), (6, .int x1003), (5, .int x1002), (0, .ref a_this), (1, .int p1), (2, .int x49_2), (4, .int x49_4)]) hx hb dX1_seekGuess_132 rfl hl (by decide) rfl (fun ls hl => ?_)
                  refine lv_aload_n hx hb dX1_seekGuess_133 rfl (lv_at hl 5 rfl) ?_
                  refine lv_iload hx hb dX1_seekGuess_134 (lv_at hl 8 rfl) ?_
                  refine va_put (D := D) (ci := 0) (v := .int x49_4) (ty := .int) (C := RX1) (T := TX1) (N := 10) hx hb hts hinX1_X1_seekGuess tyX1 tyX1_ok nmX1 hown hK hP hD hS 1 rfl rfl 7 (by decide) (hts (.fieldLink RX1 37 "LimitTables$Grid" "guessColumn" "I") (by decide +kernel)) (fun _ h9 => h9) rfl (by decide +kernel) rfl rfl (Nat.le_of_ble_eq_true rfl) dX1_seekGuess_136 (fun H locs hP hD hS => ?_)
                  have hP : va_P D vwCl [(a_this_kinds, .inl (k 2, 256, aI v_this_kinds)), (a_this, .inr (0, [.ref a_this_values, .ref a_this_kinds, .int v_this_table, .double v_this_guard, .double v_this_ratio, .int v_this_bridging, .int v_this_length, .int x49_4, .double w49_this_guessError, .double w49_this_guessValue])), (a_this_values, .inl (k 1, 256, aD v_this_values))] H := hP
                  have hD : va_D A [(a_this_kinds, .inl (k 2, 256, aI v_this_kinds)), (a_this, .inr (0, [.ref a_this_values, .ref a_this_kinds, .int v_this_table, .double v_this_guard, .double v_this_ratio, .int v_this_bridging, .int v_this_length, .int x49_4, .double w49_this_guessError, .double w49_this_guessValue])), (a_this_values, .inl (k 1, 256, aD v_this_values))] := hD
                  refine lv_aload_n hx hb dX1_seekGuess_139 rfl (lv_at hl 5 rfl) ?_
                  refine lv_dload hx hb dX1_seekGuess_140 (lv_at hl 1 rfl) ?_
                  refine va_put (D := D) (ci := 0) (v := .double x1009) (ty := .double) (C := RX1) (T := TX1) (N := 10) hx hb hts hinX1_X1_seekGuess tyX1 tyX1_ok nmX1 hown hK hP hD hS 1 rfl rfl 8 (by decide) (hts (.fieldLink RX1 40 "LimitTables$Grid" "guessError" "D") (by decide +kernel)) (fun _ h9 => h9) rfl (by decide +kernel) rfl rfl (Nat.le_of_ble_eq_true rfl) dX1_seekGuess_142 (fun H locs hP hD hS => ?_)
                  have hP : va_P D vwCl [(a_this_kinds, .inl (k 2, 256, aI v_this_kinds)), (a_this, .inr (0, [.ref a_this_values, .ref a_this_kinds, .int v_this_table, .double v_this_guard, .double v_this_ratio, .int v_this_bridging, .int v_this_length, .int x49_4, .double x1009, .double w49_this_guessValue])), (a_this_values, .inl (k 1, 256, aD v_this_values))] H := hP
                  have hD : va_D A [(a_this_kinds, .inl (k 2, 256, aI v_this_kinds)), (a_this, .inr (0, [.ref a_this_values, .ref a_this_kinds, .int v_this_table, .double v_this_guard, .double v_this_ratio, .int v_this_bridging, .int v_this_length, .int x49_4, .double x1009, .double w49_this_guessValue])), (a_this_values, .inl (k 1, 256, aD v_this_values))] := hD
                  refine lv_aload_n hx hb dX1_seekGuess_145 rfl (lv_at hl 5 rfl) ?_
                  refine lv_dload hx hb dX1_seekGuess_146 (lv_at hl 2 rfl) ?_
                  refine va_put (D := D) (ci := 0) (v := .double x1006) (ty := .double) (C := RX1) (T := TX1) (N := 10) hx hb hts hinX1_X1_seekGuess tyX1 tyX1_ok nmX1 hown hK hP hD hS 1 rfl rfl 9 (by decide) (hts (.fieldLink RX1 43 "LimitTables$Grid" "guessValue" "D") (by decide +kernel)) (fun _ h9 => h9) rfl (by decide +kernel) rfl rfl (Nat.le_of_ble_eq_true rfl) dX1_seekGuess_148 (fun H locs hP hD hS => ?_)
                  have hP : va_P D vwCl [(a_this_kinds, .inl (k 2, 256, aI v_this_kinds)), (a_this, .inr (0, [.ref a_this_values, .ref a_this_kinds, .int v_this_table, .double v_this_guard, .double v_this_ratio, .int v_this_bridging, .int v_this_length, .int x49_4, .double x1009, .double x1006])), (a_this_values, .inl (k 1, 256, aD v_this_values))] H := hP
                  have hD : va_D A [(a_this_kinds, .inl (k 2, 256, aI v_this_kinds)), (a_this, .inr (0, [.ref a_this_values, .ref a_this_kinds, .int v_this_table, .double v_this_guard, .double v_this_ratio, .int v_this_bridging, .int v_this_length, .int x49_4, .double x1009, .double x1006])), (a_this_values, .inl (k 1, 256, aD v_this_values))] := hD
                  refine lv_iload hx hb dX1_seekGuess_151 (lv_at hl 8 rfl) ?_
                  refine lv_iload_n hx hb dX1_seekGuess_153 rfl (lv_at hl 7 rfl) ?_
                  refine lv_iadd hx hb dX1_seekGuess_154 ?_
                  refine lv_istore (lv' := [(4, .int (x49_4 + x49_2)), (3, .int (1 : Int32)), (9, .double x1009), (7, .double x1006), (6, .int x1003), (5, .int x1002), (0, .ref a_this), (1, .int p1), (2, .int x49_2)]) hx hb dX1_seekGuess_155 hl (by decide) rfl (fun ls hl => ?_)
                  refine lv_goto (tgt := 49) hx hb dX1_seekGuess_157 (by decide) ?_
                  have hP := hP.sub (ws' := [(a_this, .inr (0, [.ref a_this_values, .ref a_this_kinds, .int v_this_table, .double v_this_guard, .double v_this_ratio, .int v_this_bridging, .int v_this_length, .int x49_4, .double x1009, .double x1006])), (a_this_values, .inl (k 1, 256, aD v_this_values)), (a_this_kinds, .inl (k 2, 256, aI v_this_kinds))]) [1, 2, 0] rfl
                  have hD := hD.sub (ws' := [(a_this, .inr (0, [.ref a_this_values, .ref a_this_kinds, .int v_this_table, .double v_this_guard, .double v_this_ratio, .int v_this_bridging, .int v_this_length, .int x49_4, .double x1009, .double x1006])), (a_this_values, .inl (k 1, 256, aD v_this_values)), (a_this_kinds, .inl (k 2, 256, aI v_this_kinds))]) [1, 2, 0] (by decide) rfl
                  exact ih49 x49_2 (1 : Int32) (x49_4 + x49_2) x49_4 x1009 x1006 H locs ls hP hD hS (lv_sub hl [6, 7, 8, 1, 0] rfl) hx12
                · skip
                  have hx12 := if_f c1010 hx12
                  refine lv_dload hx hb dX1_seekGuess_121 (lv_at hl 0 rfl) ?_
                  refine lv_aload_n hx hb dX1_seekGuess_123 rfl (lv_at hl 4 rfl) ?_
                  refine va_get (D := D) (ci := 0) (v := .double w49_this_guessError) (C := RX1) (T := TX1) (N := 10) hx hb hts hinX1_X1_seekGuess hown hK hP 1 rfl rfl 8 (by decide) (hts (.fieldLink RX1 40 "LimitTables$Grid" "guessError" "D") (by decide +kernel)) (fun _ h9 => h9) rfl dX1_seekGuess_124 ?_
                  refine lv_dcmp hx hb dX1_seekGuess_127 ?_
                  refine lv_if_ge (tgt := 151) hx hb dX1_seekGuess_128 (by decide) (fun c1011 => ?_) (fun c1011 => ?_)
                  · skip
                    have hx12 := if_t c1011 hx12
                    refine lv_iload hx hb dX1_seekGuess_151 (lv_at hl 8 rfl) ?_
                    refine lv_iload_n hx hb dX1_seekGuess_153 rfl (lv_at hl 6 rfl) ?_
                    refine lv_iadd hx hb dX1_seekGuess_154 ?_
                    refine lv_istore (lv' := [(4, .int (x49_4 + x49_2)), (9, .double x1009), (7, .double x1006), (6, .int x1003), (5, .int x1002), (0, .ref a_this), (1, .int p1), (2, .int x49_2), (3, .int x49_3)]) hx hb dX1_seekGuess_155 hl (by decide) rfl (fun ls hl => ?_)
                    refine lv_goto (tgt := 49) hx hb dX1_seekGuess_157 (by decide) ?_
                    have hP := hP.sub (ws' := [(a_this, .inr (0, [.ref a_this_values, .ref a_this_kinds, .int v_this_table, .double v_this_guard, .double v_this_ratio, .int v_this_bridging, .int v_this_length, .int w49_this_guessColumn, .double w49_this_guessError, .double w49_this_guessValue])), (a_this_values, .inl (k 1, 256, aD v_this_values)), (a_this_kinds, .inl (k 2, 256, aI v_this_kinds))]) [1, 2, 0] rfl
                    have hD := hD.sub (ws' := [(a_this, .inr (0, [.ref a_this_values, .ref a_this_kinds, .int v_this_table, .double v_this_guard, .double v_this_ratio, .int v_this_bridging, .int v_this_length, .int w49_this_guessColumn, .double w49_this_guessError, .double w49_this_guessValue])), (a_this_values, .inl (k 1, 256, aD v_this_values)), (a_this_kinds, .inl (k 2, 256, aI v_this_kinds))]) [1, 2, 0] (by decide) rfl
                    exact ih49 x49_2 x49_3 (x49_4 + x49_2) w49_this_guessColumn w49_this_guessError w49_this_guessValue H locs ls hP hD hS (lv_sub hl [5, 6, 7, 8, 0] rfl) hx12
                  · skip
                    have hx12 := if_f c1011 hx12
                    refine lv_iconst (v := 1) hx hb dX1_seekGuess_131 (by decide) ?_
                    refine lv_istore_n (lv' := [(3, .int (1 : Int32)), (9, .double x1009), (7, .double x1006), (6, .int x1003), (5, .int x1002), (0, .ref a_this), (1, .int p1), (2, .int x49_2), (4, .int x49_4)]) hx hb dX1_seekGuess_132 rfl hl (by decide) rfl (fun ls hl => ?_)
                    refine lv_aload_n hx hb dX1_seekGuess_133 rfl (lv_at hl 5 rfl) ?_
                    refine lv_iload hx hb dX1_seekGuess_134 (lv_at hl 8 rfl) ?_
                    refine va_put (D := D) (ci := 0) (v := .int x49_4) (ty := .int) (C := RX1) (T := TX1) (N := 10) hx hb hts hinX1_X1_seekGuess tyX1 tyX1_ok nmX1 hown hK hP hD hS 1 rfl rfl 7 (by decide) (hts (.fieldLink RX1 37 "LimitTables$Grid" "guessColumn" "I") (by decide +kernel)) (fun _ h9 => h9) rfl (by decide +kernel) rfl rfl (Nat.le_of_ble_eq_true rfl) dX1_seekGuess_136 (fun H locs hP hD hS => ?_)
                    have hP : va_P D vwCl [(a_this_kinds, .inl (k 2, 256, aI v_this_kinds)), (a_this, .inr (0, [.ref a_this_values, .ref a_this_kinds, .int v_this_table, .double v_this_guard, .double v_this_ratio, .int v_this_bridging, .int v_this_length, .int x49_4, .double w49_this_guessError, .double w49_this_guessValue])), (a_this_values, .inl (k 1, 256, aD v_this_values))] H := hP
                    have hD : va_D A [(a_this_kinds, .inl (k 2, 256, aI v_this_kinds)), (a_this, .inr (0, [.ref a_this_values, .ref a_this_kinds, .int v_this_table, .double v_this_guard, .double v_this_ratio, .int v_this_bridging, .int v_this_length, .int x49_4, .double w49_this_guessError, .double w49_this_guessValue])), (a_this_values, .inl (k 1, 256, aD v_this_values))] := hD
                    refine lv_aload_n hx hb dX1_seekGuess_139 rfl (lv_at hl 5 rfl) ?_
                    refine lv_dload hx hb dX1_seekGuess_140 (lv_at hl 1 rfl) ?_
                    refine va_put (D := D) (ci := 0) (v := .double x1009) (ty := .double) (C := RX1) (T := TX1) (N := 10) hx hb hts hinX1_X1_seekGuess tyX1 tyX1_ok nmX1 hown hK hP hD hS 1 rfl rfl 8 (by decide) (hts (.fieldLink RX1 40 "LimitTables$Grid" "guessError" "D") (by decide +kernel)) (fun _ h9 => h9) rfl (by decide +kernel) rfl rfl (Nat.le_of_ble_eq_true rfl) dX1_seekGuess_142 (fun H locs hP hD hS => ?_)
                    have hP : va_P D vwCl [(a_this_kinds, .inl (k 2, 256, aI v_this_kinds)), (a_this, .inr (0, [.ref a_this_values, .ref a_this_kinds, .int v_this_table, .double v_this_guard, .double v_this_ratio, .int v_this_bridging, .int v_this_length, .int x49_4, .double x1009, .double w49_this_guessValue])), (a_this_values, .inl (k 1, 256, aD v_this_values))] H := hP
                    have hD : va_D A [(a_this_kinds, .inl (k 2, 256, aI v_this_kinds)), (a_this, .inr (0, [.ref a_this_values, .ref a_this_kinds, .int v_this_table, .double v_this_guard, .double v_this_ratio, .int v_this_bridging, .int v_this_length, .int x49_4, .double x1009, .double w49_this_guessValue])), (a_this_values, .inl (k 1, 256, aD v_this_values))] := hD
                    refine lv_aload_n hx hb dX1_seekGuess_145 rfl (lv_at hl 5 rfl) ?_
                    refine lv_dload hx hb dX1_seekGuess_146 (lv_at hl 2 rfl) ?_
                    refine va_put (D := D) (ci := 0) (v := .double x1006) (ty := .double) (C := RX1) (T := TX1) (N := 10) hx hb hts hinX1_X1_seekGuess tyX1 tyX1_ok nmX1 hown hK hP hD hS 1 rfl rfl 9 (by decide) (hts (.fieldLink RX1 43 "LimitTables$Grid" "guessValue" "D") (by decide +kernel)) (fun _ h9 => h9) rfl (by decide +kernel) rfl rfl (Nat.le_of_ble_eq_true rfl) dX1_seekGuess_148 (fun H locs hP hD hS => ?_)
                    have hP : va_P D vwCl [(a_this_kinds, .inl (k 2, 256, aI v_this_kinds)), (a_this, .inr (0, [.ref a_this_values, .ref a_this_kinds, .int v_this_table, .double v_this_guard, .double v_this_ratio, .int v_this_bridging, .int v_this_length, .int x49_4, .double x1009, .double x1006])), (a_this_values, .inl (k 1, 256, aD v_this_values))] H := hP
                    have hD : va_D A [(a_this_kinds, .inl (k 2, 256, aI v_this_kinds)), (a_this, .inr (0, [.ref a_this_values, .ref a_this_kinds, .int v_this_table, .double v_this_guard, .double v_this_ratio, .int v_this_bridging, .int v_this_length, .int x49_4, .double x1009, .double x1006])), (a_this_values, .inl (k 1, 256, aD v_this_values))] := hD
                    refine lv_iload hx hb dX1_seekGuess_151 (lv_at hl 8 rfl) ?_
                    refine lv_iload_n hx hb dX1_seekGuess_153 rfl (lv_at hl 7 rfl) ?_
                    refine lv_iadd hx hb dX1_seekGuess_154 ?_
                    refine lv_istore (lv' := [(4, .int (x49_4 + x49_2)), (3, .int (1 : Int32)), (9, .double x1009), (7, .double x1006), (6, .int x1003), (5, .int x1002), (0, .ref a_this), (1, .int p1), (2, .int x49_2)]) hx hb dX1_seekGuess_155 hl (by decide) rfl (fun ls hl => ?_)
                    refine lv_goto (tgt := 49) hx hb dX1_seekGuess_157 (by decide) ?_
                    have hP := hP.sub (ws' := [(a_this, .inr (0, [.ref a_this_values, .ref a_this_kinds, .int v_this_table, .double v_this_guard, .double v_this_ratio, .int v_this_bridging, .int v_this_length, .int x49_4, .double x1009, .double x1006])), (a_this_values, .inl (k 1, 256, aD v_this_values)), (a_this_kinds, .inl (k 2, 256, aI v_this_kinds))]) [1, 2, 0] rfl
                    have hD := hD.sub (ws' := [(a_this, .inr (0, [.ref a_this_values, .ref a_this_kinds, .int v_this_table, .double v_this_guard, .double v_this_ratio, .int v_this_bridging, .int v_this_length, .int x49_4, .double x1009, .double x1006])), (a_this_values, .inl (k 1, 256, aD v_this_values)), (a_this_kinds, .inl (k 2, 256, aI v_this_kinds))]) [1, 2, 0] (by decide) rfl
                    exact ih49 x49_2 (1 : Int32) (x49_4 + x49_2) x49_4 x1009 x1006 H locs ls hP hD hS (lv_sub hl [6, 7, 8, 1, 0] rfl) hx12
              · skip
                have hx12 := if_f c1005 hx12
                refine lv_goto (tgt := 151) hx hb dX1_seekGuess_86 (by decide) ?_
                refine lv_iload hx hb dX1_seekGuess_151 (lv_at hl 6 rfl) ?_
                refine lv_iload_n hx hb dX1_seekGuess_153 rfl (lv_at hl 4 rfl) ?_
                refine lv_iadd hx hb dX1_seekGuess_154 ?_
                refine lv_istore (lv' := [(4, .int (x49_4 + x49_2)), (6, .int x1003), (5, .int x1002), (0, .ref a_this), (1, .int p1), (2, .int x49_2), (3, .int x49_3)]) hx hb dX1_seekGuess_155 hl (by decide) rfl (fun ls hl => ?_)
                refine lv_goto (tgt := 49) hx hb dX1_seekGuess_157 (by decide) ?_
                have hP := hP.sub (ws' := [(a_this, .inr (0, [.ref a_this_values, .ref a_this_kinds, .int v_this_table, .double v_this_guard, .double v_this_ratio, .int v_this_bridging, .int v_this_length, .int w49_this_guessColumn, .double w49_this_guessError, .double w49_this_guessValue])), (a_this_values, .inl (k 1, 256, aD v_this_values)), (a_this_kinds, .inl (k 2, 256, aI v_this_kinds))]) [1, 0, 2] rfl
                have hD := hD.sub (ws' := [(a_this, .inr (0, [.ref a_this_values, .ref a_this_kinds, .int v_this_table, .double v_this_guard, .double v_this_ratio, .int v_this_bridging, .int v_this_length, .int w49_this_guessColumn, .double w49_this_guessError, .double w49_this_guessValue])), (a_this_values, .inl (k 1, 256, aD v_this_values)), (a_this_kinds, .inl (k 2, 256, aI v_this_kinds))]) [1, 0, 2] (by decide) rfl
                exact ih49 x49_2 x49_3 (x49_4 + x49_2) w49_this_guessColumn w49_this_guessError w49_this_guessValue H locs ls hP hD hS (lv_sub hl [3, 4, 5, 6, 0] rfl) hx12
      exact L49 300 (2 : Int32) (0 : Int32) (2 : Int32) (0 : Int32) FP.dconst0 (v_this_values (p1 - (1 : Int32)).toNatClampNeg) H locs ls hP hD hS (lv_sub hl [3, 4, 2, 1, 0] rfl) hx12
