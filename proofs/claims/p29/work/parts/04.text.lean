/-! laid by program: mirrors and contracts -/
theorem hinX7_X7_append : ∀ w ∈ wsX70, w ∈ wsX7_append := by decide +kernel
def p_X7_append (v_this_characters : Nat → Int32) (v_this_length : Int32) (p1 : Int32) : Option ((Nat → Int32) × Int32) := (if (60 : Int32) ≤ v_this_length then some (v_this_characters, v_this_length) else gD (inb v_this_length 60) (some ((upd v_this_characters v_this_length.toNatClampNeg (vp_nar .char p1)), (v_this_length + (1 : Int32)))))
abbrev rm_X7_append : Room := { frames := 0, cells := 0, slots := 0, locals := 0 }
set_option maxHeartbeats 4000000 in
set_option maxRecDepth 100000 in
theorem mt_X7_append (l : Launch) (D : va_G) (k : Nat → ClassId) (a_this a_this_characters : Nat) (sz : Nat) (v_this_characters : Nat → Int32) (v_this_length : Int32) (v_this_at : Int32) (v_this_digits : Int64) (p1 : Int32) (o : (Nat → Int32) × Int32) (hf : p_X7_append v_this_characters v_this_length p1 = some o)  : Met l yX7_append wsX7_append rm_X7_append (va_Pc [.ref a_this, .int p1] (bW D k sz [(a_this, .inr (4, [.ref a_this_characters, .int v_this_length, .int v_this_at, .long v_this_digits])), (a_this_characters, .inl (k 0, 60, aI v_this_characters))])) (va_Qv (fun (_ : Unit) => True) (fun _ => bO D k (va_A [(a_this, .inr (4, [.ref a_this_characters, .int v_this_length, .int v_this_at, .long v_this_digits])), (a_this_characters, .inl (k 0, 60, aI v_this_characters))] sz) [(a_this, .inr (4, [.ref a_this_characters, .int o.2, .int v_this_at, .long v_this_digits])), (a_this_characters, .inl (k 0, 60, aI o.1))]) (va_A [(a_this, .inr (4, [.ref a_this_characters, .int v_this_length, .int v_this_at, .long v_this_digits])), (a_this_characters, .inl (k 0, 60, aI v_this_characters))] sz)) 0 0 (va_A [(a_this, .inr (4, [.ref a_this_characters, .int v_this_length, .int v_this_at, .long v_this_digits])), (a_this_characters, .inl (k 0, 60, aI v_this_characters))] sz) := by
  unfold p_X7_append at hf
  refine Met.ofW (cc := cX7_append) (maxL := 2) (ret := none) (by decide) rfl ?_
  intro p e s m args below meth c s₁ B hml hv
  obtain ⟨rfl, hsz, hP, hK, hD0⟩ := hv
  have hx := B.exec
  have hb := B.bytes
  have hr := B.returns
  have hts := atoms_spec (ws := wsX7_append) B.pre
  have hown : s.vm.findClass RX7 = some m.cls := findClass_of_methodNamed B.named
  have hlocks := B.notSynchronized
  subst hsz
  have hD := hD0.self (sz := s.heap.size)
  generalize hAe : va_A [(a_this, .inr (4, [.ref a_this_characters, .int v_this_length, .int v_this_at, .long v_this_digits])), (a_this_characters, .inl (k 0, 60, aI v_this_characters))] s.heap.size = A at hD ⊢
  have hA : ∀ q : Nat, s.heap.size ≤ q → A q := fun q h => by rw [← hAe]; exact Or.inr h
  have hS : va_S A s.heap s.heap [] := va_S.rf
  have hl := lv_entry [.ref a_this, .int p1] (n := 2) (Nat.le_of_ble_eq_true rfl)
  rw [lg_entry_eq]
  generalize (lg_sl [.ref a_this, .int p1] ++ List.replicate (2 - (lg_sl [.ref a_this, .int p1]).length) Slot.unset).toArray = ls at hl ⊢
  have hl : lv_has ls 2 [(0, .ref a_this), (1, .int p1)] := hl
  obtain ⟨H, hHe⟩ : ∃ H, H = s.heap := ⟨_, rfl⟩
  have hP : va_P D vwCl [(a_this, .inr (4, [.ref a_this_characters, .int v_this_length, .int v_this_at, .long v_this_digits])), (a_this_characters, .inl (k 0, 60, aI v_this_characters))] H := by rw [hHe]; exact hP
  have hS : va_S A s.heap H [] := by rw [hHe]; exact hS
  rw [← hHe]
  obtain ⟨locs, hLe⟩ : ∃ locs : List Loc, locs = [] := ⟨_, rfl⟩
  rw [← hLe] at hS ⊢
  clear hLe
  refine lv_aload_n hx hb dX7_append_0 rfl (lv_at hl 0 rfl) ?_
  refine va_get (D := D) (ci := 4) (v := .int v_this_length) (C := RX7) (T := TX7) (N := 4) hx hb hts hinX7_X7_append hown hK hP 0 rfl rfl 1 (by decide) (hts (.fieldLink RX7 13 "LimitTables$Text" "length" "I") (by decide +kernel)) (fun _ h9 => h9) rfl dX7_append_1 ?_
  refine lv_bipush (v := 60) hx hb dX7_append_4 (by decide) ?_
  refine lv_icmp_ge (tgt := 29) hx hb dX7_append_6 (by decide) (fun c1 => ?_) (fun c1 => ?_)
  · skip
    have hf := if_t c1 hf
    have ho := Option.some.inj hf
    subst ho
    exact W.vret hx hb hr (fun t ht hW => ⟨⟨(), rfl, trivial, by rw [ht]; exact hP.sub (ws' := [(a_this, .inr (4, [.ref a_this_characters, .int v_this_length, .int v_this_at, .long v_this_digits])), (a_this_characters, .inl (k 0, 60, aI v_this_characters))]) [0, 1] rfl, va_K.moved hW.alike hK, hD.sub (ws' := [(a_this, .inr (4, [.ref a_this_characters, .int v_this_length, .int v_this_at, .long v_this_digits])), (a_this_characters, .inl (k 0, 60, aI v_this_characters))]) [0, 1] (by decide) rfl⟩, hS.F ht⟩) hS.2.2 dX7_append_29
  · skip
    have hf := if_f c1 hf
    refine lv_aload_n hx hb dX7_append_9 rfl (lv_at hl 0 rfl) ?_
    refine va_get (D := D) (ci := 4) (v := .ref a_this_characters) (C := RX7) (T := TX7) (N := 4) hx hb hts hinX7_X7_append hown hK hP 0 rfl rfl 0 (by decide) (hts (.fieldLink RX7 9 "LimitTables$Text" "characters" "[C") (by decide +kernel)) (fun _ h9 => h9) rfl dX7_append_10 ?_
    refine lv_aload_n hx hb dX7_append_13 rfl (lv_at hl 0 rfl) ?_
    refine va_get (D := D) (ci := 4) (v := .int v_this_length) (C := RX7) (T := TX7) (N := 4) hx hb hts hinX7_X7_append hown hK hP 0 rfl rfl 1 (by decide) (hts (.fieldLink RX7 13 "LimitTables$Text" "length" "I") (by decide +kernel)) (fun _ h9 => h9) rfl dX7_append_14 ?_
    refine lv_iload_n hx hb dX7_append_17 rfl (lv_at hl 1 rfl) ?_
    obtain ⟨g2, hf⟩ := gD_h hf
    refine va_cast hx hb hK hP hD hS 1 0 rfl rfl (inb_in g2) dX7_append_18 (fun H locs hP hD hS => ?_)
    have hP : va_P D vwCl [(a_this, .inr (4, [.ref a_this_characters, .int v_this_length, .int v_this_at, .long v_this_digits])), (a_this_characters, .inl (k 0, 60, aI (upd v_this_characters v_this_length.toNatClampNeg (vp_nar .char p1))))] H := hP
    have hD : va_D A [(a_this, .inr (4, [.ref a_this_characters, .int v_this_length, .int v_this_at, .long v_this_digits])), (a_this_characters, .inl (k 0, 60, aI (upd v_this_characters v_this_length.toNatClampNeg (vp_nar .char p1))))] := hD
    refine lv_aload_n hx hb dX7_append_19 rfl (lv_at hl 0 rfl) ?_
    refine lv_dup hx hb dX7_append_20 rfl ?_
    refine va_get (D := D) (ci := 4) (v := .int v_this_length) (C := RX7) (T := TX7) (N := 4) hx hb hts hinX7_X7_append hown hK hP 0 rfl rfl 1 (by decide) (hts (.fieldLink RX7 13 "LimitTables$Text" "length" "I") (by decide +kernel)) (fun _ h9 => h9) rfl dX7_append_21 ?_
    refine lv_iconst (v := 1) hx hb dX7_append_24 (by decide) ?_
    refine lv_iadd hx hb dX7_append_25 ?_
    refine va_put (D := D) (ci := 4) (v := .int (v_this_length + (1 : Int32))) (ty := .int) (C := RX7) (T := TX7) (N := 4) hx hb hts hinX7_X7_append tyX7 tyX7_ok nmX7 hown hK hP hD hS 0 rfl rfl 1 (by decide) (hts (.fieldLink RX7 13 "LimitTables$Text" "length" "I") (by decide +kernel)) (fun _ h9 => h9) rfl (by decide +kernel) rfl rfl (Nat.le_of_ble_eq_true rfl) dX7_append_26 (fun H locs hP hD hS => ?_)
    have hP : va_P D vwCl [(a_this, .inr (4, [.ref a_this_characters, .int (v_this_length + (1 : Int32)), .int v_this_at, .long v_this_digits])), (a_this_characters, .inl (k 0, 60, aI (upd v_this_characters v_this_length.toNatClampNeg (vp_nar .char p1))))] H := hP
    have hD : va_D A [(a_this, .inr (4, [.ref a_this_characters, .int (v_this_length + (1 : Int32)), .int v_this_at, .long v_this_digits])), (a_this_characters, .inl (k 0, 60, aI (upd v_this_characters v_this_length.toNatClampNeg (vp_nar .char p1))))] := hD
    have ho := Option.some.inj hf
    subst ho
    exact W.vret hx hb hr (fun t ht hW => ⟨⟨(), rfl, trivial, by rw [ht]; exact hP.sub (ws' := [(a_this, .inr (4, [.ref a_this_characters, .int (v_this_length + (1 : Int32)), .int v_this_at, .long v_this_digits])), (a_this_characters, .inl (k 0, 60, aI (upd v_this_characters v_this_length.toNatClampNeg (vp_nar .char p1))))]) [0, 1] rfl, va_K.moved hW.alike hK, hD.sub (ws' := [(a_this, .inr (4, [.ref a_this_characters, .int (v_this_length + (1 : Int32)), .int v_this_at, .long v_this_digits])), (a_this_characters, .inl (k 0, 60, aI (upd v_this_characters v_this_length.toNatClampNeg (vp_nar .char p1))))]) [0, 1] (by decide) rfl⟩, hS.F ht⟩) hS.2.2 dX7_append_29
theorem hinX7_X7_isHere : ∀ w ∈ wsX70, w ∈ wsX7_isHere := by decide +kernel
def p_X7_isHere (v_this_characters : Nat → Int32) (v_this_length : Int32) (v_this_at : Int32) (p1 : Int32) : Option (Int32) := (if v_this_length ≤ v_this_at then some (0 : Int32) else gD (inb v_this_at 60) ((if (v_this_characters v_this_at.toNatClampNeg) = p1 then some (1 : Int32) else some (0 : Int32))))
abbrev rm_X7_isHere : Room := { frames := 0, cells := 0, slots := 0, locals := 0 }
set_option maxHeartbeats 4000000 in
set_option maxRecDepth 100000 in
theorem mt_X7_isHere (l : Launch) (D : va_G) (k : Nat → ClassId) (a_this a_this_characters : Nat) (sz : Nat) (v_this_characters : Nat → Int32) (v_this_length : Int32) (v_this_at : Int32) (v_this_digits : Int64) (p1 : Int32) (o : Int32) (hf : p_X7_isHere v_this_characters v_this_length v_this_at p1 = some o)  : Met l yX7_isHere wsX7_isHere rm_X7_isHere (va_Pc [.ref a_this, .int p1] (bW D k sz [(a_this, .inr (4, [.ref a_this_characters, .int v_this_length, .int v_this_at, .long v_this_digits])), (a_this_characters, .inl (k 0, 60, aI v_this_characters))])) (va_Qi (fun (r : Int32) (_ : Unit) => r = o) (fun _ => bO D k (va_A [(a_this, .inr (4, [.ref a_this_characters, .int v_this_length, .int v_this_at, .long v_this_digits])), (a_this_characters, .inl (k 0, 60, aI v_this_characters))] sz) [(a_this, .inr (4, [.ref a_this_characters, .int v_this_length, .int v_this_at, .long v_this_digits])), (a_this_characters, .inl (k 0, 60, aI v_this_characters))]) (va_A [(a_this, .inr (4, [.ref a_this_characters, .int v_this_length, .int v_this_at, .long v_this_digits])), (a_this_characters, .inl (k 0, 60, aI v_this_characters))] sz)) 0 0 (va_A [(a_this, .inr (4, [.ref a_this_characters, .int v_this_length, .int v_this_at, .long v_this_digits])), (a_this_characters, .inl (k 0, 60, aI v_this_characters))] sz) := by
  unfold p_X7_isHere at hf
  refine Met.ofW (cc := cX7_isHere) (maxL := 2) (ret := (some .boolean)) (by decide) rfl ?_
  intro p e s m args below meth c s₁ B hml hv
  obtain ⟨rfl, hsz, hP, hK, hD0⟩ := hv
  have hx := B.exec
  have hb := B.bytes
  have hr := B.returns
  have hts := atoms_spec (ws := wsX7_isHere) B.pre
  have hown : s.vm.findClass RX7 = some m.cls := findClass_of_methodNamed B.named
  have hlocks := B.notSynchronized
  subst hsz
  have hD := hD0.self (sz := s.heap.size)
  generalize hAe : va_A [(a_this, .inr (4, [.ref a_this_characters, .int v_this_length, .int v_this_at, .long v_this_digits])), (a_this_characters, .inl (k 0, 60, aI v_this_characters))] s.heap.size = A at hD ⊢
  have hA : ∀ q : Nat, s.heap.size ≤ q → A q := fun q h => by rw [← hAe]; exact Or.inr h
  have hS : va_S A s.heap s.heap [] := va_S.rf
  have hl := lv_entry [.ref a_this, .int p1] (n := 2) (Nat.le_of_ble_eq_true rfl)
  rw [lg_entry_eq]
  generalize (lg_sl [.ref a_this, .int p1] ++ List.replicate (2 - (lg_sl [.ref a_this, .int p1]).length) Slot.unset).toArray = ls at hl ⊢
  have hl : lv_has ls 2 [(0, .ref a_this), (1, .int p1)] := hl
  obtain ⟨H, hHe⟩ : ∃ H, H = s.heap := ⟨_, rfl⟩
  have hP : va_P D vwCl [(a_this, .inr (4, [.ref a_this_characters, .int v_this_length, .int v_this_at, .long v_this_digits])), (a_this_characters, .inl (k 0, 60, aI v_this_characters))] H := by rw [hHe]; exact hP
  have hS : va_S A s.heap H [] := by rw [hHe]; exact hS
  rw [← hHe]
  obtain ⟨locs, hLe⟩ : ∃ locs : List Loc, locs = [] := ⟨_, rfl⟩
  rw [← hLe] at hS ⊢
  clear hLe
  refine lv_aload_n hx hb dX7_isHere_0 rfl (lv_at hl 0 rfl) ?_
  refine va_get (D := D) (ci := 4) (v := .int v_this_at) (C := RX7) (T := TX7) (N := 4) hx hb hts hinX7_X7_isHere hown hK hP 0 rfl rfl 2 (by decide) (hts (.fieldLink RX7 17 "LimitTables$Text" "at" "I") (by decide +kernel)) (fun _ h9 => h9) rfl dX7_isHere_1 ?_
  refine lv_aload_n hx hb dX7_isHere_4 rfl (lv_at hl 0 rfl) ?_
  refine va_get (D := D) (ci := 4) (v := .int v_this_length) (C := RX7) (T := TX7) (N := 4) hx hb hts hinX7_X7_isHere hown hK hP 0 rfl rfl 1 (by decide) (hts (.fieldLink RX7 13 "LimitTables$Text" "length" "I") (by decide +kernel)) (fun _ h9 => h9) rfl dX7_isHere_5 ?_
  refine lv_icmp_ge (tgt := 28) hx hb dX7_isHere_8 (by decide) (fun c1 => ?_) (fun c1 => ?_)
  · skip
    have hf := if_t c1 hf
    refine lv_iconst (v := 0) hx hb dX7_isHere_28 (by decide) ?_
    have ho := Option.some.inj hf
    subst ho
    exact W.zret (v := (0 : Int32)) (ty := .boolean) hx hb hr rfl (fun t ht hW => ⟨⟨(0 : Int32), (), rfl, rfl, by rw [ht]; exact hP.sub (ws' := [(a_this, .inr (4, [.ref a_this_characters, .int v_this_length, .int v_this_at, .long v_this_digits])), (a_this_characters, .inl (k 0, 60, aI v_this_characters))]) [0, 1] rfl, va_K.moved hW.alike hK, hD.sub (ws' := [(a_this, .inr (4, [.ref a_this_characters, .int v_this_length, .int v_this_at, .long v_this_digits])), (a_this_characters, .inl (k 0, 60, aI v_this_characters))]) [0, 1] (by decide) rfl⟩, hS.F ht⟩) hS.2.2 dX7_isHere_29
  · skip
    have hf := if_f c1 hf
    refine lv_aload_n hx hb dX7_isHere_11 rfl (lv_at hl 0 rfl) ?_
    refine va_get (D := D) (ci := 4) (v := .ref a_this_characters) (C := RX7) (T := TX7) (N := 4) hx hb hts hinX7_X7_isHere hown hK hP 0 rfl rfl 0 (by decide) (hts (.fieldLink RX7 9 "LimitTables$Text" "characters" "[C") (by decide +kernel)) (fun _ h9 => h9) rfl dX7_isHere_12 ?_
    refine lv_aload_n hx hb dX7_isHere_15 rfl (lv_at hl 0 rfl) ?_
    refine va_get (D := D) (ci := 4) (v := .int v_this_at) (C := RX7) (T := TX7) (N := 4) hx hb hts hinX7_X7_isHere hown hK hP 0 rfl rfl 2 (by decide) (hts (.fieldLink RX7 17 "LimitTables$Text" "at" "I") (by decide +kernel)) (fun _ h9 => h9) rfl dX7_isHere_16 ?_
    obtain ⟨g2, hf⟩ := gD_h hf
    refine va_cald hx hb hK hP 1 0 rfl rfl (inb_in g2) dX7_isHere_19 ?_
    refine lv_iload_n hx hb dX7_isHere_20 rfl (lv_at hl 1 rfl) ?_
    refine lv_icmp_ne (tgt := 28) hx hb dX7_isHere_21 (by decide) (fun c3 => ?_) (fun c3 => ?_)
    · skip
      have hf := if_f c3 hf
      refine lv_iconst (v := 0) hx hb dX7_isHere_28 (by decide) ?_
      have ho := Option.some.inj hf
      subst ho
      exact W.zret (v := (0 : Int32)) (ty := .boolean) hx hb hr rfl (fun t ht hW => ⟨⟨(0 : Int32), (), rfl, rfl, by rw [ht]; exact hP.sub (ws' := [(a_this, .inr (4, [.ref a_this_characters, .int v_this_length, .int v_this_at, .long v_this_digits])), (a_this_characters, .inl (k 0, 60, aI v_this_characters))]) [0, 1] rfl, va_K.moved hW.alike hK, hD.sub (ws' := [(a_this, .inr (4, [.ref a_this_characters, .int v_this_length, .int v_this_at, .long v_this_digits])), (a_this_characters, .inl (k 0, 60, aI v_this_characters))]) [0, 1] (by decide) rfl⟩, hS.F ht⟩) hS.2.2 dX7_isHere_29
    · skip
      have hf := if_t c3 hf
      refine lv_iconst (v := 1) hx hb dX7_isHere_24 (by decide) ?_
      refine lv_goto (tgt := 29) hx hb dX7_isHere_25 (by decide) ?_
      have ho := Option.some.inj hf
      subst ho
      exact W.zret (v := (1 : Int32)) (ty := .boolean) hx hb hr rfl (fun t ht hW => ⟨⟨(1 : Int32), (), rfl, rfl, by rw [ht]; exact hP.sub (ws' := [(a_this, .inr (4, [.ref a_this_characters, .int v_this_length, .int v_this_at, .long v_this_digits])), (a_this_characters, .inl (k 0, 60, aI v_this_characters))]) [0, 1] rfl, va_K.moved hW.alike hK, hD.sub (ws' := [(a_this, .inr (4, [.ref a_this_characters, .int v_this_length, .int v_this_at, .long v_this_digits])), (a_this_characters, .inl (k 0, 60, aI v_this_characters))]) [0, 1] (by decide) rfl⟩, hS.F ht⟩) hS.2.2 dX7_isHere_29
theorem hinX7_X7_isDigitHere : ∀ w ∈ wsX70, w ∈ wsX7_isDigitHere := by decide +kernel
def p_X7_isDigitHere (v_this_characters : Nat → Int32) (v_this_length : Int32) (v_this_at : Int32)  : Option (Int32) := (if v_this_length ≤ v_this_at then some (0 : Int32) else gD (inb v_this_at 60) ((if (v_this_characters v_this_at.toNatClampNeg) < (48 : Int32) then some (0 : Int32) else gD (inb v_this_at 60) ((if (57 : Int32) < (v_this_characters v_this_at.toNatClampNeg) then some (0 : Int32) else some (1 : Int32))))))
abbrev rm_X7_isDigitHere : Room := { frames := 0, cells := 0, slots := 0, locals := 0 }
set_option maxHeartbeats 4000000 in
set_option maxRecDepth 100000 in
theorem mt_X7_isDigitHere (l : Launch) (D : va_G) (k : Nat → ClassId) (a_this a_this_characters : Nat) (sz : Nat) (v_this_characters : Nat → Int32) (v_this_length : Int32) (v_this_at : Int32) (v_this_digits : Int64)  (o : Int32) (hf : p_X7_isDigitHere v_this_characters v_this_length v_this_at = some o)  : Met l yX7_isDigitHere wsX7_isDigitHere rm_X7_isDigitHere (va_Pc [.ref a_this] (bW D k sz [(a_this, .inr (4, [.ref a_this_characters, .int v_this_length, .int v_this_at, .long v_this_digits])), (a_this_characters, .inl (k 0, 60, aI v_this_characters))])) (va_Qi (fun (r : Int32) (_ : Unit) => r = o) (fun _ => bO D k (va_A [(a_this, .inr (4, [.ref a_this_characters, .int v_this_length, .int v_this_at, .long v_this_digits])), (a_this_characters, .inl (k 0, 60, aI v_this_characters))] sz) [(a_this, .inr (4, [.ref a_this_characters, .int v_this_length, .int v_this_at, .long v_this_digits])), (a_this_characters, .inl (k 0, 60, aI v_this_characters))]) (va_A [(a_this, .inr (4, [.ref a_this_characters, .int v_this_length, .int v_this_at, .long v_this_digits])), (a_this_characters, .inl (k 0, 60, aI v_this_characters))] sz)) 0 0 (va_A [(a_this, .inr (4, [.ref a_this_characters, .int v_this_length, .int v_this_at, .long v_this_digits])), (a_this_characters, .inl (k 0, 60, aI v_this_characters))] sz) := by
  unfold p_X7_isDigitHere at hf
  refine Met.ofW (cc := cX7_isDigitHere) (maxL := 1) (ret := (some .boolean)) (by decide) rfl ?_
  intro p e s m args below meth c s₁ B hml hv
  obtain ⟨rfl, hsz, hP, hK, hD0⟩ := hv
  have hx := B.exec
  have hb := B.bytes
  have hr := B.returns
  have hts := atoms_spec (ws := wsX7_isDigitHere) B.pre
  have hown : s.vm.findClass RX7 = some m.cls := findClass_of_methodNamed B.named
  have hlocks := B.notSynchronized
  subst hsz
  have hD := hD0.self (sz := s.heap.size)
  generalize hAe : va_A [(a_this, .inr (4, [.ref a_this_characters, .int v_this_length, .int v_this_at, .long v_this_digits])), (a_this_characters, .inl (k 0, 60, aI v_this_characters))] s.heap.size = A at hD ⊢
  have hA : ∀ q : Nat, s.heap.size ≤ q → A q := fun q h => by rw [← hAe]; exact Or.inr h
  have hS : va_S A s.heap s.heap [] := va_S.rf
  have hl := lv_entry [.ref a_this] (n := 1) (Nat.le_of_ble_eq_true rfl)
  rw [lg_entry_eq]
  generalize (lg_sl [.ref a_this] ++ List.replicate (1 - (lg_sl [.ref a_this]).length) Slot.unset).toArray = ls at hl ⊢
  have hl : lv_has ls 1 [(0, .ref a_this)] := hl
  obtain ⟨H, hHe⟩ : ∃ H, H = s.heap := ⟨_, rfl⟩
  have hP : va_P D vwCl [(a_this, .inr (4, [.ref a_this_characters, .int v_this_length, .int v_this_at, .long v_this_digits])), (a_this_characters, .inl (k 0, 60, aI v_this_characters))] H := by rw [hHe]; exact hP
  have hS : va_S A s.heap H [] := by rw [hHe]; exact hS
  rw [← hHe]
  obtain ⟨locs, hLe⟩ : ∃ locs : List Loc, locs = [] := ⟨_, rfl⟩
  rw [← hLe] at hS ⊢
  clear hLe
  refine lv_aload_n hx hb dX7_isDigitHere_0 rfl (lv_at hl 0 rfl) ?_
  refine va_get (D := D) (ci := 4) (v := .int v_this_at) (C := RX7) (T := TX7) (N := 4) hx hb hts hinX7_X7_isDigitHere hown hK hP 0 rfl rfl 2 (by decide) (hts (.fieldLink RX7 17 "LimitTables$Text" "at" "I") (by decide +kernel)) (fun _ h9 => h9) rfl dX7_isDigitHere_1 ?_
  refine lv_aload_n hx hb dX7_isDigitHere_4 rfl (lv_at hl 0 rfl) ?_
  refine va_get (D := D) (ci := 4) (v := .int v_this_length) (C := RX7) (T := TX7) (N := 4) hx hb hts hinX7_X7_isDigitHere hown hK hP 0 rfl rfl 1 (by decide) (hts (.fieldLink RX7 13 "LimitTables$Text" "length" "I") (by decide +kernel)) (fun _ h9 => h9) rfl dX7_isDigitHere_5 ?_
  refine lv_icmp_ge (tgt := 43) hx hb dX7_isDigitHere_8 (by decide) (fun c1 => ?_) (fun c1 => ?_)
  · skip
    have hf := if_t c1 hf
    refine lv_iconst (v := 0) hx hb dX7_isDigitHere_43 (by decide) ?_
    have ho := Option.some.inj hf
    subst ho
    exact W.zret (v := (0 : Int32)) (ty := .boolean) hx hb hr rfl (fun t ht hW => ⟨⟨(0 : Int32), (), rfl, rfl, by rw [ht]; exact hP.sub (ws' := [(a_this, .inr (4, [.ref a_this_characters, .int v_this_length, .int v_this_at, .long v_this_digits])), (a_this_characters, .inl (k 0, 60, aI v_this_characters))]) [0, 1] rfl, va_K.moved hW.alike hK, hD.sub (ws' := [(a_this, .inr (4, [.ref a_this_characters, .int v_this_length, .int v_this_at, .long v_this_digits])), (a_this_characters, .inl (k 0, 60, aI v_this_characters))]) [0, 1] (by decide) rfl⟩, hS.F ht⟩) hS.2.2 dX7_isDigitHere_44
  · skip
    have hf := if_f c1 hf
    refine lv_aload_n hx hb dX7_isDigitHere_11 rfl (lv_at hl 0 rfl) ?_
    refine va_get (D := D) (ci := 4) (v := .ref a_this_characters) (C := RX7) (T := TX7) (N := 4) hx hb hts hinX7_X7_isDigitHere hown hK hP 0 rfl rfl 0 (by decide) (hts (.fieldLink RX7 9 "LimitTables$Text" "characters" "[C") (by decide +kernel)) (fun _ h9 => h9) rfl dX7_isDigitHere_12 ?_
    refine lv_aload_n hx hb dX7_isDigitHere_15 rfl (lv_at hl 0 rfl) ?_
    refine va_get (D := D) (ci := 4) (v := .int v_this_at) (C := RX7) (T := TX7) (N := 4) hx hb hts hinX7_X7_isDigitHere hown hK hP 0 rfl rfl 2 (by decide) (hts (.fieldLink RX7 17 "LimitTables$Text" "at" "I") (by decide +kernel)) (fun _ h9 => h9) rfl dX7_isDigitHere_16 ?_
    obtain ⟨g2, hf⟩ := gD_h hf
    refine va_cald hx hb hK hP 1 0 rfl rfl (inb_in g2) dX7_isDigitHere_19 ?_
    refine lv_bipush (v := 48) hx hb dX7_isDigitHere_20 (by decide) ?_
    refine lv_icmp_lt (tgt := 43) hx hb dX7_isDigitHere_22 (by decide) (fun c3 => ?_) (fun c3 => ?_)
    · skip
      have hf := if_t c3 hf
      refine lv_iconst (v := 0) hx hb dX7_isDigitHere_43 (by decide) ?_
      have ho := Option.some.inj hf
      subst ho
      exact W.zret (v := (0 : Int32)) (ty := .boolean) hx hb hr rfl (fun t ht hW => ⟨⟨(0 : Int32), (), rfl, rfl, by rw [ht]; exact hP.sub (ws' := [(a_this, .inr (4, [.ref a_this_characters, .int v_this_length, .int v_this_at, .long v_this_digits])), (a_this_characters, .inl (k 0, 60, aI v_this_characters))]) [0, 1] rfl, va_K.moved hW.alike hK, hD.sub (ws' := [(a_this, .inr (4, [.ref a_this_characters, .int v_this_length, .int v_this_at, .long v_this_digits])), (a_this_characters, .inl (k 0, 60, aI v_this_characters))]) [0, 1] (by decide) rfl⟩, hS.F ht⟩) hS.2.2 dX7_isDigitHere_44
    · skip
      have hf := if_f c3 hf
      refine lv_aload_n hx hb dX7_isDigitHere_25 rfl (lv_at hl 0 rfl) ?_
      refine va_get (D := D) (ci := 4) (v := .ref a_this_characters) (C := RX7) (T := TX7) (N := 4) hx hb hts hinX7_X7_isDigitHere hown hK hP 0 rfl rfl 0 (by decide) (hts (.fieldLink RX7 9 "LimitTables$Text" "characters" "[C") (by decide +kernel)) (fun _ h9 => h9) rfl dX7_isDigitHere_26 ?_
      refine lv_aload_n hx hb dX7_isDigitHere_29 rfl (lv_at hl 0 rfl) ?_
      refine va_get (D := D) (ci := 4) (v := .int v_this_at) (C := RX7) (T := TX7) (N := 4) hx hb hts hinX7_X7_isDigitHere hown hK hP 0 rfl rfl 2 (by decide) (hts (.fieldLink RX7 17 "LimitTables$Text" "at" "I") (by decide +kernel)) (fun _ h9 => h9) rfl dX7_isDigitHere_30 ?_
      obtain ⟨g4, hf⟩ := gD_h hf
      refine va_cald hx hb hK hP 1 0 rfl rfl (inb_in g4) dX7_isDigitHere_33 ?_
      refine lv_bipush (v := 57) hx hb dX7_isDigitHere_34 (by decide) ?_
      refine lv_icmp_gt (tgt := 43) hx hb dX7_isDigitHere_36 (by decide) (fun c5 => ?_) (fun c5 => ?_)
      · skip
        have hf := if_t c5 hf
        refine lv_iconst (v := 0) hx hb dX7_isDigitHere_43 (by decide) ?_
        have ho := Option.some.inj hf
        subst ho
        exact W.zret (v := (0 : Int32)) (ty := .boolean) hx hb hr rfl (fun t ht hW => ⟨⟨(0 : Int32), (), rfl, rfl, by rw [ht]; exact hP.sub (ws' := [(a_this, .inr (4, [.ref a_this_characters, .int v_this_length, .int v_this_at, .long v_this_digits])), (a_this_characters, .inl (k 0, 60, aI v_this_characters))]) [0, 1] rfl, va_K.moved hW.alike hK, hD.sub (ws' := [(a_this, .inr (4, [.ref a_this_characters, .int v_this_length, .int v_this_at, .long v_this_digits])), (a_this_characters, .inl (k 0, 60, aI v_this_characters))]) [0, 1] (by decide) rfl⟩, hS.F ht⟩) hS.2.2 dX7_isDigitHere_44
      · skip
        have hf := if_f c5 hf
        refine lv_iconst (v := 1) hx hb dX7_isDigitHere_39 (by decide) ?_
        refine lv_goto (tgt := 44) hx hb dX7_isDigitHere_40 (by decide) ?_
        have ho := Option.some.inj hf
        subst ho
        exact W.zret (v := (1 : Int32)) (ty := .boolean) hx hb hr rfl (fun t ht hW => ⟨⟨(1 : Int32), (), rfl, rfl, by rw [ht]; exact hP.sub (ws' := [(a_this, .inr (4, [.ref a_this_characters, .int v_this_length, .int v_this_at, .long v_this_digits])), (a_this_characters, .inl (k 0, 60, aI v_this_characters))]) [0, 1] rfl, va_K.moved hW.alike hK, hD.sub (ws' := [(a_this, .inr (4, [.ref a_this_characters, .int v_this_length, .int v_this_at, .long v_this_digits])), (a_this_characters, .inl (k 0, 60, aI v_this_characters))]) [0, 1] (by decide) rfl⟩, hS.F ht⟩) hS.2.2 dX7_isDigitHere_44
theorem hinX7_X7_parseDigits : ∀ w ∈ wsX70, w ∈ wsX7_parseDigits := by decide +kernel
def p_X7_parseDigits_L7 (v_this_characters : Nat → Int32) (v_this_length : Int32) (p1 : Int32) : Nat → Int32 → Int32 → Int32 → Int64 → Option (Int32 × Int32 × Int64)
  | 0, _, _, _, _ => none
  | n7 + 1, x7_2, x7_3, w7_this_at, w7_this_digits => (if p1 ≤ x7_3 then some (x7_2, w7_this_at, w7_this_digits) else (p_X7_isDigitHere v_this_characters v_this_length w7_this_at).bind fun x1002 => (if x1002 = 0 then some (x7_2, w7_this_at, w7_this_digits) else gD (inb w7_this_at 60) (p_X7_parseDigits_L7 v_this_characters v_this_length p1 n7 x7_2 (x7_3 + 1) (w7_this_at + (1 : Int32)) ((w7_this_digits * (10 : Int64)) + (((v_this_characters w7_this_at.toNatClampNeg) - (48 : Int32))).toInt64))))

def p_X7_parseDigits (v_this_characters : Nat → Int32) (v_this_length : Int32) (v_this_at : Int32) (v_this_digits : Int64) (p1 : Int32) : Option (Int32 × Int32 × Int64) := (p_X7_parseDigits_L7 v_this_characters v_this_length p1 300 v_this_at (0 : Int32) v_this_at v_this_digits).bind fun x1 => (if x1.2.1 ≤ x1.1 then some ((0 : Int32), x1.2.1, x1.2.2) else some ((1 : Int32), x1.2.1, x1.2.2))
abbrev rm_X7_parseDigits : Room := { frames := 1, cells := 0, slots := 0, locals := 20 }
set_option maxHeartbeats 4000000 in
set_option maxRecDepth 100000 in
theorem mt_X7_parseDigits (l : Launch) (D : va_G) (k : Nat → ClassId) (a_this a_this_characters : Nat) (sz : Nat) (v_this_characters : Nat → Int32) (v_this_length : Int32) (v_this_at : Int32) (v_this_digits : Int64) (p1 : Int32) (o : Int32 × Int32 × Int64) (hf : p_X7_parseDigits v_this_characters v_this_length v_this_at v_this_digits p1 = some o)  : Met l yX7_parseDigits wsX7_parseDigits rm_X7_parseDigits (va_Pc [.ref a_this, .int p1] (bW D k sz [(a_this, .inr (4, [.ref a_this_characters, .int v_this_length, .int v_this_at, .long v_this_digits])), (a_this_characters, .inl (k 0, 60, aI v_this_characters))])) (va_Qi (fun (r : Int32) (_ : Unit) => r = o.1) (fun _ => bO D k (va_A [(a_this, .inr (4, [.ref a_this_characters, .int v_this_length, .int v_this_at, .long v_this_digits])), (a_this_characters, .inl (k 0, 60, aI v_this_characters))] sz) [(a_this, .inr (4, [.ref a_this_characters, .int v_this_length, .int o.2.1, .long o.2.2])), (a_this_characters, .inl (k 0, 60, aI v_this_characters))]) (va_A [(a_this, .inr (4, [.ref a_this_characters, .int v_this_length, .int v_this_at, .long v_this_digits])), (a_this_characters, .inl (k 0, 60, aI v_this_characters))] sz)) 0 0 (va_A [(a_this, .inr (4, [.ref a_this_characters, .int v_this_length, .int v_this_at, .long v_this_digits])), (a_this_characters, .inl (k 0, 60, aI v_this_characters))] sz) := by
  unfold p_X7_parseDigits at hf
  refine Met.ofW (cc := cX7_parseDigits) (maxL := 4) (ret := (some .boolean)) (by decide) rfl ?_
  intro p e s m args below meth c s₁ B hml hv
  obtain ⟨rfl, hsz, hP, hK, hD0⟩ := hv
  have hx := B.exec
  have hb := B.bytes
  have hr := B.returns
  have hts := atoms_spec (ws := wsX7_parseDigits) B.pre
  have hown : s.vm.findClass RX7 = some m.cls := findClass_of_methodNamed B.named
  have hlocks := B.notSynchronized
  subst hsz
  have hD := hD0.self (sz := s.heap.size)
  generalize hAe : va_A [(a_this, .inr (4, [.ref a_this_characters, .int v_this_length, .int v_this_at, .long v_this_digits])), (a_this_characters, .inl (k 0, 60, aI v_this_characters))] s.heap.size = A at hD ⊢
  have hA : ∀ q : Nat, s.heap.size ≤ q → A q := fun q h => by rw [← hAe]; exact Or.inr h
  have hS : va_S A s.heap s.heap [] := va_S.rf
  obtain ⟨Q, hQ⟩ : ∃ Q, Q = MQ below (va_Qi (fun (r : Int32) (_ : Unit) => r = o.1) (fun _ => bO D k (A) [(a_this, .inr (4, [.ref a_this_characters, .int v_this_length, .int o.2.1, .long o.2.2])), (a_this_characters, .inl (k 0, 60, aI v_this_characters))]) (A)) ([.ref a_this, .int p1] : List Value).toArray s 0 0 A := ⟨_, rfl⟩
  rw [← hQ]
  have hl := lv_entry [.ref a_this, .int p1] (n := 4) (Nat.le_of_ble_eq_true rfl)
  rw [lg_entry_eq]
  generalize (lg_sl [.ref a_this, .int p1] ++ List.replicate (4 - (lg_sl [.ref a_this, .int p1]).length) Slot.unset).toArray = ls at hl ⊢
  have hl : lv_has ls 4 [(0, .ref a_this), (1, .int p1)] := hl
  obtain ⟨H, hHe⟩ : ∃ H, H = s.heap := ⟨_, rfl⟩
  have hP : va_P D vwCl [(a_this, .inr (4, [.ref a_this_characters, .int v_this_length, .int v_this_at, .long v_this_digits])), (a_this_characters, .inl (k 0, 60, aI v_this_characters))] H := by rw [hHe]; exact hP
  have hS : va_S A s.heap H [] := by rw [hHe]; exact hS
  rw [← hHe]
  obtain ⟨locs, hLe⟩ : ∃ locs : List Loc, locs = [] := ⟨_, rfl⟩
  rw [← hLe] at hS ⊢
  clear hLe
  refine lv_aload_n hx hb dX7_parseDigits_0 rfl (lv_at hl 0 rfl) ?_
  refine va_get (D := D) (ci := 4) (v := .int v_this_at) (C := RX7) (T := TX7) (N := 4) hx hb hts hinX7_X7_parseDigits hown hK hP 0 rfl rfl 2 (by decide) (hts (.fieldLink RX7 17 "LimitTables$Text" "at" "I") (by decide +kernel)) (fun _ h9 => h9) rfl dX7_parseDigits_1 ?_
  refine lv_istore_n (lv' := [(2, .int v_this_at), (0, .ref a_this), (1, .int p1)]) hx hb dX7_parseDigits_4 rfl hl (by decide) rfl (fun ls hl => ?_)
  refine lv_iconst (v := 0) hx hb dX7_parseDigits_5 (by decide) ?_
  refine lv_istore_n (lv' := [(3, .int (0 : Int32)), (2, .int v_this_at), (0, .ref a_this), (1, .int p1)]) hx hb dX7_parseDigits_6 rfl hl (by decide) rfl (fun ls hl => ?_)
  obtain ⟨x1, hx1, hf⟩ := bind_s hf
  have X61 : ∀ (H : Heap) (locs : List Loc) (ls : Array Slot), va_P D vwCl [(a_this, .inr (4, [.ref a_this_characters, .int v_this_length, .int x1.2.1, .long x1.2.2])), (a_this_characters, .inl (k 0, 60, aI v_this_characters))] H → va_D A [(a_this, .inr (4, [.ref a_this_characters, .int v_this_length, .int x1.2.1, .long x1.2.2])), (a_this_characters, .inl (k 0, 60, aI v_this_characters))] → va_S A s.heap H locs → lv_has ls 4 [(0, .ref a_this), (2, .int x1.1)] → W p l e (headSpec wsX7_parseDigits rm_X7_parseDigits).room s m ([.ref a_this, .int p1] : List Value).toArray below meth c H locs 0 0 Q (F0 m 61 ls []) := by
    intro H locs ls hP hD hS hl
    refine lv_aload_n hx hb dX7_parseDigits_61 rfl (lv_at hl 0 rfl) ?_
    refine va_get (D := D) (ci := 4) (v := .int x1.2.1) (C := RX7) (T := TX7) (N := 4) hx hb hts hinX7_X7_parseDigits hown hK hP 0 rfl rfl 2 (by decide) (hts (.fieldLink RX7 17 "LimitTables$Text" "at" "I") (by decide +kernel)) (fun _ h9 => h9) rfl dX7_parseDigits_62 ?_
    refine lv_iload_n hx hb dX7_parseDigits_65 rfl (lv_at hl 1 rfl) ?_
    refine lv_icmp_le (tgt := 73) hx hb dX7_parseDigits_66 (by decide) (fun c2 => ?_) (fun c2 => ?_)
    · skip
      have hf := if_t c2 hf
      refine lv_iconst (v := 0) hx hb dX7_parseDigits_73 (by decide) ?_
      have ho := Option.some.inj hf
      subst ho
      rw [hQ]
      exact W.zret (v := (0 : Int32)) (ty := .boolean) hx hb hr rfl (fun t ht hW => ⟨⟨(0 : Int32), (), rfl, rfl, by rw [ht]; exact hP.sub (ws' := [(a_this, .inr (4, [.ref a_this_characters, .int v_this_length, .int x1.2.1, .long x1.2.2])), (a_this_characters, .inl (k 0, 60, aI v_this_characters))]) [0, 1] rfl, va_K.moved hW.alike hK, hD.sub (ws' := [(a_this, .inr (4, [.ref a_this_characters, .int v_this_length, .int x1.2.1, .long x1.2.2])), (a_this_characters, .inl (k 0, 60, aI v_this_characters))]) [0, 1] (by decide) rfl⟩, hS.F ht⟩) hS.2.2 dX7_parseDigits_74
    · skip
      have hf := if_f c2 hf
      refine lv_iconst (v := 1) hx hb dX7_parseDigits_69 (by decide) ?_
      refine lv_goto (tgt := 74) hx hb dX7_parseDigits_70 (by decide) ?_
      have ho := Option.some.inj hf
      subst ho
      rw [hQ]
      exact W.zret (v := (1 : Int32)) (ty := .boolean) hx hb hr rfl (fun t ht hW => ⟨⟨(1 : Int32), (), rfl, rfl, by rw [ht]; exact hP.sub (ws' := [(a_this, .inr (4, [.ref a_this_characters, .int v_this_length, .int x1.2.1, .long x1.2.2])), (a_this_characters, .inl (k 0, 60, aI v_this_characters))]) [0, 1] rfl, va_K.moved hW.alike hK, hD.sub (ws' := [(a_this, .inr (4, [.ref a_this_characters, .int v_this_length, .int x1.2.1, .long x1.2.2])), (a_this_characters, .inl (k 0, 60, aI v_this_characters))]) [0, 1] (by decide) rfl⟩, hS.F ht⟩) hS.2.2 dX7_parseDigits_74
  have L7 : ∀ (n7 : Nat) (x7_2 : Int32) (x7_3 : Int32) (w7_this_at : Int32) (w7_this_digits : Int64) (H : Heap) (locs : List Loc) (ls : Array Slot), va_P D vwCl [(a_this, .inr (4, [.ref a_this_characters, .int v_this_length, .int w7_this_at, .long w7_this_digits])), (a_this_characters, .inl (k 0, 60, aI v_this_characters))] H → va_D A [(a_this, .inr (4, [.ref a_this_characters, .int v_this_length, .int w7_this_at, .long w7_this_digits])), (a_this_characters, .inl (k 0, 60, aI v_this_characters))] → va_S A s.heap H locs → lv_has ls 4 [(0, .ref a_this), (1, .int p1), (2, .int x7_2), (3, .int x7_3)] → p_X7_parseDigits_L7 v_this_characters v_this_length p1 n7 x7_2 x7_3 w7_this_at w7_this_digits = some x1 → W p l e (headSpec wsX7_parseDigits rm_X7_parseDigits).room s m ([.ref a_this, .int p1] : List Value).toArray below meth c H locs 0 0 Q (F0 m 7 ls []) := by
    intro n7
    induction n7 with
    | zero =>
      intro x7_2 x7_3 w7_this_at w7_this_digits H locs ls hP hD hS hl hx1
      exact absurd hx1 (by simp [p_X7_parseDigits_L7])
    | succ n7 ih7 =>
      intro x7_2 x7_3 w7_this_at w7_this_digits H locs ls hP hD hS hl hx1
      rw [p_X7_parseDigits_L7] at hx1
      refine lv_iload_n hx hb dX7_parseDigits_7 rfl (lv_at hl 3 rfl) ?_
      refine lv_iload_n hx hb dX7_parseDigits_8 rfl (lv_at hl 1 rfl) ?_
      refine lv_icmp_ge (tgt := 61) hx hb dX7_parseDigits_9 (by decide) (fun c1001 => ?_) (fun c1001 => ?_)
      · skip
        have hx1 := if_t c1001 hx1
        have ho := Option.some.inj hx1
        subst ho
        exact X61 H locs ls hP hD hS (lv_sub hl [0, 2] rfl)
      · skip
        have hx1 := if_f c1001 hx1
        refine lv_aload_n hx hb dX7_parseDigits_12 rfl (lv_at hl 0 rfl) ?_
        obtain ⟨x1002, hx1002, hx1⟩ := bind_s hx1
        refine cc_i (r := x1002) (wc := [(a_this, .inr (4, [.ref a_this_characters, .int v_this_length, .int w7_this_at, .long w7_this_digits])), (a_this_characters, .inl (k 0, 60, aI v_this_characters))]) (wr := []) (w1 := [(a_this, .inr (4, [.ref a_this_characters, .int v_this_length, .int w7_this_at, .long w7_this_digits])), (a_this_characters, .inl (k 0, 60, aI v_this_characters))]) (va_runV (As := []) (rest := []) ⟨hx, hb, hml, hown, hts⟩ (mt_X7_isDigitHere l D k a_this a_this_characters _ v_this_characters v_this_length w7_this_at w7_this_digits  x1002 hx1002) (cwV 0 hts gX7_parseDigits_X7_isDigitHere rfl rfl rfl (by decide +kernel) ⟨(Nat.le_of_ble_eq_true rfl), (Nat.le_of_ble_eq_true rfl)⟩) (cc_pv (wc := [(a_this, .inr (4, [.ref a_this_characters, .int v_this_length, .int w7_this_at, .long w7_this_digits])), (a_this_characters, .inl (k 0, 60, aI v_this_characters))]) hK hP hD [0, 1] (by decide) rfl rfl 4 0 rfl rfl rfl) rfl rfl hl.1 rfl (lv_room (Nat.le_of_ble_eq_true rfl)) dX7_parseDigits_13 ⟨Nat.zero_le _, Nat.zero_le _⟩) hP hD hS hA [0, 1] [] rfl rfl (by decide) (by decide) (fun H locs hP hD hS => ?_)
        have hP : va_P D vwCl [(a_this, .inr (4, [.ref a_this_characters, .int v_this_length, .int w7_this_at, .long w7_this_digits])), (a_this_characters, .inl (k 0, 60, aI v_this_characters))] H := hP
        have hD : va_D A [(a_this, .inr (4, [.ref a_this_characters, .int v_this_length, .int w7_this_at, .long w7_this_digits])), (a_this_characters, .inl (k 0, 60, aI v_this_characters))] := hD
        refine lv_if_eq (tgt := 61) hx hb dX7_parseDigits_16 (by decide) (fun c1003 => ?_) (fun c1003 => ?_)
        · skip
          have hx1 := if_t c1003 hx1
          have ho := Option.some.inj hx1
          subst ho
          exact X61 H locs ls hP hD hS (lv_sub hl [0, 2] rfl)
        · skip
          have hx1 := if_f c1003 hx1
          refine lv_aload_n hx hb dX7_parseDigits_19 rfl (lv_at hl 0 rfl) ?_
          refine lv_aload_n hx hb dX7_parseDigits_20 rfl (lv_at hl 0 rfl) ?_
          refine va_get (D := D) (ci := 4) (v := .long w7_this_digits) (C := RX7) (T := TX7) (N := 4) hx hb hts hinX7_X7_parseDigits hown hK hP 0 rfl rfl 3 (by decide) (hts (.fieldLink RX7 20 "LimitTables$Text" "digits" "J") (by decide +kernel)) (fun _ h9 => h9) rfl dX7_parseDigits_21 ?_
          refine lv_ldc2 (v := 10) hx hb hown (hts (.constantLong RX7 51 (10)) (by decide +kernel)) dX7_parseDigits_24 ?_
          refine lv_lmul hx hb dX7_parseDigits_27 ?_
          refine lv_aload_n hx hb dX7_parseDigits_28 rfl (lv_at hl 0 rfl) ?_
          refine va_get (D := D) (ci := 4) (v := .ref a_this_characters) (C := RX7) (T := TX7) (N := 4) hx hb hts hinX7_X7_parseDigits hown hK hP 0 rfl rfl 0 (by decide) (hts (.fieldLink RX7 9 "LimitTables$Text" "characters" "[C") (by decide +kernel)) (fun _ h9 => h9) rfl dX7_parseDigits_29 ?_
          refine lv_aload_n hx hb dX7_parseDigits_32 rfl (lv_at hl 0 rfl) ?_
          refine va_get (D := D) (ci := 4) (v := .int w7_this_at) (C := RX7) (T := TX7) (N := 4) hx hb hts hinX7_X7_parseDigits hown hK hP 0 rfl rfl 2 (by decide) (hts (.fieldLink RX7 17 "LimitTables$Text" "at" "I") (by decide +kernel)) (fun _ h9 => h9) rfl dX7_parseDigits_33 ?_
          obtain ⟨g1004, hx1⟩ := gD_h hx1
          refine va_cald hx hb hK hP 1 0 rfl rfl (inb_in g1004) dX7_parseDigits_36 ?_
          refine lv_bipush (v := 48) hx hb dX7_parseDigits_37 (by decide) ?_
          refine lv_isub hx hb dX7_parseDigits_39 ?_
          refine lv_i2l hx hb dX7_parseDigits_40 rfl ?_
          refine lv_ladd hx hb dX7_parseDigits_41 ?_
          refine va_put (D := D) (ci := 4) (v := .long ((w7_this_digits * (10 : Int64)) + (((v_this_characters w7_this_at.toNatClampNeg) - (48 : Int32))).toInt64)) (ty := .long) (C := RX7) (T := TX7) (N := 4) hx hb hts hinX7_X7_parseDigits tyX7 tyX7_ok nmX7 hown hK hP hD hS 0 rfl rfl 3 (by decide) (hts (.fieldLink RX7 20 "LimitTables$Text" "digits" "J") (by decide +kernel)) (fun _ h9 => h9) rfl (by decide +kernel) rfl rfl (Nat.le_of_ble_eq_true rfl) dX7_parseDigits_42 (fun H locs hP hD hS => ?_)
          have hP : va_P D vwCl [(a_this, .inr (4, [.ref a_this_characters, .int v_this_length, .int w7_this_at, .long ((w7_this_digits * (10 : Int64)) + (((v_this_characters w7_this_at.toNatClampNeg) - (48 : Int32))).toInt64)])), (a_this_characters, .inl (k 0, 60, aI v_this_characters))] H := hP
          have hD : va_D A [(a_this, .inr (4, [.ref a_this_characters, .int v_this_length, .int w7_this_at, .long ((w7_this_digits * (10 : Int64)) + (((v_this_characters w7_this_at.toNatClampNeg) - (48 : Int32))).toInt64)])), (a_this_characters, .inl (k 0, 60, aI v_this_characters))] := hD
          refine lv_aload_n hx hb dX7_parseDigits_45 rfl (lv_at hl 0 rfl) ?_
          refine lv_dup hx hb dX7_parseDigits_46 rfl ?_
          refine va_get (D := D) (ci := 4) (v := .int w7_this_at) (C := RX7) (T := TX7) (N := 4) hx hb hts hinX7_X7_parseDigits hown hK hP 0 rfl rfl 2 (by decide) (hts (.fieldLink RX7 17 "LimitTables$Text" "at" "I") (by decide +kernel)) (fun _ h9 => h9) rfl dX7_parseDigits_47 ?_
          refine lv_iconst (v := 1) hx hb dX7_parseDigits_50 (by decide) ?_
          refine lv_iadd hx hb dX7_parseDigits_51 ?_
          refine va_put (D := D) (ci := 4) (v := .int (w7_this_at + (1 : Int32))) (ty := .int) (C := RX7) (T := TX7) (N := 4) hx hb hts hinX7_X7_parseDigits tyX7 tyX7_ok nmX7 hown hK hP hD hS 0 rfl rfl 2 (by decide) (hts (.fieldLink RX7 17 "LimitTables$Text" "at" "I") (by decide +kernel)) (fun _ h9 => h9) rfl (by decide +kernel) rfl rfl (Nat.le_of_ble_eq_true rfl) dX7_parseDigits_52 (fun H locs hP hD hS => ?_)
          have hP : va_P D vwCl [(a_this, .inr (4, [.ref a_this_characters, .int v_this_length, .int (w7_this_at + (1 : Int32)), .long ((w7_this_digits * (10 : Int64)) + (((v_this_characters w7_this_at.toNatClampNeg) - (48 : Int32))).toInt64)])), (a_this_characters, .inl (k 0, 60, aI v_this_characters))] H := hP
          have hD : va_D A [(a_this, .inr (4, [.ref a_this_characters, .int v_this_length, .int (w7_this_at + (1 : Int32)), .long ((w7_this_digits * (10 : Int64)) + (((v_this_characters w7_this_at.toNatClampNeg) - (48 : Int32))).toInt64)])), (a_this_characters, .inl (k 0, 60, aI v_this_characters))] := hD
          refine lv_iinc (v := (x7_3 + 1)) (lv' := [(3, .int (x7_3 + 1)), (0, .ref a_this), (1, .int p1), (2, .int x7_2)]) hx hb dX7_parseDigits_55 hl (k := 3) rfl rfl (by decide) rfl (fun ls hl => ?_)
          refine lv_goto (tgt := 7) hx hb dX7_parseDigits_58 (by decide) ?_
          exact ih7 x7_2 (x7_3 + 1) (w7_this_at + (1 : Int32)) ((w7_this_digits * (10 : Int64)) + (((v_this_characters w7_this_at.toNatClampNeg) - (48 : Int32))).toInt64) H locs ls hP hD hS (lv_sub hl [1, 2, 3, 0] rfl) hx1
  exact L7 300 v_this_at (0 : Int32) v_this_at v_this_digits H locs ls hP hD hS (lv_sub hl [2, 3, 1, 0] rfl) hx1
def p_X7_tenToThe_L4 (p1 : Int32) : Nat → Int64 → Int32 → Option (Int64)
  | 0, _, _ => none
  | n4 + 1, x4_1, x4_3 => (if p1 ≤ x4_3 then some x4_1 else p_X7_tenToThe_L4 p1 n4 (x4_1 * (10 : Int64)) (x4_3 + 1))

def p_X7_tenToThe  (p1 : Int32) : Option (Int64) := (p_X7_tenToThe_L4 p1 300 (1 : Int64) (0 : Int32) ).bind fun x1 => some x1
abbrev rm_X7_tenToThe : Room := { frames := 0, cells := 0, slots := 0, locals := 0 }
set_option maxHeartbeats 4000000 in
set_option maxRecDepth 100000 in
theorem mt_X7_tenToThe (l : Launch) (D : va_G) (k : Nat → ClassId)  (sz : Nat)  (p1 : Int32) (o : Int64) (hf : p_X7_tenToThe p1 = some o)  : Met l yX7_tenToThe wsX7_tenToThe rm_X7_tenToThe (va_Pc [.int p1] (bW D k sz [])) (va_Ql (fun (r : Int64) (_ : Unit) => r = o) (fun _ => bO D k (va_A [] sz) []) (va_A [] sz)) 0 0 (va_A [] sz) := by
  unfold p_X7_tenToThe at hf
  refine Met.ofW (cc := cX7_tenToThe) (maxL := 4) (ret := (some .long)) (by decide) rfl ?_
  intro p e s m args below meth c s₁ B hml hv
  obtain ⟨rfl, hsz, hP, hK, hD0⟩ := hv
  have hx := B.exec
  have hb := B.bytes
  have hr := B.returns
  have hts := atoms_spec (ws := wsX7_tenToThe) B.pre
  have hown : s.vm.findClass RX7 = some m.cls := findClass_of_methodNamed B.named
  have hlocks := B.notSynchronized
  subst hsz
  have hD := hD0.self (sz := s.heap.size)
  generalize hAe : va_A [] s.heap.size = A at hD ⊢
  have hA : ∀ q : Nat, s.heap.size ≤ q → A q := fun q h => by rw [← hAe]; exact Or.inr h
  have hS : va_S A s.heap s.heap [] := va_S.rf
  obtain ⟨Q, hQ⟩ : ∃ Q, Q = MQ below (va_Ql (fun (r : Int64) (_ : Unit) => r = o) (fun _ => bO D k (A) []) (A)) ([.int p1] : List Value).toArray s 0 0 A := ⟨_, rfl⟩
  rw [← hQ]
  have hl := lv_entry [.int p1] (n := 4) (Nat.le_of_ble_eq_true rfl)
  rw [lg_entry_eq]
  generalize (lg_sl [.int p1] ++ List.replicate (4 - (lg_sl [.int p1]).length) Slot.unset).toArray = ls at hl ⊢
  have hl : lv_has ls 4 [(0, .int p1)] := hl
  obtain ⟨H, hHe⟩ : ∃ H, H = s.heap := ⟨_, rfl⟩
  have hP : va_P D vwCl [] H := by rw [hHe]; exact hP
  have hS : va_S A s.heap H [] := by rw [hHe]; exact hS
  rw [← hHe]
  obtain ⟨locs, hLe⟩ : ∃ locs : List Loc, locs = [] := ⟨_, rfl⟩
  rw [← hLe] at hS ⊢
  clear hLe
  refine lv_lconst (v := 1) hx hb dX7_tenToThe_0 (by decide) ?_
  refine lv_lstore_n (lv' := [(1, .long (1 : Int64)), (0, .int p1)]) hx hb dX7_tenToThe_1 rfl hl (by decide) rfl (fun ls hl => ?_)
  refine lv_iconst (v := 0) hx hb dX7_tenToThe_2 (by decide) ?_
  refine lv_istore_n (lv' := [(3, .int (0 : Int32)), (1, .long (1 : Int64)), (0, .int p1)]) hx hb dX7_tenToThe_3 rfl hl (by decide) rfl (fun ls hl => ?_)
  obtain ⟨x1, hx1, hf⟩ := bind_s hf
  have X21 : ∀ (H : Heap) (locs : List Loc) (ls : Array Slot), va_P D vwCl [] H → va_D A [] → va_S A s.heap H locs → lv_has ls 4 [(1, .long x1)] → W p l e (headSpec wsX7_tenToThe rm_X7_tenToThe).room s m ([.int p1] : List Value).toArray below meth c H locs 0 0 Q (F0 m 21 ls []) := by
    intro H locs ls hP hD hS hl
    refine lv_lload_n hx hb dX7_tenToThe_21 rfl (lv_at hl 0 rfl) ?_
    have ho := Option.some.inj hf
    subst ho
    rw [hQ]
    exact W.lret (v := x1) hx hb hr (fun t ht hW => ⟨⟨x1, (), rfl, rfl, by rw [ht]; exact hP.sub (ws' := []) [] rfl, va_K.moved hW.alike hK, hD.sub (ws' := []) [] (by decide) rfl⟩, hS.F ht⟩) hS.2.2 dX7_tenToThe_22
  have L4 : ∀ (n4 : Nat) (x4_1 : Int64) (x4_3 : Int32)  (H : Heap) (locs : List Loc) (ls : Array Slot), va_P D vwCl [] H → va_D A [] → va_S A s.heap H locs → lv_has ls 4 [(0, .int p1), (1, .long x4_1), (3, .int x4_3)] → p_X7_tenToThe_L4 p1 n4 x4_1 x4_3 = some x1 → W p l e (headSpec wsX7_tenToThe rm_X7_tenToThe).room s m ([.int p1] : List Value).toArray below meth c H locs 0 0 Q (F0 m 4 ls []) := by
    intro n4
    induction n4 with
    | zero =>
      intro x4_1 x4_3 H locs ls hP hD hS hl hx1
      exact absurd hx1 (by simp [p_X7_tenToThe_L4])
    | succ n4 ih4 =>
      intro x4_1 x4_3 H locs ls hP hD hS hl hx1
      rw [p_X7_tenToThe_L4] at hx1
      refine lv_iload_n hx hb dX7_tenToThe_4 rfl (lv_at hl 2 rfl) ?_
      refine lv_iload_n hx hb dX7_tenToThe_5 rfl (lv_at hl 0 rfl) ?_
      refine lv_icmp_ge (tgt := 21) hx hb dX7_tenToThe_6 (by decide) (fun c1001 => ?_) (fun c1001 => ?_)
      · skip
        have hx1 := if_t c1001 hx1
        have ho := Option.some.inj hx1
        subst ho
        exact X21 H locs ls hP hD hS (lv_sub hl [1] rfl)
      · skip
        have hx1 := if_f c1001 hx1
        refine lv_lload_n hx hb dX7_tenToThe_9 rfl (lv_at hl 1 rfl) ?_
        refine lv_ldc2 (v := 10) hx hb hown (hts (.constantLong RX7 51 (10)) (by decide +kernel)) dX7_tenToThe_10 ?_
        refine lv_lmul hx hb dX7_tenToThe_13 ?_
        refine lv_lstore_n (lv' := [(1, .long (x4_1 * (10 : Int64))), (0, .int p1), (3, .int x4_3)]) hx hb dX7_tenToThe_14 rfl hl (by decide) rfl (fun ls hl => ?_)
        refine lv_iinc (v := (x4_3 + 1)) (lv' := [(3, .int (x4_3 + 1)), (1, .long (x4_1 * (10 : Int64))), (0, .int p1)]) hx hb dX7_tenToThe_15 hl (k := 2) rfl rfl (by decide) rfl (fun ls hl => ?_)
        refine lv_goto (tgt := 4) hx hb dX7_tenToThe_18 (by decide) ?_
        exact ih4 (x4_1 * (10 : Int64)) (x4_3 + 1) H locs ls hP hD hS (lv_sub hl [2, 1, 0] rfl) hx1
  exact L4 300 (1 : Int64) (0 : Int32)  H locs ls hP hD hS (lv_sub hl [2, 1, 0] rfl) hx1
theorem hinX7_X7_parseNumber : ∀ w ∈ wsX70, w ∈ wsX7_parseNumber := by decide +kernel
def p_X7_parseNumber (v_this_characters : Nat → Int32) (v_this_length : Int32) (v_this_at : Int32) (v_p1 : ((Nat → UInt64) × Int32))  : Option (Int32 × Int32 × Int64 × ((Nat → UInt64) × Int32)) := (p_X7_isHere v_this_characters v_this_length v_this_at (45 : Int32)).bind fun x1 => (if x1 = 0 then (p_X7_isHere v_this_characters v_this_length v_this_at (48 : Int32)).bind fun x3 => (if x3 = 0 then (p_X7_parseDigits v_this_characters v_this_length v_this_at (0 : Int64) (6 : Int32)).bind fun x5 => (if x5.1 = 0 then some ((0 : Int32), x5.2.1, x5.2.2, v_p1) else (p_X7_isHere v_this_characters v_this_length x5.2.1 (46 : Int32)).bind fun x7 => (if x7 = 0 then (p_X7_tenToThe (x5.2.1 - x5.2.1)).bind fun x9 => dop (FP.ddiv (FP.l2d x5.2.2) (FP.l2d x9)) fun d10 => (p_X4_append v_p1 d10).bind fun x11 => some ((1 : Int32), x5.2.1, x5.2.2, x11) else (p_X7_parseDigits v_this_characters v_this_length (x5.2.1 + (1 : Int32)) x5.2.2 (6 : Int32)).bind fun x12 => (if x12.1 = 0 then some ((0 : Int32), x12.2.1, x12.2.2, v_p1) else (p_X7_tenToThe (x12.2.1 - (x5.2.1 + (1 : Int32)))).bind fun x14 => dop (FP.ddiv (FP.l2d x12.2.2) (FP.l2d x14)) fun d15 => (p_X4_append v_p1 d15).bind fun x16 => some ((1 : Int32), x12.2.1, x12.2.2, x16)))) else (p_X7_parseDigits v_this_characters v_this_length v_this_at (0 : Int64) (1 : Int32)).bind fun x17 => (if x17.1 = 0 then some ((0 : Int32), x17.2.1, x17.2.2, v_p1) else (p_X7_isHere v_this_characters v_this_length x17.2.1 (46 : Int32)).bind fun x19 => (if x19 = 0 then (p_X7_tenToThe (x17.2.1 - x17.2.1)).bind fun x21 => dop (FP.ddiv (FP.l2d x17.2.2) (FP.l2d x21)) fun d22 => (p_X4_append v_p1 d22).bind fun x23 => some ((1 : Int32), x17.2.1, x17.2.2, x23) else (p_X7_parseDigits v_this_characters v_this_length (x17.2.1 + (1 : Int32)) x17.2.2 (6 : Int32)).bind fun x24 => (if x24.1 = 0 then some ((0 : Int32), x24.2.1, x24.2.2, v_p1) else (p_X7_tenToThe (x24.2.1 - (x17.2.1 + (1 : Int32)))).bind fun x26 => dop (FP.ddiv (FP.l2d x24.2.2) (FP.l2d x26)) fun d27 => (p_X4_append v_p1 d27).bind fun x28 => some ((1 : Int32), x24.2.1, x24.2.2, x28))))) else (p_X7_isHere v_this_characters v_this_length (v_this_at + (1 : Int32)) (48 : Int32)).bind fun x29 => (if x29 = 0 then (p_X7_parseDigits v_this_characters v_this_length (v_this_at + (1 : Int32)) (0 : Int64) (6 : Int32)).bind fun x31 => (if x31.1 = 0 then some ((0 : Int32), x31.2.1, x31.2.2, v_p1) else (p_X7_isHere v_this_characters v_this_length x31.2.1 (46 : Int32)).bind fun x33 => (if x33 = 0 then (p_X7_tenToThe (x31.2.1 - x31.2.1)).bind fun x35 => dop (FP.ddiv (FP.l2d x31.2.2) (FP.l2d x35)) fun d36 => dop (FP.dsub FP.dconst0 d36) fun d37 => (p_X4_append v_p1 d37).bind fun x38 => some ((1 : Int32), x31.2.1, x31.2.2, x38) else (p_X7_parseDigits v_this_characters v_this_length (x31.2.1 + (1 : Int32)) x31.2.2 (6 : Int32)).bind fun x39 => (if x39.1 = 0 then some ((0 : Int32), x39.2.1, x39.2.2, v_p1) else (p_X7_tenToThe (x39.2.1 - (x31.2.1 + (1 : Int32)))).bind fun x41 => dop (FP.ddiv (FP.l2d x39.2.2) (FP.l2d x41)) fun d42 => dop (FP.dsub FP.dconst0 d42) fun d43 => (p_X4_append v_p1 d43).bind fun x44 => some ((1 : Int32), x39.2.1, x39.2.2, x44)))) else (p_X7_parseDigits v_this_characters v_this_length (v_this_at + (1 : Int32)) (0 : Int64) (1 : Int32)).bind fun x45 => (if x45.1 = 0 then some ((0 : Int32), x45.2.1, x45.2.2, v_p1) else (p_X7_isHere v_this_characters v_this_length x45.2.1 (46 : Int32)).bind fun x47 => (if x47 = 0 then (p_X7_tenToThe (x45.2.1 - x45.2.1)).bind fun x49 => dop (FP.ddiv (FP.l2d x45.2.2) (FP.l2d x49)) fun d50 => dop (FP.dsub FP.dconst0 d50) fun d51 => (p_X4_append v_p1 d51).bind fun x52 => some ((1 : Int32), x45.2.1, x45.2.2, x52) else (p_X7_parseDigits v_this_characters v_this_length (x45.2.1 + (1 : Int32)) x45.2.2 (6 : Int32)).bind fun x53 => (if x53.1 = 0 then some ((0 : Int32), x53.2.1, x53.2.2, v_p1) else (p_X7_tenToThe (x53.2.1 - (x45.2.1 + (1 : Int32)))).bind fun x55 => dop (FP.ddiv (FP.l2d x53.2.2) (FP.l2d x55)) fun d56 => dop (FP.dsub FP.dconst0 d56) fun d57 => (p_X4_append v_p1 d57).bind fun x58 => some ((1 : Int32), x53.2.1, x53.2.2, x58))))))
abbrev rm_X7_parseNumber : Room := { frames := 2, cells := 0, slots := 0, locals := 43 }
set_option maxHeartbeats 4000000 in
set_option maxRecDepth 100000 in
theorem mt_X7_parseNumber (l : Launch) (D : va_G) (k : Nat → ClassId) (a_this a_this_characters a_p1 a_p1_numbers : Nat) (sz : Nat) (v_this_characters : Nat → Int32) (v_this_length : Int32) (v_this_at : Int32) (v_this_digits : Int64) (v_p1 : ((Nat → UInt64) × Int32))  (o : Int32 × Int32 × Int64 × ((Nat → UInt64) × Int32)) (hf : p_X7_parseNumber v_this_characters v_this_length v_this_at v_p1 = some o)  : Met l yX7_parseNumber wsX7_parseNumber rm_X7_parseNumber (va_Pc [.ref a_this, .ref a_p1] (bW D k sz [(a_this, .inr (4, [.ref a_this_characters, .int v_this_length, .int v_this_at, .long v_this_digits])), (a_this_characters, .inl (k 0, 60, aI v_this_characters)), (a_p1, .inr (2, [.ref a_p1_numbers, .int v_p1.2])), (a_p1_numbers, .inl (k 1, 16, aD v_p1.1))])) (va_Qi (fun (r : Int32) (_ : Unit) => r = o.1) (fun _ => bO D k (va_A [(a_this, .inr (4, [.ref a_this_characters, .int v_this_length, .int v_this_at, .long v_this_digits])), (a_this_characters, .inl (k 0, 60, aI v_this_characters)), (a_p1, .inr (2, [.ref a_p1_numbers, .int v_p1.2])), (a_p1_numbers, .inl (k 1, 16, aD v_p1.1))] sz) [(a_this, .inr (4, [.ref a_this_characters, .int v_this_length, .int o.2.1, .long o.2.2.1])), (a_this_characters, .inl (k 0, 60, aI v_this_characters)), (a_p1, .inr (2, [.ref a_p1_numbers, .int o.2.2.2.2])), (a_p1_numbers, .inl (k 1, 16, aD o.2.2.2.1))]) (va_A [(a_this, .inr (4, [.ref a_this_characters, .int v_this_length, .int v_this_at, .long v_this_digits])), (a_this_characters, .inl (k 0, 60, aI v_this_characters)), (a_p1, .inr (2, [.ref a_p1_numbers, .int v_p1.2])), (a_p1_numbers, .inl (k 1, 16, aD v_p1.1))] sz)) 0 0 (va_A [(a_this, .inr (4, [.ref a_this_characters, .int v_this_length, .int v_this_at, .long v_this_digits])), (a_this_characters, .inl (k 0, 60, aI v_this_characters)), (a_p1, .inr (2, [.ref a_p1_numbers, .int v_p1.2])), (a_p1_numbers, .inl (k 1, 16, aD v_p1.1))] sz) := by
  unfold p_X7_parseNumber at hf
  refine Met.ofW (cc := cX7_parseNumber) (maxL := 6) (ret := (some .boolean)) (by decide) rfl ?_
  intro p e s m args below meth c s₁ B hml hv
  obtain ⟨rfl, hsz, hP, hK, hD0⟩ := hv
  have hx := B.exec
  have hb := B.bytes
  have hr := B.returns
  have hts := atoms_spec (ws := wsX7_parseNumber) B.pre
  have hown : s.vm.findClass RX7 = some m.cls := findClass_of_methodNamed B.named
  have hlocks := B.notSynchronized
  subst hsz
  have hD := hD0.self (sz := s.heap.size)
  generalize hAe : va_A [(a_this, .inr (4, [.ref a_this_characters, .int v_this_length, .int v_this_at, .long v_this_digits])), (a_this_characters, .inl (k 0, 60, aI v_this_characters)), (a_p1, .inr (2, [.ref a_p1_numbers, .int v_p1.2])), (a_p1_numbers, .inl (k 1, 16, aD v_p1.1))] s.heap.size = A at hD ⊢
  have hA : ∀ q : Nat, s.heap.size ≤ q → A q := fun q h => by rw [← hAe]; exact Or.inr h
  have hS : va_S A s.heap s.heap [] := va_S.rf
  have hl := lv_entry [.ref a_this, .ref a_p1] (n := 6) (Nat.le_of_ble_eq_true rfl)
  rw [lg_entry_eq]
  generalize (lg_sl [.ref a_this, .ref a_p1] ++ List.replicate (6 - (lg_sl [.ref a_this, .ref a_p1]).length) Slot.unset).toArray = ls at hl ⊢
  have hl : lv_has ls 6 [(0, .ref a_this), (1, .ref a_p1)] := hl
  obtain ⟨H, hHe⟩ : ∃ H, H = s.heap := ⟨_, rfl⟩
  have hP : va_P D vwCl [(a_this, .inr (4, [.ref a_this_characters, .int v_this_length, .int v_this_at, .long v_this_digits])), (a_this_characters, .inl (k 0, 60, aI v_this_characters)), (a_p1, .inr (2, [.ref a_p1_numbers, .int v_p1.2])), (a_p1_numbers, .inl (k 1, 16, aD v_p1.1))] H := by rw [hHe]; exact hP
  have hS : va_S A s.heap H [] := by rw [hHe]; exact hS
  rw [← hHe]
  obtain ⟨locs, hLe⟩ : ∃ locs : List Loc, locs = [] := ⟨_, rfl⟩
  rw [← hLe] at hS ⊢
  clear hLe
  refine lv_aload_n hx hb dX7_parseNumber_0 rfl (lv_at hl 0 rfl) ?_
  refine lv_lconst (v := 0) hx hb dX7_parseNumber_1 (by decide) ?_
  refine va_put (D := D) (ci := 4) (v := .long (0 : Int64)) (ty := .long) (C := RX7) (T := TX7) (N := 4) hx hb hts hinX7_X7_parseNumber tyX7 tyX7_ok nmX7 hown hK hP hD hS 0 rfl rfl 3 (by decide) (hts (.fieldLink RX7 20 "LimitTables$Text" "digits" "J") (by decide +kernel)) (fun _ h9 => h9) rfl (by decide +kernel) rfl rfl (Nat.le_of_ble_eq_true rfl) dX7_parseNumber_2 (fun H locs hP hD hS => ?_)
  have hP : va_P D vwCl [(a_this, .inr (4, [.ref a_this_characters, .int v_this_length, .int v_this_at, .long (0 : Int64)])), (a_this_characters, .inl (k 0, 60, aI v_this_characters)), (a_p1, .inr (2, [.ref a_p1_numbers, .int v_p1.2])), (a_p1_numbers, .inl (k 1, 16, aD v_p1.1))] H := hP
  have hD : va_D A [(a_this, .inr (4, [.ref a_this_characters, .int v_this_length, .int v_this_at, .long (0 : Int64)])), (a_this_characters, .inl (k 0, 60, aI v_this_characters)), (a_p1, .inr (2, [.ref a_p1_numbers, .int v_p1.2])), (a_p1_numbers, .inl (k 1, 16, aD v_p1.1))] := hD
  refine lv_aload_n hx hb dX7_parseNumber_5 rfl (lv_at hl 0 rfl) ?_
  refine lv_bipush (v := 45) hx hb dX7_parseNumber_6 (by decide) ?_
  obtain ⟨x1, hx1, hf⟩ := bind_s hf
  refine cc_i (r := x1) (wc := [(a_this, .inr (4, [.ref a_this_characters, .int v_this_length, .int v_this_at, .long (0 : Int64)])), (a_this_characters, .inl (k 0, 60, aI v_this_characters))]) (wr := [(a_p1, .inr (2, [.ref a_p1_numbers, .int v_p1.2])), (a_p1_numbers, .inl (k 1, 16, aD v_p1.1))]) (w1 := [(a_this, .inr (4, [.ref a_this_characters, .int v_this_length, .int v_this_at, .long (0 : Int64)])), (a_this_characters, .inl (k 0, 60, aI v_this_characters))]) (va_runV (As := [.int (45 : Int32)]) (rest := []) ⟨hx, hb, hml, hown, hts⟩ (mt_X7_isHere l D k a_this a_this_characters _ v_this_characters v_this_length v_this_at (0 : Int64) (45 : Int32) x1 hx1) (cwV 1 hts gX7_parseNumber_X7_isHere rfl rfl rfl (by decide +kernel) ⟨(Nat.le_of_ble_eq_true rfl), (Nat.le_of_ble_eq_true rfl)⟩) (cc_pv (wc := [(a_this, .inr (4, [.ref a_this_characters, .int v_this_length, .int v_this_at, .long (0 : Int64)])), (a_this_characters, .inl (k 0, 60, aI v_this_characters))]) hK hP hD [0, 1] (by decide) rfl rfl 4 0 rfl rfl rfl) rfl rfl hl.1 rfl (lv_room (Nat.le_of_ble_eq_true rfl)) dX7_parseNumber_8 ⟨Nat.zero_le _, Nat.zero_le _⟩) hP hD hS hA [0, 1] [2, 3] rfl rfl (by decide) (by decide) (fun H locs hP hD hS => ?_)
  have hP : va_P D vwCl [(a_p1, .inr (2, [.ref a_p1_numbers, .int v_p1.2])), (a_p1_numbers, .inl (k 1, 16, aD v_p1.1)), (a_this, .inr (4, [.ref a_this_characters, .int v_this_length, .int v_this_at, .long (0 : Int64)])), (a_this_characters, .inl (k 0, 60, aI v_this_characters))] H := hP
  have hD : va_D A [(a_p1, .inr (2, [.ref a_p1_numbers, .int v_p1.2])), (a_p1_numbers, .inl (k 1, 16, aD v_p1.1)), (a_this, .inr (4, [.ref a_this_characters, .int v_this_length, .int v_this_at, .long (0 : Int64)])), (a_this_characters, .inl (k 0, 60, aI v_this_characters))] := hD
  refine lv_istore_n (lv' := [(2, .int x1), (0, .ref a_this), (1, .ref a_p1)]) hx hb dX7_parseNumber_11 rfl hl (by decide) rfl (fun ls hl => ?_)
  refine lv_iload_n hx hb dX7_parseNumber_12 rfl (lv_at hl 0 rfl) ?_
  refine lv_if_eq (tgt := 26) hx hb dX7_parseNumber_13 (by decide) (fun c2 => ?_) (fun c2 => ?_)
  · skip
    have hf := if_t c2 hf
    refine lv_aload_n hx hb dX7_parseNumber_26 rfl (lv_at hl 1 rfl) ?_
    refine lv_aload_n hx hb dX7_parseNumber_27 rfl (lv_at hl 1 rfl) ?_
    refine lv_bipush (v := 48) hx hb dX7_parseNumber_28 (by decide) ?_
    obtain ⟨x3, hx3, hf⟩ := bind_s hf
    refine cc_i (r := x3) (wc := [(a_this, .inr (4, [.ref a_this_characters, .int v_this_length, .int v_this_at, .long (0 : Int64)])), (a_this_characters, .inl (k 0, 60, aI v_this_characters))]) (wr := [(a_p1, .inr (2, [.ref a_p1_numbers, .int v_p1.2])), (a_p1_numbers, .inl (k 1, 16, aD v_p1.1))]) (w1 := [(a_this, .inr (4, [.ref a_this_characters, .int v_this_length, .int v_this_at, .long (0 : Int64)])), (a_this_characters, .inl (k 0, 60, aI v_this_characters))]) (va_runV (As := [.int (48 : Int32)]) (rest := [.ref a_this]) ⟨hx, hb, hml, hown, hts⟩ (mt_X7_isHere l D k a_this a_this_characters _ v_this_characters v_this_length v_this_at (0 : Int64) (48 : Int32) x3 hx3) (cwV 1 hts gX7_parseNumber_X7_isHere rfl rfl rfl (by decide +kernel) ⟨(Nat.le_of_ble_eq_true rfl), (Nat.le_of_ble_eq_true rfl)⟩) (cc_pv (wc := [(a_this, .inr (4, [.ref a_this_characters, .int v_this_length, .int v_this_at, .long (0 : Int64)])), (a_this_characters, .inl (k 0, 60, aI v_this_characters))]) hK hP hD [2, 3] (by decide) rfl rfl 4 2 rfl rfl rfl) rfl rfl hl.1 rfl (lv_room (Nat.le_of_ble_eq_true rfl)) dX7_parseNumber_30 ⟨Nat.zero_le _, Nat.zero_le _⟩) hP hD hS hA [2, 3] [0, 1] rfl rfl (by decide) (by decide) (fun H locs hP hD hS => ?_)
    have hP : va_P D vwCl [(a_p1, .inr (2, [.ref a_p1_numbers, .int v_p1.2])), (a_p1_numbers, .inl (k 1, 16, aD v_p1.1)), (a_this, .inr (4, [.ref a_this_characters, .int v_this_length, .int v_this_at, .long (0 : Int64)])), (a_this_characters, .inl (k 0, 60, aI v_this_characters))] H := hP
    have hD : va_D A [(a_p1, .inr (2, [.ref a_p1_numbers, .int v_p1.2])), (a_p1_numbers, .inl (k 1, 16, aD v_p1.1)), (a_this, .inr (4, [.ref a_this_characters, .int v_this_length, .int v_this_at, .long (0 : Int64)])), (a_this_characters, .inl (k 0, 60, aI v_this_characters))] := hD
    refine lv_if_eq (tgt := 40) hx hb dX7_parseNumber_33 (by decide) (fun c4 => ?_) (fun c4 => ?_)
    · skip
      have hf := if_t c4 hf
      refine lv_bipush (v := 6) hx hb dX7_parseNumber_40 (by decide) ?_
      obtain ⟨x5, hx5, hf⟩ := bind_s hf
      refine cc_i (r := x5.1) (wc := [(a_this, .inr (4, [.ref a_this_characters, .int v_this_length, .int v_this_at, .long (0 : Int64)])), (a_this_characters, .inl (k 0, 60, aI v_this_characters))]) (wr := [(a_p1, .inr (2, [.ref a_p1_numbers, .int v_p1.2])), (a_p1_numbers, .inl (k 1, 16, aD v_p1.1))]) (w1 := [(a_this, .inr (4, [.ref a_this_characters, .int v_this_length, .int x5.2.1, .long x5.2.2])), (a_this_characters, .inl (k 0, 60, aI v_this_characters))]) (va_runV (As := [.int (6 : Int32)]) (rest := []) ⟨hx, hb, hml, hown, hts⟩ (mt_X7_parseDigits l D k a_this a_this_characters _ v_this_characters v_this_length v_this_at (0 : Int64) (6 : Int32) x5 hx5) (cwV 1 hts gX7_parseNumber_X7_parseDigits rfl rfl rfl (by decide +kernel) ⟨(Nat.le_of_ble_eq_true rfl), (Nat.le_of_ble_eq_true rfl)⟩) (cc_pv (wc := [(a_this, .inr (4, [.ref a_this_characters, .int v_this_length, .int v_this_at, .long (0 : Int64)])), (a_this_characters, .inl (k 0, 60, aI v_this_characters))]) hK hP hD [2, 3] (by decide) rfl rfl 4 2 rfl rfl rfl) rfl rfl hl.1 rfl (lv_room (Nat.le_of_ble_eq_true rfl)) dX7_parseNumber_42 ⟨Nat.zero_le _, Nat.zero_le _⟩) hP hD hS hA [2, 3] [0, 1] rfl rfl (by decide) (by decide) (fun H locs hP hD hS => ?_)
      have hP : va_P D vwCl [(a_p1, .inr (2, [.ref a_p1_numbers, .int v_p1.2])), (a_p1_numbers, .inl (k 1, 16, aD v_p1.1)), (a_this, .inr (4, [.ref a_this_characters, .int v_this_length, .int x5.2.1, .long x5.2.2])), (a_this_characters, .inl (k 0, 60, aI v_this_characters))] H := hP
      have hD : va_D A [(a_p1, .inr (2, [.ref a_p1_numbers, .int v_p1.2])), (a_p1_numbers, .inl (k 1, 16, aD v_p1.1)), (a_this, .inr (4, [.ref a_this_characters, .int v_this_length, .int x5.2.1, .long x5.2.2])), (a_this_characters, .inl (k 0, 60, aI v_this_characters))] := hD
      refine lv_if_ne (tgt := 50) hx hb dX7_parseNumber_45 (by decide) (fun c6 => ?_) (fun c6 => ?_)
      · skip
        have hf := if_f c6 hf
        refine lv_aload_n hx hb dX7_parseNumber_50 rfl (lv_at hl 1 rfl) ?_
        refine va_get (D := D) (ci := 4) (v := .int x5.2.1) (C := RX7) (T := TX7) (N := 4) hx hb hts hinX7_X7_parseNumber hown hK hP 2 rfl rfl 2 (by decide) (hts (.fieldLink RX7 17 "LimitTables$Text" "at" "I") (by decide +kernel)) (fun _ h9 => h9) rfl dX7_parseNumber_51 ?_
        refine lv_istore_n (lv' := [(3, .int x5.2.1), (2, .int x1), (0, .ref a_this), (1, .ref a_p1)]) hx hb dX7_parseNumber_54 rfl hl (by decide) rfl (fun ls hl => ?_)
        refine lv_aload_n hx hb dX7_parseNumber_55 rfl (lv_at hl 2 rfl) ?_
        refine lv_bipush (v := 46) hx hb dX7_parseNumber_56 (by decide) ?_
        obtain ⟨x7, hx7, hf⟩ := bind_s hf
        refine cc_i (r := x7) (wc := [(a_this, .inr (4, [.ref a_this_characters, .int v_this_length, .int x5.2.1, .long x5.2.2])), (a_this_characters, .inl (k 0, 60, aI v_this_characters))]) (wr := [(a_p1, .inr (2, [.ref a_p1_numbers, .int v_p1.2])), (a_p1_numbers, .inl (k 1, 16, aD v_p1.1))]) (w1 := [(a_this, .inr (4, [.ref a_this_characters, .int v_this_length, .int x5.2.1, .long x5.2.2])), (a_this_characters, .inl (k 0, 60, aI v_this_characters))]) (va_runV (As := [.int (46 : Int32)]) (rest := []) ⟨hx, hb, hml, hown, hts⟩ (mt_X7_isHere l D k a_this a_this_characters _ v_this_characters v_this_length x5.2.1 x5.2.2 (46 : Int32) x7 hx7) (cwV 1 hts gX7_parseNumber_X7_isHere rfl rfl rfl (by decide +kernel) ⟨(Nat.le_of_ble_eq_true rfl), (Nat.le_of_ble_eq_true rfl)⟩) (cc_pv (wc := [(a_this, .inr (4, [.ref a_this_characters, .int v_this_length, .int x5.2.1, .long x5.2.2])), (a_this_characters, .inl (k 0, 60, aI v_this_characters))]) hK hP hD [2, 3] (by decide) rfl rfl 4 2 rfl rfl rfl) rfl rfl hl.1 rfl (lv_room (Nat.le_of_ble_eq_true rfl)) dX7_parseNumber_58 ⟨Nat.zero_le _, Nat.zero_le _⟩) hP hD hS hA [2, 3] [0, 1] rfl rfl (by decide) (by decide) (fun H locs hP hD hS => ?_)
        have hP : va_P D vwCl [(a_p1, .inr (2, [.ref a_p1_numbers, .int v_p1.2])), (a_p1_numbers, .inl (k 1, 16, aD v_p1.1)), (a_this, .inr (4, [.ref a_this_characters, .int v_this_length, .int x5.2.1, .long x5.2.2])), (a_this_characters, .inl (k 0, 60, aI v_this_characters))] H := hP
        have hD : va_D A [(a_p1, .inr (2, [.ref a_p1_numbers, .int v_p1.2])), (a_p1_numbers, .inl (k 1, 16, aD v_p1.1)), (a_this, .inr (4, [.ref a_this_characters, .int v_this_length, .int x5.2.1, .long x5.2.2])), (a_this_characters, .inl (k 0, 60, aI v_this_characters))] := hD
        refine lv_if_eq (tgt := 90) hx hb dX7_parseNumber_61 (by decide) (fun c8 => ?_) (fun c8 => ?_)
        · skip
          have hf := if_t c8 hf
          refine lv_aload_n hx hb dX7_parseNumber_90 rfl (lv_at hl 2 rfl) ?_
          refine va_get (D := D) (ci := 4) (v := .long x5.2.2) (C := RX7) (T := TX7) (N := 4) hx hb hts hinX7_X7_parseNumber hown hK hP 2 rfl rfl 3 (by decide) (hts (.fieldLink RX7 20 "LimitTables$Text" "digits" "J") (by decide +kernel)) (fun _ h9 => h9) rfl dX7_parseNumber_91 ?_
          refine lv_l2d hx hb dX7_parseNumber_94 ?_
          refine lv_aload_n hx hb dX7_parseNumber_95 rfl (lv_at hl 2 rfl) ?_
          refine va_get (D := D) (ci := 4) (v := .int x5.2.1) (C := RX7) (T := TX7) (N := 4) hx hb hts hinX7_X7_parseNumber hown hK hP 2 rfl rfl 2 (by decide) (hts (.fieldLink RX7 17 "LimitTables$Text" "at" "I") (by decide +kernel)) (fun _ h9 => h9) rfl dX7_parseNumber_96 ?_
          refine lv_iload_n hx hb dX7_parseNumber_99 rfl (lv_at hl 0 rfl) ?_
          refine lv_isub hx hb dX7_parseNumber_100 ?_
          obtain ⟨x9, hx9, hf⟩ := bind_s hf
          refine cc_l (r := x9) (wc := []) (wr := [(a_p1, .inr (2, [.ref a_p1_numbers, .int v_p1.2])), (a_p1_numbers, .inl (k 1, 16, aD v_p1.1)), (a_this, .inr (4, [.ref a_this_characters, .int v_this_length, .int x5.2.1, .long x5.2.2])), (a_this_characters, .inl (k 0, 60, aI v_this_characters))]) (w1 := []) (va_runS (As := [.int (x5.2.1 - x5.2.1)]) (rest := [.double (FP.l2d x5.2.2)]) ⟨hx, hb, hml, hown, hts⟩ (mt_X7_tenToThe l D k  _  (x5.2.1 - x5.2.1) x9 hx9) (va_cwS 1 hts gX7_parseNumber_X7_tenToThe rfl rfl rfl (by decide +kernel) ⟨(Nat.le_of_ble_eq_true rfl), (Nat.le_of_ble_eq_true rfl)⟩) (cc_ps (wc := []) hK hP hD [] (by decide) rfl rfl) rfl rfl hl.1 rfl (lv_room (Nat.le_of_ble_eq_true rfl)) dX7_parseNumber_101 ⟨Nat.zero_le _, Nat.zero_le _⟩) hP hD hS hA [] [0, 1, 2, 3] rfl rfl (by decide) (by decide) (fun H locs hP hD hS => ?_)
          have hP : va_P D vwCl [(a_p1, .inr (2, [.ref a_p1_numbers, .int v_p1.2])), (a_p1_numbers, .inl (k 1, 16, aD v_p1.1)), (a_this, .inr (4, [.ref a_this_characters, .int v_this_length, .int x5.2.1, .long x5.2.2])), (a_this_characters, .inl (k 0, 60, aI v_this_characters))] H := hP
          have hD : va_D A [(a_p1, .inr (2, [.ref a_p1_numbers, .int v_p1.2])), (a_p1_numbers, .inl (k 1, 16, aD v_p1.1)), (a_this, .inr (4, [.ref a_this_characters, .int v_this_length, .int x5.2.1, .long x5.2.2])), (a_this_characters, .inl (k 0, 60, aI v_this_characters))] := hD
          refine lv_l2d hx hb dX7_parseNumber_104 ?_
          refine lv_ddiv hx hb dX7_parseNumber_105 (dop_h hf) ?_
          refine lv_topd (fun d10 ed10 => ?_)
          have hf := dop_at ed10 hf
          refine lv_dstore (lv' := [(4, .double d10), (3, .int x5.2.1), (2, .int x1), (0, .ref a_this), (1, .ref a_p1)]) hx hb dX7_parseNumber_106 hl (by decide) rfl (fun ls hl => ?_)
          refine lv_aload_n hx hb dX7_parseNumber_108 rfl (lv_at hl 4 rfl) ?_
          refine lv_iload_n hx hb dX7_parseNumber_109 rfl (lv_at hl 2 rfl) ?_
          refine lv_if_eq (tgt := 120) hx hb dX7_parseNumber_110 (by decide) (fun _ => ?_) (fun h9 => absurd c2 h9)
          refine lv_dload hx hb dX7_parseNumber_120 (lv_at hl 0 rfl) ?_
          obtain ⟨x11, hx11, hf⟩ := bind_s hf
          refine cc_v (wc := [(a_p1, .inr (2, [.ref a_p1_numbers, .int v_p1.2])), (a_p1_numbers, .inl (k 1, 16, aD v_p1.1))]) (wr := [(a_this, .inr (4, [.ref a_this_characters, .int v_this_length, .int x5.2.1, .long x5.2.2])), (a_this_characters, .inl (k 0, 60, aI v_this_characters))]) (w1 := [(a_p1, .inr (2, [.ref a_p1_numbers, .int x11.2])), (a_p1_numbers, .inl (k 1, 16, aD x11.1))]) (va_runV (As := [.double d10]) (rest := []) ⟨hx, hb, hml, hown, hts⟩ (mt_X4_append l D k a_p1 a_p1_numbers _ v_p1 d10 x11 hx11) (cwV 1 hts gX7_parseNumber_X4_append rfl rfl rfl (by decide +kernel) ⟨(Nat.le_of_ble_eq_true rfl), (Nat.le_of_ble_eq_true rfl)⟩) (cc_pv (wc := [(a_p1, .inr (2, [.ref a_p1_numbers, .int v_p1.2])), (a_p1_numbers, .inl (k 1, 16, aD v_p1.1))]) hK hP hD [0, 1] (by decide) rfl rfl 2 0 rfl rfl rfl) rfl rfl hl.1 rfl (lv_room (Nat.le_of_ble_eq_true rfl)) dX7_parseNumber_122 ⟨Nat.zero_le _, Nat.zero_le _⟩) hP hD hS hA [0, 1] [2, 3] rfl rfl (by decide) (by decide) (fun H locs hP hD hS => ?_)
          have hP : va_P D vwCl [(a_this, .inr (4, [.ref a_this_characters, .int v_this_length, .int x5.2.1, .long x5.2.2])), (a_this_characters, .inl (k 0, 60, aI v_this_characters)), (a_p1, .inr (2, [.ref a_p1_numbers, .int x11.2])), (a_p1_numbers, .inl (k 1, 16, aD x11.1))] H := hP
          have hD : va_D A [(a_this, .inr (4, [.ref a_this_characters, .int v_this_length, .int x5.2.1, .long x5.2.2])), (a_this_characters, .inl (k 0, 60, aI v_this_characters)), (a_p1, .inr (2, [.ref a_p1_numbers, .int x11.2])), (a_p1_numbers, .inl (k 1, 16, aD x11.1))] := hD
          refine lv_iconst (v := 1) hx hb dX7_parseNumber_125 (by decide) ?_
          have ho := Option.some.inj hf
          subst ho
          exact W.zret (v := (1 : Int32)) (ty := .boolean) hx hb hr rfl (fun t ht hW => ⟨⟨(1 : Int32), (), rfl, rfl, by rw [ht]; exact hP.sub (ws' := [(a_this, .inr (4, [.ref a_this_characters, .int v_this_length, .int x5.2.1, .long x5.2.2])), (a_this_characters, .inl (k 0, 60, aI v_this_characters)), (a_p1, .inr (2, [.ref a_p1_numbers, .int x11.2])), (a_p1_numbers, .inl (k 1, 16, aD x11.1))]) [0, 1, 2, 3] rfl, va_K.moved hW.alike hK, hD.sub (ws' := [(a_this, .inr (4, [.ref a_this_characters, .int v_this_length, .int x5.2.1, .long x5.2.2])), (a_this_characters, .inl (k 0, 60, aI v_this_characters)), (a_p1, .inr (2, [.ref a_p1_numbers, .int x11.2])), (a_p1_numbers, .inl (k 1, 16, aD x11.1))]) [0, 1, 2, 3] (by decide) rfl⟩, hS.F ht⟩) hS.2.2 dX7_parseNumber_126
        · skip
          have hf := if_f c8 hf
          refine lv_aload_n hx hb dX7_parseNumber_64 rfl (lv_at hl 2 rfl) ?_
          refine lv_dup hx hb dX7_parseNumber_65 rfl ?_
          refine va_get (D := D) (ci := 4) (v := .int x5.2.1) (C := RX7) (T := TX7) (N := 4) hx hb hts hinX7_X7_parseNumber hown hK hP 2 rfl rfl 2 (by decide) (hts (.fieldLink RX7 17 "LimitTables$Text" "at" "I") (by decide +kernel)) (fun _ h9 => h9) rfl dX7_parseNumber_66 ?_
          refine lv_iconst (v := 1) hx hb dX7_parseNumber_69 (by decide) ?_
          refine lv_iadd hx hb dX7_parseNumber_70 ?_
          refine va_put (D := D) (ci := 4) (v := .int (x5.2.1 + (1 : Int32))) (ty := .int) (C := RX7) (T := TX7) (N := 4) hx hb hts hinX7_X7_parseNumber tyX7 tyX7_ok nmX7 hown hK hP hD hS 2 rfl rfl 2 (by decide) (hts (.fieldLink RX7 17 "LimitTables$Text" "at" "I") (by decide +kernel)) (fun _ h9 => h9) rfl (by decide +kernel) rfl rfl (Nat.le_of_ble_eq_true rfl) dX7_parseNumber_71 (fun H locs hP hD hS => ?_)
          have hP : va_P D vwCl [(a_p1, .inr (2, [.ref a_p1_numbers, .int v_p1.2])), (a_p1_numbers, .inl (k 1, 16, aD v_p1.1)), (a_this, .inr (4, [.ref a_this_characters, .int v_this_length, .int (x5.2.1 + (1 : Int32)), .long x5.2.2])), (a_this_characters, .inl (k 0, 60, aI v_this_characters))] H := hP
          have hD : va_D A [(a_p1, .inr (2, [.ref a_p1_numbers, .int v_p1.2])), (a_p1_numbers, .inl (k 1, 16, aD v_p1.1)), (a_this, .inr (4, [.ref a_this_characters, .int v_this_length, .int (x5.2.1 + (1 : Int32)), .long x5.2.2])), (a_this_characters, .inl (k 0, 60, aI v_this_characters))] := hD
          refine lv_aload_n hx hb dX7_parseNumber_74 rfl (lv_at hl 2 rfl) ?_
          refine va_get (D := D) (ci := 4) (v := .int (x5.2.1 + (1 : Int32))) (C := RX7) (T := TX7) (N := 4) hx hb hts hinX7_X7_parseNumber hown hK hP 2 rfl rfl 2 (by decide) (hts (.fieldLink RX7 17 "LimitTables$Text" "at" "I") (by decide +kernel)) (fun _ h9 => h9) rfl dX7_parseNumber_75 ?_
          refine lv_istore_n (lv' := [(3, .int (x5.2.1 + (1 : Int32))), (2, .int x1), (0, .ref a_this), (1, .ref a_p1)]) hx hb dX7_parseNumber_78 rfl hl (by decide) rfl (fun ls hl => ?_)
          refine lv_aload_n hx hb dX7_parseNumber_79 rfl (lv_at hl 2 rfl) ?_
          refine lv_bipush (v := 6) hx hb dX7_parseNumber_80 (by decide) ?_
          obtain ⟨x12, hx12, hf⟩ := bind_s hf
          refine cc_i (r := x12.1) (wc := [(a_this, .inr (4, [.ref a_this_characters, .int v_this_length, .int (x5.2.1 + (1 : Int32)), .long x5.2.2])), (a_this_characters, .inl (k 0, 60, aI v_this_characters))]) (wr := [(a_p1, .inr (2, [.ref a_p1_numbers, .int v_p1.2])), (a_p1_numbers, .inl (k 1, 16, aD v_p1.1))]) (w1 := [(a_this, .inr (4, [.ref a_this_characters, .int v_this_length, .int x12.2.1, .long x12.2.2])), (a_this_characters, .inl (k 0, 60, aI v_this_characters))]) (va_runV (As := [.int (6 : Int32)]) (rest := []) ⟨hx, hb, hml, hown, hts⟩ (mt_X7_parseDigits l D k a_this a_this_characters _ v_this_characters v_this_length (x5.2.1 + (1 : Int32)) x5.2.2 (6 : Int32) x12 hx12) (cwV 1 hts gX7_parseNumber_X7_parseDigits rfl rfl rfl (by decide +kernel) ⟨(Nat.le_of_ble_eq_true rfl), (Nat.le_of_ble_eq_true rfl)⟩) (cc_pv (wc := [(a_this, .inr (4, [.ref a_this_characters, .int v_this_length, .int (x5.2.1 + (1 : Int32)), .long x5.2.2])), (a_this_characters, .inl (k 0, 60, aI v_this_characters))]) hK hP hD [2, 3] (by decide) rfl rfl 4 2 rfl rfl rfl) rfl rfl hl.1 rfl (lv_room (Nat.le_of_ble_eq_true rfl)) dX7_parseNumber_82 ⟨Nat.zero_le _, Nat.zero_le _⟩) hP hD hS hA [2, 3] [0, 1] rfl rfl (by decide) (by decide) (fun H locs hP hD hS => ?_)
          have hP : va_P D vwCl [(a_p1, .inr (2, [.ref a_p1_numbers, .int v_p1.2])), (a_p1_numbers, .inl (k 1, 16, aD v_p1.1)), (a_this, .inr (4, [.ref a_this_characters, .int v_this_length, .int x12.2.1, .long x12.2.2])), (a_this_characters, .inl (k 0, 60, aI v_this_characters))] H := hP
          have hD : va_D A [(a_p1, .inr (2, [.ref a_p1_numbers, .int v_p1.2])), (a_p1_numbers, .inl (k 1, 16, aD v_p1.1)), (a_this, .inr (4, [.ref a_this_characters, .int v_this_length, .int x12.2.1, .long x12.2.2])), (a_this_characters, .inl (k 0, 60, aI v_this_characters))] := hD
          refine lv_if_ne (tgt := 90) hx hb dX7_parseNumber_85 (by decide) (fun c13 => ?_) (fun c13 => ?_)
          · skip
            have hf := if_f c13 hf
            refine lv_aload_n hx hb dX7_parseNumber_90 rfl (lv_at hl 2 rfl) ?_
            refine va_get (D := D) (ci := 4) (v := .long x12.2.2) (C := RX7) (T := TX7) (N := 4) hx hb hts hinX7_X7_parseNumber hown hK hP 2 rfl rfl 3 (by decide) (hts (.fieldLink RX7 20 "LimitTables$Text" "digits" "J") (by decide +kernel)) (fun _ h9 => h9) rfl dX7_parseNumber_91 ?_
            refine lv_l2d hx hb dX7_parseNumber_94 ?_
            refine lv_aload_n hx hb dX7_parseNumber_95 rfl (lv_at hl 2 rfl) ?_
            refine va_get (D := D) (ci := 4) (v := .int x12.2.1) (C := RX7) (T := TX7) (N := 4) hx hb hts hinX7_X7_parseNumber hown hK hP 2 rfl rfl 2 (by decide) (hts (.fieldLink RX7 17 "LimitTables$Text" "at" "I") (by decide +kernel)) (fun _ h9 => h9) rfl dX7_parseNumber_96 ?_
            refine lv_iload_n hx hb dX7_parseNumber_99 rfl (lv_at hl 0 rfl) ?_
            refine lv_isub hx hb dX7_parseNumber_100 ?_
            obtain ⟨x14, hx14, hf⟩ := bind_s hf
            refine cc_l (r := x14) (wc := []) (wr := [(a_p1, .inr (2, [.ref a_p1_numbers, .int v_p1.2])), (a_p1_numbers, .inl (k 1, 16, aD v_p1.1)), (a_this, .inr (4, [.ref a_this_characters, .int v_this_length, .int x12.2.1, .long x12.2.2])), (a_this_characters, .inl (k 0, 60, aI v_this_characters))]) (w1 := []) (va_runS (As := [.int (x12.2.1 - (x5.2.1 + (1 : Int32)))]) (rest := [.double (FP.l2d x12.2.2)]) ⟨hx, hb, hml, hown, hts⟩ (mt_X7_tenToThe l D k  _  (x12.2.1 - (x5.2.1 + (1 : Int32))) x14 hx14) (va_cwS 1 hts gX7_parseNumber_X7_tenToThe rfl rfl rfl (by decide +kernel) ⟨(Nat.le_of_ble_eq_true rfl), (Nat.le_of_ble_eq_true rfl)⟩) (cc_ps (wc := []) hK hP hD [] (by decide) rfl rfl) rfl rfl hl.1 rfl (lv_room (Nat.le_of_ble_eq_true rfl)) dX7_parseNumber_101 ⟨Nat.zero_le _, Nat.zero_le _⟩) hP hD hS hA [] [0, 1, 2, 3] rfl rfl (by decide) (by decide) (fun H locs hP hD hS => ?_)
            have hP : va_P D vwCl [(a_p1, .inr (2, [.ref a_p1_numbers, .int v_p1.2])), (a_p1_numbers, .inl (k 1, 16, aD v_p1.1)), (a_this, .inr (4, [.ref a_this_characters, .int v_this_length, .int x12.2.1, .long x12.2.2])), (a_this_characters, .inl (k 0, 60, aI v_this_characters))] H := hP
            have hD : va_D A [(a_p1, .inr (2, [.ref a_p1_numbers, .int v_p1.2])), (a_p1_numbers, .inl (k 1, 16, aD v_p1.1)), (a_this, .inr (4, [.ref a_this_characters, .int v_this_length, .int x12.2.1, .long x12.2.2])), (a_this_characters, .inl (k 0, 60, aI v_this_characters))] := hD
            refine lv_l2d hx hb dX7_parseNumber_104 ?_
            refine lv_ddiv hx hb dX7_parseNumber_105 (dop_h hf) ?_
            refine lv_topd (fun d15 ed15 => ?_)
            have hf := dop_at ed15 hf
            refine lv_dstore (lv' := [(4, .double d15), (3, .int (x5.2.1 + (1 : Int32))), (2, .int x1), (0, .ref a_this), (1, .ref a_p1)]) hx hb dX7_parseNumber_106 hl (by decide) rfl (fun ls hl => ?_)
            refine lv_aload_n hx hb dX7_parseNumber_108 rfl (lv_at hl 4 rfl) ?_
            refine lv_iload_n hx hb dX7_parseNumber_109 rfl (lv_at hl 2 rfl) ?_
            refine lv_if_eq (tgt := 120) hx hb dX7_parseNumber_110 (by decide) (fun _ => ?_) (fun h9 => absurd c2 h9)
            refine lv_dload hx hb dX7_parseNumber_120 (lv_at hl 0 rfl) ?_
            obtain ⟨x16, hx16, hf⟩ := bind_s hf
            refine cc_v (wc := [(a_p1, .inr (2, [.ref a_p1_numbers, .int v_p1.2])), (a_p1_numbers, .inl (k 1, 16, aD v_p1.1))]) (wr := [(a_this, .inr (4, [.ref a_this_characters, .int v_this_length, .int x12.2.1, .long x12.2.2])), (a_this_characters, .inl (k 0, 60, aI v_this_characters))]) (w1 := [(a_p1, .inr (2, [.ref a_p1_numbers, .int x16.2])), (a_p1_numbers, .inl (k 1, 16, aD x16.1))]) (va_runV (As := [.double d15]) (rest := []) ⟨hx, hb, hml, hown, hts⟩ (mt_X4_append l D k a_p1 a_p1_numbers _ v_p1 d15 x16 hx16) (cwV 1 hts gX7_parseNumber_X4_append rfl rfl rfl (by decide +kernel) ⟨(Nat.le_of_ble_eq_true rfl), (Nat.le_of_ble_eq_true rfl)⟩) (cc_pv (wc := [(a_p1, .inr (2, [.ref a_p1_numbers, .int v_p1.2])), (a_p1_numbers, .inl (k 1, 16, aD v_p1.1))]) hK hP hD [0, 1] (by decide) rfl rfl 2 0 rfl rfl rfl) rfl rfl hl.1 rfl (lv_room (Nat.le_of_ble_eq_true rfl)) dX7_parseNumber_122 ⟨Nat.zero_le _, Nat.zero_le _⟩) hP hD hS hA [0, 1] [2, 3] rfl rfl (by decide) (by decide) (fun H locs hP hD hS => ?_)
            have hP : va_P D vwCl [(a_this, .inr (4, [.ref a_this_characters, .int v_this_length, .int x12.2.1, .long x12.2.2])), (a_this_characters, .inl (k 0, 60, aI v_this_characters)), (a_p1, .inr (2, [.ref a_p1_numbers, .int x16.2])), (a_p1_numbers, .inl (k 1, 16, aD x16.1))] H := hP
            have hD : va_D A [(a_this, .inr (4, [.ref a_this_characters, .int v_this_length, .int x12.2.1, .long x12.2.2])), (a_this_characters, .inl (k 0, 60, aI v_this_characters)), (a_p1, .inr (2, [.ref a_p1_numbers, .int x16.2])), (a_p1_numbers, .inl (k 1, 16, aD x16.1))] := hD
            refine lv_iconst (v := 1) hx hb dX7_parseNumber_125 (by decide) ?_
            have ho := Option.some.inj hf
            subst ho
            exact W.zret (v := (1 : Int32)) (ty := .boolean) hx hb hr rfl (fun t ht hW => ⟨⟨(1 : Int32), (), rfl, rfl, by rw [ht]; exact hP.sub (ws' := [(a_this, .inr (4, [.ref a_this_characters, .int v_this_length, .int x12.2.1, .long x12.2.2])), (a_this_characters, .inl (k 0, 60, aI v_this_characters)), (a_p1, .inr (2, [.ref a_p1_numbers, .int x16.2])), (a_p1_numbers, .inl (k 1, 16, aD x16.1))]) [0, 1, 2, 3] rfl, va_K.moved hW.alike hK, hD.sub (ws' := [(a_this, .inr (4, [.ref a_this_characters, .int v_this_length, .int x12.2.1, .long x12.2.2])), (a_this_characters, .inl (k 0, 60, aI v_this_characters)), (a_p1, .inr (2, [.ref a_p1_numbers, .int x16.2])), (a_p1_numbers, .inl (k 1, 16, aD x16.1))]) [0, 1, 2, 3] (by decide) rfl⟩, hS.F ht⟩) hS.2.2 dX7_parseNumber_126
          · skip
            have hf := if_t c13 hf
            refine lv_iconst (v := 0) hx hb dX7_parseNumber_88 (by decide) ?_
            have ho := Option.some.inj hf
            subst ho
            exact W.zret (v := (0 : Int32)) (ty := .boolean) hx hb hr rfl (fun t ht hW => ⟨⟨(0 : Int32), (), rfl, rfl, by rw [ht]; exact hP.sub (ws' := [(a_this, .inr (4, [.ref a_this_characters, .int v_this_length, .int x12.2.1, .long x12.2.2])), (a_this_characters, .inl (k 0, 60, aI v_this_characters)), (a_p1, .inr (2, [.ref a_p1_numbers, .int v_p1.2])), (a_p1_numbers, .inl (k 1, 16, aD v_p1.1))]) [2, 3, 0, 1] rfl, va_K.moved hW.alike hK, hD.sub (ws' := [(a_this, .inr (4, [.ref a_this_characters, .int v_this_length, .int x12.2.1, .long x12.2.2])), (a_this_characters, .inl (k 0, 60, aI v_this_characters)), (a_p1, .inr (2, [.ref a_p1_numbers, .int v_p1.2])), (a_p1_numbers, .inl (k 1, 16, aD v_p1.1))]) [2, 3, 0, 1] (by decide) rfl⟩, hS.F ht⟩) hS.2.2 dX7_parseNumber_89
      · skip
        have hf := if_t c6 hf
        refine lv_iconst (v := 0) hx hb dX7_parseNumber_48 (by decide) ?_
        have ho := Option.some.inj hf
        subst ho
        exact W.zret (v := (0 : Int32)) (ty := .boolean) hx hb hr rfl (fun t ht hW => ⟨⟨(0 : Int32), (), rfl, rfl, by rw [ht]; exact hP.sub (ws' := [(a_this, .inr (4, [.ref a_this_characters, .int v_this_length, .int x5.2.1, .long x5.2.2])), (a_this_characters, .inl (k 0, 60, aI v_this_characters)), (a_p1, .inr (2, [.ref a_p1_numbers, .int v_p1.2])), (a_p1_numbers, .inl (k 1, 16, aD v_p1.1))]) [2, 3, 0, 1] rfl, va_K.moved hW.alike hK, hD.sub (ws' := [(a_this, .inr (4, [.ref a_this_characters, .int v_this_length, .int x5.2.1, .long x5.2.2])), (a_this_characters, .inl (k 0, 60, aI v_this_characters)), (a_p1, .inr (2, [.ref a_p1_numbers, .int v_p1.2])), (a_p1_numbers, .inl (k 1, 16, aD v_p1.1))]) [2, 3, 0, 1] (by decide) rfl⟩, hS.F ht⟩) hS.2.2 dX7_parseNumber_49
    · skip
      have hf := if_f c4 hf
      refine lv_iconst (v := 1) hx hb dX7_parseNumber_36 (by decide) ?_
      refine lv_goto (tgt := 42) hx hb dX7_parseNumber_37 (by decide) ?_
      obtain ⟨x17, hx17, hf⟩ := bind_s hf
      refine cc_i (r := x17.1) (wc := [(a_this, .inr (4, [.ref a_this_characters, .int v_this_length, .int v_this_at, .long (0 : Int64)])), (a_this_characters, .inl (k 0, 60, aI v_this_characters))]) (wr := [(a_p1, .inr (2, [.ref a_p1_numbers, .int v_p1.2])), (a_p1_numbers, .inl (k 1, 16, aD v_p1.1))]) (w1 := [(a_this, .inr (4, [.ref a_this_characters, .int v_this_length, .int x17.2.1, .long x17.2.2])), (a_this_characters, .inl (k 0, 60, aI v_this_characters))]) (va_runV (As := [.int (1 : Int32)]) (rest := []) ⟨hx, hb, hml, hown, hts⟩ (mt_X7_parseDigits l D k a_this a_this_characters _ v_this_characters v_this_length v_this_at (0 : Int64) (1 : Int32) x17 hx17) (cwV 1 hts gX7_parseNumber_X7_parseDigits rfl rfl rfl (by decide +kernel) ⟨(Nat.le_of_ble_eq_true rfl), (Nat.le_of_ble_eq_true rfl)⟩) (cc_pv (wc := [(a_this, .inr (4, [.ref a_this_characters, .int v_this_length, .int v_this_at, .long (0 : Int64)])), (a_this_characters, .inl (k 0, 60, aI v_this_characters))]) hK hP hD [2, 3] (by decide) rfl rfl 4 2 rfl rfl rfl) rfl rfl hl.1 rfl (lv_room (Nat.le_of_ble_eq_true rfl)) dX7_parseNumber_42 ⟨Nat.zero_le _, Nat.zero_le _⟩) hP hD hS hA [2, 3] [0, 1] rfl rfl (by decide) (by decide) (fun H locs hP hD hS => ?_)
      have hP : va_P D vwCl [(a_p1, .inr (2, [.ref a_p1_numbers, .int v_p1.2])), (a_p1_numbers, .inl (k 1, 16, aD v_p1.1)), (a_this, .inr (4, [.ref a_this_characters, .int v_this_length, .int x17.2.1, .long x17.2.2])), (a_this_characters, .inl (k 0, 60, aI v_this_characters))] H := hP
      have hD : va_D A [(a_p1, .inr (2, [.ref a_p1_numbers, .int v_p1.2])), (a_p1_numbers, .inl (k 1, 16, aD v_p1.1)), (a_this, .inr (4, [.ref a_this_characters, .int v_this_length, .int x17.2.1, .long x17.2.2])), (a_this_characters, .inl (k 0, 60, aI v_this_characters))] := hD
      refine lv_if_ne (tgt := 50) hx hb dX7_parseNumber_45 (by decide) (fun c18 => ?_) (fun c18 => ?_)
      · skip
        have hf := if_f c18 hf
        refine lv_aload_n hx hb dX7_parseNumber_50 rfl (lv_at hl 1 rfl) ?_
        refine va_get (D := D) (ci := 4) (v := .int x17.2.1) (C := RX7) (T := TX7) (N := 4) hx hb hts hinX7_X7_parseNumber hown hK hP 2 rfl rfl 2 (by decide) (hts (.fieldLink RX7 17 "LimitTables$Text" "at" "I") (by decide +kernel)) (fun _ h9 => h9) rfl dX7_parseNumber_51 ?_
        refine lv_istore_n (lv' := [(3, .int x17.2.1), (2, .int x1), (0, .ref a_this), (1, .ref a_p1)]) hx hb dX7_parseNumber_54 rfl hl (by decide) rfl (fun ls hl => ?_)
        refine lv_aload_n hx hb dX7_parseNumber_55 rfl (lv_at hl 2 rfl) ?_
        refine lv_bipush (v := 46) hx hb dX7_parseNumber_56 (by decide) ?_
        obtain ⟨x19, hx19, hf⟩ := bind_s hf
        refine cc_i (r := x19) (wc := [(a_this, .inr (4, [.ref a_this_characters, .int v_this_length, .int x17.2.1, .long x17.2.2])), (a_this_characters, .inl (k 0, 60, aI v_this_characters))]) (wr := [(a_p1, .inr (2, [.ref a_p1_numbers, .int v_p1.2])), (a_p1_numbers, .inl (k 1, 16, aD v_p1.1))]) (w1 := [(a_this, .inr (4, [.ref a_this_characters, .int v_this_length, .int x17.2.1, .long x17.2.2])), (a_this_characters, .inl (k 0, 60, aI v_this_characters))]) (va_runV (As := [.int (46 : Int32)]) (rest := []) ⟨hx, hb, hml, hown, hts⟩ (mt_X7_isHere l D k a_this a_this_characters _ v_this_characters v_this_length x17.2.1 x17.2.2 (46 : Int32) x19 hx19) (cwV 1 hts gX7_parseNumber_X7_isHere rfl rfl rfl (by decide +kernel) ⟨(Nat.le_of_ble_eq_true rfl), (Nat.le_of_ble_eq_true rfl)⟩) (cc_pv (wc := [(a_this, .inr (4, [.ref a_this_characters, .int v_this_length, .int x17.2.1, .long x17.2.2])), (a_this_characters, .inl (k 0, 60, aI v_this_characters))]) hK hP hD [2, 3] (by decide) rfl rfl 4 2 rfl rfl rfl) rfl rfl hl.1 rfl (lv_room (Nat.le_of_ble_eq_true rfl)) dX7_parseNumber_58 ⟨Nat.zero_le _, Nat.zero_le _⟩) hP hD hS hA [2, 3] [0, 1] rfl rfl (by decide) (by decide) (fun H locs hP hD hS => ?_)
        have hP : va_P D vwCl [(a_p1, .inr (2, [.ref a_p1_numbers, .int v_p1.2])), (a_p1_numbers, .inl (k 1, 16, aD v_p1.1)), (a_this, .inr (4, [.ref a_this_characters, .int v_this_length, .int x17.2.1, .long x17.2.2])), (a_this_characters, .inl (k 0, 60, aI v_this_characters))] H := hP
        have hD : va_D A [(a_p1, .inr (2, [.ref a_p1_numbers, .int v_p1.2])), (a_p1_numbers, .inl (k 1, 16, aD v_p1.1)), (a_this, .inr (4, [.ref a_this_characters, .int v_this_length, .int x17.2.1, .long x17.2.2])), (a_this_characters, .inl (k 0, 60, aI v_this_characters))] := hD
        refine lv_if_eq (tgt := 90) hx hb dX7_parseNumber_61 (by decide) (fun c20 => ?_) (fun c20 => ?_)
        · skip
          have hf := if_t c20 hf
          refine lv_aload_n hx hb dX7_parseNumber_90 rfl (lv_at hl 2 rfl) ?_
          refine va_get (D := D) (ci := 4) (v := .long x17.2.2) (C := RX7) (T := TX7) (N := 4) hx hb hts hinX7_X7_parseNumber hown hK hP 2 rfl rfl 3 (by decide) (hts (.fieldLink RX7 20 "LimitTables$Text" "digits" "J") (by decide +kernel)) (fun _ h9 => h9) rfl dX7_parseNumber_91 ?_
          refine lv_l2d hx hb dX7_parseNumber_94 ?_
          refine lv_aload_n hx hb dX7_parseNumber_95 rfl (lv_at hl 2 rfl) ?_
          refine va_get (D := D) (ci := 4) (v := .int x17.2.1) (C := RX7) (T := TX7) (N := 4) hx hb hts hinX7_X7_parseNumber hown hK hP 2 rfl rfl 2 (by decide) (hts (.fieldLink RX7 17 "LimitTables$Text" "at" "I") (by decide +kernel)) (fun _ h9 => h9) rfl dX7_parseNumber_96 ?_
          refine lv_iload_n hx hb dX7_parseNumber_99 rfl (lv_at hl 0 rfl) ?_
          refine lv_isub hx hb dX7_parseNumber_100 ?_
          obtain ⟨x21, hx21, hf⟩ := bind_s hf
          refine cc_l (r := x21) (wc := []) (wr := [(a_p1, .inr (2, [.ref a_p1_numbers, .int v_p1.2])), (a_p1_numbers, .inl (k 1, 16, aD v_p1.1)), (a_this, .inr (4, [.ref a_this_characters, .int v_this_length, .int x17.2.1, .long x17.2.2])), (a_this_characters, .inl (k 0, 60, aI v_this_characters))]) (w1 := []) (va_runS (As := [.int (x17.2.1 - x17.2.1)]) (rest := [.double (FP.l2d x17.2.2)]) ⟨hx, hb, hml, hown, hts⟩ (mt_X7_tenToThe l D k  _  (x17.2.1 - x17.2.1) x21 hx21) (va_cwS 1 hts gX7_parseNumber_X7_tenToThe rfl rfl rfl (by decide +kernel) ⟨(Nat.le_of_ble_eq_true rfl), (Nat.le_of_ble_eq_true rfl)⟩) (cc_ps (wc := []) hK hP hD [] (by decide) rfl rfl) rfl rfl hl.1 rfl (lv_room (Nat.le_of_ble_eq_true rfl)) dX7_parseNumber_101 ⟨Nat.zero_le _, Nat.zero_le _⟩) hP hD hS hA [] [0, 1, 2, 3] rfl rfl (by decide) (by decide) (fun H locs hP hD hS => ?_)
          have hP : va_P D vwCl [(a_p1, .inr (2, [.ref a_p1_numbers, .int v_p1.2])), (a_p1_numbers, .inl (k 1, 16, aD v_p1.1)), (a_this, .inr (4, [.ref a_this_characters, .int v_this_length, .int x17.2.1, .long x17.2.2])), (a_this_characters, .inl (k 0, 60, aI v_this_characters))] H := hP
          have hD : va_D A [(a_p1, .inr (2, [.ref a_p1_numbers, .int v_p1.2])), (a_p1_numbers, .inl (k 1, 16, aD v_p1.1)), (a_this, .inr (4, [.ref a_this_characters, .int v_this_length, .int x17.2.1, .long x17.2.2])), (a_this_characters, .inl (k 0, 60, aI v_this_characters))] := hD
          refine lv_l2d hx hb dX7_parseNumber_104 ?_
          refine lv_ddiv hx hb dX7_parseNumber_105 (dop_h hf) ?_
          refine lv_topd (fun d22 ed22 => ?_)
          have hf := dop_at ed22 hf
          refine lv_dstore (lv' := [(4, .double d22), (3, .int x17.2.1), (2, .int x1), (0, .ref a_this), (1, .ref a_p1)]) hx hb dX7_parseNumber_106 hl (by decide) rfl (fun ls hl => ?_)
          refine lv_aload_n hx hb dX7_parseNumber_108 rfl (lv_at hl 4 rfl) ?_
          refine lv_iload_n hx hb dX7_parseNumber_109 rfl (lv_at hl 2 rfl) ?_
          refine lv_if_eq (tgt := 120) hx hb dX7_parseNumber_110 (by decide) (fun _ => ?_) (fun h9 => absurd c2 h9)
          refine lv_dload hx hb dX7_parseNumber_120 (lv_at hl 0 rfl) ?_
          obtain ⟨x23, hx23, hf⟩ := bind_s hf
          refine cc_v (wc := [(a_p1, .inr (2, [.ref a_p1_numbers, .int v_p1.2])), (a_p1_numbers, .inl (k 1, 16, aD v_p1.1))]) (wr := [(a_this, .inr (4, [.ref a_this_characters, .int v_this_length, .int x17.2.1, .long x17.2.2])), (a_this_characters, .inl (k 0, 60, aI v_this_characters))]) (w1 := [(a_p1, .inr (2, [.ref a_p1_numbers, .int x23.2])), (a_p1_numbers, .inl (k 1, 16, aD x23.1))]) (va_runV (As := [.double d22]) (rest := []) ⟨hx, hb, hml, hown, hts⟩ (mt_X4_append l D k a_p1 a_p1_numbers _ v_p1 d22 x23 hx23) (cwV 1 hts gX7_parseNumber_X4_append rfl rfl rfl (by decide +kernel) ⟨(Nat.le_of_ble_eq_true rfl), (Nat.le_of_ble_eq_true rfl)⟩) (cc_pv (wc := [(a_p1, .inr (2, [.ref a_p1_numbers, .int v_p1.2])), (a_p1_numbers, .inl (k 1, 16, aD v_p1.1))]) hK hP hD [0, 1] (by decide) rfl rfl 2 0 rfl rfl rfl) rfl rfl hl.1 rfl (lv_room (Nat.le_of_ble_eq_true rfl)) dX7_parseNumber_122 ⟨Nat.zero_le _, Nat.zero_le _⟩) hP hD hS hA [0, 1] [2, 3] rfl rfl (by decide) (by decide) (fun H locs hP hD hS => ?_)
          have hP : va_P D vwCl [(a_this, .inr (4, [.ref a_this_characters, .int v_this_length, .int x17.2.1, .long x17.2.2])), (a_this_characters, .inl (k 0, 60, aI v_this_characters)), (a_p1, .inr (2, [.ref a_p1_numbers, .int x23.2])), (a_p1_numbers, .inl (k 1, 16, aD x23.1))] H := hP
          have hD : va_D A [(a_this, .inr (4, [.ref a_this_characters, .int v_this_length, .int x17.2.1, .long x17.2.2])), (a_this_characters, .inl (k 0, 60, aI v_this_characters)), (a_p1, .inr (2, [.ref a_p1_numbers, .int x23.2])), (a_p1_numbers, .inl (k 1, 16, aD x23.1))] := hD
          refine lv_iconst (v := 1) hx hb dX7_parseNumber_125 (by decide) ?_
          have ho := Option.some.inj hf
          subst ho
          exact W.zret (v := (1 : Int32)) (ty := .boolean) hx hb hr rfl (fun t ht hW => ⟨⟨(1 : Int32), (), rfl, rfl, by rw [ht]; exact hP.sub (ws' := [(a_this, .inr (4, [.ref a_this_characters, .int v_this_length, .int x17.2.1, .long x17.2.2])), (a_this_characters, .inl (k 0, 60, aI v_this_characters)), (a_p1, .inr (2, [.ref a_p1_numbers, .int x23.2])), (a_p1_numbers, .inl (k 1, 16, aD x23.1))]) [0, 1, 2, 3] rfl, va_K.moved hW.alike hK, hD.sub (ws' := [(a_this, .inr (4, [.ref a_this_characters, .int v_this_length, .int x17.2.1, .long x17.2.2])), (a_this_characters, .inl (k 0, 60, aI v_this_characters)), (a_p1, .inr (2, [.ref a_p1_numbers, .int x23.2])), (a_p1_numbers, .inl (k 1, 16, aD x23.1))]) [0, 1, 2, 3] (by decide) rfl⟩, hS.F ht⟩) hS.2.2 dX7_parseNumber_126
        · skip
          have hf := if_f c20 hf
          refine lv_aload_n hx hb dX7_parseNumber_64 rfl (lv_at hl 2 rfl) ?_
          refine lv_dup hx hb dX7_parseNumber_65 rfl ?_
          refine va_get (D := D) (ci := 4) (v := .int x17.2.1) (C := RX7) (T := TX7) (N := 4) hx hb hts hinX7_X7_parseNumber hown hK hP 2 rfl rfl 2 (by decide) (hts (.fieldLink RX7 17 "LimitTables$Text" "at" "I") (by decide +kernel)) (fun _ h9 => h9) rfl dX7_parseNumber_66 ?_
          refine lv_iconst (v := 1) hx hb dX7_parseNumber_69 (by decide) ?_
          refine lv_iadd hx hb dX7_parseNumber_70 ?_
          refine va_put (D := D) (ci := 4) (v := .int (x17.2.1 + (1 : Int32))) (ty := .int) (C := RX7) (T := TX7) (N := 4) hx hb hts hinX7_X7_parseNumber tyX7 tyX7_ok nmX7 hown hK hP hD hS 2 rfl rfl 2 (by decide) (hts (.fieldLink RX7 17 "LimitTables$Text" "at" "I") (by decide +kernel)) (fun _ h9 => h9) rfl (by decide +kernel) rfl rfl (Nat.le_of_ble_eq_true rfl) dX7_parseNumber_71 (fun H locs hP hD hS => ?_)
          have hP : va_P D vwCl [(a_p1, .inr (2, [.ref a_p1_numbers, .int v_p1.2])), (a_p1_numbers, .inl (k 1, 16, aD v_p1.1)), (a_this, .inr (4, [.ref a_this_characters, .int v_this_length, .int (x17.2.1 + (1 : Int32)), .long x17.2.2])), (a_this_characters, .inl (k 0, 60, aI v_this_characters))] H := hP
          have hD : va_D A [(a_p1, .inr (2, [.ref a_p1_numbers, .int v_p1.2])), (a_p1_numbers, .inl (k 1, 16, aD v_p1.1)), (a_this, .inr (4, [.ref a_this_characters, .int v_this_length, .int (x17.2.1 + (1 : Int32)), .long x17.2.2])), (a_this_characters, .inl (k 0, 60, aI v_this_characters))] := hD
          refine lv_aload_n hx hb dX7_parseNumber_74 rfl (lv_at hl 2 rfl) ?_
          refine va_get (D := D) (ci := 4) (v := .int (x17.2.1 + (1 : Int32))) (C := RX7) (T := TX7) (N := 4) hx hb hts hinX7_X7_parseNumber hown hK hP 2 rfl rfl 2 (by decide) (hts (.fieldLink RX7 17 "LimitTables$Text" "at" "I") (by decide +kernel)) (fun _ h9 => h9) rfl dX7_parseNumber_75 ?_
          refine lv_istore_n (lv' := [(3, .int (x17.2.1 + (1 : Int32))), (2, .int x1), (0, .ref a_this), (1, .ref a_p1)]) hx hb dX7_parseNumber_78 rfl hl (by decide) rfl (fun ls hl => ?_)
          refine lv_aload_n hx hb dX7_parseNumber_79 rfl (lv_at hl 2 rfl) ?_
          refine lv_bipush (v := 6) hx hb dX7_parseNumber_80 (by decide) ?_
          obtain ⟨x24, hx24, hf⟩ := bind_s hf
          refine cc_i (r := x24.1) (wc := [(a_this, .inr (4, [.ref a_this_characters, .int v_this_length, .int (x17.2.1 + (1 : Int32)), .long x17.2.2])), (a_this_characters, .inl (k 0, 60, aI v_this_characters))]) (wr := [(a_p1, .inr (2, [.ref a_p1_numbers, .int v_p1.2])), (a_p1_numbers, .inl (k 1, 16, aD v_p1.1))]) (w1 := [(a_this, .inr (4, [.ref a_this_characters, .int v_this_length, .int x24.2.1, .long x24.2.2])), (a_this_characters, .inl (k 0, 60, aI v_this_characters))]) (va_runV (As := [.int (6 : Int32)]) (rest := []) ⟨hx, hb, hml, hown, hts⟩ (mt_X7_parseDigits l D k a_this a_this_characters _ v_this_characters v_this_length (x17.2.1 + (1 : Int32)) x17.2.2 (6 : Int32) x24 hx24) (cwV 1 hts gX7_parseNumber_X7_parseDigits rfl rfl rfl (by decide +kernel) ⟨(Nat.le_of_ble_eq_true rfl), (Nat.le_of_ble_eq_true rfl)⟩) (cc_pv (wc := [(a_this, .inr (4, [.ref a_this_characters, .int v_this_length, .int (x17.2.1 + (1 : Int32)), .long x17.2.2])), (a_this_characters, .inl (k 0, 60, aI v_this_characters))]) hK hP hD [2, 3] (by decide) rfl rfl 4 2 rfl rfl rfl) rfl rfl hl.1 rfl (lv_room (Nat.le_of_ble_eq_true rfl)) dX7_parseNumber_82 ⟨Nat.zero_le _, Nat.zero_le _⟩) hP hD hS hA [2, 3] [0, 1] rfl rfl (by decide) (by decide) (fun H locs hP hD hS => ?_)
          have hP : va_P D vwCl [(a_p1, .inr (2, [.ref a_p1_numbers, .int v_p1.2])), (a_p1_numbers, .inl (k 1, 16, aD v_p1.1)), (a_this, .inr (4, [.ref a_this_characters, .int v_this_length, .int x24.2.1, .long x24.2.2])), (a_this_characters, .inl (k 0, 60, aI v_this_characters))] H := hP
          have hD : va_D A [(a_p1, .inr (2, [.ref a_p1_numbers, .int v_p1.2])), (a_p1_numbers, .inl (k 1, 16, aD v_p1.1)), (a_this, .inr (4, [.ref a_this_characters, .int v_this_length, .int x24.2.1, .long x24.2.2])), (a_this_characters, .inl (k 0, 60, aI v_this_characters))] := hD
          refine lv_if_ne (tgt := 90) hx hb dX7_parseNumber_85 (by decide) (fun c25 => ?_) (fun c25 => ?_)
          · skip
            have hf := if_f c25 hf
            refine lv_aload_n hx hb dX7_parseNumber_90 rfl (lv_at hl 2 rfl) ?_
            refine va_get (D := D) (ci := 4) (v := .long x24.2.2) (C := RX7) (T := TX7) (N := 4) hx hb hts hinX7_X7_parseNumber hown hK hP 2 rfl rfl 3 (by decide) (hts (.fieldLink RX7 20 "LimitTables$Text" "digits" "J") (by decide +kernel)) (fun _ h9 => h9) rfl dX7_parseNumber_91 ?_
            refine lv_l2d hx hb dX7_parseNumber_94 ?_
            refine lv_aload_n hx hb dX7_parseNumber_95 rfl (lv_at hl 2 rfl) ?_
            refine va_get (D := D) (ci := 4) (v := .int x24.2.1) (C := RX7) (T := TX7) (N := 4) hx hb hts hinX7_X7_parseNumber hown hK hP 2 rfl rfl 2 (by decide) (hts (.fieldLink RX7 17 "LimitTables$Text" "at" "I") (by decide +kernel)) (fun _ h9 => h9) rfl dX7_parseNumber_96 ?_
            refine lv_iload_n hx hb dX7_parseNumber_99 rfl (lv_at hl 0 rfl) ?_
            refine lv_isub hx hb dX7_parseNumber_100 ?_
            obtain ⟨x26, hx26, hf⟩ := bind_s hf
            refine cc_l (r := x26) (wc := []) (wr := [(a_p1, .inr (2, [.ref a_p1_numbers, .int v_p1.2])), (a_p1_numbers, .inl (k 1, 16, aD v_p1.1)), (a_this, .inr (4, [.ref a_this_characters, .int v_this_length, .int x24.2.1, .long x24.2.2])), (a_this_characters, .inl (k 0, 60, aI v_this_characters))]) (w1 := []) (va_runS (As := [.int (x24.2.1 - (x17.2.1 + (1 : Int32)))]) (rest := [.double (FP.l2d x24.2.2)]) ⟨hx, hb, hml, hown, hts⟩ (mt_X7_tenToThe l D k  _  (x24.2.1 - (x17.2.1 + (1 : Int32))) x26 hx26) (va_cwS 1 hts gX7_parseNumber_X7_tenToThe rfl rfl rfl (by decide +kernel) ⟨(Nat.le_of_ble_eq_true rfl), (Nat.le_of_ble_eq_true rfl)⟩) (cc_ps (wc := []) hK hP hD [] (by decide) rfl rfl) rfl rfl hl.1 rfl (lv_room (Nat.le_of_ble_eq_true rfl)) dX7_parseNumber_101 ⟨Nat.zero_le _, Nat.zero_le _⟩) hP hD hS hA [] [0, 1, 2, 3] rfl rfl (by decide) (by decide) (fun H locs hP hD hS => ?_)
            have hP : va_P D vwCl [(a_p1, .inr (2, [.ref a_p1_numbers, .int v_p1.2])), (a_p1_numbers, .inl (k 1, 16, aD v_p1.1)), (a_this, .inr (4, [.ref a_this_characters, .int v_this_length, .int x24.2.1, .long x24.2.2])), (a_this_characters, .inl (k 0, 60, aI v_this_characters))] H := hP
            have hD : va_D A [(a_p1, .inr (2, [.ref a_p1_numbers, .int v_p1.2])), (a_p1_numbers, .inl (k 1, 16, aD v_p1.1)), (a_this, .inr (4, [.ref a_this_characters, .int v_this_length, .int x24.2.1, .long x24.2.2])), (a_this_characters, .inl (k 0, 60, aI v_this_characters))] := hD
            refine lv_l2d hx hb dX7_parseNumber_104 ?_
            refine lv_ddiv hx hb dX7_parseNumber_105 (dop_h hf) ?_
            refine lv_topd (fun d27 ed27 => ?_)
            have hf := dop_at ed27 hf
            refine lv_dstore (lv' := [(4, .double d27), (3, .int (x17.2.1 + (1 : Int32))), (2, .int x1), (0, .ref a_this), (1, .ref a_p1)]) hx hb dX7_parseNumber_106 hl (by decide) rfl (fun ls hl => ?_)
            refine lv_aload_n hx hb dX7_parseNumber_108 rfl (lv_at hl 4 rfl) ?_
            refine lv_iload_n hx hb dX7_parseNumber_109 rfl (lv_at hl 2 rfl) ?_
            refine lv_if_eq (tgt := 120) hx hb dX7_parseNumber_110 (by decide) (fun _ => ?_) (fun h9 => absurd c2 h9)
            refine lv_dload hx hb dX7_parseNumber_120 (lv_at hl 0 rfl) ?_
            obtain ⟨x28, hx28, hf⟩ := bind_s hf
            refine cc_v (wc := [(a_p1, .inr (2, [.ref a_p1_numbers, .int v_p1.2])), (a_p1_numbers, .inl (k 1, 16, aD v_p1.1))]) (wr := [(a_this, .inr (4, [.ref a_this_characters, .int v_this_length, .int x24.2.1, .long x24.2.2])), (a_this_characters, .inl (k 0, 60, aI v_this_characters))]) (w1 := [(a_p1, .inr (2, [.ref a_p1_numbers, .int x28.2])), (a_p1_numbers, .inl (k 1, 16, aD x28.1))]) (va_runV (As := [.double d27]) (rest := []) ⟨hx, hb, hml, hown, hts⟩ (mt_X4_append l D k a_p1 a_p1_numbers _ v_p1 d27 x28 hx28) (cwV 1 hts gX7_parseNumber_X4_append rfl rfl rfl (by decide +kernel) ⟨(Nat.le_of_ble_eq_true rfl), (Nat.le_of_ble_eq_true rfl)⟩) (cc_pv (wc := [(a_p1, .inr (2, [.ref a_p1_numbers, .int v_p1.2])), (a_p1_numbers, .inl (k 1, 16, aD v_p1.1))]) hK hP hD [0, 1] (by decide) rfl rfl 2 0 rfl rfl rfl) rfl rfl hl.1 rfl (lv_room (Nat.le_of_ble_eq_true rfl)) dX7_parseNumber_122 ⟨Nat.zero_le _, Nat.zero_le _⟩) hP hD hS hA [0, 1] [2, 3] rfl rfl (by decide) (by decide) (fun H locs hP hD hS => ?_)
            have hP : va_P D vwCl [(a_this, .inr (4, [.ref a_this_characters, .int v_this_length, .int x24.2.1, .long x24.2.2])), (a_this_characters, .inl (k 0, 60, aI v_this_characters)), (a_p1, .inr (2, [.ref a_p1_numbers, .int x28.2])), (a_p1_numbers, .inl (k 1, 16, aD x28.1))] H := hP
            have hD : va_D A [(a_this, .inr (4, [.ref a_this_characters, .int v_this_length, .int x24.2.1, .long x24.2.2])), (a_this_characters, .inl (k 0, 60, aI v_this_characters)), (a_p1, .inr (2, [.ref a_p1_numbers, .int x28.2])), (a_p1_numbers, .inl (k 1, 16, aD x28.1))] := hD
            refine lv_iconst (v := 1) hx hb dX7_parseNumber_125 (by decide) ?_
            have ho := Option.some.inj hf
            subst ho
            exact W.zret (v := (1 : Int32)) (ty := .boolean) hx hb hr rfl (fun t ht hW => ⟨⟨(1 : Int32), (), rfl, rfl, by rw [ht]; exact hP.sub (ws' := [(a_this, .inr (4, [.ref a_this_characters, .int v_this_length, .int x24.2.1, .long x24.2.2])), (a_this_characters, .inl (k 0, 60, aI v_this_characters)), (a_p1, .inr (2, [.ref a_p1_numbers, .int x28.2])), (a_p1_numbers, .inl (k 1, 16, aD x28.1))]) [0, 1, 2, 3] rfl, va_K.moved hW.alike hK, hD.sub (ws' := [(a_this, .inr (4, [.ref a_this_characters, .int v_this_length, .int x24.2.1, .long x24.2.2])), (a_this_characters, .inl (k 0, 60, aI v_this_characters)), (a_p1, .inr (2, [.ref a_p1_numbers, .int x28.2])), (a_p1_numbers, .inl (k 1, 16, aD x28.1))]) [0, 1, 2, 3] (by decide) rfl⟩, hS.F ht⟩) hS.2.2 dX7_parseNumber_126
          · skip
            have hf := if_t c25 hf
            refine lv_iconst (v := 0) hx hb dX7_parseNumber_88 (by decide) ?_
            have ho := Option.some.inj hf
            subst ho
            exact W.zret (v := (0 : Int32)) (ty := .boolean) hx hb hr rfl (fun t ht hW => ⟨⟨(0 : Int32), (), rfl, rfl, by rw [ht]; exact hP.sub (ws' := [(a_this, .inr (4, [.ref a_this_characters, .int v_this_length, .int x24.2.1, .long x24.2.2])), (a_this_characters, .inl (k 0, 60, aI v_this_characters)), (a_p1, .inr (2, [.ref a_p1_numbers, .int v_p1.2])), (a_p1_numbers, .inl (k 1, 16, aD v_p1.1))]) [2, 3, 0, 1] rfl, va_K.moved hW.alike hK, hD.sub (ws' := [(a_this, .inr (4, [.ref a_this_characters, .int v_this_length, .int x24.2.1, .long x24.2.2])), (a_this_characters, .inl (k 0, 60, aI v_this_characters)), (a_p1, .inr (2, [.ref a_p1_numbers, .int v_p1.2])), (a_p1_numbers, .inl (k 1, 16, aD v_p1.1))]) [2, 3, 0, 1] (by decide) rfl⟩, hS.F ht⟩) hS.2.2 dX7_parseNumber_89
      · skip
        have hf := if_t c18 hf
        refine lv_iconst (v := 0) hx hb dX7_parseNumber_48 (by decide) ?_
        have ho := Option.some.inj hf
        subst ho
        exact W.zret (v := (0 : Int32)) (ty := .boolean) hx hb hr rfl (fun t ht hW => ⟨⟨(0 : Int32), (), rfl, rfl, by rw [ht]; exact hP.sub (ws' := [(a_this, .inr (4, [.ref a_this_characters, .int v_this_length, .int x17.2.1, .long x17.2.2])), (a_this_characters, .inl (k 0, 60, aI v_this_characters)), (a_p1, .inr (2, [.ref a_p1_numbers, .int v_p1.2])), (a_p1_numbers, .inl (k 1, 16, aD v_p1.1))]) [2, 3, 0, 1] rfl, va_K.moved hW.alike hK, hD.sub (ws' := [(a_this, .inr (4, [.ref a_this_characters, .int v_this_length, .int x17.2.1, .long x17.2.2])), (a_this_characters, .inl (k 0, 60, aI v_this_characters)), (a_p1, .inr (2, [.ref a_p1_numbers, .int v_p1.2])), (a_p1_numbers, .inl (k 1, 16, aD v_p1.1))]) [2, 3, 0, 1] (by decide) rfl⟩, hS.F ht⟩) hS.2.2 dX7_parseNumber_49
  · skip
    have hf := if_f c2 hf
    refine lv_aload_n hx hb dX7_parseNumber_16 rfl (lv_at hl 1 rfl) ?_
    refine lv_dup hx hb dX7_parseNumber_17 rfl ?_
    refine va_get (D := D) (ci := 4) (v := .int v_this_at) (C := RX7) (T := TX7) (N := 4) hx hb hts hinX7_X7_parseNumber hown hK hP 2 rfl rfl 2 (by decide) (hts (.fieldLink RX7 17 "LimitTables$Text" "at" "I") (by decide +kernel)) (fun _ h9 => h9) rfl dX7_parseNumber_18 ?_
    refine lv_iconst (v := 1) hx hb dX7_parseNumber_21 (by decide) ?_
    refine lv_iadd hx hb dX7_parseNumber_22 ?_
    refine va_put (D := D) (ci := 4) (v := .int (v_this_at + (1 : Int32))) (ty := .int) (C := RX7) (T := TX7) (N := 4) hx hb hts hinX7_X7_parseNumber tyX7 tyX7_ok nmX7 hown hK hP hD hS 2 rfl rfl 2 (by decide) (hts (.fieldLink RX7 17 "LimitTables$Text" "at" "I") (by decide +kernel)) (fun _ h9 => h9) rfl (by decide +kernel) rfl rfl (Nat.le_of_ble_eq_true rfl) dX7_parseNumber_23 (fun H locs hP hD hS => ?_)
    have hP : va_P D vwCl [(a_p1, .inr (2, [.ref a_p1_numbers, .int v_p1.2])), (a_p1_numbers, .inl (k 1, 16, aD v_p1.1)), (a_this, .inr (4, [.ref a_this_characters, .int v_this_length, .int (v_this_at + (1 : Int32)), .long (0 : Int64)])), (a_this_characters, .inl (k 0, 60, aI v_this_characters))] H := hP
    have hD : va_D A [(a_p1, .inr (2, [.ref a_p1_numbers, .int v_p1.2])), (a_p1_numbers, .inl (k 1, 16, aD v_p1.1)), (a_this, .inr (4, [.ref a_this_characters, .int v_this_length, .int (v_this_at + (1 : Int32)), .long (0 : Int64)])), (a_this_characters, .inl (k 0, 60, aI v_this_characters))] := hD
    refine lv_aload_n hx hb dX7_parseNumber_26 rfl (lv_at hl 1 rfl) ?_
    refine lv_aload_n hx hb dX7_parseNumber_27 rfl (lv_at hl 1 rfl) ?_
    refine lv_bipush (v := 48) hx hb dX7_parseNumber_28 (by decide) ?_
    obtain ⟨x29, hx29, hf⟩ := bind_s hf
    refine cc_i (r := x29) (wc := [(a_this, .inr (4, [.ref a_this_characters, .int v_this_length, .int (v_this_at + (1 : Int32)), .long (0 : Int64)])), (a_this_characters, .inl (k 0, 60, aI v_this_characters))]) (wr := [(a_p1, .inr (2, [.ref a_p1_numbers, .int v_p1.2])), (a_p1_numbers, .inl (k 1, 16, aD v_p1.1))]) (w1 := [(a_this, .inr (4, [.ref a_this_characters, .int v_this_length, .int (v_this_at + (1 : Int32)), .long (0 : Int64)])), (a_this_characters, .inl (k 0, 60, aI v_this_characters))]) (va_runV (As := [.int (48 : Int32)]) (rest := [.ref a_this]) ⟨hx, hb, hml, hown, hts⟩ (mt_X7_isHere l D k a_this a_this_characters _ v_this_characters v_this_length (v_this_at + (1 : Int32)) (0 : Int64) (48 : Int32) x29 hx29) (cwV 1 hts gX7_parseNumber_X7_isHere rfl rfl rfl (by decide +kernel) ⟨(Nat.le_of_ble_eq_true rfl), (Nat.le_of_ble_eq_true rfl)⟩) (cc_pv (wc := [(a_this, .inr (4, [.ref a_this_characters, .int v_this_length, .int (v_this_at + (1 : Int32)), .long (0 : Int64)])), (a_this_characters, .inl (k 0, 60, aI v_this_characters))]) hK hP hD [2, 3] (by decide) rfl rfl 4 2 rfl rfl rfl) rfl rfl hl.1 rfl (lv_room (Nat.le_of_ble_eq_true rfl)) dX7_parseNumber_30 ⟨Nat.zero_le _, Nat.zero_le _⟩) hP hD hS hA [2, 3] [0, 1] rfl rfl (by decide) (by decide) (fun H locs hP hD hS => ?_)
    have hP : va_P D vwCl [(a_p1, .inr (2, [.ref a_p1_numbers, .int v_p1.2])), (a_p1_numbers, .inl (k 1, 16, aD v_p1.1)), (a_this, .inr (4, [.ref a_this_characters, .int v_this_length, .int (v_this_at + (1 : Int32)), .long (0 : Int64)])), (a_this_characters, .inl (k 0, 60, aI v_this_characters))] H := hP
    have hD : va_D A [(a_p1, .inr (2, [.ref a_p1_numbers, .int v_p1.2])), (a_p1_numbers, .inl (k 1, 16, aD v_p1.1)), (a_this, .inr (4, [.ref a_this_characters, .int v_this_length, .int (v_this_at + (1 : Int32)), .long (0 : Int64)])), (a_this_characters, .inl (k 0, 60, aI v_this_characters))] := hD
    refine lv_if_eq (tgt := 40) hx hb dX7_parseNumber_33 (by decide) (fun c30 => ?_) (fun c30 => ?_)
    · skip
      have hf := if_t c30 hf
      refine lv_bipush (v := 6) hx hb dX7_parseNumber_40 (by decide) ?_
      obtain ⟨x31, hx31, hf⟩ := bind_s hf
      refine cc_i (r := x31.1) (wc := [(a_this, .inr (4, [.ref a_this_characters, .int v_this_length, .int (v_this_at + (1 : Int32)), .long (0 : Int64)])), (a_this_characters, .inl (k 0, 60, aI v_this_characters))]) (wr := [(a_p1, .inr (2, [.ref a_p1_numbers, .int v_p1.2])), (a_p1_numbers, .inl (k 1, 16, aD v_p1.1))]) (w1 := [(a_this, .inr (4, [.ref a_this_characters, .int v_this_length, .int x31.2.1, .long x31.2.2])), (a_this_characters, .inl (k 0, 60, aI v_this_characters))]) (va_runV (As := [.int (6 : Int32)]) (rest := []) ⟨hx, hb, hml, hown, hts⟩ (mt_X7_parseDigits l D k a_this a_this_characters _ v_this_characters v_this_length (v_this_at + (1 : Int32)) (0 : Int64) (6 : Int32) x31 hx31) (cwV 1 hts gX7_parseNumber_X7_parseDigits rfl rfl rfl (by decide +kernel) ⟨(Nat.le_of_ble_eq_true rfl), (Nat.le_of_ble_eq_true rfl)⟩) (cc_pv (wc := [(a_this, .inr (4, [.ref a_this_characters, .int v_this_length, .int (v_this_at + (1 : Int32)), .long (0 : Int64)])), (a_this_characters, .inl (k 0, 60, aI v_this_characters))]) hK hP hD [2, 3] (by decide) rfl rfl 4 2 rfl rfl rfl) rfl rfl hl.1 rfl (lv_room (Nat.le_of_ble_eq_true rfl)) dX7_parseNumber_42 ⟨Nat.zero_le _, Nat.zero_le _⟩) hP hD hS hA [2, 3] [0, 1] rfl rfl (by decide) (by decide) (fun H locs hP hD hS => ?_)
      have hP : va_P D vwCl [(a_p1, .inr (2, [.ref a_p1_numbers, .int v_p1.2])), (a_p1_numbers, .inl (k 1, 16, aD v_p1.1)), (a_this, .inr (4, [.ref a_this_characters, .int v_this_length, .int x31.2.1, .long x31.2.2])), (a_this_characters, .inl (k 0, 60, aI v_this_characters))] H := hP
      have hD : va_D A [(a_p1, .inr (2, [.ref a_p1_numbers, .int v_p1.2])), (a_p1_numbers, .inl (k 1, 16, aD v_p1.1)), (a_this, .inr (4, [.ref a_this_characters, .int v_this_length, .int x31.2.1, .long x31.2.2])), (a_this_characters, .inl (k 0, 60, aI v_this_characters))] := hD
      refine lv_if_ne (tgt := 50) hx hb dX7_parseNumber_45 (by decide) (fun c32 => ?_) (fun c32 => ?_)
      · skip
        have hf := if_f c32 hf
        refine lv_aload_n hx hb dX7_parseNumber_50 rfl (lv_at hl 1 rfl) ?_
        refine va_get (D := D) (ci := 4) (v := .int x31.2.1) (C := RX7) (T := TX7) (N := 4) hx hb hts hinX7_X7_parseNumber hown hK hP 2 rfl rfl 2 (by decide) (hts (.fieldLink RX7 17 "LimitTables$Text" "at" "I") (by decide +kernel)) (fun _ h9 => h9) rfl dX7_parseNumber_51 ?_
        refine lv_istore_n (lv' := [(3, .int x31.2.1), (2, .int x1), (0, .ref a_this), (1, .ref a_p1)]) hx hb dX7_parseNumber_54 rfl hl (by decide) rfl (fun ls hl => ?_)
        refine lv_aload_n hx hb dX7_parseNumber_55 rfl (lv_at hl 2 rfl) ?_
        refine lv_bipush (v := 46) hx hb dX7_parseNumber_56 (by decide) ?_
        obtain ⟨x33, hx33, hf⟩ := bind_s hf
        refine cc_i (r := x33) (wc := [(a_this, .inr (4, [.ref a_this_characters, .int v_this_length, .int x31.2.1, .long x31.2.2])), (a_this_characters, .inl (k 0, 60, aI v_this_characters))]) (wr := [(a_p1, .inr (2, [.ref a_p1_numbers, .int v_p1.2])), (a_p1_numbers, .inl (k 1, 16, aD v_p1.1))]) (w1 := [(a_this, .inr (4, [.ref a_this_characters, .int v_this_length, .int x31.2.1, .long x31.2.2])), (a_this_characters, .inl (k 0, 60, aI v_this_characters))]) (va_runV (As := [.int (46 : Int32)]) (rest := []) ⟨hx, hb, hml, hown, hts⟩ (mt_X7_isHere l D k a_this a_this_characters _ v_this_characters v_this_length x31.2.1 x31.2.2 (46 : Int32) x33 hx33) (cwV 1 hts gX7_parseNumber_X7_isHere rfl rfl rfl (by decide +kernel) ⟨(Nat.le_of_ble_eq_true rfl), (Nat.le_of_ble_eq_true rfl)⟩) (cc_pv (wc := [(a_this, .inr (4, [.ref a_this_characters, .int v_this_length, .int x31.2.1, .long x31.2.2])), (a_this_characters, .inl (k 0, 60, aI v_this_characters))]) hK hP hD [2, 3] (by decide) rfl rfl 4 2 rfl rfl rfl) rfl rfl hl.1 rfl (lv_room (Nat.le_of_ble_eq_true rfl)) dX7_parseNumber_58 ⟨Nat.zero_le _, Nat.zero_le _⟩) hP hD hS hA [2, 3] [0, 1] rfl rfl (by decide) (by decide) (fun H locs hP hD hS => ?_)
        have hP : va_P D vwCl [(a_p1, .inr (2, [.ref a_p1_numbers, .int v_p1.2])), (a_p1_numbers, .inl (k 1, 16, aD v_p1.1)), (a_this, .inr (4, [.ref a_this_characters, .int v_this_length, .int x31.2.1, .long x31.2.2])), (a_this_characters, .inl (k 0, 60, aI v_this_characters))] H := hP
        have hD : va_D A [(a_p1, .inr (2, [.ref a_p1_numbers, .int v_p1.2])), (a_p1_numbers, .inl (k 1, 16, aD v_p1.1)), (a_this, .inr (4, [.ref a_this_characters, .int v_this_length, .int x31.2.1, .long x31.2.2])), (a_this_characters, .inl (k 0, 60, aI v_this_characters))] := hD
        refine lv_if_eq (tgt := 90) hx hb dX7_parseNumber_61 (by decide) (fun c34 => ?_) (fun c34 => ?_)
        · skip
          have hf := if_t c34 hf
          refine lv_aload_n hx hb dX7_parseNumber_90 rfl (lv_at hl 2 rfl) ?_
          refine va_get (D := D) (ci := 4) (v := .long x31.2.2) (C := RX7) (T := TX7) (N := 4) hx hb hts hinX7_X7_parseNumber hown hK hP 2 rfl rfl 3 (by decide) (hts (.fieldLink RX7 20 "LimitTables$Text" "digits" "J") (by decide +kernel)) (fun _ h9 => h9) rfl dX7_parseNumber_91 ?_
          refine lv_l2d hx hb dX7_parseNumber_94 ?_
          refine lv_aload_n hx hb dX7_parseNumber_95 rfl (lv_at hl 2 rfl) ?_
          refine va_get (D := D) (ci := 4) (v := .int x31.2.1) (C := RX7) (T := TX7) (N := 4) hx hb hts hinX7_X7_parseNumber hown hK hP 2 rfl rfl 2 (by decide) (hts (.fieldLink RX7 17 "LimitTables$Text" "at" "I") (by decide +kernel)) (fun _ h9 => h9) rfl dX7_parseNumber_96 ?_
          refine lv_iload_n hx hb dX7_parseNumber_99 rfl (lv_at hl 0 rfl) ?_
          refine lv_isub hx hb dX7_parseNumber_100 ?_
          obtain ⟨x35, hx35, hf⟩ := bind_s hf
          refine cc_l (r := x35) (wc := []) (wr := [(a_p1, .inr (2, [.ref a_p1_numbers, .int v_p1.2])), (a_p1_numbers, .inl (k 1, 16, aD v_p1.1)), (a_this, .inr (4, [.ref a_this_characters, .int v_this_length, .int x31.2.1, .long x31.2.2])), (a_this_characters, .inl (k 0, 60, aI v_this_characters))]) (w1 := []) (va_runS (As := [.int (x31.2.1 - x31.2.1)]) (rest := [.double (FP.l2d x31.2.2)]) ⟨hx, hb, hml, hown, hts⟩ (mt_X7_tenToThe l D k  _  (x31.2.1 - x31.2.1) x35 hx35) (va_cwS 1 hts gX7_parseNumber_X7_tenToThe rfl rfl rfl (by decide +kernel) ⟨(Nat.le_of_ble_eq_true rfl), (Nat.le_of_ble_eq_true rfl)⟩) (cc_ps (wc := []) hK hP hD [] (by decide) rfl rfl) rfl rfl hl.1 rfl (lv_room (Nat.le_of_ble_eq_true rfl)) dX7_parseNumber_101 ⟨Nat.zero_le _, Nat.zero_le _⟩) hP hD hS hA [] [0, 1, 2, 3] rfl rfl (by decide) (by decide) (fun H locs hP hD hS => ?_)
          have hP : va_P D vwCl [(a_p1, .inr (2, [.ref a_p1_numbers, .int v_p1.2])), (a_p1_numbers, .inl (k 1, 16, aD v_p1.1)), (a_this, .inr (4, [.ref a_this_characters, .int v_this_length, .int x31.2.1, .long x31.2.2])), (a_this_characters, .inl (k 0, 60, aI v_this_characters))] H := hP
          have hD : va_D A [(a_p1, .inr (2, [.ref a_p1_numbers, .int v_p1.2])), (a_p1_numbers, .inl (k 1, 16, aD v_p1.1)), (a_this, .inr (4, [.ref a_this_characters, .int v_this_length, .int x31.2.1, .long x31.2.2])), (a_this_characters, .inl (k 0, 60, aI v_this_characters))] := hD
          refine lv_l2d hx hb dX7_parseNumber_104 ?_
          refine lv_ddiv hx hb dX7_parseNumber_105 (dop_h hf) ?_
          refine lv_topd (fun d36 ed36 => ?_)
          have hf := dop_at ed36 hf
          refine lv_dstore (lv' := [(4, .double d36), (3, .int x31.2.1), (2, .int x1), (0, .ref a_this), (1, .ref a_p1)]) hx hb dX7_parseNumber_106 hl (by decide) rfl (fun ls hl => ?_)
          refine lv_aload_n hx hb dX7_parseNumber_108 rfl (lv_at hl 4 rfl) ?_
          refine lv_iload_n hx hb dX7_parseNumber_109 rfl (lv_at hl 2 rfl) ?_
          refine lv_if_eq (tgt := 120) hx hb dX7_parseNumber_110 (by decide) (fun h9 => absurd h9 c2) (fun _ => ?_)
          refine lv_dconst0 hx hb dX7_parseNumber_113 ?_
          refine lv_dload hx hb dX7_parseNumber_114 (lv_at hl 0 rfl) ?_
          refine lv_dsub hx hb dX7_parseNumber_116 (dop_h hf) ?_
          refine lv_topd (fun d37 ed37 => ?_)
          have hf := dop_at ed37 hf
          refine lv_goto (tgt := 122) hx hb dX7_parseNumber_117 (by decide) ?_
          obtain ⟨x38, hx38, hf⟩ := bind_s hf
          refine cc_v (wc := [(a_p1, .inr (2, [.ref a_p1_numbers, .int v_p1.2])), (a_p1_numbers, .inl (k 1, 16, aD v_p1.1))]) (wr := [(a_this, .inr (4, [.ref a_this_characters, .int v_this_length, .int x31.2.1, .long x31.2.2])), (a_this_characters, .inl (k 0, 60, aI v_this_characters))]) (w1 := [(a_p1, .inr (2, [.ref a_p1_numbers, .int x38.2])), (a_p1_numbers, .inl (k 1, 16, aD x38.1))]) (va_runV (As := [.double d37]) (rest := []) ⟨hx, hb, hml, hown, hts⟩ (mt_X4_append l D k a_p1 a_p1_numbers _ v_p1 d37 x38 hx38) (cwV 1 hts gX7_parseNumber_X4_append rfl rfl rfl (by decide +kernel) ⟨(Nat.le_of_ble_eq_true rfl), (Nat.le_of_ble_eq_true rfl)⟩) (cc_pv (wc := [(a_p1, .inr (2, [.ref a_p1_numbers, .int v_p1.2])), (a_p1_numbers, .inl (k 1, 16, aD v_p1.1))]) hK hP hD [0, 1] (by decide) rfl rfl 2 0 rfl rfl rfl) rfl rfl hl.1 rfl (lv_room (Nat.le_of_ble_eq_true rfl)) dX7_parseNumber_122 ⟨Nat.zero_le _, Nat.zero_le _⟩) hP hD hS hA [0, 1] [2, 3] rfl rfl (by decide) (by decide) (fun H locs hP hD hS => ?_)
          have hP : va_P D vwCl [(a_this, .inr (4, [.ref a_this_characters, .int v_this_length, .int x31.2.1, .long x31.2.2])), (a_this_characters, .inl (k 0, 60, aI v_this_characters)), (a_p1, .inr (2, [.ref a_p1_numbers, .int x38.2])), (a_p1_numbers, .inl (k 1, 16, aD x38.1))] H := hP
          have hD : va_D A [(a_this, .inr (4, [.ref a_this_characters, .int v_this_length, .int x31.2.1, .long x31.2.2])), (a_this_characters, .inl (k 0, 60, aI v_this_characters)), (a_p1, .inr (2, [.ref a_p1_numbers, .int x38.2])), (a_p1_numbers, .inl (k 1, 16, aD x38.1))] := hD
          refine lv_iconst (v := 1) hx hb dX7_parseNumber_125 (by decide) ?_
          have ho := Option.some.inj hf
          subst ho
          exact W.zret (v := (1 : Int32)) (ty := .boolean) hx hb hr rfl (fun t ht hW => ⟨⟨(1 : Int32), (), rfl, rfl, by rw [ht]; exact hP.sub (ws' := [(a_this, .inr (4, [.ref a_this_characters, .int v_this_length, .int x31.2.1, .long x31.2.2])), (a_this_characters, .inl (k 0, 60, aI v_this_characters)), (a_p1, .inr (2, [.ref a_p1_numbers, .int x38.2])), (a_p1_numbers, .inl (k 1, 16, aD x38.1))]) [0, 1, 2, 3] rfl, va_K.moved hW.alike hK, hD.sub (ws' := [(a_this, .inr (4, [.ref a_this_characters, .int v_this_length, .int x31.2.1, .long x31.2.2])), (a_this_characters, .inl (k 0, 60, aI v_this_characters)), (a_p1, .inr (2, [.ref a_p1_numbers, .int x38.2])), (a_p1_numbers, .inl (k 1, 16, aD x38.1))]) [0, 1, 2, 3] (by decide) rfl⟩, hS.F ht⟩) hS.2.2 dX7_parseNumber_126
        · skip
          have hf := if_f c34 hf
          refine lv_aload_n hx hb dX7_parseNumber_64 rfl (lv_at hl 2 rfl) ?_
          refine lv_dup hx hb dX7_parseNumber_65 rfl ?_
          refine va_get (D := D) (ci := 4) (v := .int x31.2.1) (C := RX7) (T := TX7) (N := 4) hx hb hts hinX7_X7_parseNumber hown hK hP 2 rfl rfl 2 (by decide) (hts (.fieldLink RX7 17 "LimitTables$Text" "at" "I") (by decide +kernel)) (fun _ h9 => h9) rfl dX7_parseNumber_66 ?_
          refine lv_iconst (v := 1) hx hb dX7_parseNumber_69 (by decide) ?_
          refine lv_iadd hx hb dX7_parseNumber_70 ?_
          refine va_put (D := D) (ci := 4) (v := .int (x31.2.1 + (1 : Int32))) (ty := .int) (C := RX7) (T := TX7) (N := 4) hx hb hts hinX7_X7_parseNumber tyX7 tyX7_ok nmX7 hown hK hP hD hS 2 rfl rfl 2 (by decide) (hts (.fieldLink RX7 17 "LimitTables$Text" "at" "I") (by decide +kernel)) (fun _ h9 => h9) rfl (by decide +kernel) rfl rfl (Nat.le_of_ble_eq_true rfl) dX7_parseNumber_71 (fun H locs hP hD hS => ?_)
          have hP : va_P D vwCl [(a_p1, .inr (2, [.ref a_p1_numbers, .int v_p1.2])), (a_p1_numbers, .inl (k 1, 16, aD v_p1.1)), (a_this, .inr (4, [.ref a_this_characters, .int v_this_length, .int (x31.2.1 + (1 : Int32)), .long x31.2.2])), (a_this_characters, .inl (k 0, 60, aI v_this_characters))] H := hP
          have hD : va_D A [(a_p1, .inr (2, [.ref a_p1_numbers, .int v_p1.2])), (a_p1_numbers, .inl (k 1, 16, aD v_p1.1)), (a_this, .inr (4, [.ref a_this_characters, .int v_this_length, .int (x31.2.1 + (1 : Int32)), .long x31.2.2])), (a_this_characters, .inl (k 0, 60, aI v_this_characters))] := hD
          refine lv_aload_n hx hb dX7_parseNumber_74 rfl (lv_at hl 2 rfl) ?_
          refine va_get (D := D) (ci := 4) (v := .int (x31.2.1 + (1 : Int32))) (C := RX7) (T := TX7) (N := 4) hx hb hts hinX7_X7_parseNumber hown hK hP 2 rfl rfl 2 (by decide) (hts (.fieldLink RX7 17 "LimitTables$Text" "at" "I") (by decide +kernel)) (fun _ h9 => h9) rfl dX7_parseNumber_75 ?_
          refine lv_istore_n (lv' := [(3, .int (x31.2.1 + (1 : Int32))), (2, .int x1), (0, .ref a_this), (1, .ref a_p1)]) hx hb dX7_parseNumber_78 rfl hl (by decide) rfl (fun ls hl => ?_)
          refine lv_aload_n hx hb dX7_parseNumber_79 rfl (lv_at hl 2 rfl) ?_
          refine lv_bipush (v := 6) hx hb dX7_parseNumber_80 (by decide) ?_
          obtain ⟨x39, hx39, hf⟩ := bind_s hf
          refine cc_i (r := x39.1) (wc := [(a_this, .inr (4, [.ref a_this_characters, .int v_this_length, .int (x31.2.1 + (1 : Int32)), .long x31.2.2])), (a_this_characters, .inl (k 0, 60, aI v_this_characters))]) (wr := [(a_p1, .inr (2, [.ref a_p1_numbers, .int v_p1.2])), (a_p1_numbers, .inl (k 1, 16, aD v_p1.1))]) (w1 := [(a_this, .inr (4, [.ref a_this_characters, .int v_this_length, .int x39.2.1, .long x39.2.2])), (a_this_characters, .inl (k 0, 60, aI v_this_characters))]) (va_runV (As := [.int (6 : Int32)]) (rest := []) ⟨hx, hb, hml, hown, hts⟩ (mt_X7_parseDigits l D k a_this a_this_characters _ v_this_characters v_this_length (x31.2.1 + (1 : Int32)) x31.2.2 (6 : Int32) x39 hx39) (cwV 1 hts gX7_parseNumber_X7_parseDigits rfl rfl rfl (by decide +kernel) ⟨(Nat.le_of_ble_eq_true rfl), (Nat.le_of_ble_eq_true rfl)⟩) (cc_pv (wc := [(a_this, .inr (4, [.ref a_this_characters, .int v_this_length, .int (x31.2.1 + (1 : Int32)), .long x31.2.2])), (a_this_characters, .inl (k 0, 60, aI v_this_characters))]) hK hP hD [2, 3] (by decide) rfl rfl 4 2 rfl rfl rfl) rfl rfl hl.1 rfl (lv_room (Nat.le_of_ble_eq_true rfl)) dX7_parseNumber_82 ⟨Nat.zero_le _, Nat.zero_le _⟩) hP hD hS hA [2, 3] [0, 1] rfl rfl (by decide) (by decide) (fun H locs hP hD hS => ?_)
          have hP : va_P D vwCl [(a_p1, .inr (2, [.ref a_p1_numbers, .int v_p1.2])), (a_p1_numbers, .inl (k 1, 16, aD v_p1.1)), (a_this, .inr (4, [.ref a_this_characters, .int v_this_length, .int x39.2.1, .long x39.2.2])), (a_this_characters, .inl (k 0, 60, aI v_this_characters))] H := hP
          have hD : va_D A [(a_p1, .inr (2, [.ref a_p1_numbers, .int v_p1.2])), (a_p1_numbers, .inl (k 1, 16, aD v_p1.1)), (a_this, .inr (4, [.ref a_this_characters, .int v_this_length, .int x39.2.1, .long x39.2.2])), (a_this_characters, .inl (k 0, 60, aI v_this_characters))] := hD
          refine lv_if_ne (tgt := 90) hx hb dX7_parseNumber_85 (by decide) (fun c40 => ?_) (fun c40 => ?_)
          · skip
            have hf := if_f c40 hf
            refine lv_aload_n hx hb dX7_parseNumber_90 rfl (lv_at hl 2 rfl) ?_
            refine va_get (D := D) (ci := 4) (v := .long x39.2.2) (C := RX7) (T := TX7) (N := 4) hx hb hts hinX7_X7_parseNumber hown hK hP 2 rfl rfl 3 (by decide) (hts (.fieldLink RX7 20 "LimitTables$Text" "digits" "J") (by decide +kernel)) (fun _ h9 => h9) rfl dX7_parseNumber_91 ?_
            refine lv_l2d hx hb dX7_parseNumber_94 ?_
            refine lv_aload_n hx hb dX7_parseNumber_95 rfl (lv_at hl 2 rfl) ?_
            refine va_get (D := D) (ci := 4) (v := .int x39.2.1) (C := RX7) (T := TX7) (N := 4) hx hb hts hinX7_X7_parseNumber hown hK hP 2 rfl rfl 2 (by decide) (hts (.fieldLink RX7 17 "LimitTables$Text" "at" "I") (by decide +kernel)) (fun _ h9 => h9) rfl dX7_parseNumber_96 ?_
            refine lv_iload_n hx hb dX7_parseNumber_99 rfl (lv_at hl 0 rfl) ?_
            refine lv_isub hx hb dX7_parseNumber_100 ?_
            obtain ⟨x41, hx41, hf⟩ := bind_s hf
            refine cc_l (r := x41) (wc := []) (wr := [(a_p1, .inr (2, [.ref a_p1_numbers, .int v_p1.2])), (a_p1_numbers, .inl (k 1, 16, aD v_p1.1)), (a_this, .inr (4, [.ref a_this_characters, .int v_this_length, .int x39.2.1, .long x39.2.2])), (a_this_characters, .inl (k 0, 60, aI v_this_characters))]) (w1 := []) (va_runS (As := [.int (x39.2.1 - (x31.2.1 + (1 : Int32)))]) (rest := [.double (FP.l2d x39.2.2)]) ⟨hx, hb, hml, hown, hts⟩ (mt_X7_tenToThe l D k  _  (x39.2.1 - (x31.2.1 + (1 : Int32))) x41 hx41) (va_cwS 1 hts gX7_parseNumber_X7_tenToThe rfl rfl rfl (by decide +kernel) ⟨(Nat.le_of_ble_eq_true rfl), (Nat.le_of_ble_eq_true rfl)⟩) (cc_ps (wc := []) hK hP hD [] (by decide) rfl rfl) rfl rfl hl.1 rfl (lv_room (Nat.le_of_ble_eq_true rfl)) dX7_parseNumber_101 ⟨Nat.zero_le _, Nat.zero_le _⟩) hP hD hS hA [] [0, 1, 2, 3] rfl rfl (by decide) (by decide) (fun H locs hP hD hS => ?_)
            have hP : va_P D vwCl [(a_p1, .inr (2, [.ref a_p1_numbers, .int v_p1.2])), (a_p1_numbers, .inl (k 1, 16, aD v_p1.1)), (a_this, .inr (4, [.ref a_this_characters, .int v_this_length, .int x39.2.1, .long x39.2.2])), (a_this_characters, .inl (k 0, 60, aI v_this_characters))] H := hP
            have hD : va_D A [(a_p1, .inr (2, [.ref a_p1_numbers, .int v_p1.2])), (a_p1_numbers, .inl (k 1, 16, aD v_p1.1)), (a_this, .inr (4, [.ref a_this_characters, .int v_this_length, .int x39.2.1, .long x39.2.2])), (a_this_characters, .inl (k 0, 60, aI v_this_characters))] := hD
            refine lv_l2d hx hb dX7_parseNumber_104 ?_
            refine lv_ddiv hx hb dX7_parseNumber_105 (dop_h hf) ?_
            refine lv_topd (fun d42 ed42 => ?_)
            have hf := dop_at ed42 hf
            refine lv_dstore (lv' := [(4, .double d42), (3, .int (x31.2.1 + (1 : Int32))), (2, .int x1), (0, .ref a_this), (1, .ref a_p1)]) hx hb dX7_parseNumber_106 hl (by decide) rfl (fun ls hl => ?_)
            refine lv_aload_n hx hb dX7_parseNumber_108 rfl (lv_at hl 4 rfl) ?_
            refine lv_iload_n hx hb dX7_parseNumber_109 rfl (lv_at hl 2 rfl) ?_
            refine lv_if_eq (tgt := 120) hx hb dX7_parseNumber_110 (by decide) (fun h9 => absurd h9 c2) (fun _ => ?_)
            refine lv_dconst0 hx hb dX7_parseNumber_113 ?_
            refine lv_dload hx hb dX7_parseNumber_114 (lv_at hl 0 rfl) ?_
            refine lv_dsub hx hb dX7_parseNumber_116 (dop_h hf) ?_
            refine lv_topd (fun d43 ed43 => ?_)
            have hf := dop_at ed43 hf
            refine lv_goto (tgt := 122) hx hb dX7_parseNumber_117 (by decide) ?_
            obtain ⟨x44, hx44, hf⟩ := bind_s hf
            refine cc_v (wc := [(a_p1, .inr (2, [.ref a_p1_numbers, .int v_p1.2])), (a_p1_numbers, .inl (k 1, 16, aD v_p1.1))]) (wr := [(a_this, .inr (4, [.ref a_this_characters, .int v_this_length, .int x39.2.1, .long x39.2.2])), (a_this_characters, .inl (k 0, 60, aI v_this_characters))]) (w1 := [(a_p1, .inr (2, [.ref a_p1_numbers, .int x44.2])), (a_p1_numbers, .inl (k 1, 16, aD x44.1))]) (va_runV (As := [.double d43]) (rest := []) ⟨hx, hb, hml, hown, hts⟩ (mt_X4_append l D k a_p1 a_p1_numbers _ v_p1 d43 x44 hx44) (cwV 1 hts gX7_parseNumber_X4_append rfl rfl rfl (by decide +kernel) ⟨(Nat.le_of_ble_eq_true rfl), (Nat.le_of_ble_eq_true rfl)⟩) (cc_pv (wc := [(a_p1, .inr (2, [.ref a_p1_numbers, .int v_p1.2])), (a_p1_numbers, .inl (k 1, 16, aD v_p1.1))]) hK hP hD [0, 1] (by decide) rfl rfl 2 0 rfl rfl rfl) rfl rfl hl.1 rfl (lv_room (Nat.le_of_ble_eq_true rfl)) dX7_parseNumber_122 ⟨Nat.zero_le _, Nat.zero_le _⟩) hP hD hS hA [0, 1] [2, 3] rfl rfl (by decide) (by decide) (fun H locs hP hD hS => ?_)
            have hP : va_P D vwCl [(a_this, .inr (4, [.ref a_this_characters, .int v_this_length, .int x39.2.1, .long x39.2.2])), (a_this_characters, .inl (k 0, 60, aI v_this_characters)), (a_p1, .inr (2, [.ref a_p1_numbers, .int x44.2])), (a_p1_numbers, .inl (k 1, 16, aD x44.1))] H := hP
            have hD : va_D A [(a_this, .inr (4, [.ref a_this_characters, .int v_this_length, .int x39.2.1, .long x39.2.2])), (a_this_characters, .inl (k 0, 60, aI v_this_characters)), (a_p1, .inr (2, [.ref a_p1_numbers, .int x44.2])), (a_p1_numbers, .inl (k 1, 16, aD x44.1))] := hD
            refine lv_iconst (v := 1) hx hb dX7_parseNumber_125 (by decide) ?_
            have ho := Option.some.inj hf
            subst ho
            exact W.zret (v := (1 : Int32)) (ty := .boolean) hx hb hr rfl (fun t ht hW => ⟨⟨(1 : Int32), (), rfl, rfl, by rw [ht]; exact hP.sub (ws' := [(a_this, .inr (4, [.ref a_this_characters, .int v_this_length, .int x39.2.1, .long x39.2.2])), (a_this_characters, .inl (k 0, 60, aI v_this_characters)), (a_p1, .inr (2, [.ref a_p1_numbers, .int x44.2])), (a_p1_numbers, .inl (k 1, 16, aD x44.1))]) [0, 1, 2, 3] rfl, va_K.moved hW.alike hK, hD.sub (ws' := [(a_this, .inr (4, [.ref a_this_characters, .int v_this_length, .int x39.2.1, .long x39.2.2])), (a_this_characters, .inl (k 0, 60, aI v_this_characters)), (a_p1, .inr (2, [.ref a_p1_numbers, .int x44.2])), (a_p1_numbers, .inl (k 1, 16, aD x44.1))]) [0, 1, 2, 3] (by decide) rfl⟩, hS.F ht⟩) hS.2.2 dX7_parseNumber_126
          · skip
            have hf := if_t c40 hf
            refine lv_iconst (v := 0) hx hb dX7_parseNumber_88 (by decide) ?_
            have ho := Option.some.inj hf
            subst ho
            exact W.zret (v := (0 : Int32)) (ty := .boolean) hx hb hr rfl (fun t ht hW => ⟨⟨(0 : Int32), (), rfl, rfl, by rw [ht]; exact hP.sub (ws' := [(a_this, .inr (4, [.ref a_this_characters, .int v_this_length, .int x39.2.1, .long x39.2.2])), (a_this_characters, .inl (k 0, 60, aI v_this_characters)), (a_p1, .inr (2, [.ref a_p1_numbers, .int v_p1.2])), (a_p1_numbers, .inl (k 1, 16, aD v_p1.1))]) [2, 3, 0, 1] rfl, va_K.moved hW.alike hK, hD.sub (ws' := [(a_this, .inr (4, [.ref a_this_characters, .int v_this_length, .int x39.2.1, .long x39.2.2])), (a_this_characters, .inl (k 0, 60, aI v_this_characters)), (a_p1, .inr (2, [.ref a_p1_numbers, .int v_p1.2])), (a_p1_numbers, .inl (k 1, 16, aD v_p1.1))]) [2, 3, 0, 1] (by decide) rfl⟩, hS.F ht⟩) hS.2.2 dX7_parseNumber_89
      · skip
        have hf := if_t c32 hf
        refine lv_iconst (v := 0) hx hb dX7_parseNumber_48 (by decide) ?_
        have ho := Option.some.inj hf
        subst ho
        exact W.zret (v := (0 : Int32)) (ty := .boolean) hx hb hr rfl (fun t ht hW => ⟨⟨(0 : Int32), (), rfl, rfl, by rw [ht]; exact hP.sub (ws' := [(a_this, .inr (4, [.ref a_this_characters, .int v_this_length, .int x31.2.1, .long x31.2.2])), (a_this_characters, .inl (k 0, 60, aI v_this_characters)), (a_p1, .inr (2, [.ref a_p1_numbers, .int v_p1.2])), (a_p1_numbers, .inl (k 1, 16, aD v_p1.1))]) [2, 3, 0, 1] rfl, va_K.moved hW.alike hK, hD.sub (ws' := [(a_this, .inr (4, [.ref a_this_characters, .int v_this_length, .int x31.2.1, .long x31.2.2])), (a_this_characters, .inl (k 0, 60, aI v_this_characters)), (a_p1, .inr (2, [.ref a_p1_numbers, .int v_p1.2])), (a_p1_numbers, .inl (k 1, 16, aD v_p1.1))]) [2, 3, 0, 1] (by decide) rfl⟩, hS.F ht⟩) hS.2.2 dX7_parseNumber_49
    · skip
      have hf := if_f c30 hf
      refine lv_iconst (v := 1) hx hb dX7_parseNumber_36 (by decide) ?_
      refine lv_goto (tgt := 42) hx hb dX7_parseNumber_37 (by decide) ?_
      obtain ⟨x45, hx45, hf⟩ := bind_s hf
      refine cc_i (r := x45.1) (wc := [(a_this, .inr (4, [.ref a_this_characters, .int v_this_length, .int (v_this_at + (1 : Int32)), .long (0 : Int64)])), (a_this_characters, .inl (k 0, 60, aI v_this_characters))]) (wr := [(a_p1, .inr (2, [.ref a_p1_numbers, .int v_p1.2])), (a_p1_numbers, .inl (k 1, 16, aD v_p1.1))]) (w1 := [(a_this, .inr (4, [.ref a_this_characters, .int v_this_length, .int x45.2.1, .long x45.2.2])), (a_this_characters, .inl (k 0, 60, aI v_this_characters))]) (va_runV (As := [.int (1 : Int32)]) (rest := []) ⟨hx, hb, hml, hown, hts⟩ (mt_X7_parseDigits l D k a_this a_this_characters _ v_this_characters v_this_length (v_this_at + (1 : Int32)) (0 : Int64) (1 : Int32) x45 hx45) (cwV 1 hts gX7_parseNumber_X7_parseDigits rfl rfl rfl (by decide +kernel) ⟨(Nat.le_of_ble_eq_true rfl), (Nat.le_of_ble_eq_true rfl)⟩) (cc_pv (wc := [(a_this, .inr (4, [.ref a_this_characters, .int v_this_length, .int (v_this_at + (1 : Int32)), .long (0 : Int64)])), (a_this_characters, .inl (k 0, 60, aI v_this_characters))]) hK hP hD [2, 3] (by decide) rfl rfl 4 2 rfl rfl rfl) rfl rfl hl.1 rfl (lv_room (Nat.le_of_ble_eq_true rfl)) dX7_parseNumber_42 ⟨Nat.zero_le _, Nat.zero_le _⟩) hP hD hS hA [2, 3] [0, 1] rfl rfl (by decide) (by decide) (fun H locs hP hD hS => ?_)
      have hP : va_P D vwCl [(a_p1, .inr (2, [.ref a_p1_numbers, .int v_p1.2])), (a_p1_numbers, .inl (k 1, 16, aD v_p1.1)), (a_this, .inr (4, [.ref a_this_characters, .int v_this_length, .int x45.2.1, .long x45.2.2])), (a_this_characters, .inl (k 0, 60, aI v_this_characters))] H := hP
      have hD : va_D A [(a_p1, .inr (2, [.ref a_p1_numbers, .int v_p1.2])), (a_p1_numbers, .inl (k 1, 16, aD v_p1.1)), (a_this, .inr (4, [.ref a_this_characters, .int v_this_length, .int x45.2.1, .long x45.2.2])), (a_this_characters, .inl (k 0, 60, aI v_this_characters))] := hD
      refine lv_if_ne (tgt := 50) hx hb dX7_parseNumber_45 (by decide) (fun c46 => ?_) (fun c46 => ?_)
      · skip
        have hf := if_f c46 hf
        refine lv_aload_n hx hb dX7_parseNumber_50 rfl (lv_at hl 1 rfl) ?_
        refine va_get (D := D) (ci := 4) (v := .int x45.2.1) (C := RX7) (T := TX7) (N := 4) hx hb hts hinX7_X7_parseNumber hown hK hP 2 rfl rfl 2 (by decide) (hts (.fieldLink RX7 17 "LimitTables$Text" "at" "I") (by decide +kernel)) (fun _ h9 => h9) rfl dX7_parseNumber_51 ?_
        refine lv_istore_n (lv' := [(3, .int x45.2.1), (2, .int x1), (0, .ref a_this), (1, .ref a_p1)]) hx hb dX7_parseNumber_54 rfl hl (by decide) rfl (fun ls hl => ?_)
        refine lv_aload_n hx hb dX7_parseNumber_55 rfl (lv_at hl 2 rfl) ?_
        refine lv_bipush (v := 46) hx hb dX7_parseNumber_56 (by decide) ?_
        obtain ⟨x47, hx47, hf⟩ := bind_s hf
        refine cc_i (r := x47) (wc := [(a_this, .inr (4, [.ref a_this_characters, .int v_this_length, .int x45.2.1, .long x45.2.2])), (a_this_characters, .inl (k 0, 60, aI v_this_characters))]) (wr := [(a_p1, .inr (2, [.ref a_p1_numbers, .int v_p1.2])), (a_p1_numbers, .inl (k 1, 16, aD v_p1.1))]) (w1 := [(a_this, .inr (4, [.ref a_this_characters, .int v_this_length, .int x45.2.1, .long x45.2.2])), (a_this_characters, .inl (k 0, 60, aI v_this_characters))]) (va_runV (As := [.int (46 : Int32)]) (rest := []) ⟨hx, hb, hml, hown, hts⟩ (mt_X7_isHere l D k a_this a_this_characters _ v_this_characters v_this_length x45.2.1 x45.2.2 (46 : Int32) x47 hx47) (cwV 1 hts gX7_parseNumber_X7_isHere rfl rfl rfl (by decide +kernel) ⟨(Nat.le_of_ble_eq_true rfl), (Nat.le_of_ble_eq_true rfl)⟩) (cc_pv (wc := [(a_this, .inr (4, [.ref a_this_characters, .int v_this_length, .int x45.2.1, .long x45.2.2])), (a_this_characters, .inl (k 0, 60, aI v_this_characters))]) hK hP hD [2, 3] (by decide) rfl rfl 4 2 rfl rfl rfl) rfl rfl hl.1 rfl (lv_room (Nat.le_of_ble_eq_true rfl)) dX7_parseNumber_58 ⟨Nat.zero_le _, Nat.zero_le _⟩) hP hD hS hA [2, 3] [0, 1] rfl rfl (by decide) (by decide) (fun H locs hP hD hS => ?_)
        have hP : va_P D vwCl [(a_p1, .inr (2, [.ref a_p1_numbers, .int v_p1.2])), (a_p1_numbers, .inl (k 1, 16, aD v_p1.1)), (a_this, .inr (4, [.ref a_this_characters, .int v_this_length, .int x45.2.1, .long x45.2.2])), (a_this_characters, .inl (k 0, 60, aI v_this_characters))] H := hP
        have hD : va_D A [(a_p1, .inr (2, [.ref a_p1_numbers, .int v_p1.2])), (a_p1_numbers, .inl (k 1, 16, aD v_p1.1)), (a_this, .inr (4, [.ref a_this_characters, .int v_this_length, .int x45.2.1, .long x45.2.2])), (a_this_characters, .inl (k 0, 60, aI v_this_characters))] := hD
        refine lv_if_eq (tgt := 90) hx hb dX7_parseNumber_61 (by decide) (fun c48 => ?_) (fun c48 => ?_)
        · skip
          have hf := if_t c48 hf
          refine lv_aload_n hx hb dX7_parseNumber_90 rfl (lv_at hl 2 rfl) ?_
          refine va_get (D := D) (ci := 4) (v := .long x45.2.2) (C := RX7) (T := TX7) (N := 4) hx hb hts hinX7_X7_parseNumber hown hK hP 2 rfl rfl 3 (by decide) (hts (.fieldLink RX7 20 "LimitTables$Text" "digits" "J") (by decide +kernel)) (fun _ h9 => h9) rfl dX7_parseNumber_91 ?_
          refine lv_l2d hx hb dX7_parseNumber_94 ?_
          refine lv_aload_n hx hb dX7_parseNumber_95 rfl (lv_at hl 2 rfl) ?_
          refine va_get (D := D) (ci := 4) (v := .int x45.2.1) (C := RX7) (T := TX7) (N := 4) hx hb hts hinX7_X7_parseNumber hown hK hP 2 rfl rfl 2 (by decide) (hts (.fieldLink RX7 17 "LimitTables$Text" "at" "I") (by decide +kernel)) (fun _ h9 => h9) rfl dX7_parseNumber_96 ?_
          refine lv_iload_n hx hb dX7_parseNumber_99 rfl (lv_at hl 0 rfl) ?_
          refine lv_isub hx hb dX7_parseNumber_100 ?_
          obtain ⟨x49, hx49, hf⟩ := bind_s hf
          refine cc_l (r := x49) (wc := []) (wr := [(a_p1, .inr (2, [.ref a_p1_numbers, .int v_p1.2])), (a_p1_numbers, .inl (k 1, 16, aD v_p1.1)), (a_this, .inr (4, [.ref a_this_characters, .int v_this_length, .int x45.2.1, .long x45.2.2])), (a_this_characters, .inl (k 0, 60, aI v_this_characters))]) (w1 := []) (va_runS (As := [.int (x45.2.1 - x45.2.1)]) (rest := [.double (FP.l2d x45.2.2)]) ⟨hx, hb, hml, hown, hts⟩ (mt_X7_tenToThe l D k  _  (x45.2.1 - x45.2.1) x49 hx49) (va_cwS 1 hts gX7_parseNumber_X7_tenToThe rfl rfl rfl (by decide +kernel) ⟨(Nat.le_of_ble_eq_true rfl), (Nat.le_of_ble_eq_true rfl)⟩) (cc_ps (wc := []) hK hP hD [] (by decide) rfl rfl) rfl rfl hl.1 rfl (lv_room (Nat.le_of_ble_eq_true rfl)) dX7_parseNumber_101 ⟨Nat.zero_le _, Nat.zero_le _⟩) hP hD hS hA [] [0, 1, 2, 3] rfl rfl (by decide) (by decide) (fun H locs hP hD hS => ?_)
          have hP : va_P D vwCl [(a_p1, .inr (2, [.ref a_p1_numbers, .int v_p1.2])), (a_p1_numbers, .inl (k 1, 16, aD v_p1.1)), (a_this, .inr (4, [.ref a_this_characters, .int v_this_length, .int x45.2.1, .long x45.2.2])), (a_this_characters, .inl (k 0, 60, aI v_this_characters))] H := hP
          have hD : va_D A [(a_p1, .inr (2, [.ref a_p1_numbers, .int v_p1.2])), (a_p1_numbers, .inl (k 1, 16, aD v_p1.1)), (a_this, .inr (4, [.ref a_this_characters, .int v_this_length, .int x45.2.1, .long x45.2.2])), (a_this_characters, .inl (k 0, 60, aI v_this_characters))] := hD
          refine lv_l2d hx hb dX7_parseNumber_104 ?_
          refine lv_ddiv hx hb dX7_parseNumber_105 (dop_h hf) ?_
          refine lv_topd (fun d50 ed50 => ?_)
          have hf := dop_at ed50 hf
          refine lv_dstore (lv' := [(4, .double d50), (3, .int x45.2.1), (2, .int x1), (0, .ref a_this), (1, .ref a_p1)]) hx hb dX7_parseNumber_106 hl (by decide) rfl (fun ls hl => ?_)
          refine lv_aload_n hx hb dX7_parseNumber_108 rfl (lv_at hl 4 rfl) ?_
          refine lv_iload_n hx hb dX7_parseNumber_109 rfl (lv_at hl 2 rfl) ?_
          refine lv_if_eq (tgt := 120) hx hb dX7_parseNumber_110 (by decide) (fun h9 => absurd h9 c2) (fun _ => ?_)
          refine lv_dconst0 hx hb dX7_parseNumber_113 ?_
          refine lv_dload hx hb dX7_parseNumber_114 (lv_at hl 0 rfl) ?_
          refine lv_dsub hx hb dX7_parseNumber_116 (dop_h hf) ?_
          refine lv_topd (fun d51 ed51 => ?_)
          have hf := dop_at ed51 hf
          refine lv_goto (tgt := 122) hx hb dX7_parseNumber_117 (by decide) ?_
          obtain ⟨x52, hx52, hf⟩ := bind_s hf
          refine cc_v (wc := [(a_p1, .inr (2, [.ref a_p1_numbers, .int v_p1.2])), (a_p1_numbers, .inl (k 1, 16, aD v_p1.1))]) (wr := [(a_this, .inr (4, [.ref a_this_characters, .int v_this_length, .int x45.2.1, .long x45.2.2])), (a_this_characters, .inl (k 0, 60, aI v_this_characters))]) (w1 := [(a_p1, .inr (2, [.ref a_p1_numbers, .int x52.2])), (a_p1_numbers, .inl (k 1, 16, aD x52.1))]) (va_runV (As := [.double d51]) (rest := []) ⟨hx, hb, hml, hown, hts⟩ (mt_X4_append l D k a_p1 a_p1_numbers _ v_p1 d51 x52 hx52) (cwV 1 hts gX7_parseNumber_X4_append rfl rfl rfl (by decide +kernel) ⟨(Nat.le_of_ble_eq_true rfl), (Nat.le_of_ble_eq_true rfl)⟩) (cc_pv (wc := [(a_p1, .inr (2, [.ref a_p1_numbers, .int v_p1.2])), (a_p1_numbers, .inl (k 1, 16, aD v_p1.1))]) hK hP hD [0, 1] (by decide) rfl rfl 2 0 rfl rfl rfl) rfl rfl hl.1 rfl (lv_room (Nat.le_of_ble_eq_true rfl)) dX7_parseNumber_122 ⟨Nat.zero_le _, Nat.zero_le _⟩) hP hD hS hA [0, 1] [2, 3] rfl rfl (by decide) (by decide) (fun H locs hP hD hS => ?_)
          have hP : va_P D vwCl [(a_this, .inr (4, [.ref a_this_characters, .int v_this_length, .int x45.2.1, .long x45.2.2])), (a_this_characters, .inl (k 0, 60, aI v_this_characters)), (a_p1, .inr (2, [.ref a_p1_numbers, .int x52.2])), (a_p1_numbers, .inl (k 1, 16, aD x52.1))] H := hP
          have hD : va_D A [(a_this, .inr (4, [.ref a_this_characters, .int v_this_length, .int x45.2.1, .long x45.2.2])), (a_this_characters, .inl (k 0, 60, aI v_this_characters)), (a_p1, .inr (2, [.ref a_p1_numbers, .int x52.2])), (a_p1_numbers, .inl (k 1, 16, aD x52.1))] := hD
          refine lv_iconst (v := 1) hx hb dX7_parseNumber_125 (by decide) ?_
          have ho := Option.some.inj hf
          subst ho
          exact W.zret (v := (1 : Int32)) (ty := .boolean) hx hb hr rfl (fun t ht hW => ⟨⟨(1 : Int32), (), rfl, rfl, by rw [ht]; exact hP.sub (ws' := [(a_this, .inr (4, [.ref a_this_characters, .int v_this_length, .int x45.2.1, .long x45.2.2])), (a_this_characters, .inl (k 0, 60, aI v_this_characters)), (a_p1, .inr (2, [.ref a_p1_numbers, .int x52.2])), (a_p1_numbers, .inl (k 1, 16, aD x52.1))]) [0, 1, 2, 3] rfl, va_K.moved hW.alike hK, hD.sub (ws' := [(a_this, .inr (4, [.ref a_this_characters, .int v_this_length, .int x45.2.1, .long x45.2.2])), (a_this_characters, .inl (k 0, 60, aI v_this_characters)), (a_p1, .inr (2, [.ref a_p1_numbers, .int x52.2])), (a_p1_numbers, .inl (k 1, 16, aD x52.1))]) [0, 1, 2, 3] (by decide) rfl⟩, hS.F ht⟩) hS.2.2 dX7_parseNumber_126
        · skip
          have hf := if_f c48 hf
          refine lv_aload_n hx hb dX7_parseNumber_64 rfl (lv_at hl 2 rfl) ?_
          refine lv_dup hx hb dX7_parseNumber_65 rfl ?_
          refine va_get (D := D) (ci := 4) (v := .int x45.2.1) (C := RX7) (T := TX7) (N := 4) hx hb hts hinX7_X7_parseNumber hown hK hP 2 rfl rfl 2 (by decide) (hts (.fieldLink RX7 17 "LimitTables$Text" "at" "I") (by decide +kernel)) (fun _ h9 => h9) rfl dX7_parseNumber_66 ?_
          refine lv_iconst (v := 1) hx hb dX7_parseNumber_69 (by decide) ?_
          refine lv_iadd hx hb dX7_parseNumber_70 ?_
          refine va_put (D := D) (ci := 4) (v := .int (x45.2.1 + (1 : Int32))) (ty := .int) (C := RX7) (T := TX7) (N := 4) hx hb hts hinX7_X7_parseNumber tyX7 tyX7_ok nmX7 hown hK hP hD hS 2 rfl rfl 2 (by decide) (hts (.fieldLink RX7 17 "LimitTables$Text" "at" "I") (by decide +kernel)) (fun _ h9 => h9) rfl (by decide +kernel) rfl rfl (Nat.le_of_ble_eq_true rfl) dX7_parseNumber_71 (fun H locs hP hD hS => ?_)
          have hP : va_P D vwCl [(a_p1, .inr (2, [.ref a_p1_numbers, .int v_p1.2])), (a_p1_numbers, .inl (k 1, 16, aD v_p1.1)), (a_this, .inr (4, [.ref a_this_characters, .int v_this_length, .int (x45.2.1 + (1 : Int32)), .long x45.2.2])), (a_this_characters, .inl (k 0, 60, aI v_this_characters))] H := hP
          have hD : va_D A [(a_p1, .inr (2, [.ref a_p1_numbers, .int v_p1.2])), (a_p1_numbers, .inl (k 1, 16, aD v_p1.1)), (a_this, .inr (4, [.ref a_this_characters, .int v_this_length, .int (x45.2.1 + (1 : Int32)), .long x45.2.2])), (a_this_characters, .inl (k 0, 60, aI v_this_characters))] := hD
          refine lv_aload_n hx hb dX7_parseNumber_74 rfl (lv_at hl 2 rfl) ?_
          refine va_get (D := D) (ci := 4) (v := .int (x45.2.1 + (1 : Int32))) (C := RX7) (T := TX7) (N := 4) hx hb hts hinX7_X7_parseNumber hown hK hP 2 rfl rfl 2 (by decide) (hts (.fieldLink RX7 17 "LimitTables$Text" "at" "I") (by decide +kernel)) (fun _ h9 => h9) rfl dX7_parseNumber_75 ?_
          refine lv_istore_n (lv' := [(3, .int (x45.2.1 + (1 : Int32))), (2, .int x1), (0, .ref a_this), (1, .ref a_p1)]) hx hb dX7_parseNumber_78 rfl hl (by decide) rfl (fun ls hl => ?_)
          refine lv_aload_n hx hb dX7_parseNumber_79 rfl (lv_at hl 2 rfl) ?_
          refine lv_bipush (v := 6) hx hb dX7_parseNumber_80 (by decide) ?_
          obtain ⟨x53, hx53, hf⟩ := bind_s hf
          refine cc_i (r := x53.1) (wc := [(a_this, .inr (4, [.ref a_this_characters, .int v_this_length, .int (x45.2.1 + (1 : Int32)), .long x45.2.2])), (a_this_characters, .inl (k 0, 60, aI v_this_characters))]) (wr := [(a_p1, .inr (2, [.ref a_p1_numbers, .int v_p1.2])), (a_p1_numbers, .inl (k 1, 16, aD v_p1.1))]) (w1 := [(a_this, .inr (4, [.ref a_this_characters, .int v_this_length, .int x53.2.1, .long x53.2.2])), (a_this_characters, .inl (k 0, 60, aI v_this_characters))]) (va_runV (As := [.int (6 : Int32)]) (rest := []) ⟨hx, hb, hml, hown, hts⟩ (mt_X7_parseDigits l D k a_this a_this_characters _ v_this_characters v_this_length (x45.2.1 + (1 : Int32)) x45.2.2 (6 : Int32) x53 hx53) (cwV 1 hts gX7_parseNumber_X7_parseDigits rfl rfl rfl (by decide +kernel) ⟨(Nat.le_of_ble_eq_true rfl), (Nat.le_of_ble_eq_true rfl)⟩) (cc_pv (wc := [(a_this, .inr (4, [.ref a_this_characters, .int v_this_length, .int (x45.2.1 + (1 : Int32)), .long x45.2.2])), (a_this_characters, .inl (k 0, 60, aI v_this_characters))]) hK hP hD [2, 3] (by decide) rfl rfl 4 2 rfl rfl rfl) rfl rfl hl.1 rfl (lv_room (Nat.le_of_ble_eq_true rfl)) dX7_parseNumber_82 ⟨Nat.zero_le _, Nat.zero_le _⟩) hP hD hS hA [2, 3] [0, 1] rfl rfl (by decide) (by decide) (fun H locs hP hD hS => ?_)
          have hP : va_P D vwCl [(a_p1, .inr (2, [.ref a_p1_numbers, .int v_p1.2])), (a_p1_numbers, .inl (k 1, 16, aD v_p1.1)), (a_this, .inr (4, [.ref a_this_characters, .int v_this_length, .int x53.2.1, .long x53.2.2])), (a_this_characters, .inl (k 0, 60, aI v_this_characters))] H := hP
          have hD : va_D A [(a_p1, .inr (2, [.ref a_p1_numbers, .int v_p1.2])), (a_p1_numbers, .inl (k 1, 16, aD v_p1.1)), (a_this, .inr (4, [.ref a_this_characters, .int v_this_length, .int x53.2.1, .long x53.2.2])), (a_this_characters, .inl (k 0, 60, aI v_this_characters))] := hD
          refine lv_if_ne (tgt := 90) hx hb dX7_parseNumber_85 (by decide) (fun c54 => ?_) (fun c54 => ?_)
          · skip
            have hf := if_f c54 hf
            refine lv_aload_n hx hb dX7_parseNumber_90 rfl (lv_at hl 2 rfl) ?_
            refine va_get (D := D) (ci := 4) (v := .long x53.2.2) (C := RX7) (T := TX7) (N := 4) hx hb hts hinX7_X7_parseNumber hown hK hP 2 rfl rfl 3 (by decide) (hts (.fieldLink RX7 20 "LimitTables$Text" "digits" "J") (by decide +kernel)) (fun _ h9 => h9) rfl dX7_parseNumber_91 ?_
            refine lv_l2d hx hb dX7_parseNumber_94 ?_
            refine lv_aload_n hx hb dX7_parseNumber_95 rfl (lv_at hl 2 rfl) ?_
            refine va_get (D := D) (ci := 4) (v := .int x53.2.1) (C := RX7) (T := TX7) (N := 4) hx hb hts hinX7_X7_parseNumber hown hK hP 2 rfl rfl 2 (by decide) (hts (.fieldLink RX7 17 "LimitTables$Text" "at" "I") (by decide +kernel)) (fun _ h9 => h9) rfl dX7_parseNumber_96 ?_
            refine lv_iload_n hx hb dX7_parseNumber_99 rfl (lv_at hl 0 rfl) ?_
            refine lv_isub hx hb dX7_parseNumber_100 ?_
            obtain ⟨x55, hx55, hf⟩ := bind_s hf
            refine cc_l (r := x55) (wc := []) (wr := [(a_p1, .inr (2, [.ref a_p1_numbers, .int v_p1.2])), (a_p1_numbers, .inl (k 1, 16, aD v_p1.1)), (a_this, .inr (4, [.ref a_this_characters, .int v_this_length, .int x53.2.1, .long x53.2.2])), (a_this_characters, .inl (k 0, 60, aI v_this_characters))]) (w1 := []) (va_runS (As := [.int (x53.2.1 - (x45.2.1 + (1 : Int32)))]) (rest := [.double (FP.l2d x53.2.2)]) ⟨hx, hb, hml, hown, hts⟩ (mt_X7_tenToThe l D k  _  (x53.2.1 - (x45.2.1 + (1 : Int32))) x55 hx55) (va_cwS 1 hts gX7_parseNumber_X7_tenToThe rfl rfl rfl (by decide +kernel) ⟨(Nat.le_of_ble_eq_true rfl), (Nat.le_of_ble_eq_true rfl)⟩) (cc_ps (wc := []) hK hP hD [] (by decide) rfl rfl) rfl rfl hl.1 rfl (lv_room (Nat.le_of_ble_eq_true rfl)) dX7_parseNumber_101 ⟨Nat.zero_le _, Nat.zero_le _⟩) hP hD hS hA [] [0, 1, 2, 3] rfl rfl (by decide) (by decide) (fun H locs hP hD hS => ?_)
            have hP : va_P D vwCl [(a_p1, .inr (2, [.ref a_p1_numbers, .int v_p1.2])), (a_p1_numbers, .inl (k 1, 16, aD v_p1.1)), (a_this, .inr (4, [.ref a_this_characters, .int v_this_length, .int x53.2.1, .long x53.2.2])), (a_this_characters, .inl (k 0, 60, aI v_this_characters))] H := hP
            have hD : va_D A [(a_p1, .inr (2, [.ref a_p1_numbers, .int v_p1.2])), (a_p1_numbers, .inl (k 1, 16, aD v_p1.1)), (a_this, .inr (4, [.ref a_this_characters, .int v_this_length, .int x53.2.1, .long x53.2.2])), (a_this_characters, .inl (k 0, 60, aI v_this_characters))] := hD
            refine lv_l2d hx hb dX7_parseNumber_104 ?_
            refine lv_ddiv hx hb dX7_parseNumber_105 (dop_h hf) ?_
            refine lv_topd (fun d56 ed56 => ?_)
            have hf := dop_at ed56 hf
            refine lv_dstore (lv' := [(4, .double d56), (3, .int (x45.2.1 + (1 : Int32))), (2, .int x1), (0, .ref a_this), (1, .ref a_p1)]) hx hb dX7_parseNumber_106 hl (by decide) rfl (fun ls hl => ?_)
            refine lv_aload_n hx hb dX7_parseNumber_108 rfl (lv_at hl 4 rfl) ?_
            refine lv_iload_n hx hb dX7_parseNumber_109 rfl (lv_at hl 2 rfl) ?_
            refine lv_if_eq (tgt := 120) hx hb dX7_parseNumber_110 (by decide) (fun h9 => absurd h9 c2) (fun _ => ?_)
            refine lv_dconst0 hx hb dX7_parseNumber_113 ?_
            refine lv_dload hx hb dX7_parseNumber_114 (lv_at hl 0 rfl) ?_
            refine lv_dsub hx hb dX7_parseNumber_116 (dop_h hf) ?_
            refine lv_topd (fun d57 ed57 => ?_)
            have hf := dop_at ed57 hf
            refine lv_goto (tgt := 122) hx hb dX7_parseNumber_117 (by decide) ?_
            obtain ⟨x58, hx58, hf⟩ := bind_s hf
            refine cc_v (wc := [(a_p1, .inr (2, [.ref a_p1_numbers, .int v_p1.2])), (a_p1_numbers, .inl (k 1, 16, aD v_p1.1))]) (wr := [(a_this, .inr (4, [.ref a_this_characters, .int v_this_length, .int x53.2.1, .long x53.2.2])), (a_this_characters, .inl (k 0, 60, aI v_this_characters))]) (w1 := [(a_p1, .inr (2, [.ref a_p1_numbers, .int x58.2])), (a_p1_numbers, .inl (k 1, 16, aD x58.1))]) (va_runV (As := [.double d57]) (rest := []) ⟨hx, hb, hml, hown, hts⟩ (mt_X4_append l D k a_p1 a_p1_numbers _ v_p1 d57 x58 hx58) (cwV 1 hts gX7_parseNumber_X4_append rfl rfl rfl (by decide +kernel) ⟨(Nat.le_of_ble_eq_true rfl), (Nat.le_of_ble_eq_true rfl)⟩) (cc_pv (wc := [(a_p1, .inr (2, [.ref a_p1_numbers, .int v_p1.2])), (a_p1_numbers, .inl (k 1, 16, aD v_p1.1))]) hK hP hD [0, 1] (by decide) rfl rfl 2 0 rfl rfl rfl) rfl rfl hl.1 rfl (lv_room (Nat.le_of_ble_eq_true rfl)) dX7_parseNumber_122 ⟨Nat.zero_le _, Nat.zero_le _⟩) hP hD hS hA [0, 1] [2, 3] rfl rfl (by decide) (by decide) (fun H locs hP hD hS => ?_)
            have hP : va_P D vwCl [(a_this, .inr (4, [.ref a_this_characters, .int v_this_length, .int x53.2.1, .long x53.2.2])), (a_this_characters, .inl (k 0, 60, aI v_this_characters)), (a_p1, .inr (2, [.ref a_p1_numbers, .int x58.2])), (a_p1_numbers, .inl (k 1, 16, aD x58.1))] H := hP
            have hD : va_D A [(a_this, .inr (4, [.ref a_this_characters, .int v_this_length, .int x53.2.1, .long x53.2.2])), (a_this_characters, .inl (k 0, 60, aI v_this_characters)), (a_p1, .inr (2, [.ref a_p1_numbers, .int x58.2])), (a_p1_numbers, .inl (k 1, 16, aD x58.1))] := hD
            refine lv_iconst (v := 1) hx hb dX7_parseNumber_125 (by decide) ?_
            have ho := Option.some.inj hf
            subst ho
            exact W.zret (v := (1 : Int32)) (ty := .boolean) hx hb hr rfl (fun t ht hW => ⟨⟨(1 : Int32), (), rfl, rfl, by rw [ht]; exact hP.sub (ws' := [(a_this, .inr (4, [.ref a_this_characters, .int v_this_length, .int x53.2.1, .long x53.2.2])), (a_this_characters, .inl (k 0, 60, aI v_this_characters)), (a_p1, .inr (2, [.ref a_p1_numbers, .int x58.2])), (a_p1_numbers, .inl (k 1, 16, aD x58.1))]) [0, 1, 2, 3] rfl, va_K.moved hW.alike hK, hD.sub (ws' := [(a_this, .inr (4, [.ref a_this_characters, .int v_this_length, .int x53.2.1, .long x53.2.2])), (a_this_characters, .inl (k 0, 60, aI v_this_characters)), (a_p1, .inr (2, [.ref a_p1_numbers, .int x58.2])), (a_p1_numbers, .inl (k 1, 16, aD x58.1))]) [0, 1, 2, 3] (by decide) rfl⟩, hS.F ht⟩) hS.2.2 dX7_parseNumber_126
          · skip
            have hf := if_t c54 hf
            refine lv_iconst (v := 0) hx hb dX7_parseNumber_88 (by decide) ?_
            have ho := Option.some.inj hf
            subst ho
            exact W.zret (v := (0 : Int32)) (ty := .boolean) hx hb hr rfl (fun t ht hW => ⟨⟨(0 : Int32), (), rfl, rfl, by rw [ht]; exact hP.sub (ws' := [(a_this, .inr (4, [.ref a_this_characters, .int v_this_length, .int x53.2.1, .long x53.2.2])), (a_this_characters, .inl (k 0, 60, aI v_this_characters)), (a_p1, .inr (2, [.ref a_p1_numbers, .int v_p1.2])), (a_p1_numbers, .inl (k 1, 16, aD v_p1.1))]) [2, 3, 0, 1] rfl, va_K.moved hW.alike hK, hD.sub (ws' := [(a_this, .inr (4, [.ref a_this_characters, .int v_this_length, .int x53.2.1, .long x53.2.2])), (a_this_characters, .inl (k 0, 60, aI v_this_characters)), (a_p1, .inr (2, [.ref a_p1_numbers, .int v_p1.2])), (a_p1_numbers, .inl (k 1, 16, aD v_p1.1))]) [2, 3, 0, 1] (by decide) rfl⟩, hS.F ht⟩) hS.2.2 dX7_parseNumber_89
      · skip
        have hf := if_t c46 hf
        refine lv_iconst (v := 0) hx hb dX7_parseNumber_48 (by decide) ?_
        have ho := Option.some.inj hf
        subst ho
        exact W.zret (v := (0 : Int32)) (ty := .boolean) hx hb hr rfl (fun t ht hW => ⟨⟨(0 : Int32), (), rfl, rfl, by rw [ht]; exact hP.sub (ws' := [(a_this, .inr (4, [.ref a_this_characters, .int v_this_length, .int x45.2.1, .long x45.2.2])), (a_this_characters, .inl (k 0, 60, aI v_this_characters)), (a_p1, .inr (2, [.ref a_p1_numbers, .int v_p1.2])), (a_p1_numbers, .inl (k 1, 16, aD v_p1.1))]) [2, 3, 0, 1] rfl, va_K.moved hW.alike hK, hD.sub (ws' := [(a_this, .inr (4, [.ref a_this_characters, .int v_this_length, .int x45.2.1, .long x45.2.2])), (a_this_characters, .inl (k 0, 60, aI v_this_characters)), (a_p1, .inr (2, [.ref a_p1_numbers, .int v_p1.2])), (a_p1_numbers, .inl (k 1, 16, aD v_p1.1))]) [2, 3, 0, 1] (by decide) rfl⟩, hS.F ht⟩) hS.2.2 dX7_parseNumber_49
theorem hinX7_X7_parseInto : ∀ w ∈ wsX70, w ∈ wsX7_parseInto := by decide +kernel
theorem hinX4_X7_parseInto : ∀ w ∈ wsX40, w ∈ wsX7_parseInto := by decide +kernel
def p_X7_parseInto_L12 (v_this_characters : Nat → Int32) (v_this_length : Int32) : Nat → Int32 → Int32 → Int64 → (((Nat → UInt64) × Int32)) → Option (Int32 × Int32 × Int64 × ((Nat → UInt64) × Int32))
  | 0, _, _, _, _ => none
  | n12 + 1, x12_2, w12_this_at, w12_this_digits, w12_p1 => (if (60 : Int32) < x12_2 then some (((-100 : Int32) - w12_this_at), w12_this_at, w12_this_digits, w12_p1) else (p_X7_parseNumber v_this_characters v_this_length w12_this_at w12_p1).bind fun x1002 => (if x1002.1 = 0 then some (((-100 : Int32) - x1002.2.1), x1002.2.1, x1002.2.2.1, x1002.2.2.2) else (if x1002.2.1 = v_this_length then some (x12_2, x1002.2.1, x1002.2.2.1, x1002.2.2.2) else (p_X7_isHere v_this_characters v_this_length x1002.2.1 (44 : Int32)).bind fun x1005 => (if x1005 = 0 then some (((-100 : Int32) - x1002.2.1), x1002.2.1, x1002.2.2.1, x1002.2.2.2) else p_X7_parseInto_L12 v_this_characters v_this_length n12 (x12_2 + 1) (x1002.2.1 + (1 : Int32)) x1002.2.2.1 x1002.2.2.2))))

def p_X7_parseInto (v_this_characters : Nat → Int32) (v_this_length : Int32) (v_this_digits : Int64) (v_p1 : ((Nat → UInt64) × Int32))  : Option (Int32 × Int32 × Int64 × ((Nat → UInt64) × Int32)) := p_X7_parseInto_L12 v_this_characters v_this_length 300 (1 : Int32) (0 : Int32) v_this_digits (v_p1.1, (0 : Int32))
abbrev rm_X7_parseInto : Room := { frames := 3, cells := 0, slots := 0, locals := 68 }
set_option maxHeartbeats 4000000 in
set_option maxRecDepth 100000 in
theorem mt_X7_parseInto (l : Launch) (D : va_G) (k : Nat → ClassId) (a_this a_this_characters a_p1 a_p1_numbers : Nat) (sz : Nat) (v_this_characters : Nat → Int32) (v_this_length : Int32) (v_this_at : Int32) (v_this_digits : Int64) (v_p1 : ((Nat → UInt64) × Int32))  (o : Int32 × Int32 × Int64 × ((Nat → UInt64) × Int32)) (hf : p_X7_parseInto v_this_characters v_this_length v_this_digits v_p1 = some o)  : Met l yX7_parseInto wsX7_parseInto rm_X7_parseInto (va_Pc [.ref a_this, .ref a_p1] (bW D k sz [(a_this, .inr (4, [.ref a_this_characters, .int v_this_length, .int v_this_at, .long v_this_digits])), (a_this_characters, .inl (k 0, 60, aI v_this_characters)), (a_p1, .inr (2, [.ref a_p1_numbers, .int v_p1.2])), (a_p1_numbers, .inl (k 1, 16, aD v_p1.1))])) (va_Qi (fun (r : Int32) (_ : Unit) => r = o.1) (fun _ => bO D k (va_A [(a_this, .inr (4, [.ref a_this_characters, .int v_this_length, .int v_this_at, .long v_this_digits])), (a_this_characters, .inl (k 0, 60, aI v_this_characters)), (a_p1, .inr (2, [.ref a_p1_numbers, .int v_p1.2])), (a_p1_numbers, .inl (k 1, 16, aD v_p1.1))] sz) [(a_this, .inr (4, [.ref a_this_characters, .int v_this_length, .int o.2.1, .long o.2.2.1])), (a_this_characters, .inl (k 0, 60, aI v_this_characters)), (a_p1, .inr (2, [.ref a_p1_numbers, .int o.2.2.2.2])), (a_p1_numbers, .inl (k 1, 16, aD o.2.2.2.1))]) (va_A [(a_this, .inr (4, [.ref a_this_characters, .int v_this_length, .int v_this_at, .long v_this_digits])), (a_this_characters, .inl (k 0, 60, aI v_this_characters)), (a_p1, .inr (2, [.ref a_p1_numbers, .int v_p1.2])), (a_p1_numbers, .inl (k 1, 16, aD v_p1.1))] sz)) 0 0 (va_A [(a_this, .inr (4, [.ref a_this_characters, .int v_this_length, .int v_this_at, .long v_this_digits])), (a_this_characters, .inl (k 0, 60, aI v_this_characters)), (a_p1, .inr (2, [.ref a_p1_numbers, .int v_p1.2])), (a_p1_numbers, .inl (k 1, 16, aD v_p1.1))] sz) := by
  unfold p_X7_parseInto at hf
  refine Met.ofW (cc := cX7_parseInto) (maxL := 3) (ret := (some .int)) (by decide) rfl ?_
  intro p e s m args below meth c s₁ B hml hv
  obtain ⟨rfl, hsz, hP, hK, hD0⟩ := hv
  have hx := B.exec
  have hb := B.bytes
  have hr := B.returns
  have hts := atoms_spec (ws := wsX7_parseInto) B.pre
  have hown : s.vm.findClass RX7 = some m.cls := findClass_of_methodNamed B.named
  have hlocks := B.notSynchronized
  subst hsz
  have hD := hD0.self (sz := s.heap.size)
  generalize hAe : va_A [(a_this, .inr (4, [.ref a_this_characters, .int v_this_length, .int v_this_at, .long v_this_digits])), (a_this_characters, .inl (k 0, 60, aI v_this_characters)), (a_p1, .inr (2, [.ref a_p1_numbers, .int v_p1.2])), (a_p1_numbers, .inl (k 1, 16, aD v_p1.1))] s.heap.size = A at hD ⊢
  have hA : ∀ q : Nat, s.heap.size ≤ q → A q := fun q h => by rw [← hAe]; exact Or.inr h
  have hS : va_S A s.heap s.heap [] := va_S.rf
  obtain ⟨Q, hQ⟩ : ∃ Q, Q = MQ below (va_Qi (fun (r : Int32) (_ : Unit) => r = o.1) (fun _ => bO D k (A) [(a_this, .inr (4, [.ref a_this_characters, .int v_this_length, .int o.2.1, .long o.2.2.1])), (a_this_characters, .inl (k 0, 60, aI v_this_characters)), (a_p1, .inr (2, [.ref a_p1_numbers, .int o.2.2.2.2])), (a_p1_numbers, .inl (k 1, 16, aD o.2.2.2.1))]) (A)) ([.ref a_this, .ref a_p1] : List Value).toArray s 0 0 A := ⟨_, rfl⟩
  rw [← hQ]
  have hl := lv_entry [.ref a_this, .ref a_p1] (n := 3) (Nat.le_of_ble_eq_true rfl)
  rw [lg_entry_eq]
  generalize (lg_sl [.ref a_this, .ref a_p1] ++ List.replicate (3 - (lg_sl [.ref a_this, .ref a_p1]).length) Slot.unset).toArray = ls at hl ⊢
  have hl : lv_has ls 3 [(0, .ref a_this), (1, .ref a_p1)] := hl
  obtain ⟨H, hHe⟩ : ∃ H, H = s.heap := ⟨_, rfl⟩
  have hP : va_P D vwCl [(a_this, .inr (4, [.ref a_this_characters, .int v_this_length, .int v_this_at, .long v_this_digits])), (a_this_characters, .inl (k 0, 60, aI v_this_characters)), (a_p1, .inr (2, [.ref a_p1_numbers, .int v_p1.2])), (a_p1_numbers, .inl (k 1, 16, aD v_p1.1))] H := by rw [hHe]; exact hP
  have hS : va_S A s.heap H [] := by rw [hHe]; exact hS
  rw [← hHe]
  obtain ⟨locs, hLe⟩ : ∃ locs : List Loc, locs = [] := ⟨_, rfl⟩
  rw [← hLe] at hS ⊢
  clear hLe
  refine lv_aload_n hx hb dX7_parseInto_0 rfl (lv_at hl 0 rfl) ?_
  refine lv_iconst (v := 0) hx hb dX7_parseInto_1 (by decide) ?_
  refine va_put (D := D) (ci := 4) (v := .int (0 : Int32)) (ty := .int) (C := RX7) (T := TX7) (N := 4) hx hb hts hinX7_X7_parseInto tyX7 tyX7_ok nmX7 hown hK hP hD hS 0 rfl rfl 2 (by decide) (hts (.fieldLink RX7 17 "LimitTables$Text" "at" "I") (by decide +kernel)) (fun _ h9 => h9) rfl (by decide +kernel) rfl rfl (Nat.le_of_ble_eq_true rfl) dX7_parseInto_2 (fun H locs hP hD hS => ?_)
  have hP : va_P D vwCl [(a_this, .inr (4, [.ref a_this_characters, .int v_this_length, .int (0 : Int32), .long v_this_digits])), (a_this_characters, .inl (k 0, 60, aI v_this_characters)), (a_p1, .inr (2, [.ref a_p1_numbers, .int v_p1.2])), (a_p1_numbers, .inl (k 1, 16, aD v_p1.1))] H := hP
  have hD : va_D A [(a_this, .inr (4, [.ref a_this_characters, .int v_this_length, .int (0 : Int32), .long v_this_digits])), (a_this_characters, .inl (k 0, 60, aI v_this_characters)), (a_p1, .inr (2, [.ref a_p1_numbers, .int v_p1.2])), (a_p1_numbers, .inl (k 1, 16, aD v_p1.1))] := hD
  refine lv_aload_n hx hb dX7_parseInto_5 rfl (lv_at hl 1 rfl) ?_
  refine lv_iconst (v := 0) hx hb dX7_parseInto_6 (by decide) ?_
  refine va_put (D := D) (ci := 2) (v := .int (0 : Int32)) (ty := .int) (C := RX4) (T := TX4) (N := 2) hx hb hts hinX4_X7_parseInto tyX4 tyX4_ok nmX4 hown hK hP hD hS 2 rfl rfl 1 (by decide) (hts (.fieldLink RX7 24 "LimitTables$Row" "length" "I") (by decide +kernel)) (fun _ h9 => h9) rfl (by decide +kernel) rfl rfl (Nat.le_of_ble_eq_true rfl) dX7_parseInto_7 (fun H locs hP hD hS => ?_)
  have hP : va_P D vwCl [(a_this, .inr (4, [.ref a_this_characters, .int v_this_length, .int (0 : Int32), .long v_this_digits])), (a_this_characters, .inl (k 0, 60, aI v_this_characters)), (a_p1, .inr (2, [.ref a_p1_numbers, .int (0 : Int32)])), (a_p1_numbers, .inl (k 1, 16, aD v_p1.1))] H := hP
  have hD : va_D A [(a_this, .inr (4, [.ref a_this_characters, .int v_this_length, .int (0 : Int32), .long v_this_digits])), (a_this_characters, .inl (k 0, 60, aI v_this_characters)), (a_p1, .inr (2, [.ref a_p1_numbers, .int (0 : Int32)])), (a_p1_numbers, .inl (k 1, 16, aD v_p1.1))] := hD
  refine lv_iconst (v := 1) hx hb dX7_parseInto_10 (by decide) ?_
  refine lv_istore_n (lv' := [(2, .int (1 : Int32)), (0, .ref a_this), (1, .ref a_p1)]) hx hb dX7_parseInto_11 rfl hl (by decide) rfl (fun ls hl => ?_)
  have L12 : ∀ (n12 : Nat) (x12_2 : Int32) (w12_this_at : Int32) (w12_this_digits : Int64) (w12_p1 : ((Nat → UInt64) × Int32)) (H : Heap) (locs : List Loc) (ls : Array Slot), va_P D vwCl [(a_this, .inr (4, [.ref a_this_characters, .int v_this_length, .int w12_this_at, .long w12_this_digits])), (a_this_characters, .inl (k 0, 60, aI v_this_characters)), (a_p1, .inr (2, [.ref a_p1_numbers, .int w12_p1.2])), (a_p1_numbers, .inl (k 1, 16, aD w12_p1.1))] H → va_D A [(a_this, .inr (4, [.ref a_this_characters, .int v_this_length, .int w12_this_at, .long w12_this_digits])), (a_this_characters, .inl (k 0, 60, aI v_this_characters)), (a_p1, .inr (2, [.ref a_p1_numbers, .int w12_p1.2])), (a_p1_numbers, .inl (k 1, 16, aD w12_p1.1))] → va_S A s.heap H locs → lv_has ls 3 [(0, .ref a_this), (1, .ref a_p1), (2, .int x12_2)] → p_X7_parseInto_L12 v_this_characters v_this_length n12 x12_2 w12_this_at w12_this_digits w12_p1 = some o → W p l e (headSpec wsX7_parseInto rm_X7_parseInto).room s m ([.ref a_this, .ref a_p1] : List Value).toArray below meth c H locs 0 0 Q (F0 m 12 ls []) := by
    intro n12
    induction n12 with
    | zero =>
      intro x12_2 w12_this_at w12_this_digits w12_p1 H locs ls hP hD hS hl hf
      exact absurd hf (by simp [p_X7_parseInto_L12])
    | succ n12 ih12 =>
      intro x12_2 w12_this_at w12_this_digits w12_p1 H locs ls hP hD hS hl hf
      rw [p_X7_parseInto_L12] at hf
      refine lv_iload_n hx hb dX7_parseInto_12 rfl (lv_at hl 2 rfl) ?_
      refine lv_bipush (v := 60) hx hb dX7_parseInto_13 (by decide) ?_
      refine lv_icmp_gt (tgt := 80) hx hb dX7_parseInto_15 (by decide) (fun c1001 => ?_) (fun c1001 => ?_)
      · skip
        have hf := if_t c1001 hf
        refine lv_bipush (v := -100) hx hb dX7_parseInto_80 (by decide) ?_
        refine lv_aload_n hx hb dX7_parseInto_82 rfl (lv_at hl 0 rfl) ?_
        refine va_get (D := D) (ci := 4) (v := .int w12_this_at) (C := RX7) (T := TX7) (N := 4) hx hb hts hinX7_X7_parseInto hown hK hP 0 rfl rfl 2 (by decide) (hts (.fieldLink RX7 17 "LimitTables$Text" "at" "I") (by decide +kernel)) (fun _ h9 => h9) rfl dX7_parseInto_83 ?_
        refine lv_isub hx hb dX7_parseInto_86 ?_
        have ho := Option.some.inj hf
        subst ho
        rw [hQ]
        exact W.iret (v := ((-100 : Int32) - w12_this_at)) hx hb hr (fun t ht hW => ⟨⟨((-100 : Int32) - w12_this_at), (), rfl, rfl, by rw [ht]; exact hP.sub (ws' := [(a_this, .inr (4, [.ref a_this_characters, .int v_this_length, .int w12_this_at, .long w12_this_digits])), (a_this_characters, .inl (k 0, 60, aI v_this_characters)), (a_p1, .inr (2, [.ref a_p1_numbers, .int w12_p1.2])), (a_p1_numbers, .inl (k 1, 16, aD w12_p1.1))]) [0, 1, 2, 3] rfl, va_K.moved hW.alike hK, hD.sub (ws' := [(a_this, .inr (4, [.ref a_this_characters, .int v_this_length, .int w12_this_at, .long w12_this_digits])), (a_this_characters, .inl (k 0, 60, aI v_this_characters)), (a_p1, .inr (2, [.ref a_p1_numbers, .int w12_p1.2])), (a_p1_numbers, .inl (k 1, 16, aD w12_p1.1))]) [0, 1, 2, 3] (by decide) rfl⟩, hS.F ht⟩) hS.2.2 dX7_parseInto_87
      · skip
        have hf := if_f c1001 hf
        refine lv_aload_n hx hb dX7_parseInto_18 rfl (lv_at hl 0 rfl) ?_
        refine lv_aload_n hx hb dX7_parseInto_19 rfl (lv_at hl 1 rfl) ?_
        obtain ⟨x1002, hx1002, hf⟩ := bind_s hf
        refine cc_i (r := x1002.1) (wc := [(a_this, .inr (4, [.ref a_this_characters, .int v_this_length, .int w12_this_at, .long w12_this_digits])), (a_this_characters, .inl (k 0, 60, aI v_this_characters)), (a_p1, .inr (2, [.ref a_p1_numbers, .int w12_p1.2])), (a_p1_numbers, .inl (k 1, 16, aD w12_p1.1))]) (wr := []) (w1 := [(a_this, .inr (4, [.ref a_this_characters, .int v_this_length, .int x1002.2.1, .long x1002.2.2.1])), (a_this_characters, .inl (k 0, 60, aI v_this_characters)), (a_p1, .inr (2, [.ref a_p1_numbers, .int x1002.2.2.2.2])), (a_p1_numbers, .inl (k 1, 16, aD x1002.2.2.2.1))]) (va_runV (As := [.ref a_p1]) (rest := []) ⟨hx, hb, hml, hown, hts⟩ (mt_X7_parseNumber l D k a_this a_this_characters a_p1 a_p1_numbers _ v_this_characters v_this_length w12_this_at w12_this_digits w12_p1  x1002 hx1002) (cwV 1 hts gX7_parseInto_X7_parseNumber rfl rfl rfl (by decide +kernel) ⟨(Nat.le_of_ble_eq_true rfl), (Nat.le_of_ble_eq_true rfl)⟩) (cc_pv (wc := [(a_this, .inr (4, [.ref a_this_characters, .int v_this_length, .int w12_this_at, .long w12_this_digits])), (a_this_characters, .inl (k 0, 60, aI v_this_characters)), (a_p1, .inr (2, [.ref a_p1_numbers, .int w12_p1.2])), (a_p1_numbers, .inl (k 1, 16, aD w12_p1.1))]) hK hP hD [0, 1, 2, 3] (by decide) rfl rfl 4 0 rfl rfl rfl) rfl rfl hl.1 rfl (lv_room (Nat.le_of_ble_eq_true rfl)) dX7_parseInto_20 ⟨Nat.zero_le _, Nat.zero_le _⟩) hP hD hS hA [0, 1, 2, 3] [] rfl rfl (by decide) (by decide) (fun H locs hP hD hS => ?_)
        have hP : va_P D vwCl [(a_this, .inr (4, [.ref a_this_characters, .int v_this_length, .int x1002.2.1, .long x1002.2.2.1])), (a_this_characters, .inl (k 0, 60, aI v_this_characters)), (a_p1, .inr (2, [.ref a_p1_numbers, .int x1002.2.2.2.2])), (a_p1_numbers, .inl (k 1, 16, aD x1002.2.2.2.1))] H := hP
        have hD : va_D A [(a_this, .inr (4, [.ref a_this_characters, .int v_this_length, .int x1002.2.1, .long x1002.2.2.1])), (a_this_characters, .inl (k 0, 60, aI v_this_characters)), (a_p1, .inr (2, [.ref a_p1_numbers, .int x1002.2.2.2.2])), (a_p1_numbers, .inl (k 1, 16, aD x1002.2.2.2.1))] := hD
        refine lv_if_ne (tgt := 34) hx hb dX7_parseInto_23 (by decide) (fun c1003 => ?_) (fun c1003 => ?_)
        · skip
          have hf := if_f c1003 hf
          refine lv_aload_n hx hb dX7_parseInto_34 rfl (lv_at hl 0 rfl) ?_
          refine va_get (D := D) (ci := 4) (v := .int x1002.2.1) (C := RX7) (T := TX7) (N := 4) hx hb hts hinX7_X7_parseInto hown hK hP 0 rfl rfl 2 (by decide) (hts (.fieldLink RX7 17 "LimitTables$Text" "at" "I") (by decide +kernel)) (fun _ h9 => h9) rfl dX7_parseInto_35 ?_
          refine lv_aload_n hx hb dX7_parseInto_38 rfl (lv_at hl 0 rfl) ?_
          refine va_get (D := D) (ci := 4) (v := .int v_this_length) (C := RX7) (T := TX7) (N := 4) hx hb hts hinX7_X7_parseInto hown hK hP 0 rfl rfl 1 (by decide) (hts (.fieldLink RX7 13 "LimitTables$Text" "length" "I") (by decide +kernel)) (fun _ h9 => h9) rfl dX7_parseInto_39 ?_
          refine lv_icmp_ne (tgt := 47) hx hb dX7_parseInto_42 (by decide) (fun c1004 => ?_) (fun c1004 => ?_)
          · skip
            have hf := if_f c1004 hf
            refine lv_aload_n hx hb dX7_parseInto_47 rfl (lv_at hl 0 rfl) ?_
            refine lv_bipush (v := 44) hx hb dX7_parseInto_48 (by decide) ?_
            obtain ⟨x1005, hx1005, hf⟩ := bind_s hf
            refine cc_i (r := x1005) (wc := [(a_this, .inr (4, [.ref a_this_characters, .int v_this_length, .int x1002.2.1, .long x1002.2.2.1])), (a_this_characters, .inl (k 0, 60, aI v_this_characters))]) (wr := [(a_p1, .inr (2, [.ref a_p1_numbers, .int x1002.2.2.2.2])), (a_p1_numbers, .inl (k 1, 16, aD x1002.2.2.2.1))]) (w1 := [(a_this, .inr (4, [.ref a_this_characters, .int v_this_length, .int x1002.2.1, .long x1002.2.2.1])), (a_this_characters, .inl (k 0, 60, aI v_this_characters))]) (va_runV (As := [.int (44 : Int32)]) (rest := []) ⟨hx, hb, hml, hown, hts⟩ (mt_X7_isHere l D k a_this a_this_characters _ v_this_characters v_this_length x1002.2.1 x1002.2.2.1 (44 : Int32) x1005 hx1005) (cwV 1 hts gX7_parseInto_X7_isHere rfl rfl rfl (by decide +kernel) ⟨(Nat.le_of_ble_eq_true rfl), (Nat.le_of_ble_eq_true rfl)⟩) (cc_pv (wc := [(a_this, .inr (4, [.ref a_this_characters, .int v_this_length, .int x1002.2.1, .long x1002.2.2.1])), (a_this_characters, .inl (k 0, 60, aI v_this_characters))]) hK hP hD [0, 1] (by decide) rfl rfl 4 0 rfl rfl rfl) rfl rfl hl.1 rfl (lv_room (Nat.le_of_ble_eq_true rfl)) dX7_parseInto_50 ⟨Nat.zero_le _, Nat.zero_le _⟩) hP hD hS hA [0, 1] [2, 3] rfl rfl (by decide) (by decide) (fun H locs hP hD hS => ?_)
            have hP : va_P D vwCl [(a_p1, .inr (2, [.ref a_p1_numbers, .int x1002.2.2.2.2])), (a_p1_numbers, .inl (k 1, 16, aD x1002.2.2.2.1)), (a_this, .inr (4, [.ref a_this_characters, .int v_this_length, .int x1002.2.1, .long x1002.2.2.1])), (a_this_characters, .inl (k 0, 60, aI v_this_characters))] H := hP
            have hD : va_D A [(a_p1, .inr (2, [.ref a_p1_numbers, .int x1002.2.2.2.2])), (a_p1_numbers, .inl (k 1, 16, aD x1002.2.2.2.1)), (a_this, .inr (4, [.ref a_this_characters, .int v_this_length, .int x1002.2.1, .long x1002.2.2.1])), (a_this_characters, .inl (k 0, 60, aI v_this_characters))] := hD
            refine lv_if_ne (tgt := 64) hx hb dX7_parseInto_53 (by decide) (fun c1006 => ?_) (fun c1006 => ?_)
            · skip
              have hf := if_f c1006 hf
              refine lv_aload_n hx hb dX7_parseInto_64 rfl (lv_at hl 0 rfl) ?_
              refine lv_dup hx hb dX7_parseInto_65 rfl ?_
              refine va_get (D := D) (ci := 4) (v := .int x1002.2.1) (C := RX7) (T := TX7) (N := 4) hx hb hts hinX7_X7_parseInto hown hK hP 2 rfl rfl 2 (by decide) (hts (.fieldLink RX7 17 "LimitTables$Text" "at" "I") (by decide +kernel)) (fun _ h9 => h9) rfl dX7_parseInto_66 ?_
              refine lv_iconst (v := 1) hx hb dX7_parseInto_69 (by decide) ?_
              refine lv_iadd hx hb dX7_parseInto_70 ?_
              refine va_put (D := D) (ci := 4) (v := .int (x1002.2.1 + (1 : Int32))) (ty := .int) (C := RX7) (T := TX7) (N := 4) hx hb hts hinX7_X7_parseInto tyX7 tyX7_ok nmX7 hown hK hP hD hS 2 rfl rfl 2 (by decide) (hts (.fieldLink RX7 17 "LimitTables$Text" "at" "I") (by decide +kernel)) (fun _ h9 => h9) rfl (by decide +kernel) rfl rfl (Nat.le_of_ble_eq_true rfl) dX7_parseInto_71 (fun H locs hP hD hS => ?_)
              have hP : va_P D vwCl [(a_p1, .inr (2, [.ref a_p1_numbers, .int x1002.2.2.2.2])), (a_p1_numbers, .inl (k 1, 16, aD x1002.2.2.2.1)), (a_this, .inr (4, [.ref a_this_characters, .int v_this_length, .int (x1002.2.1 + (1 : Int32)), .long x1002.2.2.1])), (a_this_characters, .inl (k 0, 60, aI v_this_characters))] H := hP
              have hD : va_D A [(a_p1, .inr (2, [.ref a_p1_numbers, .int x1002.2.2.2.2])), (a_p1_numbers, .inl (k 1, 16, aD x1002.2.2.2.1)), (a_this, .inr (4, [.ref a_this_characters, .int v_this_length, .int (x1002.2.1 + (1 : Int32)), .long x1002.2.2.1])), (a_this_characters, .inl (k 0, 60, aI v_this_characters))] := hD
              refine lv_iinc (v := (x12_2 + 1)) (lv' := [(2, .int (x12_2 + 1)), (0, .ref a_this), (1, .ref a_p1)]) hx hb dX7_parseInto_74 hl (k := 2) rfl rfl (by decide) rfl (fun ls hl => ?_)
              refine lv_goto (tgt := 12) hx hb dX7_parseInto_77 (by decide) ?_
              have hP := hP.sub (ws' := [(a_this, .inr (4, [.ref a_this_characters, .int v_this_length, .int (x1002.2.1 + (1 : Int32)), .long x1002.2.2.1])), (a_this_characters, .inl (k 0, 60, aI v_this_characters)), (a_p1, .inr (2, [.ref a_p1_numbers, .int x1002.2.2.2.2])), (a_p1_numbers, .inl (k 1, 16, aD x1002.2.2.2.1))]) [2, 3, 0, 1] rfl
              have hD := hD.sub (ws' := [(a_this, .inr (4, [.ref a_this_characters, .int v_this_length, .int (x1002.2.1 + (1 : Int32)), .long x1002.2.2.1])), (a_this_characters, .inl (k 0, 60, aI v_this_characters)), (a_p1, .inr (2, [.ref a_p1_numbers, .int x1002.2.2.2.2])), (a_p1_numbers, .inl (k 1, 16, aD x1002.2.2.2.1))]) [2, 3, 0, 1] (by decide) rfl
              exact ih12 (x12_2 + 1) (x1002.2.1 + (1 : Int32)) x1002.2.2.1 x1002.2.2.2 H locs ls hP hD hS (lv_sub hl [1, 2, 0] rfl) hf
            · skip
              have hf := if_t c1006 hf
              refine lv_bipush (v := -100) hx hb dX7_parseInto_56 (by decide) ?_
              refine lv_aload_n hx hb dX7_parseInto_58 rfl (lv_at hl 0 rfl) ?_
              refine va_get (D := D) (ci := 4) (v := .int x1002.2.1) (C := RX7) (T := TX7) (N := 4) hx hb hts hinX7_X7_parseInto hown hK hP 2 rfl rfl 2 (by decide) (hts (.fieldLink RX7 17 "LimitTables$Text" "at" "I") (by decide +kernel)) (fun _ h9 => h9) rfl dX7_parseInto_59 ?_
              refine lv_isub hx hb dX7_parseInto_62 ?_
              have ho := Option.some.inj hf
              subst ho
              rw [hQ]
              exact W.iret (v := ((-100 : Int32) - x1002.2.1)) hx hb hr (fun t ht hW => ⟨⟨((-100 : Int32) - x1002.2.1), (), rfl, rfl, by rw [ht]; exact hP.sub (ws' := [(a_this, .inr (4, [.ref a_this_characters, .int v_this_length, .int x1002.2.1, .long x1002.2.2.1])), (a_this_characters, .inl (k 0, 60, aI v_this_characters)), (a_p1, .inr (2, [.ref a_p1_numbers, .int x1002.2.2.2.2])), (a_p1_numbers, .inl (k 1, 16, aD x1002.2.2.2.1))]) [2, 3, 0, 1] rfl, va_K.moved hW.alike hK, hD.sub (ws' := [(a_this, .inr (4, [.ref a_this_characters, .int v_this_length, .int x1002.2.1, .long x1002.2.2.1])), (a_this_characters, .inl (k 0, 60, aI v_this_characters)), (a_p1, .inr (2, [.ref a_p1_numbers, .int x1002.2.2.2.2])), (a_p1_numbers, .inl (k 1, 16, aD x1002.2.2.2.1))]) [2, 3, 0, 1] (by decide) rfl⟩, hS.F ht⟩) hS.2.2 dX7_parseInto_63
          · skip
            have hf := if_t c1004 hf
            refine lv_iload_n hx hb dX7_parseInto_45 rfl (lv_at hl 2 rfl) ?_
            have ho := Option.some.inj hf
            subst ho
            rw [hQ]
            exact W.iret (v := x12_2) hx hb hr (fun t ht hW => ⟨⟨x12_2, (), rfl, rfl, by rw [ht]; exact hP.sub (ws' := [(a_this, .inr (4, [.ref a_this_characters, .int v_this_length, .int x1002.2.1, .long x1002.2.2.1])), (a_this_characters, .inl (k 0, 60, aI v_this_characters)), (a_p1, .inr (2, [.ref a_p1_numbers, .int x1002.2.2.2.2])), (a_p1_numbers, .inl (k 1, 16, aD x1002.2.2.2.1))]) [0, 1, 2, 3] rfl, va_K.moved hW.alike hK, hD.sub (ws' := [(a_this, .inr (4, [.ref a_this_characters, .int v_this_length, .int x1002.2.1, .long x1002.2.2.1])), (a_this_characters, .inl (k 0, 60, aI v_this_characters)), (a_p1, .inr (2, [.ref a_p1_numbers, .int x1002.2.2.2.2])), (a_p1_numbers, .inl (k 1, 16, aD x1002.2.2.2.1))]) [0, 1, 2, 3] (by decide) rfl⟩, hS.F ht⟩) hS.2.2 dX7_parseInto_46
        · skip
          have hf := if_t c1003 hf
          refine lv_bipush (v := -100) hx hb dX7_parseInto_26 (by decide) ?_
          refine lv_aload_n hx hb dX7_parseInto_28 rfl (lv_at hl 0 rfl) ?_
          refine va_get (D := D) (ci := 4) (v := .int x1002.2.1) (C := RX7) (T := TX7) (N := 4) hx hb hts hinX7_X7_parseInto hown hK hP 0 rfl rfl 2 (by decide) (hts (.fieldLink RX7 17 "LimitTables$Text" "at" "I") (by decide +kernel)) (fun _ h9 => h9) rfl dX7_parseInto_29 ?_
          refine lv_isub hx hb dX7_parseInto_32 ?_
          have ho := Option.some.inj hf
          subst ho
          rw [hQ]
          exact W.iret (v := ((-100 : Int32) - x1002.2.1)) hx hb hr (fun t ht hW => ⟨⟨((-100 : Int32) - x1002.2.1), (), rfl, rfl, by rw [ht]; exact hP.sub (ws' := [(a_this, .inr (4, [.ref a_this_characters, .int v_this_length, .int x1002.2.1, .long x1002.2.2.1])), (a_this_characters, .inl (k 0, 60, aI v_this_characters)), (a_p1, .inr (2, [.ref a_p1_numbers, .int x1002.2.2.2.2])), (a_p1_numbers, .inl (k 1, 16, aD x1002.2.2.2.1))]) [0, 1, 2, 3] rfl, va_K.moved hW.alike hK, hD.sub (ws' := [(a_this, .inr (4, [.ref a_this_characters, .int v_this_length, .int x1002.2.1, .long x1002.2.2.1])), (a_this_characters, .inl (k 0, 60, aI v_this_characters)), (a_p1, .inr (2, [.ref a_p1_numbers, .int x1002.2.2.2.2])), (a_p1_numbers, .inl (k 1, 16, aD x1002.2.2.2.1))]) [0, 1, 2, 3] (by decide) rfl⟩, hS.F ht⟩) hS.2.2 dX7_parseInto_33
  exact L12 300 (1 : Int32) (0 : Int32) v_this_digits (v_p1.1, (0 : Int32)) H locs ls hP hD hS (lv_sub hl [1, 2, 0] rfl) hf
