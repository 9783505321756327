/-! the law: whatever the script asks, both sides answer alike -/
theorem same_d (a : UInt64) (X : Option Int32) : (if Op.cmpValue (FP.dcmp a a) CmpOp.l = 0 then X else (if Op.cmpValue (FP.dcmp a a) CmpOp.l = 0 then some (0 : Int32) else (if Op.cmpValue (FP.dcmp a a) CmpOp.l = 0 then some (0 : Int32) else X))) = X := by
  by_cases c : Op.cmpValue (FP.dcmp a a) CmpOp.l = 0
  · rw [if_pos c]
  · rw [if_neg c, if_neg c, if_neg c]
theorem nI_p2 (i : Nat) : nI i + 2 = nI (i + 2) := nI_add i 2
theorem nI_p3 (i : Nat) : nI i + 3 = nI (i + 3) := nI_add i 3
theorem nI_p4 (i : Nat) : nI i + 4 = nI (i + 4) := nI_add i 4
theorem nI_p5 (i : Nat) : nI i + 5 = nI (i + 5) := nI_add i 5
theorem end_or {L i : Nat} (hL : L ≤ 2560) (hi : i ≤ L) : (Int32.ofNat L - 5 < nI i ∧ L < i + 5) ∨ (¬ Int32.ofNat L - 5 < nI i ∧ i + 5 ≤ L) := by
  by_cases c : 5 ≤ L
  · have e : Int32.ofNat L - 5 = nI (L - 5) := pk_sub (a := L) (b := 5) c
    rw [e]
    by_cases d : L < i + 5
    · exact Or.inl ⟨nI_lt (by omega) (by omega), d⟩
    · exact Or.inr ⟨nI_nlt (by omega) (by omega), by omega⟩
  · left
    have h : ∀ L, L < 5 → Int32.ofNat L - 5 < 0 := by decide
    exact ⟨Int32.lt_of_lt_of_le (h L (by omega)) (nI_pos' (by omega)), by omega⟩
def LawR (st sn : STT) (tk : Int32) (r0 r1 r2 r3 : STT) (old size : Int32) (ln : Nat) (s was : Nat → UInt64) (states : Int32) (slot : Nat → UInt64) : Prop := RelS st s ∧ RelH r0 r1 r2 r3 old size was states ∧ (tk = 0 ∨ RelS sn slot) ∧ ln ≤ 60
set_option maxRecDepth 100000 in
theorem law_all {L : Nat} (hL : L ≤ 2560) (xs : Nat → Int32) : ∀ (n i : Nat) (st : STT) (sn : STT) (tk : Int32) (r0 : STT) (r1 : STT) (r2 : STT) (r3 : STT) (old : Int32) (size : Int32) (T : Nat → Int32) (ln : Nat) (ta : Int32) (td : Int64) (gv : Nat → UInt64) (gk : Nat → Int32) (gt : Int32) (gg : UInt64) (gr : UInt64) (gb : Int32) (gl : Int32) (guc : Int32) (gue : UInt64) (guv : UInt64) (dr : (Nat → UInt64) × Int32) (s : Nat → UInt64) (was : Nat → UInt64) (states : Int32) (slot : Nat → UInt64) (nx : Nat → UInt64) (nm : Int32) (e : Nat → UInt64) (kk : Nat → Int32) (tb : Int32) (wi : Int32) (gd : Int32) (gs : UInt64) (ge : UInt64) (at1 : Int32) (dg : Int64) (tn : Int64), i ≤ L → L + 5 ≤ i + 5 * n → LawR st sn tk r0 r1 r2 r3 old size ln s was states slot → p_law L xs n (nI i) st sn tk r0 r1 r2 r3 old size T (nI ln) ta td gv gk gt gg gr gb gl guc gue guv dr s was states slot tk T (nI ln) nx nm e kk tb wi gd gs ge at1 dg tn = some 1 := by
  intro n
  induction n with
  | zero =>
    intro i st sn tk r0 r1 r2 r3 old size T ln ta td gv gk gt gg gr gb gl guc gue guv dr s was states slot nx nm e kk tb wi gd gs ge at1 dg tn h1 h2
    omega
  | succ n ih =>
    intro i st sn tk r0 r1 r2 r3 old size T ln ta td gv gk gt gg gr gb gl guc gue guv dr s was states slot nx nm e kk tb wi gd gs ge at1 dg tn h1 h2 hR
    obtain ⟨hS, hH, hN, hl⟩ := hR
    rw [p_law]
    rcases end_or hL h1 with ⟨c, _⟩ | ⟨c, hi⟩
    · rw [if_pos c]
    · rw [if_neg c, gD_t _ (inb_nI (show i < L by omega) (by omega)), nI_1, nI_p2, nI_p3, nI_p4, nI_p5]
      by_cases w0 : ((xs (nI i).toNatClampNeg) &&& (31 : Int32)) = 0
      · obtain ⟨a, st1, q0, q1, q2, q3, o1, z1, s1, v1, t1, e1, e2, e3, e4⟩ := add_ok hH hS (xs (nI (i + 1)).toNatClampNeg) ((((xs (nI (i + 2)).toNatClampNeg)).toInt64 <<< ((32 : Int32).toInt64 &&& 63)) ||| (((xs (nI (i + 3)).toNatClampNeg)).toInt64 &&& (4294967295 : Int64)))
        rw [if_pos w0, gD_t _ (inb_nI (show i + 1 < L by omega) (by omega)), gD_t _ (inb_nI (show i + 2 < L by omega) (by omega)), gD_t _ (inb_nI (show i + 3 < L by omega) (by omega)), e1, Option.bind_some, e2, Option.bind_some, if_pos rfl]
        exact ih (i + 5) _ _ _ _ _ _ _ _ _ _ _ _ _ _ _ _ _ _ _ _ _ _ _ _ _ _ _ _ _ _ _ _ _ _ _ _ _ _ _ _ (by omega) (by omega) ⟨e3, e4, hN, hl⟩
      rw [if_neg w0]
      by_cases w1 : ((xs (nI i).toNatClampNeg) &&& (31 : Int32)) = 1
      · obtain ⟨a, st1, q0, q1, q2, q3, o1, z1, s1, v1, t1, e1, e2, e3, e4⟩ := cut_ok hH hS (xs (nI (i + 1)).toNatClampNeg) (xs (nI (i + 2)).toNatClampNeg)
        rw [if_pos w1, gD_t _ (inb_nI (show i + 1 < L by omega) (by omega)), gD_t _ (inb_nI (show i + 2 < L by omega) (by omega)), e1, Option.bind_some, e2, Option.bind_some, if_pos rfl]
        exact ih (i + 5) _ _ _ _ _ _ _ _ _ _ _ _ _ _ _ _ _ _ _ _ _ _ _ _ _ _ _ _ _ _ _ _ _ _ _ _ _ _ _ _ (by omega) (by omega) ⟨e3, e4, hN, hl⟩
      rw [if_neg w1]
      by_cases w2 : ((xs (nI i).toNatClampNeg) &&& (31 : Int32)) = 2
      · obtain ⟨a, st1, q0, q1, q2, q3, o1, z1, s1, v1, t1, e1, e2, e3, e4⟩ := set_ok hH hS (xs (nI (i + 1)).toNatClampNeg) (xs (nI (i + 2)).toNatClampNeg) ((((xs (nI (i + 3)).toNatClampNeg)).toInt64 <<< ((32 : Int32).toInt64 &&& 63)) ||| (((xs (nI (i + 4)).toNatClampNeg)).toInt64 &&& (4294967295 : Int64)))
        rw [if_pos w2, gD_t _ (inb_nI (show i + 1 < L by omega) (by omega)), gD_t _ (inb_nI (show i + 2 < L by omega) (by omega)), gD_t _ (inb_nI (show i + 3 < L by omega) (by omega)), gD_t _ (inb_nI (show i + 4 < L by omega) (by omega)), e1, Option.bind_some, e2, Option.bind_some, if_pos rfl]
        exact ih (i + 5) _ _ _ _ _ _ _ _ _ _ _ _ _ _ _ _ _ _ _ _ _ _ _ _ _ _ _ _ _ _ _ _ _ _ _ _ _ _ _ _ (by omega) (by omega) ⟨e3, e4, hN, hl⟩
      rw [if_neg w2]
      by_cases w3 : ((xs (nI i).toNatClampNeg) &&& (31 : Int32)) = 3
      · obtain ⟨a, st1, q0, q1, q2, q3, o1, z1, x, s1, v1, t1, y, e1, e2, e3, e4⟩ := read_ok hH hS T hl ta td dr nx nm at1 dg tn (xs (nI (i + 1)).toNatClampNeg)
        rw [if_pos w3, gD_t _ (inb_nI (show i + 1 < L by omega) (by omega)), e1, Option.bind_some, e2, Option.bind_some, if_pos rfl]
        exact ih (i + 5) _ _ _ _ _ _ _ _ _ _ _ _ _ _ _ _ _ _ _ _ _ _ _ _ _ _ _ _ _ _ _ _ _ _ _ _ _ _ _ _ (by omega) (by omega) ⟨e3, e4, hN, hl⟩
      rw [if_neg w3]
      by_cases w4 : ((xs (nI i).toNatClampNeg) &&& (31 : Int32)) = 4
      · obtain ⟨a, st1, q0, q1, q2, q3, o1, z1, dr1, s1, v1, t1, nx1, nm1, e1, e2, e3, e4⟩ := fill_ok hH hS dr nx nm (xs (nI (i + 1)).toNatClampNeg) (xs (nI (i + 2)).toNatClampNeg) (xs (nI (i + 3)).toNatClampNeg)
        rw [if_pos w4, gD_t _ (inb_nI (show i + 1 < L by omega) (by omega)), gD_t _ (inb_nI (show i + 2 < L by omega) (by omega)), gD_t _ (inb_nI (show i + 3 < L by omega) (by omega)), e1, Option.bind_some, e2, Option.bind_some, if_pos rfl]
        exact ih (i + 5) _ _ _ _ _ _ _ _ _ _ _ _ _ _ _ _ _ _ _ _ _ _ _ _ _ _ _ _ _ _ _ _ _ _ _ _ _ _ _ _ (by omega) (by omega) ⟨e3, e4, hN, hl⟩
      rw [if_neg w4]
      by_cases w5 : ((xs (nI i).toNatClampNeg) &&& (31 : Int32)) = 5
      · obtain ⟨a, st1, q0, q1, q2, q3, o1, z1, dr1, s1, v1, t1, nx1, nm1, e1, e2, e3, e4⟩ := sum_ok hH hS dr nx nm (xs (nI (i + 1)).toNatClampNeg)
        rw [if_pos w5, gD_t _ (inb_nI (show i + 1 < L by omega) (by omega)), e1, Option.bind_some, e2, Option.bind_some, if_pos rfl]
        exact ih (i + 5) _ _ _ _ _ _ _ _ _ _ _ _ _ _ _ _ _ _ _ _ _ _ _ _ _ _ _ _ _ _ _ _ _ _ _ _ _ _ _ _ (by omega) (by omega) ⟨e3, e4, hN, hl⟩
      rw [if_neg w5]
      by_cases w6 : ((xs (nI i).toNatClampNeg) &&& (31 : Int32)) = 6
      · obtain ⟨a, st1, q0, q1, q2, q3, o1, z1, dr1, s1, v1, t1, nx1, nm1, e1, e2, e3, e4⟩ := differences_ok hH hS dr nx nm (xs (nI (i + 1)).toNatClampNeg)
        rw [if_pos w6, gD_t _ (inb_nI (show i + 1 < L by omega) (by omega)), e1, Option.bind_some, e2, Option.bind_some, if_pos rfl]
        exact ih (i + 5) _ _ _ _ _ _ _ _ _ _ _ _ _ _ _ _ _ _ _ _ _ _ _ _ _ _ _ _ _ _ _ _ _ _ _ _ _ _ _ _ (by omega) (by omega) ⟨e3, e4, hN, hl⟩
      rw [if_neg w6]
      by_cases w7 : ((xs (nI i).toNatClampNeg) &&& (31 : Int32)) = 7
      · obtain ⟨a, st1, q0, q1, q2, q3, o1, z1, x, s1, v1, t1, y, e1, e2, e3, e4⟩ := take_ok hH hS gv e nx gk kk gt gg gr gb gl tb wi nm dr (xs (nI (i + 1)).toNatClampNeg) (xs (nI (i + 2)).toNatClampNeg) (xs (nI (i + 3)).toNatClampNeg)
        rw [if_pos w7, gD_t _ (inb_nI (show i + 1 < L by omega) (by omega)), gD_t _ (inb_nI (show i + 2 < L by omega) (by omega)), gD_t _ (inb_nI (show i + 3 < L by omega) (by omega)), e1, Option.bind_some, e2, Option.bind_some, if_pos rfl]
        exact ih (i + 5) _ _ _ _ _ _ _ _ _ _ _ _ _ _ _ _ _ _ _ _ _ _ _ _ _ _ _ _ _ _ _ _ _ _ _ _ _ _ _ _ (by omega) (by omega) ⟨e3, e4, hN, hl⟩
      rw [if_neg w7]
      by_cases w8 : ((xs (nI i).toNatClampNeg) &&& (31 : Int32)) = 8
      · obtain ⟨a, st1, q0, q1, q2, q3, o1, z1, s1, v1, t1, e1, e2, e3, e4⟩ := setting_ok hH hS (xs (nI (i + 1)).toNatClampNeg) ((((xs (nI (i + 2)).toNatClampNeg)).toInt64 <<< ((32 : Int32).toInt64 &&& 63)) ||| (((xs (nI (i + 3)).toNatClampNeg)).toInt64 &&& (4294967295 : Int64)))
        rw [if_pos w8, gD_t _ (inb_nI (show i + 1 < L by omega) (by omega)), gD_t _ (inb_nI (show i + 2 < L by omega) (by omega)), gD_t _ (inb_nI (show i + 3 < L by omega) (by omega)), e1, Option.bind_some, e2, Option.bind_some, if_pos rfl]
        exact ih (i + 5) _ _ _ _ _ _ _ _ _ _ _ _ _ _ _ _ _ _ _ _ _ _ _ _ _ _ _ _ _ _ _ _ _ _ _ _ _ _ _ _ (by omega) (by omega) ⟨e3, e4, hN, hl⟩
      rw [if_neg w8]
      by_cases w9 : ((xs (nI i).toNatClampNeg) &&& (31 : Int32)) = 9
      · rw [if_pos w9, gD_t _ (inb_nI (show i + 1 < L by omega) (by omega))]
        by_cases b : (xs (nI (i + 1)).toNatClampNeg) = 0
        · obtain ⟨a, st1, q0, q1, q2, q3, o1, z1, x, s1, v1, t1, y, e1, e2, e3, e4⟩ := bridge_ok hH hS gv e gk kk gt gg gr gb gl tb wi (p := 0) (Or.inl rfl)
          rw [if_pos b, e1, Option.bind_some, e2, Option.bind_some, if_pos rfl]
          exact ih (i + 5) _ _ _ _ _ _ _ _ _ _ _ _ _ _ _ _ _ _ _ _ _ _ _ _ _ _ _ _ _ _ _ _ _ _ _ _ _ _ _ _ (by omega) (by omega) ⟨e3, e4, hN, hl⟩
        · obtain ⟨a, st1, q0, q1, q2, q3, o1, z1, x, s1, v1, t1, y, e1, e2, e3, e4⟩ := bridge_ok hH hS gv e gk kk gt gg gr gb gl tb wi (p := 1) (Or.inr rfl)
          rw [if_neg b, e1, Option.bind_some, e2, Option.bind_some, if_pos rfl]
          exact ih (i + 5) _ _ _ _ _ _ _ _ _ _ _ _ _ _ _ _ _ _ _ _ _ _ _ _ _ _ _ _ _ _ _ _ _ _ _ _ _ _ _ _ (by omega) (by omega) ⟨e3, e4, hN, hl⟩
      rw [if_neg w9]
      by_cases w10 : ((xs (nI i).toNatClampNeg) &&& (31 : Int32)) = 10
      · obtain ⟨a, ch1, l1, e0, e1, e2⟩ := type_ok T hl ((((xs (nI (i + 1)).toNatClampNeg)).toUInt32 % 65536).toInt32)
        rw [if_pos w10, gD_t _ (inb_nI (show i + 1 < L by omega) (by omega)), e1, Option.bind_some, e2, Option.bind_some, if_pos rfl]
        exact ih (i + 5) _ _ _ _ _ _ _ _ _ _ _ _ _ _ _ _ _ _ _ _ _ _ _ _ _ _ _ _ _ _ _ _ _ _ _ _ _ _ _ _ (by omega) (by omega) ⟨hS, hH, hN, e0⟩
      rw [if_neg w10]
      by_cases w11 : ((xs (nI i).toNatClampNeg) &&& (31 : Int32)) = 11
      · rw [if_pos w11]
        unfold p_X8_clearText p_X9_clearText
        rw [Option.bind_some, Option.bind_some, if_pos rfl]
        exact ih (i + 5) _ _ _ _ _ _ _ _ _ _ 0 _ _ _ _ _ _ _ _ _ _ _ _ _ _ _ _ _ _ _ _ _ _ _ _ _ _ _ _ _ (by omega) (by omega) ⟨hS, hH, hN, by omega⟩
      rw [if_neg w11]
      by_cases w12 : ((xs (nI i).toNatClampNeg) &&& (31 : Int32)) = 12
      · obtain ⟨a, st1, z1, s1, t1, e1, e2, e3, e4⟩ := undo_ok hH hS
        rw [if_pos w12, e1, Option.bind_some, e2, Option.bind_some, if_pos rfl]
        exact ih (i + 5) _ _ _ _ _ _ _ _ _ _ _ _ _ _ _ _ _ _ _ _ _ _ _ _ _ _ _ _ _ _ _ _ _ _ _ _ _ _ _ _ (by omega) (by omega) ⟨e3, e4, hN, hl⟩
      rw [if_neg w12]
      by_cases w13 : ((xs (nI i).toNatClampNeg) &&& (31 : Int32)) = 13
      · obtain ⟨a, sn1, sl1, e1, e2, e3⟩ := keep_ok (sn := sn) (slot := slot) hS
        rw [if_pos w13, e1, Option.bind_some, e2, Option.bind_some, if_pos rfl]
        exact ih (i + 5) _ _ _ _ _ _ _ _ _ _ _ _ _ _ _ _ _ _ _ _ _ _ _ _ _ _ _ _ _ _ _ _ _ _ _ _ _ _ _ _ (by omega) (by omega) ⟨hS, hH, Or.inr e3, hl⟩
      rw [if_neg w13]
      by_cases w14 : ((xs (nI i).toNatClampNeg) &&& (31 : Int32)) = 14
      · obtain ⟨a, st1, q0, q1, q2, q3, o1, z1, s1, v1, t1, e1, e2, e3, e4⟩ := restore_ok hH hS hN
        rw [if_pos w14, e1, Option.bind_some, e2, Option.bind_some, if_pos rfl]
        exact ih (i + 5) _ _ _ _ _ _ _ _ _ _ _ _ _ _ _ _ _ _ _ _ _ _ _ _ _ _ _ _ _ _ _ _ _ _ _ _ _ _ _ _ (by omega) (by omega) ⟨e3, e4, hN, hl⟩
      rw [if_neg w14]
      by_cases w15 : ((xs (nI i).toNatClampNeg) &&& (31 : Int32)) = 15
      · obtain ⟨a, e1, e2⟩ := number_ok hS (xs (nI (i + 1)).toNatClampNeg) (xs (nI (i + 2)).toNatClampNeg)
        rw [if_pos w15, gD_t _ (inb_nI (show i + 1 < L by omega) (by omega)), gD_t _ (inb_nI (show i + 2 < L by omega) (by omega)), e1, Option.bind_some, e2, Option.bind_some, same_d]
        exact ih (i + 5) _ _ _ _ _ _ _ _ _ _ _ _ _ _ _ _ _ _ _ _ _ _ _ _ _ _ _ _ _ _ _ _ _ _ _ _ _ _ _ _ (by omega) (by omega) ⟨hS, hH, hN, hl⟩
      rw [if_neg w15]
      by_cases w16 : ((xs (nI i).toNatClampNeg) &&& (31 : Int32)) = 16
      · obtain ⟨a, x, y, e1, e2⟩ := entry_ok hS gv e gk kk gt gg gr gb gl tb wi (xs (nI (i + 1)).toNatClampNeg) (xs (nI (i + 2)).toNatClampNeg) (xs (nI (i + 3)).toNatClampNeg) (xs (nI (i + 4)).toNatClampNeg)
        rw [if_pos w16, gD_t _ (inb_nI (show i + 1 < L by omega) (by omega)), gD_t _ (inb_nI (show i + 2 < L by omega) (by omega)), gD_t _ (inb_nI (show i + 3 < L by omega) (by omega)), gD_t _ (inb_nI (show i + 4 < L by omega) (by omega)), e1, Option.bind_some, e2, Option.bind_some]
        dsimp only
        rw [same_d]
        exact ih (i + 5) _ _ _ _ _ _ _ _ _ _ _ _ _ _ _ _ _ _ _ _ _ _ _ _ _ _ _ _ _ _ _ _ _ _ _ _ _ _ _ _ (by omega) (by omega) ⟨hS, hH, hN, hl⟩
      rw [if_neg w16]
      by_cases w17 : ((xs (nI i).toNatClampNeg) &&& (31 : Int32)) = 17
      · obtain ⟨a, x, y, e1, e2⟩ := kind_ok hS gv e gk kk gt gg gr gb gl tb wi (xs (nI (i + 1)).toNatClampNeg) (xs (nI (i + 2)).toNatClampNeg) (xs (nI (i + 3)).toNatClampNeg) (xs (nI (i + 4)).toNatClampNeg)
        rw [if_pos w17, gD_t _ (inb_nI (show i + 1 < L by omega) (by omega)), gD_t _ (inb_nI (show i + 2 < L by omega) (by omega)), gD_t _ (inb_nI (show i + 3 < L by omega) (by omega)), gD_t _ (inb_nI (show i + 4 < L by omega) (by omega)), e1, Option.bind_some, e2, Option.bind_some, if_pos rfl]
        exact ih (i + 5) _ _ _ _ _ _ _ _ _ _ _ _ _ _ _ _ _ _ _ _ _ _ _ _ _ _ _ _ _ _ _ _ _ _ _ _ _ _ _ _ (by omega) (by omega) ⟨hS, hH, hN, hl⟩
      rw [if_neg w17]
      by_cases w18 : ((xs (nI i).toNatClampNeg) &&& (31 : Int32)) = 18
      · obtain ⟨a, x, y, e1, e2⟩ := table_ok hS gv e gk kk gt gg gr gb gl guc gue guv tb wi gd gs ge (xs (nI (i + 1)).toNatClampNeg) (xs (nI (i + 2)).toNatClampNeg) (xs (nI (i + 3)).toNatClampNeg)
        rw [if_pos w18, gD_t _ (inb_nI (show i + 1 < L by omega) (by omega)), gD_t _ (inb_nI (show i + 2 < L by omega) (by omega)), gD_t _ (inb_nI (show i + 3 < L by omega) (by omega)), e1, Option.bind_some, e2, Option.bind_some, if_pos rfl]
        exact ih (i + 5) _ _ _ _ _ _ _ _ _ _ _ _ _ _ _ _ _ _ _ _ _ _ _ _ _ _ _ _ _ _ _ _ _ _ _ _ _ _ _ _ (by omega) (by omega) ⟨hS, hH, hN, hl⟩
      rw [if_neg w18]
      by_cases w19 : ((xs (nI i).toNatClampNeg) &&& (31 : Int32)) = 19
      · obtain ⟨a, x, y, e1, e2⟩ := guess_fin hS gv e gk kk gt gg gr gb gl guc gue guv tb wi gd gs ge (xs (nI (i + 1)).toNatClampNeg) (xs (nI (i + 2)).toNatClampNeg)
        rw [if_pos w19, gD_t _ (inb_nI (show i + 1 < L by omega) (by omega)), gD_t _ (inb_nI (show i + 2 < L by omega) (by omega)), e1, Option.bind_some, e2, Option.bind_some]
        dsimp only
        rw [same_d]
        exact ih (i + 5) _ _ _ _ _ _ _ _ _ _ _ _ _ _ _ _ _ _ _ _ _ _ _ _ _ _ _ _ _ _ _ _ _ _ _ _ _ _ _ _ (by omega) (by omega) ⟨hS, hH, hN, hl⟩
      rw [if_neg w19]
      by_cases w20 : ((xs (nI i).toNatClampNeg) &&& (31 : Int32)) = 20
      · obtain ⟨a, x, y, e1, e2⟩ := error_ok hS gv e gk kk gt gg gr gb gl guc gue guv tb wi gd gs ge (xs (nI (i + 1)).toNatClampNeg) (xs (nI (i + 2)).toNatClampNeg)
        rw [if_pos w20, gD_t _ (inb_nI (show i + 1 < L by omega) (by omega)), gD_t _ (inb_nI (show i + 2 < L by omega) (by omega)), e1, Option.bind_some, e2, Option.bind_some]
        dsimp only
        rw [same_d]
        exact ih (i + 5) _ _ _ _ _ _ _ _ _ _ _ _ _ _ _ _ _ _ _ _ _ _ _ _ _ _ _ _ _ _ _ _ _ _ _ _ _ _ _ _ (by omega) (by omega) ⟨hS, hH, hN, hl⟩
      rw [if_neg w20]
      by_cases w21 : ((xs (nI i).toNatClampNeg) &&& (31 : Int32)) = 21
      · obtain ⟨a, x, y, e1, e2⟩ := spread_ok hS gv e gk kk gt gg gr gb gl guc gue guv tb wi gd gs ge (xs (nI (i + 1)).toNatClampNeg)
        rw [if_pos w21, gD_t _ (inb_nI (show i + 1 < L by omega) (by omega)), e1, Option.bind_some, e2, Option.bind_some]
        dsimp only
        rw [same_d]
        exact ih (i + 5) _ _ _ _ _ _ _ _ _ _ _ _ _ _ _ _ _ _ _ _ _ _ _ _ _ _ _ _ _ _ _ _ _ _ _ _ _ _ _ _ (by omega) (by omega) ⟨hS, hH, hN, hl⟩
      rw [if_neg w21]
      by_cases w22 : ((xs (nI i).toNatClampNeg) &&& (31 : Int32)) = 22
      · obtain ⟨a, x, y, e1, e2⟩ := best_ok hS gv e gk kk gt gg gr gb gl guc gue guv tb wi gd gs ge (xs (nI (i + 1)).toNatClampNeg)
        rw [if_pos w22, gD_t _ (inb_nI (show i + 1 < L by omega) (by omega)), e1, Option.bind_some, e2, Option.bind_some, if_pos rfl]
        exact ih (i + 5) _ _ _ _ _ _ _ _ _ _ _ _ _ _ _ _ _ _ _ _ _ _ _ _ _ _ _ _ _ _ _ _ _ _ _ _ _ _ _ _ (by omega) (by omega) ⟨hS, hH, hN, hl⟩
      rw [if_neg w22]
      by_cases w23 : ((xs (nI i).toNatClampNeg) &&& (31 : Int32)) = 23
      · obtain ⟨a, x, y, e1, e2⟩ := needed_ok hS gv e gk kk gt gg gr gb gl guc gue guv tb wi gd gs ge (xs (nI (i + 1)).toNatClampNeg) (xs (nI (i + 2)).toNatClampNeg) ((((xs (nI (i + 3)).toNatClampNeg)).toInt64 <<< ((32 : Int32).toInt64 &&& 63)) ||| (((xs (nI (i + 4)).toNatClampNeg)).toInt64 &&& (4294967295 : Int64)))
        rw [if_pos w23, gD_t _ (inb_nI (show i + 1 < L by omega) (by omega)), gD_t _ (inb_nI (show i + 2 < L by omega) (by omega)), gD_t _ (inb_nI (show i + 3 < L by omega) (by omega)), gD_t _ (inb_nI (show i + 4 < L by omega) (by omega)), e1, Option.bind_some, e2, Option.bind_some, if_pos rfl]
        exact ih (i + 5) _ _ _ _ _ _ _ _ _ _ _ _ _ _ _ _ _ _ _ _ _ _ _ _ _ _ _ _ _ _ _ _ _ _ _ _ _ _ _ _ (by omega) (by omega) ⟨hS, hH, hN, hl⟩
      rw [if_neg w23]
      by_cases w24 : ((xs (nI i).toNatClampNeg) &&& (31 : Int32)) = 24
      · obtain ⟨a, e1, e2⟩ := told_ok hS (xs (nI (i + 1)).toNatClampNeg)
        rw [if_pos w24, gD_t _ (inb_nI (show i + 1 < L by omega) (by omega)), e1, Option.bind_some, e2, Option.bind_some, same_d]
        exact ih (i + 5) _ _ _ _ _ _ _ _ _ _ _ _ _ _ _ _ _ _ _ _ _ _ _ _ _ _ _ _ _ _ _ _ _ _ _ _ _ _ _ _ (by omega) (by omega) ⟨hS, hH, hN, hl⟩
      rw [if_neg w24]
      by_cases w25 : ((xs (nI i).toNatClampNeg) &&& (31 : Int32)) = 25
      · obtain ⟨a, x, y, e1, e2⟩ := count_ok hH hS (nI ln) gv e gk kk gt gg gr gb gl tb wi (xs (nI (i + 1)).toNatClampNeg)
        rw [if_pos w25, gD_t _ (inb_nI (show i + 1 < L by omega) (by omega)), e1, Option.bind_some, e2, Option.bind_some, if_pos rfl]
        exact ih (i + 5) _ _ _ _ _ _ _ _ _ _ _ _ _ _ _ _ _ _ _ _ _ _ _ _ _ _ _ _ _ _ _ _ _ _ _ _ _ _ _ _ (by omega) (by omega) ⟨hS, hH, hN, hl⟩
      rw [if_neg w25]
      exact ih (i + 5) _ _ _ _ _ _ _ _ _ _ _ _ _ _ _ _ _ _ _ _ _ _ _ _ _ _ _ _ _ _ _ _ _ _ _ _ _ _ _ _ (by omega) (by omega) ⟨hS, hH, hN, hl⟩
theorem rel0 : RelS (((fun _ => 0), 0), ((fun _ => 0), 0), (vf_upd (vf_upd (vf_upd (fun _ => 0) 0 4457293557087583675) 1 4611686018427387904) 2 4602678819172646912), 0) (vf_upd (vf_upd (vf_upd (fun _ => 0) 34 4457293557087583675) 35 4611686018427387904) 36 4602678819172646912) := by
  refine ⟨⟨fun _ => 0, fun row hr => ⟨Nat.zero_le _, ?_, ?_, fun j hj => absurd hj (Nat.not_lt_zero _)⟩⟩, rfl, rfl, rfl, by decide +kernel, by decide +kernel, by decide +kernel, qok_of (by decide +kernel), ?_, Or.inl ⟨?_, rfl⟩⟩
  · unfold rL
    split <;> rfl
  · rcases (show row = 0 ∨ row = 1 by omega) with rfl | rfl <;> decide +kernel
  · show (4602678819172646912 : UInt64).toNat % 2 ^ 63 < 1023 * 2 ^ 52
    decide +kernel
  · decide +kernel
theorem law0_ok {L : Nat} (hL : L ≤ 2560) (xs : Nat → Int32) : p_law0 L xs = some 1 := by
  unfold p_law0
  exact law_all hL xs 600 0 _ _ _ _ _ _ _ _ _ _ 0 _ _ _ _ _ _ _ _ _ _ _ _ _ _ _ _ _ _ _ _ _ _ _ _ _ _ _ _ _ (Nat.zero_le _) (by omega) ⟨rel0, ⟨0, 0, by decide, by decide, rfl, rfl, rfl, fun j hj => absurd hj (Nat.not_lt_zero _)⟩, Or.inl rfl, by decide⟩
