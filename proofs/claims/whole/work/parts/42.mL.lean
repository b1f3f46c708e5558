def f_L_append (a0 : Nat) (a1 : Int32) (a2 : Int32) (a3 : Int32) (a4 : Int32) (a5 : Int32) (a6 : Nat) (M : Mem) : Option (Int32 × Mem) :=
  bH [("java/lang/IllegalStateException", 1)] (f_X11_append a0 a1 a2 a3 a4 a5 M) fun x1 M2 =>
  (sJ M2 1 a6 0 (Int32.toInt64 x1)).bind fun M3 =>
  some (0, M3)
def f_L_truncate (a0 : Nat) (a1 : Int32) (M : Mem) : Option (Int32 × Mem) :=
  bH [("java/lang/IllegalArgumentException", 1)] (f_X11_truncate a0 a1 M) fun _ M2 =>
  some (0, M2)
def f_L_property (a0 : Nat) (a1 : Int32) (a2 : Nat) (M : Mem) : Option (Int32 × Mem) :=
  bH [("java/lang/IllegalArgumentException", 1)] (f_X11_property a0 a1 M) fun x1 M2 =>
  (sJ M2 1 a2 0 (Int32.toInt64 x1)).bind fun M3 =>
  some (0, M3)
def f_L_box (a0 : Nat) (a1 : Int32) (a2 : Int32) (a3 : Nat) (M : Mem) : Option (Int32 × Mem) :=
  bH [("java/lang/IndexOutOfBoundsException", 1), ("java/lang/IllegalArgumentException", 2)] (f_X11_box a0 a1 a2 M) fun x1 M2 =>
  (sJ M2 1 a3 0 (Int32.toInt64 x1)).bind fun M3 =>
  some (0, M3)
def f_L_message (a0 : Nat) (a1 : Int32) (a2 : Int32) (a3 : Int32) (a4 : Nat) (M : Mem) : Option (Int32 × Mem) :=
  bH [("java/lang/IndexOutOfBoundsException", 1), ("java/lang/IllegalArgumentException", 2)] (f_X11_message a0 a1 a2 a3 M) fun x1 M2 =>
  (sJ M2 1 a4 0 (Int32.toInt64 x1)).bind fun M3 =>
  some (0, M3)
def f_L_indexOf (a0 : Nat) (a1 : Int32) (a2 : Int32) (a3 : Nat) (M : Mem) : Option (Int32 × Mem) :=
  bH [("java/lang/IndexOutOfBoundsException", 1)] (f_X11_indexOf a0 a1 a2 M) fun x1 M2 =>
  (sJ M2 1 a3 0 (Int32.toInt64 x1)).bind fun M3 =>
  some (0, M3)
def f_L_session (a0 : Nat) (a1 : Int32) (a2 : Int32) (a3 : Nat) (M : Mem) : Option (Int32 × Mem) :=
  bH [("java/lang/IndexOutOfBoundsException", 1), ("java/lang/IllegalArgumentException", 2)] (f_X11_session a0 a1 a2 M) fun x1 M2 =>
  (sJ M2 1 a3 0 (Int32.toInt64 x1)).bind fun M3 =>
  some (0, M3)
def f_L_entry (a0 : Nat) (a1 : Int32) (a2 : Int32) (a3 : Int32) (a4 : Nat) (M : Mem) : Option (Int32 × Mem) :=
  bH [("java/lang/IndexOutOfBoundsException", 1), ("java/lang/IllegalArgumentException", 2)] (f_X11_entry a0 a1 a2 a3 M) fun x1 M2 =>
  (sJ M2 1 a4 0 (Int32.toInt64 x1)).bind fun M3 =>
  some (0, M3)
def f_L_numberOf (a0 : Nat) (a1 : Int32) (a2 : Int32) (a3 : Nat) (M : Mem) : Option (Int32 × Mem) :=
  bH [("java/lang/IndexOutOfBoundsException", 1)] (f_X11_numberOf a0 a1 a2 M) fun x1 M2 =>
  (sJ M2 1 a3 0 (Int32.toInt64 x1)).bind fun M3 =>
  some (0, M3)
def f_L_numberThen (a0 : Nat) (a1 : Int32) (a2 : Int32) (a3 : Nat) (M : Mem) : Option (Int32 × Mem) :=
  bH [("java/lang/IndexOutOfBoundsException", 1)] (f_X11_numberThen a0 a1 a2 M) fun x1 M2 =>
  (sJ M2 1 a3 0 (Int32.toInt64 x1)).bind fun M3 =>
  some (0, M3)
def f_L_pending (a0 : Nat) (a1 : Int32) (a2 : Nat) (M : Mem) : Option (Int32 × Mem) :=
  bH [("java/lang/IndexOutOfBoundsException", 1)] (f_X11_pending a0 a1 M) fun x1 M2 =>
  (sJ M2 1 a2 0 (Int32.toInt64 x1)).bind fun M3 =>
  some (0, M3)
def f_L_isCurrent (a0 : Nat) (a1 : Int32) (a2 : Nat) (M : Mem) : Option (Int32 × Mem) :=
  bH [("java/lang/IndexOutOfBoundsException", 1)] (f_X11_isCurrent a0 a1 M) fun x1 M2 =>
  bif x1 then (
    (sJ M2 1 a2 0 1).bind fun M4 =>
    some (0, M4)
  ) else (
    (sJ M2 1 a2 0 0).bind fun M3 =>
    some (0, M3)
  )
def f_L_firstUnseen (a0 : Nat) (a1 : Int32) (a2 : Nat) (M : Mem) : Option (Int32 × Mem) :=
  bH [("java/lang/IndexOutOfBoundsException", 1)] (f_X11_firstUnseen a0 a1 M) fun x1 M2 =>
  (sJ M2 1 a2 0 (Int32.toInt64 x1)).bind fun M3 =>
  some (0, M3)
def f_L_largest (a0 : Nat) (a1 : Int32) (a2 : Nat) (M : Mem) : Option (Int32 × Mem) :=
  bH [("java/lang/IndexOutOfBoundsException", 1)] (f_X11_largest a0 a1 M) fun x1 M2 =>
  (sJ M2 1 a2 0 (Int32.toInt64 x1)).bind fun M3 =>
  some (0, M3)
def f_L_common (a0 : Nat) (a1 : Int32) (a2 : Int32) (a3 : Nat) (M : Mem) : Option (Int32 × Mem) :=
  bH [("java/lang/IndexOutOfBoundsException", 1)] (f_X11_common a0 a1 a2 M) fun x1 M2 =>
  (sJ M2 1 a3 0 (Int32.toInt64 x1)).bind fun M3 =>
  some (0, M3)
def f_L_holders (a0 : Nat) (a1 : Int32) (a2 : Int32) (a3 : Nat) (M : Mem) : Option (Int32 × Mem) :=
  bH [("java/lang/IndexOutOfBoundsException", 1)] (f_X11_holders a0 a1 a2 M) fun x1 M2 =>
  (sJ M2 1 a3 0 (Int32.toInt64 x1)).bind fun M3 =>
  some (0, M3)
def f_L_unseen (a0 : Nat) (a1 : Int32) (a2 : Nat) (M : Mem) : Option (Int32 × Mem) :=
  bH [("java/lang/IndexOutOfBoundsException", 1)] (f_X11_unseen a0 a1 M) fun x1 M2 =>
  nf64 (FP.f2d x1) (
    (sD M2 4 a2 0 (FP.f2d x1)).bind fun M3 =>
    some (0, M3)
  )
def f_L_mean (a0 : Nat) (a1 : Int32) (a2 : Nat) (M : Mem) : Option (Int32 × Mem) :=
  bH [("java/lang/IndexOutOfBoundsException", 1)] (f_X11_mean a0 a1 M) fun x1 M2 =>
  (sD M2 4 a2 0 x1).bind fun M3 =>
  some (0, M3)
def f_L_account (a0 : Nat) (a1 : Int32) (a2 : Int32) (a3 : Nat) (M : Mem) : Option (Int32 × Mem) :=
  bH [("java/lang/IndexOutOfBoundsException", 1), ("java/lang/IllegalArgumentException", 2)] (f_X11_account a0 a1 a2 M) fun x1 M2 =>
  (sJ M2 1 a3 0 (Int32.toInt64 x1)).bind fun M3 =>
  some (0, M3)
def f_L_notice (a0 : Nat) (a1 : Int32) (a2 : Int32) (a3 : Nat) (M : Mem) : Option (Int32 × Mem) :=
  bH [("java/lang/IllegalArgumentException", 1), ("java/util/NoSuchElementException", 2)] (f_X11_notice a0 a1 a2 M) fun x1 M2 =>
  (sJ M2 1 a3 0 (Int32.toInt64 x1)).bind fun M3 =>
  some (0, M3)
def f_L_searchBox (a0 : Nat) (a1 : Int32) (a2 : Nat) (M : Mem) : Option (Int32 × Mem) :=
  bH [("java/lang/IndexOutOfBoundsException", 1)] (f_X11_searchBox a0 a1 M) fun x1 M2 =>
  (sJ M2 1 a2 0 (Int32.toInt64 x1)).bind fun M3 =>
  some (0, M3)
def f_L_select (a0 : Nat) (a1 : Int32) (a2 : Int32) (a3 : Bool) (a4 : Nat) (M : Mem) : Option (Int32 × Mem) :=
  bH [("java/lang/IndexOutOfBoundsException", 1), ("java/lang/IllegalStateException", 2)] (f_X11_select a0 a1 a2 a3 M) fun x1 M2 =>
  (sJ M2 1 a4 0 (Int32.toInt64 x1)).bind fun M3 =>
  some (0, M3)
def f_L_noop (a0 : Nat) (a1 : Int32) (a2 : Nat) (M : Mem) : Option (Int32 × Mem) :=
  bH [("java/lang/IndexOutOfBoundsException", 1), ("java/lang/IllegalStateException", 2)] (f_X11_noop a0 a1 M) fun x1 M2 =>
  (sJ M2 1 a2 0 (Int32.toInt64 x1)).bind fun M3 =>
  some (0, M3)
def f_L_startIdle (a0 : Nat) (a1 : Int32) (a2 : Nat) (M : Mem) : Option (Int32 × Mem) :=
  bH [("java/lang/IndexOutOfBoundsException", 1), ("java/lang/IllegalStateException", 2)] (f_X11_startIdle a0 a1 M) fun x1 M2 =>
  (sJ M2 1 a2 0 (Int32.toInt64 x1)).bind fun M3 =>
  some (0, M3)
def f_L_stopIdle (a0 : Nat) (a1 : Int32) (a2 : Nat) (M : Mem) : Option (Int32 × Mem) :=
  bH [("java/lang/IndexOutOfBoundsException", 1), ("java/lang/IllegalStateException", 2)] (f_X11_stopIdle a0 a1 M) fun x1 M2 =>
  (sJ M2 1 a2 0 (Int32.toInt64 x1)).bind fun M3 =>
  some (0, M3)
def f_L_fetch (a0 : Nat) (a1 : Int32) (a2 : Int32) (a3 : Int32) (a4 : Bool) (a5 : Nat) (M : Mem) : Option (Int32 × Mem) :=
  bH [("java/lang/IndexOutOfBoundsException", 1), ("java/lang/IllegalArgumentException", 2), ("java/lang/IllegalStateException", 3)] (f_X11_fetch a0 a1 a2 a3 a4 M) fun x1 M2 =>
  (sJ M2 1 a5 0 (Int32.toInt64 x1)).bind fun M3 =>
  some (0, M3)
def f_L_store (a0 : Nat) (a1 : Int32) (a2 : Int32) (a3 : Int32) (a4 : Int32) (a5 : Int32) (a6 : Bool) (a7 : Nat) (M : Mem) : Option (Int32 × Mem) :=
  bH [("java/lang/IndexOutOfBoundsException", 1), ("java/lang/IllegalArgumentException", 2), ("java/lang/IllegalStateException", 3)] (f_X11_store a0 a1 a2 a3 a4 a5 a6 M) fun x1 M2 =>
  (sJ M2 1 a7 0 (Int32.toInt64 x1)).bind fun M3 =>
  some (0, M3)
def f_L_uidStore (a0 : Nat) (a1 : Int32) (a2 : Int32) (a3 : Int32) (a4 : Int32) (a5 : Int32) (a6 : Nat) (M : Mem) : Option (Int32 × Mem) :=
  bH [("java/lang/IndexOutOfBoundsException", 1), ("java/lang/IllegalArgumentException", 2), ("java/lang/IllegalStateException", 3)] (f_X11_uidStore a0 a1 a2 a3 a4 a5 M) fun x1 M2 =>
  (sJ M2 1 a6 0 (Int32.toInt64 x1)).bind fun M3 =>
  some (0, M3)
def f_L_search (a0 : Nat) (a1 : Int32) (a2 : Nat) (M : Mem) : Option (Int32 × Mem) :=
  bH [("java/lang/IndexOutOfBoundsException", 1), ("java/lang/IllegalStateException", 2)] (f_X11_search a0 a1 M) fun x1 M2 =>
  (sJ M2 1 a2 0 x1).bind fun M3 =>
  some (0, M3)
def f_L_expunge (a0 : Nat) (a1 : Int32) (a2 : Nat) (M : Mem) : Option (Int32 × Mem) :=
  bH [("java/lang/IndexOutOfBoundsException", 1), ("java/lang/IllegalStateException", 2)] (f_X11_expunge a0 a1 M) fun x1 M2 =>
  (sJ M2 1 a2 0 (Int32.toInt64 x1)).bind fun M3 =>
  some (0, M3)
def f_L_uidExpunge (a0 : Nat) (a1 : Int32) (a2 : Int32) (a3 : Int32) (a4 : Nat) (M : Mem) : Option (Int32 × Mem) :=
  bH [("java/lang/IndexOutOfBoundsException", 1), ("java/lang/IllegalStateException", 2)] (f_X11_uidExpunge a0 a1 a2 a3 M) fun x1 M2 =>
  (sJ M2 1 a4 0 (Int32.toInt64 x1)).bind fun M3 =>
  some (0, M3)
def f_L_copy (a0 : Nat) (a1 : Int32) (a2 : Int32) (a3 : Int32) (a4 : Int32) (a5 : Nat) (M : Mem) : Option (Int32 × Mem) :=
  bH [("java/lang/IndexOutOfBoundsException", 1), ("java/lang/IllegalArgumentException", 2), ("java/lang/IllegalStateException", 3)] (f_X11_copy a0 a1 a2 a3 a4 M) fun x1 M2 =>
  (sJ M2 1 a5 0 (Int32.toInt64 x1)).bind fun M3 =>
  some (0, M3)
def f_L_move (a0 : Nat) (a1 : Int32) (a2 : Int32) (a3 : Int32) (a4 : Int32) (a5 : Nat) (M : Mem) : Option (Int32 × Mem) :=
  bH [("java/lang/IndexOutOfBoundsException", 1), ("java/lang/IllegalArgumentException", 2), ("java/lang/IllegalStateException", 3)] (f_X11_move a0 a1 a2 a3 a4 M) fun x1 M2 =>
  (sJ M2 1 a5 0 (Int32.toInt64 x1)).bind fun M3 =>
  some (0, M3)
def f_L_close (a0 : Nat) (a1 : Int32) (a2 : Nat) (M : Mem) : Option (Int32 × Mem) :=
  bH [("java/lang/IndexOutOfBoundsException", 1), ("java/lang/IllegalStateException", 2)] (f_X11_close a0 a1 M) fun x1 M2 =>
  (sJ M2 1 a2 0 (Int32.toInt64 x1)).bind fun M3 =>
  some (0, M3)
def f_L_deliver (a0 : Nat) (a1 : Int32) (a2 : Int32) (a3 : Int32) (a4 : Nat) (M : Mem) : Option (Int32 × Mem) :=
  bH [("java/lang/IndexOutOfBoundsException", 1), ("java/lang/IllegalArgumentException", 2), ("java/lang/IllegalStateException", 3)] (f_X11_deliver a0 a1 a2 a3 M) fun x1 M2 =>
  (sJ M2 1 a4 0 (Int32.toInt64 x1)).bind fun M3 =>
  some (0, M3)
def f_L_setLimit (a0 : Nat) (a1 : Int32) (a2 : Nat) (M : Mem) : Option (Int32 × Mem) :=
  bH [("java/lang/IllegalArgumentException", 1)] (f_X11_setLimit a0 a1 M) fun x1 M2 =>
  (sJ M2 1 a2 0 (Int32.toInt64 x1)).bind fun M3 =>
  some (0, M3)
def f_L_keep (a0 : Nat) (a1 : Int32) (a2 : Nat) (M : Mem) : Option (Int32 × Mem) :=
  bH [("java/lang/IndexOutOfBoundsException", 1)] (f_X11_keep a0 a1 M) fun x1 M2 =>
  (sJ M2 1 a2 0 (Int32.toInt64 x1)).bind fun M3 =>
  some (0, M3)
def f_L_restore (a0 : Nat) (a1 : Int32) (a2 : Nat) (M : Mem) : Option (Int32 × Mem) :=
  bH [("java/lang/IndexOutOfBoundsException", 1), ("java/lang/IllegalStateException", 2)] (f_X11_restore a0 a1 M) fun x1 M2 =>
  (sJ M2 1 a2 0 (Int32.toInt64 x1)).bind fun M3 =>
  some (0, M3)
def f_L_undo (a0 : Nat) (a1 : Nat) (M : Mem) : Option (Int32 × Mem) :=
  bH [("java/lang/IllegalStateException", 1)] (f_X11_undo a0 M) fun x1 M2 =>
  (sJ M2 1 a1 0 (Int32.toInt64 x1)).bind fun M3 =>
  some (0, M3)
def f_L_writeBox (a0 : Nat) (a1 : Int32) (a2 : Nat) (M : Mem) : Option (Int32 × Mem) :=
  bH [("java/lang/IndexOutOfBoundsException", 1)] (f_X11_writeBox a0 a1 M) fun x1 M2 =>
  (sJ M2 1 a2 0 (Int32.toInt64 x1)).bind fun M3 =>
  some (0, M3)
def f_L_writeView (a0 : Nat) (a1 : Int32) (a2 : Nat) (M : Mem) : Option (Int32 × Mem) :=
  bH [("java/lang/IndexOutOfBoundsException", 1)] (f_X11_writeView a0 a1 M) fun x1 M2 =>
  (sJ M2 1 a2 0 (Int32.toInt64 x1)).bind fun M3 =>
  some (0, M3)
def f_L_outputByte (a0 : Nat) (a1 : Int32) (a2 : Nat) (M : Mem) : Option (Int32 × Mem) :=
  bH [("java/lang/IndexOutOfBoundsException", 1)] (f_X11_outputByte a0 a1 M) fun x1 M2 =>
  (sJ M2 1 a2 0 (Int32.toInt64 x1)).bind fun M3 =>
  some (0, M3)
def f_L_law_3275 (rc28 : Nat → Nat → Nat → Nat → Nat → Int32 → Mem → Option (Bool × Mem)) (l0 : Nat) (l1 : Nat) (l2 : Nat) (l3 : Nat) (l4 : Nat) (l5 : Int32) (M : Mem) : Option (Bool × Mem) :=
  rc28 l0 l1 l2 l3 l4 (l5 + 7) M
def f_L_law_361 (rc28 : Nat → Nat → Nat → Nat → Nat → Int32 → Mem → Option (Bool × Mem)) (l0 : Nat) (l1 : Nat) (l2 : Nat) (l3 : Nat) (l4 : Nat) (l5 : Int32) (M : Mem) : Option (Bool × Mem) :=
  f_L_law_3275 rc28 l0 l1 l2 l3 l4 l5 M
def f_L_law_260 (rc28 : Nat → Nat → Nat → Nat → Nat → Int32 → Mem → Option (Bool × Mem)) (l0 : Nat) (l1 : Nat) (l2 : Nat) (l3 : Nat) (l4 : Nat) (l5 : Int32) (M : Mem) : Option (Bool × Mem) :=
  (sC M l0 (l5 + 1)).bind fun x11 =>
  (sC M l0 (l5 + 2)).bind fun x12 =>
  (sC M l0 (l5 + 3)).bind fun x13 =>
  (sC M l0 (l5 + 4)).bind fun x14 =>
  (sC M l0 (l5 + 5)).bind fun x15 =>
  (f_L_append l1 x11 x12 x13 x14 x15 l3 M).bind fun (x16, M17) =>
  (sC M17 l0 (l5 + 1)).bind fun x18 =>
  (sC M17 l0 (l5 + 2)).bind fun x19 =>
  (sC M17 l0 (l5 + 3)).bind fun x20 =>
  (sC M17 l0 (l5 + 4)).bind fun x21 =>
  (sC M17 l0 (l5 + 5)).bind fun x22 =>
  (f_X12_append l2 x18 x19 x20 x21 x22 M17).bind fun (x23, M24) =>
  (f_X12_thrown l2 M24).bind fun x25 =>
  if x25 = x16 then (
    if x16 = 0 then (
      (aJ M24 1 l3 0).bind fun x26 =>
      if (lg_cmp x26 (Int32.toInt64 x23)) = 0 then (
        f_L_law_361 rc28 l0 l1 l2 l3 l4 l5 M24
      ) else (
        some (false, M24)
      )
    ) else (
      f_L_law_361 rc28 l0 l1 l2 l3 l4 l5 M24
    )
  ) else (
    some (false, M24)
  )
def f_L_law_364 (rc28 : Nat → Nat → Nat → Nat → Nat → Int32 → Mem → Option (Bool × Mem)) (l0 : Nat) (l1 : Nat) (l2 : Nat) (l3 : Nat) (l4 : Nat) (l5 : Int32) (M : Mem) : Option (Bool × Mem) :=
  (sC M l0 (l5 + 1)).bind fun x27 =>
  (f_L_truncate l1 x27 M).bind fun (x28, M29) =>
  (sC M29 l0 (l5 + 1)).bind fun x30 =>
  (f_X12_truncate l2 x30 M29).bind fun M32 =>
  (f_X12_thrown l2 M32).bind fun x33 =>
  if x33 = x28 then (
    f_L_law_3275 rc28 l0 l1 l2 l3 l4 l5 M32
  ) else (
    some (false, M32)
  )
def f_L_law_400 (rc28 : Nat → Nat → Nat → Nat → Nat → Int32 → Mem → Option (Bool × Mem)) (l0 : Nat) (l1 : Nat) (l2 : Nat) (l3 : Nat) (l4 : Nat) (l5 : Int32) (M : Mem) : Option (Bool × Mem) :=
  (f_X11_load l1 M).bind fun (x34, M35) =>
  (f_X12_load l2 M35).bind fun (x36, M37) =>
  if x34 = x36 then (
    f_L_law_3275 rc28 l0 l1 l2 l3 l4 l5 M37
  ) else (
    some (false, M37)
  )
def f_L_law_413 (rc28 : Nat → Nat → Nat → Nat → Nat → Int32 → Mem → Option (Bool × Mem)) (l0 : Nat) (l1 : Nat) (l2 : Nat) (l3 : Nat) (l4 : Nat) (l5 : Int32) (M : Mem) : Option (Bool × Mem) :=
  (f_X11_errorCode l1 M).bind fun x38 =>
  (f_X12_errorCode l2 M).bind fun (x39, M40) =>
  if x38 = x39 then (
    f_L_law_3275 rc28 l0 l1 l2 l3 l4 l5 M40
  ) else (
    some (false, M40)
  )
def f_L_law_426 (rc28 : Nat → Nat → Nat → Nat → Nat → Int32 → Mem → Option (Bool × Mem)) (l0 : Nat) (l1 : Nat) (l2 : Nat) (l3 : Nat) (l4 : Nat) (l5 : Int32) (M : Mem) : Option (Bool × Mem) :=
  (f_X11_errorPosition l1 M).bind fun x41 =>
  (f_X12_errorPosition l2 M).bind fun (x42, M43) =>
  if x41 = x42 then (
    f_L_law_3275 rc28 l0 l1 l2 l3 l4 l5 M43
  ) else (
    some (false, M43)
  )
def f_L_law_439 (rc28 : Nat → Nat → Nat → Nat → Nat → Int32 → Mem → Option (Bool × Mem)) (l0 : Nat) (l1 : Nat) (l2 : Nat) (l3 : Nat) (l4 : Nat) (l5 : Int32) (M : Mem) : Option (Bool × Mem) :=
  (f_X11_findBox l1 M).bind fun (x44, M45) =>
  (f_X12_findBox l2 M45).bind fun (x46, M47) =>
  if x44 = x46 then (
    f_L_law_3275 rc28 l0 l1 l2 l3 l4 l5 M47
  ) else (
    some (false, M47)
  )
def f_L_law_452 (rc28 : Nat → Nat → Nat → Nat → Nat → Int32 → Mem → Option (Bool × Mem)) (l0 : Nat) (l1 : Nat) (l2 : Nat) (l3 : Nat) (l4 : Nat) (l5 : Int32) (M : Mem) : Option (Bool × Mem) :=
  (f_X11_findSession l1 M).bind fun (x48, M49) =>
  (f_X12_findSession l2 M49).bind fun (x50, M51) =>
  if x48 = x50 then (
    f_L_law_3275 rc28 l0 l1 l2 l3 l4 l5 M51
  ) else (
    some (false, M51)
  )
def f_L_law_518 (rc28 : Nat → Nat → Nat → Nat → Nat → Int32 → Mem → Option (Bool × Mem)) (l0 : Nat) (l1 : Nat) (l2 : Nat) (l3 : Nat) (l4 : Nat) (l5 : Int32) (M : Mem) : Option (Bool × Mem) :=
  f_L_law_3275 rc28 l0 l1 l2 l3 l4 l5 M
def f_L_law_465 (rc28 : Nat → Nat → Nat → Nat → Nat → Int32 → Mem → Option (Bool × Mem)) (l0 : Nat) (l1 : Nat) (l2 : Nat) (l3 : Nat) (l4 : Nat) (l5 : Int32) (M : Mem) : Option (Bool × Mem) :=
  (sC M l0 (l5 + 1)).bind fun x52 =>
  (f_L_property l1 x52 l3 M).bind fun (x53, M54) =>
  (sC M54 l0 (l5 + 1)).bind fun x55 =>
  (f_X12_property l2 x55 M54).bind fun (x56, M57) =>
  (f_X12_thrown l2 M57).bind fun x58 =>
  if x58 = x53 then (
    if x53 = 0 then (
      (aJ M57 1 l3 0).bind fun x59 =>
      if (lg_cmp x59 (Int32.toInt64 x56)) = 0 then (
        f_L_law_518 rc28 l0 l1 l2 l3 l4 l5 M57
      ) else (
        some (false, M57)
      )
    ) else (
      f_L_law_518 rc28 l0 l1 l2 l3 l4 l5 M57
    )
  ) else (
    some (false, M57)
  )
def f_L_law_586 (rc28 : Nat → Nat → Nat → Nat → Nat → Int32 → Mem → Option (Bool × Mem)) (l0 : Nat) (l1 : Nat) (l2 : Nat) (l3 : Nat) (l4 : Nat) (l5 : Int32) (M : Mem) : Option (Bool × Mem) :=
  f_L_law_3275 rc28 l0 l1 l2 l3 l4 l5 M
def f_L_law_521 (rc28 : Nat → Nat → Nat → Nat → Nat → Int32 → Mem → Option (Bool × Mem)) (l0 : Nat) (l1 : Nat) (l2 : Nat) (l3 : Nat) (l4 : Nat) (l5 : Int32) (M : Mem) : Option (Bool × Mem) :=
  (sC M l0 (l5 + 1)).bind fun x60 =>
  (sC M l0 (l5 + 2)).bind fun x61 =>
  (f_L_box l1 x60 x61 l3 M).bind fun (x62, M63) =>
  (sC M63 l0 (l5 + 1)).bind fun x64 =>
  (sC M63 l0 (l5 + 2)).bind fun x65 =>
  (f_X12_box l2 x64 x65 M63).bind fun (x66, M67) =>
  (f_X12_thrown l2 M67).bind fun x68 =>
  if x68 = x62 then (
    if x62 = 0 then (
      (aJ M67 1 l3 0).bind fun x69 =>
      if (lg_cmp x69 (Int32.toInt64 x66)) = 0 then (
        f_L_law_586 rc28 l0 l1 l2 l3 l4 l5 M67
      ) else (
        some (false, M67)
      )
    ) else (
      f_L_law_586 rc28 l0 l1 l2 l3 l4 l5 M67
    )
  ) else (
    some (false, M67)
  )
def f_L_law_666 (rc28 : Nat → Nat → Nat → Nat → Nat → Int32 → Mem → Option (Bool × Mem)) (l0 : Nat) (l1 : Nat) (l2 : Nat) (l3 : Nat) (l4 : Nat) (l5 : Int32) (M : Mem) : Option (Bool × Mem) :=
  f_L_law_3275 rc28 l0 l1 l2 l3 l4 l5 M
def f_L_law_589 (rc28 : Nat → Nat → Nat → Nat → Nat → Int32 → Mem → Option (Bool × Mem)) (l0 : Nat) (l1 : Nat) (l2 : Nat) (l3 : Nat) (l4 : Nat) (l5 : Int32) (M : Mem) : Option (Bool × Mem) :=
  (sC M l0 (l5 + 1)).bind fun x70 =>
  (sC M l0 (l5 + 2)).bind fun x71 =>
  (sC M l0 (l5 + 3)).bind fun x72 =>
  (f_L_message l1 x70 x71 x72 l3 M).bind fun (x73, M74) =>
  (sC M74 l0 (l5 + 1)).bind fun x75 =>
  (sC M74 l0 (l5 + 2)).bind fun x76 =>
  (sC M74 l0 (l5 + 3)).bind fun x77 =>
  (f_X12_message l2 x75 x76 x77 M74).bind fun (x78, M79) =>
  (f_X12_thrown l2 M79).bind fun x80 =>
  if x80 = x73 then (
    if x73 = 0 then (
      (aJ M79 1 l3 0).bind fun x81 =>
      if (lg_cmp x81 (Int32.toInt64 x78)) = 0 then (
        f_L_law_666 rc28 l0 l1 l2 l3 l4 l5 M79
      ) else (
        some (false, M79)
      )
    ) else (
      f_L_law_666 rc28 l0 l1 l2 l3 l4 l5 M79
    )
  ) else (
    some (false, M79)
  )
def f_L_law_734 (rc28 : Nat → Nat → Nat → Nat → Nat → Int32 → Mem → Option (Bool × Mem)) (l0 : Nat) (l1 : Nat) (l2 : Nat) (l3 : Nat) (l4 : Nat) (l5 : Int32) (M : Mem) : Option (Bool × Mem) :=
  f_L_law_3275 rc28 l0 l1 l2 l3 l4 l5 M
def f_L_law_669 (rc28 : Nat → Nat → Nat → Nat → Nat → Int32 → Mem → Option (Bool × Mem)) (l0 : Nat) (l1 : Nat) (l2 : Nat) (l3 : Nat) (l4 : Nat) (l5 : Int32) (M : Mem) : Option (Bool × Mem) :=
  (sC M l0 (l5 + 1)).bind fun x82 =>
  (sC M l0 (l5 + 2)).bind fun x83 =>
  (f_L_indexOf l1 x82 x83 l3 M).bind fun (x84, M85) =>
  (sC M85 l0 (l5 + 1)).bind fun x86 =>
  (sC M85 l0 (l5 + 2)).bind fun x87 =>
  (f_X12_indexOf l2 x86 x87 M85).bind fun (x88, M89) =>
  (f_X12_thrown l2 M89).bind fun x90 =>
  if x90 = x84 then (
    if x84 = 0 then (
      (aJ M89 1 l3 0).bind fun x91 =>
      if (lg_cmp x91 (Int32.toInt64 x88)) = 0 then (
        f_L_law_734 rc28 l0 l1 l2 l3 l4 l5 M89
      ) else (
        some (false, M89)
      )
    ) else (
      f_L_law_734 rc28 l0 l1 l2 l3 l4 l5 M89
    )
  ) else (
    some (false, M89)
  )
def f_L_law_802 (rc28 : Nat → Nat → Nat → Nat → Nat → Int32 → Mem → Option (Bool × Mem)) (l0 : Nat) (l1 : Nat) (l2 : Nat) (l3 : Nat) (l4 : Nat) (l5 : Int32) (M : Mem) : Option (Bool × Mem) :=
  f_L_law_3275 rc28 l0 l1 l2 l3 l4 l5 M
def f_L_law_737 (rc28 : Nat → Nat → Nat → Nat → Nat → Int32 → Mem → Option (Bool × Mem)) (l0 : Nat) (l1 : Nat) (l2 : Nat) (l3 : Nat) (l4 : Nat) (l5 : Int32) (M : Mem) : Option (Bool × Mem) :=
  (sC M l0 (l5 + 1)).bind fun x92 =>
  (sC M l0 (l5 + 2)).bind fun x93 =>
  (f_L_session l1 x92 x93 l3 M).bind fun (x94, M95) =>
  (sC M95 l0 (l5 + 1)).bind fun x96 =>
  (sC M95 l0 (l5 + 2)).bind fun x97 =>
  (f_X12_session l2 x96 x97 M95).bind fun (x98, M99) =>
  (f_X12_thrown l2 M99).bind fun x100 =>
  if x100 = x94 then (
    if x94 = 0 then (
      (aJ M99 1 l3 0).bind fun x101 =>
      if (lg_cmp x101 (Int32.toInt64 x98)) = 0 then (
        f_L_law_802 rc28 l0 l1 l2 l3 l4 l5 M99
      ) else (
        some (false, M99)
      )
    ) else (
      f_L_law_802 rc28 l0 l1 l2 l3 l4 l5 M99
    )
  ) else (
    some (false, M99)
  )
def f_L_law_882 (rc28 : Nat → Nat → Nat → Nat → Nat → Int32 → Mem → Option (Bool × Mem)) (l0 : Nat) (l1 : Nat) (l2 : Nat) (l3 : Nat) (l4 : Nat) (l5 : Int32) (M : Mem) : Option (Bool × Mem) :=
  f_L_law_3275 rc28 l0 l1 l2 l3 l4 l5 M
def f_L_law_805 (rc28 : Nat → Nat → Nat → Nat → Nat → Int32 → Mem → Option (Bool × Mem)) (l0 : Nat) (l1 : Nat) (l2 : Nat) (l3 : Nat) (l4 : Nat) (l5 : Int32) (M : Mem) : Option (Bool × Mem) :=
  (sC M l0 (l5 + 1)).bind fun x102 =>
  (sC M l0 (l5 + 2)).bind fun x103 =>
  (sC M l0 (l5 + 3)).bind fun x104 =>
  (f_L_entry l1 x102 x103 x104 l3 M).bind fun (x105, M106) =>
  (sC M106 l0 (l5 + 1)).bind fun x107 =>
  (sC M106 l0 (l5 + 2)).bind fun x108 =>
  (sC M106 l0 (l5 + 3)).bind fun x109 =>
  (f_X12_entry l2 x107 x108 x109 M106).bind fun (x110, M111) =>
  (f_X12_thrown l2 M111).bind fun x112 =>
  if x112 = x105 then (
    if x105 = 0 then (
      (aJ M111 1 l3 0).bind fun x113 =>
      if (lg_cmp x113 (Int32.toInt64 x110)) = 0 then (
        f_L_law_882 rc28 l0 l1 l2 l3 l4 l5 M111
      ) else (
        some (false, M111)
      )
    ) else (
      f_L_law_882 rc28 l0 l1 l2 l3 l4 l5 M111
    )
  ) else (
    some (false, M111)
  )
def f_L_law_950 (rc28 : Nat → Nat → Nat → Nat → Nat → Int32 → Mem → Option (Bool × Mem)) (l0 : Nat) (l1 : Nat) (l2 : Nat) (l3 : Nat) (l4 : Nat) (l5 : Int32) (M : Mem) : Option (Bool × Mem) :=
  f_L_law_3275 rc28 l0 l1 l2 l3 l4 l5 M
def f_L_law_885 (rc28 : Nat → Nat → Nat → Nat → Nat → Int32 → Mem → Option (Bool × Mem)) (l0 : Nat) (l1 : Nat) (l2 : Nat) (l3 : Nat) (l4 : Nat) (l5 : Int32) (M : Mem) : Option (Bool × Mem) :=
  (sC M l0 (l5 + 1)).bind fun x114 =>
  (sC M l0 (l5 + 2)).bind fun x115 =>
  (f_L_numberOf l1 x114 x115 l3 M).bind fun (x116, M117) =>
  (sC M117 l0 (l5 + 1)).bind fun x118 =>
  (sC M117 l0 (l5 + 2)).bind fun x119 =>
  (f_X12_numberOf l2 x118 x119 M117).bind fun (x120, M121) =>
  (f_X12_thrown l2 M121).bind fun x122 =>
  if x122 = x116 then (
    if x116 = 0 then (
      (aJ M121 1 l3 0).bind fun x123 =>
      if (lg_cmp x123 (Int32.toInt64 x120)) = 0 then (
        f_L_law_950 rc28 l0 l1 l2 l3 l4 l5 M121
      ) else (
        some (false, M121)
      )
    ) else (
      f_L_law_950 rc28 l0 l1 l2 l3 l4 l5 M121
    )
  ) else (
    some (false, M121)
  )
def f_L_law_1018 (rc28 : Nat → Nat → Nat → Nat → Nat → Int32 → Mem → Option (Bool × Mem)) (l0 : Nat) (l1 : Nat) (l2 : Nat) (l3 : Nat) (l4 : Nat) (l5 : Int32) (M : Mem) : Option (Bool × Mem) :=
  f_L_law_3275 rc28 l0 l1 l2 l3 l4 l5 M
def f_L_law_953 (rc28 : Nat → Nat → Nat → Nat → Nat → Int32 → Mem → Option (Bool × Mem)) (l0 : Nat) (l1 : Nat) (l2 : Nat) (l3 : Nat) (l4 : Nat) (l5 : Int32) (M : Mem) : Option (Bool × Mem) :=
  (sC M l0 (l5 + 1)).bind fun x124 =>
  (sC M l0 (l5 + 2)).bind fun x125 =>
  (f_L_numberThen l1 x124 x125 l3 M).bind fun (x126, M127) =>
  (sC M127 l0 (l5 + 1)).bind fun x128 =>
  (sC M127 l0 (l5 + 2)).bind fun x129 =>
  (f_X12_numberThen l2 x128 x129 M127).bind fun (x130, M131) =>
  (f_X12_thrown l2 M131).bind fun x132 =>
  if x132 = x126 then (
    if x126 = 0 then (
      (aJ M131 1 l3 0).bind fun x133 =>
      if (lg_cmp x133 (Int32.toInt64 x130)) = 0 then (
        f_L_law_1018 rc28 l0 l1 l2 l3 l4 l5 M131
      ) else (
        some (false, M131)
      )
    ) else (
      f_L_law_1018 rc28 l0 l1 l2 l3 l4 l5 M131
    )
  ) else (
    some (false, M131)
  )
def f_L_law_1074 (rc28 : Nat → Nat → Nat → Nat → Nat → Int32 → Mem → Option (Bool × Mem)) (l0 : Nat) (l1 : Nat) (l2 : Nat) (l3 : Nat) (l4 : Nat) (l5 : Int32) (M : Mem) : Option (Bool × Mem) :=
  f_L_law_3275 rc28 l0 l1 l2 l3 l4 l5 M
def f_L_law_1021 (rc28 : Nat → Nat → Nat → Nat → Nat → Int32 → Mem → Option (Bool × Mem)) (l0 : Nat) (l1 : Nat) (l2 : Nat) (l3 : Nat) (l4 : Nat) (l5 : Int32) (M : Mem) : Option (Bool × Mem) :=
  (sC M l0 (l5 + 1)).bind fun x134 =>
  (f_L_pending l1 x134 l3 M).bind fun (x135, M136) =>
  (sC M136 l0 (l5 + 1)).bind fun x137 =>
  (f_X12_pending l2 x137 M136).bind fun (x138, M139) =>
  (f_X12_thrown l2 M139).bind fun x140 =>
  if x140 = x135 then (
    if x135 = 0 then (
      (aJ M139 1 l3 0).bind fun x141 =>
      if (lg_cmp x141 (Int32.toInt64 x138)) = 0 then (
        f_L_law_1074 rc28 l0 l1 l2 l3 l4 l5 M139
      ) else (
        some (false, M139)
      )
    ) else (
      f_L_law_1074 rc28 l0 l1 l2 l3 l4 l5 M139
    )
  ) else (
    some (false, M139)
  )
def f_L_law_1137 (rc28 : Nat → Nat → Nat → Nat → Nat → Int32 → Mem → Option (Bool × Mem)) (l0 : Nat) (l1 : Nat) (l2 : Nat) (l3 : Nat) (l4 : Nat) (l5 : Int32) (M : Mem) : Option (Bool × Mem) :=
  f_L_law_3275 rc28 l0 l1 l2 l3 l4 l5 M
def f_L_law_1131 (rc28 : Nat → Nat → Nat → Nat → Nat → Int32 → Mem → Option (Bool × Mem)) (l0 : Nat) (l1 : Nat) (l2 : Nat) (l3 : Nat) (l4 : Nat) (l5 : Int32) (s0 : Int64) (s1 : Int64) (M : Mem) : Option (Bool × Mem) :=
  if (lg_cmp s0 s1) = 0 then (
    f_L_law_1137 rc28 l0 l1 l2 l3 l4 l5 M
  ) else (
    some (false, M)
  )
def f_L_law_1077 (rc28 : Nat → Nat → Nat → Nat → Nat → Int32 → Mem → Option (Bool × Mem)) (l0 : Nat) (l1 : Nat) (l2 : Nat) (l3 : Nat) (l4 : Nat) (l5 : Int32) (M : Mem) : Option (Bool × Mem) :=
  (sC M l0 (l5 + 1)).bind fun x142 =>
  (f_L_isCurrent l1 x142 l3 M).bind fun (x143, M144) =>
  (sC M144 l0 (l5 + 1)).bind fun x145 =>
  (f_X12_isCurrent l2 x145 M144).bind fun (x146, M147) =>
  (f_X12_thrown l2 M147).bind fun x148 =>
  if x148 = x143 then (
    if x143 = 0 then (
      (aJ M147 1 l3 0).bind fun x149 =>
      bif x146 then (
        f_L_law_1131 rc28 l0 l1 l2 l3 l4 l5 x149 1 M147
      ) else (
        f_L_law_1131 rc28 l0 l1 l2 l3 l4 l5 x149 0 M147
      )
    ) else (
      f_L_law_1137 rc28 l0 l1 l2 l3 l4 l5 M147
    )
  ) else (
    some (false, M147)
  )
def f_L_law_1193 (rc28 : Nat → Nat → Nat → Nat → Nat → Int32 → Mem → Option (Bool × Mem)) (l0 : Nat) (l1 : Nat) (l2 : Nat) (l3 : Nat) (l4 : Nat) (l5 : Int32) (M : Mem) : Option (Bool × Mem) :=
  f_L_law_3275 rc28 l0 l1 l2 l3 l4 l5 M
def f_L_law_1140 (rc28 : Nat → Nat → Nat → Nat → Nat → Int32 → Mem → Option (Bool × Mem)) (l0 : Nat) (l1 : Nat) (l2 : Nat) (l3 : Nat) (l4 : Nat) (l5 : Int32) (M : Mem) : Option (Bool × Mem) :=
  (sC M l0 (l5 + 1)).bind fun x150 =>
  (f_L_firstUnseen l1 x150 l3 M).bind fun (x151, M152) =>
  (sC M152 l0 (l5 + 1)).bind fun x153 =>
  (f_X12_firstUnseen l2 x153 M152).bind fun (x154, M155) =>
  (f_X12_thrown l2 M155).bind fun x156 =>
  if x156 = x151 then (
    if x151 = 0 then (
      (aJ M155 1 l3 0).bind fun x157 =>
      if (lg_cmp x157 (Int32.toInt64 x154)) = 0 then (
        f_L_law_1193 rc28 l0 l1 l2 l3 l4 l5 M155
      ) else (
        some (false, M155)
      )
    ) else (
      f_L_law_1193 rc28 l0 l1 l2 l3 l4 l5 M155
    )
  ) else (
    some (false, M155)
  )
def f_L_law_1249 (rc28 : Nat → Nat → Nat → Nat → Nat → Int32 → Mem → Option (Bool × Mem)) (l0 : Nat) (l1 : Nat) (l2 : Nat) (l3 : Nat) (l4 : Nat) (l5 : Int32) (M : Mem) : Option (Bool × Mem) :=
  f_L_law_3275 rc28 l0 l1 l2 l3 l4 l5 M
def f_L_law_1196 (rc28 : Nat → Nat → Nat → Nat → Nat → Int32 → Mem → Option (Bool × Mem)) (l0 : Nat) (l1 : Nat) (l2 : Nat) (l3 : Nat) (l4 : Nat) (l5 : Int32) (M : Mem) : Option (Bool × Mem) :=
  (sC M l0 (l5 + 1)).bind fun x158 =>
  (f_L_largest l1 x158 l3 M).bind fun (x159, M160) =>
  (sC M160 l0 (l5 + 1)).bind fun x161 =>
  (f_X12_largest l2 x161 M160).bind fun (x162, M163) =>
  (f_X12_thrown l2 M163).bind fun x164 =>
  if x164 = x159 then (
    if x159 = 0 then (
      (aJ M163 1 l3 0).bind fun x165 =>
      if (lg_cmp x165 (Int32.toInt64 x162)) = 0 then (
        f_L_law_1249 rc28 l0 l1 l2 l3 l4 l5 M163
      ) else (
        some (false, M163)
      )
    ) else (
      f_L_law_1249 rc28 l0 l1 l2 l3 l4 l5 M163
    )
  ) else (
    some (false, M163)
  )
def f_L_law_1317 (rc28 : Nat → Nat → Nat → Nat → Nat → Int32 → Mem → Option (Bool × Mem)) (l0 : Nat) (l1 : Nat) (l2 : Nat) (l3 : Nat) (l4 : Nat) (l5 : Int32) (M : Mem) : Option (Bool × Mem) :=
  f_L_law_3275 rc28 l0 l1 l2 l3 l4 l5 M
def f_L_law_1252 (rc28 : Nat → Nat → Nat → Nat → Nat → Int32 → Mem → Option (Bool × Mem)) (l0 : Nat) (l1 : Nat) (l2 : Nat) (l3 : Nat) (l4 : Nat) (l5 : Int32) (M : Mem) : Option (Bool × Mem) :=
  (sC M l0 (l5 + 1)).bind fun x166 =>
  (sC M l0 (l5 + 2)).bind fun x167 =>
  (f_L_common l1 x166 x167 l3 M).bind fun (x168, M169) =>
  (sC M169 l0 (l5 + 1)).bind fun x170 =>
  (sC M169 l0 (l5 + 2)).bind fun x171 =>
  (f_X12_common l2 x170 x171 M169).bind fun (x172, M173) =>
  (f_X12_thrown l2 M173).bind fun x174 =>
  if x174 = x168 then (
    if x168 = 0 then (
      (aJ M173 1 l3 0).bind fun x175 =>
      if (lg_cmp x175 (Int32.toInt64 x172)) = 0 then (
        f_L_law_1317 rc28 l0 l1 l2 l3 l4 l5 M173
      ) else (
        some (false, M173)
      )
    ) else (
      f_L_law_1317 rc28 l0 l1 l2 l3 l4 l5 M173
    )
  ) else (
    some (false, M173)
  )
def f_L_law_1385 (rc28 : Nat → Nat → Nat → Nat → Nat → Int32 → Mem → Option (Bool × Mem)) (l0 : Nat) (l1 : Nat) (l2 : Nat) (l3 : Nat) (l4 : Nat) (l5 : Int32) (M : Mem) : Option (Bool × Mem) :=
  f_L_law_3275 rc28 l0 l1 l2 l3 l4 l5 M
def f_L_law_1320 (rc28 : Nat → Nat → Nat → Nat → Nat → Int32 → Mem → Option (Bool × Mem)) (l0 : Nat) (l1 : Nat) (l2 : Nat) (l3 : Nat) (l4 : Nat) (l5 : Int32) (M : Mem) : Option (Bool × Mem) :=
  (sC M l0 (l5 + 1)).bind fun x176 =>
  (sC M l0 (l5 + 2)).bind fun x177 =>
  (f_L_holders l1 x176 x177 l3 M).bind fun (x178, M179) =>
  (sC M179 l0 (l5 + 1)).bind fun x180 =>
  (sC M179 l0 (l5 + 2)).bind fun x181 =>
  (f_X12_holders l2 x180 x181 M179).bind fun (x182, M183) =>
  (f_X12_thrown l2 M183).bind fun x184 =>
  if x184 = x178 then (
    if x178 = 0 then (
      (aJ M183 1 l3 0).bind fun x185 =>
      if (lg_cmp x185 (Int32.toInt64 x182)) = 0 then (
        f_L_law_1385 rc28 l0 l1 l2 l3 l4 l5 M183
      ) else (
        some (false, M183)
      )
    ) else (
      f_L_law_1385 rc28 l0 l1 l2 l3 l4 l5 M183
    )
  ) else (
    some (false, M183)
  )
def f_L_law_1388 (rc28 : Nat → Nat → Nat → Nat → Nat → Int32 → Mem → Option (Bool × Mem)) (l0 : Nat) (l1 : Nat) (l2 : Nat) (l3 : Nat) (l4 : Nat) (l5 : Int32) (M : Mem) : Option (Bool × Mem) :=
  (f_X11_stale l1 M).bind fun x186 =>
  (f_X12_stale l2 M).bind fun (x187, M188) =>
  if x186 = x187 then (
    f_L_law_3275 rc28 l0 l1 l2 l3 l4 l5 M188
  ) else (
    some (false, M188)
  )
def f_L_law_1476 (rc28 : Nat → Nat → Nat → Nat → Nat → Int32 → Mem → Option (Bool × Mem)) (l0 : Nat) (l1 : Nat) (l2 : Nat) (l3 : Nat) (l4 : Nat) (l5 : Int32) (M : Mem) : Option (Bool × Mem) :=
  f_L_law_3275 rc28 l0 l1 l2 l3 l4 l5 M
def f_L_law_1401 (rc28 : Nat → Nat → Nat → Nat → Nat → Int32 → Mem → Option (Bool × Mem)) (l0 : Nat) (l1 : Nat) (l2 : Nat) (l3 : Nat) (l4 : Nat) (l5 : Int32) (M : Mem) : Option (Bool × Mem) :=
  (sC M l0 (l5 + 1)).bind fun x189 =>
  (f_L_unseen l1 x189 l4 M).bind fun (x190, M191) =>
  (sC M191 l0 (l5 + 1)).bind fun x192 =>
  (f_X12_unseen l2 x192 M191).bind fun (x193, M194) =>
  (f_X12_thrown l2 M194).bind fun x195 =>
  if x195 = x190 then (
    if x190 = 0 then (
      (aD M194 4 l4 0).bind fun x196 =>
      nf64 (FP.f2d x193) (
        if (Op.cmpValue (FP.dcmp x196 (FP.f2d x193)) .l) = 0 then (
          f_L_law_1476 rc28 l0 l1 l2 l3 l4 l5 M194
        ) else (
          (aD M194 4 l4 0).bind fun x197 =>
          (aD M194 4 l4 0).bind fun x198 =>
          if (Op.cmpValue (FP.dcmp x197 x198) .l) = 0 then (
            some (false, M194)
          ) else (
            if (Op.cmpValue (FP.fcmp x193 x193) .l) = 0 then (
              some (false, M194)
            ) else (
              f_L_law_1476 rc28 l0 l1 l2 l3 l4 l5 M194
            )
          )
        )
      )
    ) else (
      f_L_law_1476 rc28 l0 l1 l2 l3 l4 l5 M194
    )
  ) else (
    some (false, M194)
  )
def f_L_law_1553 (rc28 : Nat → Nat → Nat → Nat → Nat → Int32 → Mem → Option (Bool × Mem)) (l0 : Nat) (l1 : Nat) (l2 : Nat) (l3 : Nat) (l4 : Nat) (l5 : Int32) (M : Mem) : Option (Bool × Mem) :=
  f_L_law_3275 rc28 l0 l1 l2 l3 l4 l5 M
def f_L_law_1479 (rc28 : Nat → Nat → Nat → Nat → Nat → Int32 → Mem → Option (Bool × Mem)) (l0 : Nat) (l1 : Nat) (l2 : Nat) (l3 : Nat) (l4 : Nat) (l5 : Int32) (M : Mem) : Option (Bool × Mem) :=
  (sC M l0 (l5 + 1)).bind fun x199 =>
  (f_L_mean l1 x199 l4 M).bind fun (x200, M201) =>
  (sC M201 l0 (l5 + 1)).bind fun x202 =>
  (f_X12_mean l2 x202 M201).bind fun (x203, M204) =>
  (f_X12_thrown l2 M204).bind fun x205 =>
  if x205 = x200 then (
    if x200 = 0 then (
      (aD M204 4 l4 0).bind fun x206 =>
      if (Op.cmpValue (FP.dcmp x206 x203) .l) = 0 then (
        f_L_law_1553 rc28 l0 l1 l2 l3 l4 l5 M204
      ) else (
        (aD M204 4 l4 0).bind fun x207 =>
        (aD M204 4 l4 0).bind fun x208 =>
        if (Op.cmpValue (FP.dcmp x207 x208) .l) = 0 then (
          some (false, M204)
        ) else (
          if (Op.cmpValue (FP.dcmp x203 x203) .l) = 0 then (
            some (false, M204)
          ) else (
            f_L_law_1553 rc28 l0 l1 l2 l3 l4 l5 M204
          )
        )
      )
    ) else (
      f_L_law_1553 rc28 l0 l1 l2 l3 l4 l5 M204
    )
  ) else (
    some (false, M204)
  )
def f_L_law_1621 (rc28 : Nat → Nat → Nat → Nat → Nat → Int32 → Mem → Option (Bool × Mem)) (l0 : Nat) (l1 : Nat) (l2 : Nat) (l3 : Nat) (l4 : Nat) (l5 : Int32) (M : Mem) : Option (Bool × Mem) :=
  f_L_law_3275 rc28 l0 l1 l2 l3 l4 l5 M
def f_L_law_1556 (rc28 : Nat → Nat → Nat → Nat → Nat → Int32 → Mem → Option (Bool × Mem)) (l0 : Nat) (l1 : Nat) (l2 : Nat) (l3 : Nat) (l4 : Nat) (l5 : Int32) (M : Mem) : Option (Bool × Mem) :=
  (sC M l0 (l5 + 1)).bind fun x209 =>
  (sC M l0 (l5 + 2)).bind fun x210 =>
  (f_L_account l1 x209 x210 l3 M).bind fun (x211, M212) =>
  (sC M212 l0 (l5 + 1)).bind fun x213 =>
  (sC M212 l0 (l5 + 2)).bind fun x214 =>
  (f_X12_account l2 x213 x214 M212).bind fun (x215, M216) =>
  (f_X12_thrown l2 M216).bind fun x217 =>
  if x217 = x211 then (
    if x211 = 0 then (
      (aJ M216 1 l3 0).bind fun x218 =>
      if (lg_cmp x218 (Int32.toInt64 x215)) = 0 then (
        f_L_law_1621 rc28 l0 l1 l2 l3 l4 l5 M216
      ) else (
        some (false, M216)
      )
    ) else (
      f_L_law_1621 rc28 l0 l1 l2 l3 l4 l5 M216
    )
  ) else (
    some (false, M216)
  )
def f_L_law_1689 (rc28 : Nat → Nat → Nat → Nat → Nat → Int32 → Mem → Option (Bool × Mem)) (l0 : Nat) (l1 : Nat) (l2 : Nat) (l3 : Nat) (l4 : Nat) (l5 : Int32) (M : Mem) : Option (Bool × Mem) :=
  f_L_law_3275 rc28 l0 l1 l2 l3 l4 l5 M
def f_L_law_1624 (rc28 : Nat → Nat → Nat → Nat → Nat → Int32 → Mem → Option (Bool × Mem)) (l0 : Nat) (l1 : Nat) (l2 : Nat) (l3 : Nat) (l4 : Nat) (l5 : Int32) (M : Mem) : Option (Bool × Mem) :=
  (sC M l0 (l5 + 1)).bind fun x219 =>
  (sC M l0 (l5 + 2)).bind fun x220 =>
  (f_L_notice l1 x219 x220 l3 M).bind fun (x221, M222) =>
  (sC M222 l0 (l5 + 1)).bind fun x223 =>
  (sC M222 l0 (l5 + 2)).bind fun x224 =>
  (f_X12_notice l2 x223 x224 M222).bind fun (x225, M226) =>
  (f_X12_thrown l2 M226).bind fun x227 =>
  if x227 = x221 then (
    if x221 = 0 then (
      (aJ M226 1 l3 0).bind fun x228 =>
      if (lg_cmp x228 (Int32.toInt64 x225)) = 0 then (
        f_L_law_1689 rc28 l0 l1 l2 l3 l4 l5 M226
      ) else (
        some (false, M226)
      )
    ) else (
      f_L_law_1689 rc28 l0 l1 l2 l3 l4 l5 M226
    )
  ) else (
    some (false, M226)
  )
def f_L_law_1745 (rc28 : Nat → Nat → Nat → Nat → Nat → Int32 → Mem → Option (Bool × Mem)) (l0 : Nat) (l1 : Nat) (l2 : Nat) (l3 : Nat) (l4 : Nat) (l5 : Int32) (M : Mem) : Option (Bool × Mem) :=
  f_L_law_3275 rc28 l0 l1 l2 l3 l4 l5 M
def f_L_law_1692 (rc28 : Nat → Nat → Nat → Nat → Nat → Int32 → Mem → Option (Bool × Mem)) (l0 : Nat) (l1 : Nat) (l2 : Nat) (l3 : Nat) (l4 : Nat) (l5 : Int32) (M : Mem) : Option (Bool × Mem) :=
  (sC M l0 (l5 + 1)).bind fun x229 =>
  (f_L_searchBox l1 x229 l3 M).bind fun (x230, M231) =>
  (sC M231 l0 (l5 + 1)).bind fun x232 =>
  (f_X12_searchBox l2 x232 M231).bind fun (x233, M234) =>
  (f_X12_thrown l2 M234).bind fun x235 =>
  if x235 = x230 then (
    if x230 = 0 then (
      (aJ M234 1 l3 0).bind fun x236 =>
      if (lg_cmp x236 (Int32.toInt64 x233)) = 0 then (
        f_L_law_1745 rc28 l0 l1 l2 l3 l4 l5 M234
      ) else (
        some (false, M234)
      )
    ) else (
      f_L_law_1745 rc28 l0 l1 l2 l3 l4 l5 M234
    )
  ) else (
    some (false, M234)
  )
def f_L_law_1841 (rc28 : Nat → Nat → Nat → Nat → Nat → Int32 → Mem → Option (Bool × Mem)) (l0 : Nat) (l1 : Nat) (l2 : Nat) (l3 : Nat) (l4 : Nat) (l5 : Int32) (M : Mem) : Option (Bool × Mem) :=
  f_L_law_3275 rc28 l0 l1 l2 l3 l4 l5 M
def f_L_law_1808 (rc28 : Nat → Nat → Nat → Nat → Nat → Int32 → Mem → Option (Bool × Mem)) (l0 : Nat) (l1 : Nat) (l2 : Nat) (l3 : Nat) (l4 : Nat) (l5 : Int32) (l6 : Int32) (s0 : Nat) (s1 : Int32) (s2 : Int32) (s3 : Bool) (M : Mem) : Option (Bool × Mem) :=
  (f_X12_select s0 s1 s2 s3 M).bind fun (x245, M246) =>
  (f_X12_thrown l2 M246).bind fun x247 =>
  if x247 = l6 then (
    if l6 = 0 then (
      (aJ M246 1 l3 0).bind fun x248 =>
      if (lg_cmp x248 (Int32.toInt64 x245)) = 0 then (
        f_L_law_1841 rc28 l0 l1 l2 l3 l4 l5 M246
      ) else (
        some (false, M246)
      )
    ) else (
      f_L_law_1841 rc28 l0 l1 l2 l3 l4 l5 M246
    )
  ) else (
    some (false, M246)
  )
def f_L_law_1775 (rc28 : Nat → Nat → Nat → Nat → Nat → Int32 → Mem → Option (Bool × Mem)) (l0 : Nat) (l1 : Nat) (l2 : Nat) (l3 : Nat) (l4 : Nat) (l5 : Int32) (s0 : Nat) (s1 : Int32) (s2 : Int32) (s3 : Bool) (M : Mem) : Option (Bool × Mem) :=
  (f_L_select s0 s1 s2 s3 l3 M).bind fun (x240, M241) =>
  (sC M241 l0 (l5 + 1)).bind fun x242 =>
  (sC M241 l0 (l5 + 2)).bind fun x243 =>
  (sC M241 l0 (l5 + 3)).bind fun x244 =>
  if x244 = 0 then (
    f_L_law_1808 rc28 l0 l1 l2 l3 l4 l5 x240 l2 x242 x243 false M241
  ) else (
    f_L_law_1808 rc28 l0 l1 l2 l3 l4 l5 x240 l2 x242 x243 true M241
  )
def f_L_law_1748 (rc28 : Nat → Nat → Nat → Nat → Nat → Int32 → Mem → Option (Bool × Mem)) (l0 : Nat) (l1 : Nat) (l2 : Nat) (l3 : Nat) (l4 : Nat) (l5 : Int32) (M : Mem) : Option (Bool × Mem) :=
  (sC M l0 (l5 + 1)).bind fun x237 =>
  (sC M l0 (l5 + 2)).bind fun x238 =>
  (sC M l0 (l5 + 3)).bind fun x239 =>
  if x239 = 0 then (
    f_L_law_1775 rc28 l0 l1 l2 l3 l4 l5 l1 x237 x238 false M
  ) else (
    f_L_law_1775 rc28 l0 l1 l2 l3 l4 l5 l1 x237 x238 true M
  )
def f_L_law_1897 (rc28 : Nat → Nat → Nat → Nat → Nat → Int32 → Mem → Option (Bool × Mem)) (l0 : Nat) (l1 : Nat) (l2 : Nat) (l3 : Nat) (l4 : Nat) (l5 : Int32) (M : Mem) : Option (Bool × Mem) :=
  f_L_law_3275 rc28 l0 l1 l2 l3 l4 l5 M
def f_L_law_1844 (rc28 : Nat → Nat → Nat → Nat → Nat → Int32 → Mem → Option (Bool × Mem)) (l0 : Nat) (l1 : Nat) (l2 : Nat) (l3 : Nat) (l4 : Nat) (l5 : Int32) (M : Mem) : Option (Bool × Mem) :=
  (sC M l0 (l5 + 1)).bind fun x249 =>
  (f_L_noop l1 x249 l3 M).bind fun (x250, M251) =>
  (sC M251 l0 (l5 + 1)).bind fun x252 =>
  (f_X12_noop l2 x252 M251).bind fun (x253, M254) =>
  (f_X12_thrown l2 M254).bind fun x255 =>
  if x255 = x250 then (
    if x250 = 0 then (
      (aJ M254 1 l3 0).bind fun x256 =>
      if (lg_cmp x256 (Int32.toInt64 x253)) = 0 then (
        f_L_law_1897 rc28 l0 l1 l2 l3 l4 l5 M254
      ) else (
        some (false, M254)
      )
    ) else (
      f_L_law_1897 rc28 l0 l1 l2 l3 l4 l5 M254
    )
  ) else (
    some (false, M254)
  )
def f_L_law_1953 (rc28 : Nat → Nat → Nat → Nat → Nat → Int32 → Mem → Option (Bool × Mem)) (l0 : Nat) (l1 : Nat) (l2 : Nat) (l3 : Nat) (l4 : Nat) (l5 : Int32) (M : Mem) : Option (Bool × Mem) :=
  f_L_law_3275 rc28 l0 l1 l2 l3 l4 l5 M
def f_L_law_1900 (rc28 : Nat → Nat → Nat → Nat → Nat → Int32 → Mem → Option (Bool × Mem)) (l0 : Nat) (l1 : Nat) (l2 : Nat) (l3 : Nat) (l4 : Nat) (l5 : Int32) (M : Mem) : Option (Bool × Mem) :=
  (sC M l0 (l5 + 1)).bind fun x257 =>
  (f_L_startIdle l1 x257 l3 M).bind fun (x258, M259) =>
  (sC M259 l0 (l5 + 1)).bind fun x260 =>
  (f_X12_startIdle l2 x260 M259).bind fun (x261, M262) =>
  (f_X12_thrown l2 M262).bind fun x263 =>
  if x263 = x258 then (
    if x258 = 0 then (
      (aJ M262 1 l3 0).bind fun x264 =>
      if (lg_cmp x264 (Int32.toInt64 x261)) = 0 then (
        f_L_law_1953 rc28 l0 l1 l2 l3 l4 l5 M262
      ) else (
        some (false, M262)
      )
    ) else (
      f_L_law_1953 rc28 l0 l1 l2 l3 l4 l5 M262
    )
  ) else (
    some (false, M262)
  )
def f_L_law_2009 (rc28 : Nat → Nat → Nat → Nat → Nat → Int32 → Mem → Option (Bool × Mem)) (l0 : Nat) (l1 : Nat) (l2 : Nat) (l3 : Nat) (l4 : Nat) (l5 : Int32) (M : Mem) : Option (Bool × Mem) :=
  f_L_law_3275 rc28 l0 l1 l2 l3 l4 l5 M
def f_L_law_1956 (rc28 : Nat → Nat → Nat → Nat → Nat → Int32 → Mem → Option (Bool × Mem)) (l0 : Nat) (l1 : Nat) (l2 : Nat) (l3 : Nat) (l4 : Nat) (l5 : Int32) (M : Mem) : Option (Bool × Mem) :=
  (sC M l0 (l5 + 1)).bind fun x265 =>
  (f_L_stopIdle l1 x265 l3 M).bind fun (x266, M267) =>
  (sC M267 l0 (l5 + 1)).bind fun x268 =>
  (f_X12_stopIdle l2 x268 M267).bind fun (x269, M270) =>
  (f_X12_thrown l2 M270).bind fun x271 =>
  if x271 = x266 then (
    if x266 = 0 then (
      (aJ M270 1 l3 0).bind fun x272 =>
      if (lg_cmp x272 (Int32.toInt64 x269)) = 0 then (
        f_L_law_2009 rc28 l0 l1 l2 l3 l4 l5 M270
      ) else (
        some (false, M270)
      )
    ) else (
      f_L_law_2009 rc28 l0 l1 l2 l3 l4 l5 M270
    )
  ) else (
    some (false, M270)
  )
def f_L_law_2117 (rc28 : Nat → Nat → Nat → Nat → Nat → Int32 → Mem → Option (Bool × Mem)) (l0 : Nat) (l1 : Nat) (l2 : Nat) (l3 : Nat) (l4 : Nat) (l5 : Int32) (M : Mem) : Option (Bool × Mem) :=
  f_L_law_3275 rc28 l0 l1 l2 l3 l4 l5 M
def f_L_law_2084 (rc28 : Nat → Nat → Nat → Nat → Nat → Int32 → Mem → Option (Bool × Mem)) (l0 : Nat) (l1 : Nat) (l2 : Nat) (l3 : Nat) (l4 : Nat) (l5 : Int32) (l6 : Int32) (s0 : Nat) (s1 : Int32) (s2 : Int32) (s3 : Int32) (s4 : Bool) (M : Mem) : Option (Bool × Mem) :=
  (f_X12_fetch s0 s1 s2 s3 s4 M).bind fun (x283, M284) =>
  (f_X12_thrown l2 M284).bind fun x285 =>
  if x285 = l6 then (
    if l6 = 0 then (
      (aJ M284 1 l3 0).bind fun x286 =>
      if (lg_cmp x286 (Int32.toInt64 x283)) = 0 then (
        f_L_law_2117 rc28 l0 l1 l2 l3 l4 l5 M284
      ) else (
        some (false, M284)
      )
    ) else (
      f_L_law_2117 rc28 l0 l1 l2 l3 l4 l5 M284
    )
  ) else (
    some (false, M284)
  )
def f_L_law_2045 (rc28 : Nat → Nat → Nat → Nat → Nat → Int32 → Mem → Option (Bool × Mem)) (l0 : Nat) (l1 : Nat) (l2 : Nat) (l3 : Nat) (l4 : Nat) (l5 : Int32) (s0 : Nat) (s1 : Int32) (s2 : Int32) (s3 : Int32) (s4 : Bool) (M : Mem) : Option (Bool × Mem) :=
  (f_L_fetch s0 s1 s2 s3 s4 l3 M).bind fun (x277, M278) =>
  (sC M278 l0 (l5 + 1)).bind fun x279 =>
  (sC M278 l0 (l5 + 2)).bind fun x280 =>
  (sC M278 l0 (l5 + 3)).bind fun x281 =>
  (sC M278 l0 (l5 + 4)).bind fun x282 =>
  if x282 = 0 then (
    f_L_law_2084 rc28 l0 l1 l2 l3 l4 l5 x277 l2 x279 x280 x281 false M278
  ) else (
    f_L_law_2084 rc28 l0 l1 l2 l3 l4 l5 x277 l2 x279 x280 x281 true M278
  )
def f_L_law_2012 (rc28 : Nat → Nat → Nat → Nat → Nat → Int32 → Mem → Option (Bool × Mem)) (l0 : Nat) (l1 : Nat) (l2 : Nat) (l3 : Nat) (l4 : Nat) (l5 : Int32) (M : Mem) : Option (Bool × Mem) :=
  (sC M l0 (l5 + 1)).bind fun x273 =>
  (sC M l0 (l5 + 2)).bind fun x274 =>
  (sC M l0 (l5 + 3)).bind fun x275 =>
  (sC M l0 (l5 + 4)).bind fun x276 =>
  if x276 = 0 then (
    f_L_law_2045 rc28 l0 l1 l2 l3 l4 l5 l1 x273 x274 x275 false M
  ) else (
    f_L_law_2045 rc28 l0 l1 l2 l3 l4 l5 l1 x273 x274 x275 true M
  )
def f_L_law_2251 (rc28 : Nat → Nat → Nat → Nat → Nat → Int32 → Mem → Option (Bool × Mem)) (l0 : Nat) (l1 : Nat) (l2 : Nat) (l3 : Nat) (l4 : Nat) (l5 : Int32) (M : Mem) : Option (Bool × Mem) :=
  f_L_law_3275 rc28 l0 l1 l2 l3 l4 l5 M
def f_L_law_2218 (rc28 : Nat → Nat → Nat → Nat → Nat → Int32 → Mem → Option (Bool × Mem)) (l0 : Nat) (l1 : Nat) (l2 : Nat) (l3 : Nat) (l4 : Nat) (l5 : Int32) (l6 : Int32) (s0 : Nat) (s1 : Int32) (s2 : Int32) (s3 : Int32) (s4 : Int32) (s5 : Int32) (s6 : Bool) (M : Mem) : Option (Bool × Mem) :=
  (f_X12_store s0 s1 s2 s3 s4 s5 s6 M).bind fun (x301, M302) =>
  (f_X12_thrown l2 M302).bind fun x303 =>
  if x303 = l6 then (
    if l6 = 0 then (
      (aJ M302 1 l3 0).bind fun x304 =>
      if (lg_cmp x304 (Int32.toInt64 x301)) = 0 then (
        f_L_law_2251 rc28 l0 l1 l2 l3 l4 l5 M302
      ) else (
        some (false, M302)
      )
    ) else (
      f_L_law_2251 rc28 l0 l1 l2 l3 l4 l5 M302
    )
  ) else (
    some (false, M302)
  )
def f_L_law_2166 (rc28 : Nat → Nat → Nat → Nat → Nat → Int32 → Mem → Option (Bool × Mem)) (l0 : Nat) (l1 : Nat) (l2 : Nat) (l3 : Nat) (l4 : Nat) (l5 : Int32) (s0 : Nat) (s1 : Int32) (s2 : Int32) (s3 : Int32) (s4 : Int32) (s5 : Int32) (s6 : Bool) (M : Mem) : Option (Bool × Mem) :=
  (f_L_store s0 s1 s2 s3 s4 s5 s6 l3 M).bind fun (x293, M294) =>
  (sC M294 l0 (l5 + 1)).bind fun x295 =>
  (sC M294 l0 (l5 + 2)).bind fun x296 =>
  (sC M294 l0 (l5 + 3)).bind fun x297 =>
  (sC M294 l0 (l5 + 4)).bind fun x298 =>
  (sC M294 l0 (l5 + 5)).bind fun x299 =>
  (sC M294 l0 (l5 + 6)).bind fun x300 =>
  if x300 = 0 then (
    f_L_law_2218 rc28 l0 l1 l2 l3 l4 l5 x293 l2 x295 x296 x297 x298 x299 false M294
  ) else (
    f_L_law_2218 rc28 l0 l1 l2 l3 l4 l5 x293 l2 x295 x296 x297 x298 x299 true M294
  )
def f_L_law_2120 (rc28 : Nat → Nat → Nat → Nat → Nat → Int32 → Mem → Option (Bool × Mem)) (l0 : Nat) (l1 : Nat) (l2 : Nat) (l3 : Nat) (l4 : Nat) (l5 : Int32) (M : Mem) : Option (Bool × Mem) :=
  (sC M l0 (l5 + 1)).bind fun x287 =>
  (sC M l0 (l5 + 2)).bind fun x288 =>
  (sC M l0 (l5 + 3)).bind fun x289 =>
  (sC M l0 (l5 + 4)).bind fun x290 =>
  (sC M l0 (l5 + 5)).bind fun x291 =>
  (sC M l0 (l5 + 6)).bind fun x292 =>
  if x292 = 0 then (
    f_L_law_2166 rc28 l0 l1 l2 l3 l4 l5 l1 x287 x288 x289 x290 x291 false M
  ) else (
    f_L_law_2166 rc28 l0 l1 l2 l3 l4 l5 l1 x287 x288 x289 x290 x291 true M
  )
def f_L_law_2355 (rc28 : Nat → Nat → Nat → Nat → Nat → Int32 → Mem → Option (Bool × Mem)) (l0 : Nat) (l1 : Nat) (l2 : Nat) (l3 : Nat) (l4 : Nat) (l5 : Int32) (M : Mem) : Option (Bool × Mem) :=
  f_L_law_3275 rc28 l0 l1 l2 l3 l4 l5 M
def f_L_law_2254 (rc28 : Nat → Nat → Nat → Nat → Nat → Int32 → Mem → Option (Bool × Mem)) (l0 : Nat) (l1 : Nat) (l2 : Nat) (l3 : Nat) (l4 : Nat) (l5 : Int32) (M : Mem) : Option (Bool × Mem) :=
  (sC M l0 (l5 + 1)).bind fun x305 =>
  (sC M l0 (l5 + 2)).bind fun x306 =>
  (sC M l0 (l5 + 3)).bind fun x307 =>
  (sC M l0 (l5 + 4)).bind fun x308 =>
  (sC M l0 (l5 + 5)).bind fun x309 =>
  (f_L_uidStore l1 x305 x306 x307 x308 x309 l3 M).bind fun (x310, M311) =>
  (sC M311 l0 (l5 + 1)).bind fun x312 =>
  (sC M311 l0 (l5 + 2)).bind fun x313 =>
  (sC M311 l0 (l5 + 3)).bind fun x314 =>
  (sC M311 l0 (l5 + 4)).bind fun x315 =>
  (sC M311 l0 (l5 + 5)).bind fun x316 =>
  (f_X12_uidStore l2 x312 x313 x314 x315 x316 M311).bind fun (x317, M318) =>
  (f_X12_thrown l2 M318).bind fun x319 =>
  if x319 = x310 then (
    if x310 = 0 then (
      (aJ M318 1 l3 0).bind fun x320 =>
      if (lg_cmp x320 (Int32.toInt64 x317)) = 0 then (
        f_L_law_2355 rc28 l0 l1 l2 l3 l4 l5 M318
      ) else (
        some (false, M318)
      )
    ) else (
      f_L_law_2355 rc28 l0 l1 l2 l3 l4 l5 M318
    )
  ) else (
    some (false, M318)
  )
def f_L_law_2410 (rc28 : Nat → Nat → Nat → Nat → Nat → Int32 → Mem → Option (Bool × Mem)) (l0 : Nat) (l1 : Nat) (l2 : Nat) (l3 : Nat) (l4 : Nat) (l5 : Int32) (M : Mem) : Option (Bool × Mem) :=
  f_L_law_3275 rc28 l0 l1 l2 l3 l4 l5 M
def f_L_law_2358 (rc28 : Nat → Nat → Nat → Nat → Nat → Int32 → Mem → Option (Bool × Mem)) (l0 : Nat) (l1 : Nat) (l2 : Nat) (l3 : Nat) (l4 : Nat) (l5 : Int32) (M : Mem) : Option (Bool × Mem) :=
  (sC M l0 (l5 + 1)).bind fun x321 =>
  (f_L_search l1 x321 l3 M).bind fun (x322, M323) =>
  (sC M323 l0 (l5 + 1)).bind fun x324 =>
  (f_X12_search l2 x324 M323).bind fun (x325, M326) =>
  (f_X12_thrown l2 M326).bind fun x327 =>
  if x327 = x322 then (
    if x322 = 0 then (
      (aJ M326 1 l3 0).bind fun x328 =>
      if (lg_cmp x328 x325) = 0 then (
        f_L_law_2410 rc28 l0 l1 l2 l3 l4 l5 M326
      ) else (
        some (false, M326)
      )
    ) else (
      f_L_law_2410 rc28 l0 l1 l2 l3 l4 l5 M326
    )
  ) else (
    some (false, M326)
  )
def f_L_law_2466 (rc28 : Nat → Nat → Nat → Nat → Nat → Int32 → Mem → Option (Bool × Mem)) (l0 : Nat) (l1 : Nat) (l2 : Nat) (l3 : Nat) (l4 : Nat) (l5 : Int32) (M : Mem) : Option (Bool × Mem) :=
  f_L_law_3275 rc28 l0 l1 l2 l3 l4 l5 M
def f_L_law_2413 (rc28 : Nat → Nat → Nat → Nat → Nat → Int32 → Mem → Option (Bool × Mem)) (l0 : Nat) (l1 : Nat) (l2 : Nat) (l3 : Nat) (l4 : Nat) (l5 : Int32) (M : Mem) : Option (Bool × Mem) :=
  (sC M l0 (l5 + 1)).bind fun x329 =>
  (f_L_expunge l1 x329 l3 M).bind fun (x330, M331) =>
  (sC M331 l0 (l5 + 1)).bind fun x332 =>
  (f_X12_expunge l2 x332 M331).bind fun (x333, M334) =>
  (f_X12_thrown l2 M334).bind fun x335 =>
  if x335 = x330 then (
    if x330 = 0 then (
      (aJ M334 1 l3 0).bind fun x336 =>
      if (lg_cmp x336 (Int32.toInt64 x333)) = 0 then (
        f_L_law_2466 rc28 l0 l1 l2 l3 l4 l5 M334
      ) else (
        some (false, M334)
      )
    ) else (
      f_L_law_2466 rc28 l0 l1 l2 l3 l4 l5 M334
    )
  ) else (
    some (false, M334)
  )
def f_L_law_2546 (rc28 : Nat → Nat → Nat → Nat → Nat → Int32 → Mem → Option (Bool × Mem)) (l0 : Nat) (l1 : Nat) (l2 : Nat) (l3 : Nat) (l4 : Nat) (l5 : Int32) (M : Mem) : Option (Bool × Mem) :=
  f_L_law_3275 rc28 l0 l1 l2 l3 l4 l5 M
def f_L_law_2469 (rc28 : Nat → Nat → Nat → Nat → Nat → Int32 → Mem → Option (Bool × Mem)) (l0 : Nat) (l1 : Nat) (l2 : Nat) (l3 : Nat) (l4 : Nat) (l5 : Int32) (M : Mem) : Option (Bool × Mem) :=
  (sC M l0 (l5 + 1)).bind fun x337 =>
  (sC M l0 (l5 + 2)).bind fun x338 =>
  (sC M l0 (l5 + 3)).bind fun x339 =>
  (f_L_uidExpunge l1 x337 x338 x339 l3 M).bind fun (x340, M341) =>
  (sC M341 l0 (l5 + 1)).bind fun x342 =>
  (sC M341 l0 (l5 + 2)).bind fun x343 =>
  (sC M341 l0 (l5 + 3)).bind fun x344 =>
  (f_X12_uidExpunge l2 x342 x343 x344 M341).bind fun (x345, M346) =>
  (f_X12_thrown l2 M346).bind fun x347 =>
  if x347 = x340 then (
    if x340 = 0 then (
      (aJ M346 1 l3 0).bind fun x348 =>
      if (lg_cmp x348 (Int32.toInt64 x345)) = 0 then (
        f_L_law_2546 rc28 l0 l1 l2 l3 l4 l5 M346
      ) else (
        some (false, M346)
      )
    ) else (
      f_L_law_2546 rc28 l0 l1 l2 l3 l4 l5 M346
    )
  ) else (
    some (false, M346)
  )
def f_L_law_2638 (rc28 : Nat → Nat → Nat → Nat → Nat → Int32 → Mem → Option (Bool × Mem)) (l0 : Nat) (l1 : Nat) (l2 : Nat) (l3 : Nat) (l4 : Nat) (l5 : Int32) (M : Mem) : Option (Bool × Mem) :=
  f_L_law_3275 rc28 l0 l1 l2 l3 l4 l5 M
def f_L_law_2549 (rc28 : Nat → Nat → Nat → Nat → Nat → Int32 → Mem → Option (Bool × Mem)) (l0 : Nat) (l1 : Nat) (l2 : Nat) (l3 : Nat) (l4 : Nat) (l5 : Int32) (M : Mem) : Option (Bool × Mem) :=
  (sC M l0 (l5 + 1)).bind fun x349 =>
  (sC M l0 (l5 + 2)).bind fun x350 =>
  (sC M l0 (l5 + 3)).bind fun x351 =>
  (sC M l0 (l5 + 4)).bind fun x352 =>
  (f_L_copy l1 x349 x350 x351 x352 l3 M).bind fun (x353, M354) =>
  (sC M354 l0 (l5 + 1)).bind fun x355 =>
  (sC M354 l0 (l5 + 2)).bind fun x356 =>
  (sC M354 l0 (l5 + 3)).bind fun x357 =>
  (sC M354 l0 (l5 + 4)).bind fun x358 =>
  (f_X12_copy l2 x355 x356 x357 x358 M354).bind fun (x359, M360) =>
  (f_X12_thrown l2 M360).bind fun x361 =>
  if x361 = x353 then (
    if x353 = 0 then (
      (aJ M360 1 l3 0).bind fun x362 =>
      if (lg_cmp x362 (Int32.toInt64 x359)) = 0 then (
        f_L_law_2638 rc28 l0 l1 l2 l3 l4 l5 M360
      ) else (
        some (false, M360)
      )
    ) else (
      f_L_law_2638 rc28 l0 l1 l2 l3 l4 l5 M360
    )
  ) else (
    some (false, M360)
  )
def f_L_law_2730 (rc28 : Nat → Nat → Nat → Nat → Nat → Int32 → Mem → Option (Bool × Mem)) (l0 : Nat) (l1 : Nat) (l2 : Nat) (l3 : Nat) (l4 : Nat) (l5 : Int32) (M : Mem) : Option (Bool × Mem) :=
  f_L_law_3275 rc28 l0 l1 l2 l3 l4 l5 M
def f_L_law_2641 (rc28 : Nat → Nat → Nat → Nat → Nat → Int32 → Mem → Option (Bool × Mem)) (l0 : Nat) (l1 : Nat) (l2 : Nat) (l3 : Nat) (l4 : Nat) (l5 : Int32) (M : Mem) : Option (Bool × Mem) :=
  (sC M l0 (l5 + 1)).bind fun x363 =>
  (sC M l0 (l5 + 2)).bind fun x364 =>
  (sC M l0 (l5 + 3)).bind fun x365 =>
  (sC M l0 (l5 + 4)).bind fun x366 =>
  (f_L_move l1 x363 x364 x365 x366 l3 M).bind fun (x367, M368) =>
  (sC M368 l0 (l5 + 1)).bind fun x369 =>
  (sC M368 l0 (l5 + 2)).bind fun x370 =>
  (sC M368 l0 (l5 + 3)).bind fun x371 =>
  (sC M368 l0 (l5 + 4)).bind fun x372 =>
  (f_X12_move l2 x369 x370 x371 x372 M368).bind fun (x373, M374) =>
  (f_X12_thrown l2 M374).bind fun x375 =>
  if x375 = x367 then (
    if x367 = 0 then (
      (aJ M374 1 l3 0).bind fun x376 =>
      if (lg_cmp x376 (Int32.toInt64 x373)) = 0 then (
        f_L_law_2730 rc28 l0 l1 l2 l3 l4 l5 M374
      ) else (
        some (false, M374)
      )
    ) else (
      f_L_law_2730 rc28 l0 l1 l2 l3 l4 l5 M374
    )
  ) else (
    some (false, M374)
  )
def f_L_law_2786 (rc28 : Nat → Nat → Nat → Nat → Nat → Int32 → Mem → Option (Bool × Mem)) (l0 : Nat) (l1 : Nat) (l2 : Nat) (l3 : Nat) (l4 : Nat) (l5 : Int32) (M : Mem) : Option (Bool × Mem) :=
  f_L_law_3275 rc28 l0 l1 l2 l3 l4 l5 M
def f_L_law_2733 (rc28 : Nat → Nat → Nat → Nat → Nat → Int32 → Mem → Option (Bool × Mem)) (l0 : Nat) (l1 : Nat) (l2 : Nat) (l3 : Nat) (l4 : Nat) (l5 : Int32) (M : Mem) : Option (Bool × Mem) :=
  (sC M l0 (l5 + 1)).bind fun x377 =>
  (f_L_close l1 x377 l3 M).bind fun (x378, M379) =>
  (sC M379 l0 (l5 + 1)).bind fun x380 =>
  (f_X12_close l2 x380 M379).bind fun (x381, M382) =>
  (f_X12_thrown l2 M382).bind fun x383 =>
  if x383 = x378 then (
    if x378 = 0 then (
      (aJ M382 1 l3 0).bind fun x384 =>
      if (lg_cmp x384 (Int32.toInt64 x381)) = 0 then (
        f_L_law_2786 rc28 l0 l1 l2 l3 l4 l5 M382
      ) else (
        some (false, M382)
      )
    ) else (
      f_L_law_2786 rc28 l0 l1 l2 l3 l4 l5 M382
    )
  ) else (
    some (false, M382)
  )
def f_L_law_2866 (rc28 : Nat → Nat → Nat → Nat → Nat → Int32 → Mem → Option (Bool × Mem)) (l0 : Nat) (l1 : Nat) (l2 : Nat) (l3 : Nat) (l4 : Nat) (l5 : Int32) (M : Mem) : Option (Bool × Mem) :=
  f_L_law_3275 rc28 l0 l1 l2 l3 l4 l5 M
def f_L_law_2789 (rc28 : Nat → Nat → Nat → Nat → Nat → Int32 → Mem → Option (Bool × Mem)) (l0 : Nat) (l1 : Nat) (l2 : Nat) (l3 : Nat) (l4 : Nat) (l5 : Int32) (M : Mem) : Option (Bool × Mem) :=
  (sC M l0 (l5 + 1)).bind fun x385 =>
  (sC M l0 (l5 + 2)).bind fun x386 =>
  (sC M l0 (l5 + 3)).bind fun x387 =>
  (f_L_deliver l1 x385 x386 x387 l3 M).bind fun (x388, M389) =>
  (sC M389 l0 (l5 + 1)).bind fun x390 =>
  (sC M389 l0 (l5 + 2)).bind fun x391 =>
  (sC M389 l0 (l5 + 3)).bind fun x392 =>
  (f_X12_deliver l2 x390 x391 x392 M389).bind fun (x393, M394) =>
  (f_X12_thrown l2 M394).bind fun x395 =>
  if x395 = x388 then (
    if x388 = 0 then (
      (aJ M394 1 l3 0).bind fun x396 =>
      if (lg_cmp x396 (Int32.toInt64 x393)) = 0 then (
        f_L_law_2866 rc28 l0 l1 l2 l3 l4 l5 M394
      ) else (
        some (false, M394)
      )
    ) else (
      f_L_law_2866 rc28 l0 l1 l2 l3 l4 l5 M394
    )
  ) else (
    some (false, M394)
  )
def f_L_law_2922 (rc28 : Nat → Nat → Nat → Nat → Nat → Int32 → Mem → Option (Bool × Mem)) (l0 : Nat) (l1 : Nat) (l2 : Nat) (l3 : Nat) (l4 : Nat) (l5 : Int32) (M : Mem) : Option (Bool × Mem) :=
  f_L_law_3275 rc28 l0 l1 l2 l3 l4 l5 M
def f_L_law_2869 (rc28 : Nat → Nat → Nat → Nat → Nat → Int32 → Mem → Option (Bool × Mem)) (l0 : Nat) (l1 : Nat) (l2 : Nat) (l3 : Nat) (l4 : Nat) (l5 : Int32) (M : Mem) : Option (Bool × Mem) :=
  (sC M l0 (l5 + 1)).bind fun x397 =>
  (f_L_setLimit l1 x397 l3 M).bind fun (x398, M399) =>
  (sC M399 l0 (l5 + 1)).bind fun x400 =>
  (f_X12_setLimit l2 x400 M399).bind fun (x401, M402) =>
  (f_X12_thrown l2 M402).bind fun x403 =>
  if x403 = x398 then (
    if x398 = 0 then (
      (aJ M402 1 l3 0).bind fun x404 =>
      if (lg_cmp x404 (Int32.toInt64 x401)) = 0 then (
        f_L_law_2922 rc28 l0 l1 l2 l3 l4 l5 M402
      ) else (
        some (false, M402)
      )
    ) else (
      f_L_law_2922 rc28 l0 l1 l2 l3 l4 l5 M402
    )
  ) else (
    some (false, M402)
  )
def f_L_law_2978 (rc28 : Nat → Nat → Nat → Nat → Nat → Int32 → Mem → Option (Bool × Mem)) (l0 : Nat) (l1 : Nat) (l2 : Nat) (l3 : Nat) (l4 : Nat) (l5 : Int32) (M : Mem) : Option (Bool × Mem) :=
  f_L_law_3275 rc28 l0 l1 l2 l3 l4 l5 M
def f_L_law_2925 (rc28 : Nat → Nat → Nat → Nat → Nat → Int32 → Mem → Option (Bool × Mem)) (l0 : Nat) (l1 : Nat) (l2 : Nat) (l3 : Nat) (l4 : Nat) (l5 : Int32) (M : Mem) : Option (Bool × Mem) :=
  (sC M l0 (l5 + 1)).bind fun x405 =>
  (f_L_keep l1 x405 l3 M).bind fun (x406, M407) =>
  (sC M407 l0 (l5 + 1)).bind fun x408 =>
  (f_X12_keep l2 x408 M407).bind fun (x409, M410) =>
  (f_X12_thrown l2 M410).bind fun x411 =>
  if x411 = x406 then (
    if x406 = 0 then (
      (aJ M410 1 l3 0).bind fun x412 =>
      if (lg_cmp x412 (Int32.toInt64 x409)) = 0 then (
        f_L_law_2978 rc28 l0 l1 l2 l3 l4 l5 M410
      ) else (
        some (false, M410)
      )
    ) else (
      f_L_law_2978 rc28 l0 l1 l2 l3 l4 l5 M410
    )
  ) else (
    some (false, M410)
  )
def f_L_law_3034 (rc28 : Nat → Nat → Nat → Nat → Nat → Int32 → Mem → Option (Bool × Mem)) (l0 : Nat) (l1 : Nat) (l2 : Nat) (l3 : Nat) (l4 : Nat) (l5 : Int32) (M : Mem) : Option (Bool × Mem) :=
  f_L_law_3275 rc28 l0 l1 l2 l3 l4 l5 M
def f_L_law_2981 (rc28 : Nat → Nat → Nat → Nat → Nat → Int32 → Mem → Option (Bool × Mem)) (l0 : Nat) (l1 : Nat) (l2 : Nat) (l3 : Nat) (l4 : Nat) (l5 : Int32) (M : Mem) : Option (Bool × Mem) :=
  (sC M l0 (l5 + 1)).bind fun x413 =>
  (f_L_restore l1 x413 l3 M).bind fun (x414, M415) =>
  (sC M415 l0 (l5 + 1)).bind fun x416 =>
  (f_X12_restore l2 x416 M415).bind fun (x417, M418) =>
  (f_X12_thrown l2 M418).bind fun x419 =>
  if x419 = x414 then (
    if x414 = 0 then (
      (aJ M418 1 l3 0).bind fun x420 =>
      if (lg_cmp x420 (Int32.toInt64 x417)) = 0 then (
        f_L_law_3034 rc28 l0 l1 l2 l3 l4 l5 M418
      ) else (
        some (false, M418)
      )
    ) else (
      f_L_law_3034 rc28 l0 l1 l2 l3 l4 l5 M418
    )
  ) else (
    some (false, M418)
  )
def f_L_law_3078 (rc28 : Nat → Nat → Nat → Nat → Nat → Int32 → Mem → Option (Bool × Mem)) (l0 : Nat) (l1 : Nat) (l2 : Nat) (l3 : Nat) (l4 : Nat) (l5 : Int32) (M : Mem) : Option (Bool × Mem) :=
  f_L_law_3275 rc28 l0 l1 l2 l3 l4 l5 M
def f_L_law_3037 (rc28 : Nat → Nat → Nat → Nat → Nat → Int32 → Mem → Option (Bool × Mem)) (l0 : Nat) (l1 : Nat) (l2 : Nat) (l3 : Nat) (l4 : Nat) (l5 : Int32) (M : Mem) : Option (Bool × Mem) :=
  (f_L_undo l1 l3 M).bind fun (x421, M422) =>
  (f_X12_undo l2 M422).bind fun (x423, M424) =>
  (f_X12_thrown l2 M424).bind fun x425 =>
  if x425 = x421 then (
    if x421 = 0 then (
      (aJ M424 1 l3 0).bind fun x426 =>
      if (lg_cmp x426 (Int32.toInt64 x423)) = 0 then (
        f_L_law_3078 rc28 l0 l1 l2 l3 l4 l5 M424
      ) else (
        some (false, M424)
      )
    ) else (
      f_L_law_3078 rc28 l0 l1 l2 l3 l4 l5 M424
    )
  ) else (
    some (false, M424)
  )
def f_L_law_3081 (rc28 : Nat → Nat → Nat → Nat → Nat → Int32 → Mem → Option (Bool × Mem)) (l0 : Nat) (l1 : Nat) (l2 : Nat) (l3 : Nat) (l4 : Nat) (l5 : Int32) (M : Mem) : Option (Bool × Mem) :=
  (f_X11_undoCount l1 M).bind fun x427 =>
  (f_X12_undoCount l2 M).bind fun (x428, M429) =>
  if x427 = x428 then (
    f_L_law_3275 rc28 l0 l1 l2 l3 l4 l5 M429
  ) else (
    some (false, M429)
  )
def f_L_law_3147 (rc28 : Nat → Nat → Nat → Nat → Nat → Int32 → Mem → Option (Bool × Mem)) (l0 : Nat) (l1 : Nat) (l2 : Nat) (l3 : Nat) (l4 : Nat) (l5 : Int32) (M : Mem) : Option (Bool × Mem) :=
  f_L_law_3275 rc28 l0 l1 l2 l3 l4 l5 M
def f_L_law_3094 (rc28 : Nat → Nat → Nat → Nat → Nat → Int32 → Mem → Option (Bool × Mem)) (l0 : Nat) (l1 : Nat) (l2 : Nat) (l3 : Nat) (l4 : Nat) (l5 : Int32) (M : Mem) : Option (Bool × Mem) :=
  (sC M l0 (l5 + 1)).bind fun x430 =>
  (f_L_writeBox l1 x430 l3 M).bind fun (x431, M432) =>
  (sC M432 l0 (l5 + 1)).bind fun x433 =>
  (f_X12_writeBox l2 x433 M432).bind fun (x434, M435) =>
  (f_X12_thrown l2 M435).bind fun x436 =>
  if x436 = x431 then (
    if x431 = 0 then (
      (aJ M435 1 l3 0).bind fun x437 =>
      if (lg_cmp x437 (Int32.toInt64 x434)) = 0 then (
        f_L_law_3147 rc28 l0 l1 l2 l3 l4 l5 M435
      ) else (
        some (false, M435)
      )
    ) else (
      f_L_law_3147 rc28 l0 l1 l2 l3 l4 l5 M435
    )
  ) else (
    some (false, M435)
  )
def f_L_law_3203 (rc28 : Nat → Nat → Nat → Nat → Nat → Int32 → Mem → Option (Bool × Mem)) (l0 : Nat) (l1 : Nat) (l2 : Nat) (l3 : Nat) (l4 : Nat) (l5 : Int32) (M : Mem) : Option (Bool × Mem) :=
  f_L_law_3275 rc28 l0 l1 l2 l3 l4 l5 M
def f_L_law_3150 (rc28 : Nat → Nat → Nat → Nat → Nat → Int32 → Mem → Option (Bool × Mem)) (l0 : Nat) (l1 : Nat) (l2 : Nat) (l3 : Nat) (l4 : Nat) (l5 : Int32) (M : Mem) : Option (Bool × Mem) :=
  (sC M l0 (l5 + 1)).bind fun x438 =>
  (f_L_writeView l1 x438 l3 M).bind fun (x439, M440) =>
  (sC M440 l0 (l5 + 1)).bind fun x441 =>
  (f_X12_writeView l2 x441 M440).bind fun (x442, M443) =>
  (f_X12_thrown l2 M443).bind fun x444 =>
  if x444 = x439 then (
    if x439 = 0 then (
      (aJ M443 1 l3 0).bind fun x445 =>
      if (lg_cmp x445 (Int32.toInt64 x442)) = 0 then (
        f_L_law_3203 rc28 l0 l1 l2 l3 l4 l5 M443
      ) else (
        some (false, M443)
      )
    ) else (
      f_L_law_3203 rc28 l0 l1 l2 l3 l4 l5 M443
    )
  ) else (
    some (false, M443)
  )
def f_L_law_3206 (rc28 : Nat → Nat → Nat → Nat → Nat → Int32 → Mem → Option (Bool × Mem)) (l0 : Nat) (l1 : Nat) (l2 : Nat) (l3 : Nat) (l4 : Nat) (l5 : Int32) (M : Mem) : Option (Bool × Mem) :=
  (f_X11_writeNotices l1 M).bind fun (x446, M447) =>
  (f_X12_writeNotices l2 M447).bind fun (x448, M449) =>
  if x446 = x448 then (
    f_L_law_3275 rc28 l0 l1 l2 l3 l4 l5 M449
  ) else (
    some (false, M449)
  )
def f_L_law_3272 (rc28 : Nat → Nat → Nat → Nat → Nat → Int32 → Mem → Option (Bool × Mem)) (l0 : Nat) (l1 : Nat) (l2 : Nat) (l3 : Nat) (l4 : Nat) (l5 : Int32) (M : Mem) : Option (Bool × Mem) :=
  f_L_law_3275 rc28 l0 l1 l2 l3 l4 l5 M
def f_L_law_3219 (rc28 : Nat → Nat → Nat → Nat → Nat → Int32 → Mem → Option (Bool × Mem)) (l0 : Nat) (l1 : Nat) (l2 : Nat) (l3 : Nat) (l4 : Nat) (l5 : Int32) (M : Mem) : Option (Bool × Mem) :=
  (sC M l0 (l5 + 1)).bind fun x450 =>
  (f_L_outputByte l1 x450 l3 M).bind fun (x451, M452) =>
  (sC M452 l0 (l5 + 1)).bind fun x453 =>
  (f_X12_outputByte l2 x453 M452).bind fun (x454, M455) =>
  (f_X12_thrown l2 M455).bind fun x456 =>
  if x456 = x451 then (
    if x451 = 0 then (
      (aJ M455 1 l3 0).bind fun x457 =>
      if (lg_cmp x457 (Int32.toInt64 x454)) = 0 then (
        f_L_law_3272 rc28 l0 l1 l2 l3 l4 l5 M455
      ) else (
        some (false, M455)
      )
    ) else (
      f_L_law_3272 rc28 l0 l1 l2 l3 l4 l5 M455
    )
  ) else (
    some (false, M455)
  )
def f_L_law_28 : Nat → Nat → Nat → Nat → Nat → Nat → Int32 → Mem → Option (Bool × Mem)
  | 0 => fun _ _ _ _ _ _ _ => none
  | fu + 1 => fun l0 l1 l2 l3 l4 l5 M =>
    (sL M l0).bind fun x9 =>
    if (x9 - 7) < l5 then (
      some (true, M)
    ) else (
      (sC M l0 l5).bind fun x10 =>
      if (x10 &&& 63) = 0 then (
        f_L_law_260 (f_L_law_28 fu) l0 l1 l2 l3 l4 l5 M
      ) else
      if (x10 &&& 63) = 1 then (
        f_L_law_364 (f_L_law_28 fu) l0 l1 l2 l3 l4 l5 M
      ) else
      if (x10 &&& 63) = 2 then (
        f_L_law_400 (f_L_law_28 fu) l0 l1 l2 l3 l4 l5 M
      ) else
      if (x10 &&& 63) = 3 then (
        f_L_law_413 (f_L_law_28 fu) l0 l1 l2 l3 l4 l5 M
      ) else
      if (x10 &&& 63) = 4 then (
        f_L_law_426 (f_L_law_28 fu) l0 l1 l2 l3 l4 l5 M
      ) else
      if (x10 &&& 63) = 5 then (
        f_L_law_439 (f_L_law_28 fu) l0 l1 l2 l3 l4 l5 M
      ) else
      if (x10 &&& 63) = 6 then (
        f_L_law_452 (f_L_law_28 fu) l0 l1 l2 l3 l4 l5 M
      ) else
      if (x10 &&& 63) = 7 then (
        f_L_law_465 (f_L_law_28 fu) l0 l1 l2 l3 l4 l5 M
      ) else
      if (x10 &&& 63) = 8 then (
        f_L_law_521 (f_L_law_28 fu) l0 l1 l2 l3 l4 l5 M
      ) else
      if (x10 &&& 63) = 9 then (
        f_L_law_589 (f_L_law_28 fu) l0 l1 l2 l3 l4 l5 M
      ) else
      if (x10 &&& 63) = 10 then (
        f_L_law_669 (f_L_law_28 fu) l0 l1 l2 l3 l4 l5 M
      ) else
      if (x10 &&& 63) = 11 then (
        f_L_law_737 (f_L_law_28 fu) l0 l1 l2 l3 l4 l5 M
      ) else
      if (x10 &&& 63) = 12 then (
        f_L_law_805 (f_L_law_28 fu) l0 l1 l2 l3 l4 l5 M
      ) else
      if (x10 &&& 63) = 13 then (
        f_L_law_885 (f_L_law_28 fu) l0 l1 l2 l3 l4 l5 M
      ) else
      if (x10 &&& 63) = 14 then (
        f_L_law_953 (f_L_law_28 fu) l0 l1 l2 l3 l4 l5 M
      ) else
      if (x10 &&& 63) = 15 then (
        f_L_law_1021 (f_L_law_28 fu) l0 l1 l2 l3 l4 l5 M
      ) else
      if (x10 &&& 63) = 16 then (
        f_L_law_1077 (f_L_law_28 fu) l0 l1 l2 l3 l4 l5 M
      ) else
      if (x10 &&& 63) = 17 then (
        f_L_law_1140 (f_L_law_28 fu) l0 l1 l2 l3 l4 l5 M
      ) else
      if (x10 &&& 63) = 18 then (
        f_L_law_1196 (f_L_law_28 fu) l0 l1 l2 l3 l4 l5 M
      ) else
      if (x10 &&& 63) = 19 then (
        f_L_law_1252 (f_L_law_28 fu) l0 l1 l2 l3 l4 l5 M
      ) else
      if (x10 &&& 63) = 20 then (
        f_L_law_1320 (f_L_law_28 fu) l0 l1 l2 l3 l4 l5 M
      ) else
      if (x10 &&& 63) = 21 then (
        f_L_law_1388 (f_L_law_28 fu) l0 l1 l2 l3 l4 l5 M
      ) else
      if (x10 &&& 63) = 22 then (
        f_L_law_1401 (f_L_law_28 fu) l0 l1 l2 l3 l4 l5 M
      ) else
      if (x10 &&& 63) = 23 then (
        f_L_law_1479 (f_L_law_28 fu) l0 l1 l2 l3 l4 l5 M
      ) else
      if (x10 &&& 63) = 24 then (
        f_L_law_1556 (f_L_law_28 fu) l0 l1 l2 l3 l4 l5 M
      ) else
      if (x10 &&& 63) = 25 then (
        f_L_law_1624 (f_L_law_28 fu) l0 l1 l2 l3 l4 l5 M
      ) else
      if (x10 &&& 63) = 26 then (
        f_L_law_1692 (f_L_law_28 fu) l0 l1 l2 l3 l4 l5 M
      ) else
      if (x10 &&& 63) = 27 then (
        f_L_law_1748 (f_L_law_28 fu) l0 l1 l2 l3 l4 l5 M
      ) else
      if (x10 &&& 63) = 28 then (
        f_L_law_1844 (f_L_law_28 fu) l0 l1 l2 l3 l4 l5 M
      ) else
      if (x10 &&& 63) = 29 then (
        f_L_law_1900 (f_L_law_28 fu) l0 l1 l2 l3 l4 l5 M
      ) else
      if (x10 &&& 63) = 30 then (
        f_L_law_1956 (f_L_law_28 fu) l0 l1 l2 l3 l4 l5 M
      ) else
      if (x10 &&& 63) = 31 then (
        f_L_law_2012 (f_L_law_28 fu) l0 l1 l2 l3 l4 l5 M
      ) else
      if (x10 &&& 63) = 32 then (
        f_L_law_2120 (f_L_law_28 fu) l0 l1 l2 l3 l4 l5 M
      ) else
      if (x10 &&& 63) = 33 then (
        f_L_law_2254 (f_L_law_28 fu) l0 l1 l2 l3 l4 l5 M
      ) else
      if (x10 &&& 63) = 34 then (
        f_L_law_2358 (f_L_law_28 fu) l0 l1 l2 l3 l4 l5 M
      ) else
      if (x10 &&& 63) = 35 then (
        f_L_law_2413 (f_L_law_28 fu) l0 l1 l2 l3 l4 l5 M
      ) else
      if (x10 &&& 63) = 36 then (
        f_L_law_2469 (f_L_law_28 fu) l0 l1 l2 l3 l4 l5 M
      ) else
      if (x10 &&& 63) = 37 then (
        f_L_law_2549 (f_L_law_28 fu) l0 l1 l2 l3 l4 l5 M
      ) else
      if (x10 &&& 63) = 38 then (
        f_L_law_2641 (f_L_law_28 fu) l0 l1 l2 l3 l4 l5 M
      ) else
      if (x10 &&& 63) = 39 then (
        f_L_law_2733 (f_L_law_28 fu) l0 l1 l2 l3 l4 l5 M
      ) else
      if (x10 &&& 63) = 40 then (
        f_L_law_2789 (f_L_law_28 fu) l0 l1 l2 l3 l4 l5 M
      ) else
      if (x10 &&& 63) = 41 then (
        f_L_law_2869 (f_L_law_28 fu) l0 l1 l2 l3 l4 l5 M
      ) else
      if (x10 &&& 63) = 42 then (
        f_L_law_2925 (f_L_law_28 fu) l0 l1 l2 l3 l4 l5 M
      ) else
      if (x10 &&& 63) = 43 then (
        f_L_law_2981 (f_L_law_28 fu) l0 l1 l2 l3 l4 l5 M
      ) else
      if (x10 &&& 63) = 44 then (
        f_L_law_3037 (f_L_law_28 fu) l0 l1 l2 l3 l4 l5 M
      ) else
      if (x10 &&& 63) = 45 then (
        f_L_law_3081 (f_L_law_28 fu) l0 l1 l2 l3 l4 l5 M
      ) else
      if (x10 &&& 63) = 46 then (
        f_L_law_3094 (f_L_law_28 fu) l0 l1 l2 l3 l4 l5 M
      ) else
      if (x10 &&& 63) = 47 then (
        f_L_law_3150 (f_L_law_28 fu) l0 l1 l2 l3 l4 l5 M
      ) else
      if (x10 &&& 63) = 48 then (
        f_L_law_3206 (f_L_law_28 fu) l0 l1 l2 l3 l4 l5 M
      ) else
      if (x10 &&& 63) = 49 then (
        f_L_law_3219 (f_L_law_28 fu) l0 l1 l2 l3 l4 l5 M
      ) else
      (
        f_L_law_3275 (f_L_law_28 fu) l0 l1 l2 l3 l4 l5 M
      )
    )
def f_L_law (a0 : Nat) (M : Mem) : Option (Bool × Mem) :=
  (alc M).bind fun r1 =>
  (f_X11_init r1 (mnew M (.inr (10, [.null, .null, .null, .null, .null, .null, .null, .null, .null, .null, .null, .int 0, .int 0])))).bind fun M3 =>
  (alc M3).bind fun r4 =>
  (f_X12_init r4 (mnew M3 (.inr (11, [.int 0, .null, .null, .null, .null, .int 0, .null, .null, .int 0, .int 0, .int 0, .int 0, .int 0, .int 0, .int 0, .int 0, .int 0, .int 0, .null, .null, .int 0, .int 0, .null, .null, .null, .int 0, .null, .int 0])))).bind fun M6 =>
  (alc M6).bind fun r7 =>
  (alc (mnew M6 (.inl (1, (1, .inr (.inl (fun _ => 0))))))).bind fun r8 =>
  f_L_law_28 FU a0 r1 r4 r7 r8 0 (mnew (mnew M6 (.inl (1, (1, .inr (.inl (fun _ => 0)))))) (.inl (4, (1, .inr (.inr (.inr (.inl (fun _ => 0))))))))
theorem ml_L_7 : (Cond.methodLink RL 7 yX11_append) ∈ cr_U := mem_U (i := 939) (by decide +kernel) rfl
theorem im_X11_append : (Cond.instanceMethod yX11_append) ∈ cr_U := mem_U (i := 940) (by decide +kernel) rfl
theorem se_X11_append : (Cond.selects RX11 yX11_append yX11_append) ∈ cr_U := mem_U (i := 941) (by decide +kernel) rfl
theorem cl_L_13 : (Cond.classLink RL 13 "java/lang/IllegalStateException") ∈ cr_U := mem_U (i := 938) (by decide +kernel) rfl
theorem ca_IllegalStateException : (Cond.castable "java/lang/IllegalStateException" "java/lang/IllegalStateException") ∈ lw_tbl := List.mem_of_getElem? (i := 945) (by decide +kernel)
theorem cw_L_append : (Cond.codeWith yL_append cL_append 8 (some .int) [(0, 16, 19, 13)]) ∈ cr_U := mem_U (i := 937) (by decide +kernel) rfl
theorem ini_L : (Cond.initialized RL) ∈ cr_U := mem_U (i := 135) (by decide +kernel) rfl
theorem ml_L_15 : (Cond.methodLink RL 15 yX11_truncate) ∈ cr_U := mem_U (i := 1019) (by decide +kernel) rfl
theorem im_X11_truncate : (Cond.instanceMethod yX11_truncate) ∈ cr_U := mem_U (i := 1020) (by decide +kernel) rfl
theorem se_X11_truncate : (Cond.selects RX11 yX11_truncate yX11_truncate) ∈ cr_U := mem_U (i := 1021) (by decide +kernel) rfl
theorem cl_L_19 : (Cond.classLink RL 19 "java/lang/IllegalArgumentException") ∈ cr_U := mem_U (i := 1018) (by decide +kernel) rfl
theorem ca_IllegalArgumentException : (Cond.castable "java/lang/IllegalArgumentException" "java/lang/IllegalArgumentException") ∈ lw_tbl := List.mem_of_getElem? (i := 1025) (by decide +kernel)
theorem cw_L_truncate : (Cond.codeWith yL_truncate cL_truncate 3 (some .int) [(0, 5, 8, 19)]) ∈ cr_U := mem_U (i := 1017) (by decide +kernel) rfl
theorem ml_L_21 : (Cond.methodLink RL 21 yX11_property) ∈ cr_U := mem_U (i := 1042) (by decide +kernel) rfl
theorem im_X11_property : (Cond.instanceMethod yX11_property) ∈ cr_U := mem_U (i := 1043) (by decide +kernel) rfl
theorem se_X11_property : (Cond.selects RX11 yX11_property yX11_property) ∈ cr_U := mem_U (i := 1044) (by decide +kernel) rfl
theorem cw_L_property : (Cond.codeWith yL_property cL_property 4 (some .int) [(0, 9, 12, 19)]) ∈ cr_U := mem_U (i := 1041) (by decide +kernel) rfl
theorem ml_L_25 : (Cond.methodLink RL 25 yX11_box) ∈ cr_U := mem_U (i := 1051) (by decide +kernel) rfl
theorem im_X11_box : (Cond.instanceMethod yX11_box) ∈ cr_U := mem_U (i := 1052) (by decide +kernel) rfl
theorem se_X11_box : (Cond.selects RX11 yX11_box yX11_box) ∈ cr_U := mem_U (i := 1053) (by decide +kernel) rfl
theorem cl_L_29 : (Cond.classLink RL 29 "java/lang/IndexOutOfBoundsException") ∈ cr_U := mem_U (i := 1050) (by decide +kernel) rfl
theorem ca_IndexOutOfBoundsException : (Cond.castable "java/lang/IndexOutOfBoundsException" "java/lang/IndexOutOfBoundsException") ∈ lw_tbl := List.mem_of_getElem? (i := 1062) (by decide +kernel)
set_option maxRecDepth 100000 in
theorem nc_IllegalArgumentException_IndexOutOfBoundsException : hNc "java/lang/IllegalArgumentException" "java/lang/IndexOutOfBoundsException" := by unfold hNc; decide +kernel
theorem cw_L_box : (Cond.codeWith yL_box cL_box 5 (some .int) [(0, 10, 13, 29), (0, 10, 17, 19)]) ∈ cr_U := mem_U (i := 1049) (by decide +kernel) rfl
theorem ml_L_31 : (Cond.methodLink RL 31 yX11_message) ∈ cr_U := mem_U (i := 1101) (by decide +kernel) rfl
theorem im_X11_message : (Cond.instanceMethod yX11_message) ∈ cr_U := mem_U (i := 1102) (by decide +kernel) rfl
theorem se_X11_message : (Cond.selects RX11 yX11_message yX11_message) ∈ cr_U := mem_U (i := 1103) (by decide +kernel) rfl
theorem cw_L_message : (Cond.codeWith yL_message cL_message 6 (some .int) [(0, 12, 15, 29), (0, 12, 19, 19)]) ∈ cr_U := mem_U (i := 1100) (by decide +kernel) rfl
theorem ml_L_35 : (Cond.methodLink RL 35 yX11_indexOf) ∈ cr_U := mem_U (i := 1110) (by decide +kernel) rfl
theorem im_X11_indexOf : (Cond.instanceMethod yX11_indexOf) ∈ cr_U := mem_U (i := 1111) (by decide +kernel) rfl
theorem se_X11_indexOf : (Cond.selects RX11 yX11_indexOf yX11_indexOf) ∈ cr_U := mem_U (i := 1112) (by decide +kernel) rfl
theorem cw_L_indexOf : (Cond.codeWith yL_indexOf cL_indexOf 5 (some .int) [(0, 10, 13, 29)]) ∈ cr_U := mem_U (i := 1109) (by decide +kernel) rfl
theorem ml_L_38 : (Cond.methodLink RL 38 yX11_session) ∈ cr_U := mem_U (i := 1118) (by decide +kernel) rfl
theorem im_X11_session : (Cond.instanceMethod yX11_session) ∈ cr_U := mem_U (i := 1119) (by decide +kernel) rfl
theorem se_X11_session : (Cond.selects RX11 yX11_session yX11_session) ∈ cr_U := mem_U (i := 1120) (by decide +kernel) rfl
theorem cw_L_session : (Cond.codeWith yL_session cL_session 5 (some .int) [(0, 10, 13, 29), (0, 10, 17, 19)]) ∈ cr_U := mem_U (i := 1117) (by decide +kernel) rfl
theorem ml_L_41 : (Cond.methodLink RL 41 yX11_entry) ∈ cr_U := mem_U (i := 1137) (by decide +kernel) rfl
theorem im_X11_entry : (Cond.instanceMethod yX11_entry) ∈ cr_U := mem_U (i := 1138) (by decide +kernel) rfl
theorem se_X11_entry : (Cond.selects RX11 yX11_entry yX11_entry) ∈ cr_U := mem_U (i := 1139) (by decide +kernel) rfl
theorem cw_L_entry : (Cond.codeWith yL_entry cL_entry 6 (some .int) [(0, 12, 15, 29), (0, 12, 19, 19)]) ∈ cr_U := mem_U (i := 1136) (by decide +kernel) rfl
theorem ml_L_44 : (Cond.methodLink RL 44 yX11_numberOf) ∈ cr_U := mem_U (i := 1151) (by decide +kernel) rfl
theorem im_X11_numberOf : (Cond.instanceMethod yX11_numberOf) ∈ cr_U := mem_U (i := 1152) (by decide +kernel) rfl
theorem se_X11_numberOf : (Cond.selects RX11 yX11_numberOf yX11_numberOf) ∈ cr_U := mem_U (i := 1153) (by decide +kernel) rfl
theorem cw_L_numberOf : (Cond.codeWith yL_numberOf cL_numberOf 5 (some .int) [(0, 10, 13, 29)]) ∈ cr_U := mem_U (i := 1150) (by decide +kernel) rfl
theorem ml_L_47 : (Cond.methodLink RL 47 yX11_numberThen) ∈ cr_U := mem_U (i := 1163) (by decide +kernel) rfl
theorem im_X11_numberThen : (Cond.instanceMethod yX11_numberThen) ∈ cr_U := mem_U (i := 1164) (by decide +kernel) rfl
theorem se_X11_numberThen : (Cond.selects RX11 yX11_numberThen yX11_numberThen) ∈ cr_U := mem_U (i := 1165) (by decide +kernel) rfl
theorem cw_L_numberThen : (Cond.codeWith yL_numberThen cL_numberThen 5 (some .int) [(0, 10, 13, 29)]) ∈ cr_U := mem_U (i := 1162) (by decide +kernel) rfl
theorem ml_L_50 : (Cond.methodLink RL 50 yX11_pending) ∈ cr_U := mem_U (i := 1172) (by decide +kernel) rfl
theorem im_X11_pending : (Cond.instanceMethod yX11_pending) ∈ cr_U := mem_U (i := 1173) (by decide +kernel) rfl
theorem se_X11_pending : (Cond.selects RX11 yX11_pending yX11_pending) ∈ cr_U := mem_U (i := 1174) (by decide +kernel) rfl
theorem cw_L_pending : (Cond.codeWith yL_pending cL_pending 4 (some .int) [(0, 9, 12, 29)]) ∈ cr_U := mem_U (i := 1171) (by decide +kernel) rfl
theorem ml_L_53 : (Cond.methodLink RL 53 yX11_isCurrent) ∈ cr_U := mem_U (i := 1180) (by decide +kernel) rfl
theorem im_X11_isCurrent : (Cond.instanceMethod yX11_isCurrent) ∈ cr_U := mem_U (i := 1181) (by decide +kernel) rfl
theorem se_X11_isCurrent : (Cond.selects RX11 yX11_isCurrent yX11_isCurrent) ∈ cr_U := mem_U (i := 1182) (by decide +kernel) rfl
theorem cw_L_isCurrent : (Cond.codeWith yL_isCurrent cL_isCurrent 4 (some .int) [(0, 16, 19, 29)]) ∈ cr_U := mem_U (i := 1179) (by decide +kernel) rfl
theorem ml_L_57 : (Cond.methodLink RL 57 yX11_firstUnseen) ∈ cr_U := mem_U (i := 1188) (by decide +kernel) rfl
theorem im_X11_firstUnseen : (Cond.instanceMethod yX11_firstUnseen) ∈ cr_U := mem_U (i := 1189) (by decide +kernel) rfl
theorem se_X11_firstUnseen : (Cond.selects RX11 yX11_firstUnseen yX11_firstUnseen) ∈ cr_U := mem_U (i := 1190) (by decide +kernel) rfl
theorem cw_L_firstUnseen : (Cond.codeWith yL_firstUnseen cL_firstUnseen 4 (some .int) [(0, 9, 12, 29)]) ∈ cr_U := mem_U (i := 1187) (by decide +kernel) rfl
theorem ml_L_60 : (Cond.methodLink RL 60 yX11_largest) ∈ cr_U := mem_U (i := 1199) (by decide +kernel) rfl
theorem im_X11_largest : (Cond.instanceMethod yX11_largest) ∈ cr_U := mem_U (i := 1200) (by decide +kernel) rfl
theorem se_X11_largest : (Cond.selects RX11 yX11_largest yX11_largest) ∈ cr_U := mem_U (i := 1201) (by decide +kernel) rfl
theorem cw_L_largest : (Cond.codeWith yL_largest cL_largest 4 (some .int) [(0, 9, 12, 29)]) ∈ cr_U := mem_U (i := 1198) (by decide +kernel) rfl
theorem ml_L_63 : (Cond.methodLink RL 63 yX11_common) ∈ cr_U := mem_U (i := 1210) (by decide +kernel) rfl
theorem im_X11_common : (Cond.instanceMethod yX11_common) ∈ cr_U := mem_U (i := 1211) (by decide +kernel) rfl
theorem se_X11_common : (Cond.selects RX11 yX11_common yX11_common) ∈ cr_U := mem_U (i := 1212) (by decide +kernel) rfl
theorem cw_L_common : (Cond.codeWith yL_common cL_common 5 (some .int) [(0, 10, 13, 29)]) ∈ cr_U := mem_U (i := 1209) (by decide +kernel) rfl
theorem ml_L_66 : (Cond.methodLink RL 66 yX11_holders) ∈ cr_U := mem_U (i := 1222) (by decide +kernel) rfl
theorem im_X11_holders : (Cond.instanceMethod yX11_holders) ∈ cr_U := mem_U (i := 1223) (by decide +kernel) rfl
theorem se_X11_holders : (Cond.selects RX11 yX11_holders yX11_holders) ∈ cr_U := mem_U (i := 1224) (by decide +kernel) rfl
theorem cw_L_holders : (Cond.codeWith yL_holders cL_holders 5 (some .int) [(0, 10, 13, 29)]) ∈ cr_U := mem_U (i := 1221) (by decide +kernel) rfl
theorem ml_L_69 : (Cond.methodLink RL 69 yX11_unseen) ∈ cr_U := mem_U (i := 1234) (by decide +kernel) rfl
theorem im_X11_unseen : (Cond.instanceMethod yX11_unseen) ∈ cr_U := mem_U (i := 1235) (by decide +kernel) rfl
theorem se_X11_unseen : (Cond.selects RX11 yX11_unseen yX11_unseen) ∈ cr_U := mem_U (i := 1236) (by decide +kernel) rfl
theorem cw_L_unseen : (Cond.codeWith yL_unseen cL_unseen 4 (some .int) [(0, 9, 12, 29)]) ∈ cr_U := mem_U (i := 1233) (by decide +kernel) rfl
theorem ml_L_73 : (Cond.methodLink RL 73 yX11_mean) ∈ cr_U := mem_U (i := 1241) (by decide +kernel) rfl
theorem im_X11_mean : (Cond.instanceMethod yX11_mean) ∈ cr_U := mem_U (i := 1242) (by decide +kernel) rfl
theorem se_X11_mean : (Cond.selects RX11 yX11_mean yX11_mean) ∈ cr_U := mem_U (i := 1243) (by decide +kernel) rfl
theorem cw_L_mean : (Cond.codeWith yL_mean cL_mean 4 (some .int) [(0, 8, 11, 29)]) ∈ cr_U := mem_U (i := 1240) (by decide +kernel) rfl
theorem ml_L_77 : (Cond.methodLink RL 77 yX11_account) ∈ cr_U := mem_U (i := 1248) (by decide +kernel) rfl
theorem im_X11_account : (Cond.instanceMethod yX11_account) ∈ cr_U := mem_U (i := 1249) (by decide +kernel) rfl
theorem se_X11_account : (Cond.selects RX11 yX11_account yX11_account) ∈ cr_U := mem_U (i := 1250) (by decide +kernel) rfl
theorem cw_L_account : (Cond.codeWith yL_account cL_account 5 (some .int) [(0, 10, 13, 29), (0, 10, 17, 19)]) ∈ cr_U := mem_U (i := 1247) (by decide +kernel) rfl
theorem ml_L_80 : (Cond.methodLink RL 80 yX11_notice) ∈ cr_U := mem_U (i := 1257) (by decide +kernel) rfl
theorem im_X11_notice : (Cond.instanceMethod yX11_notice) ∈ cr_U := mem_U (i := 1258) (by decide +kernel) rfl
theorem se_X11_notice : (Cond.selects RX11 yX11_notice yX11_notice) ∈ cr_U := mem_U (i := 1259) (by decide +kernel) rfl
theorem cl_L_83 : (Cond.classLink RL 83 "java/util/NoSuchElementException") ∈ cr_U := mem_U (i := 1256) (by decide +kernel) rfl
theorem ca_NoSuchElementException : (Cond.castable "java/util/NoSuchElementException" "java/util/NoSuchElementException") ∈ lw_tbl := List.mem_of_getElem? (i := 1264) (by decide +kernel)
set_option maxRecDepth 100000 in
theorem nc_NoSuchElementException_IllegalArgumentException : hNc "java/util/NoSuchElementException" "java/lang/IllegalArgumentException" := by unfold hNc; decide +kernel
theorem cw_L_notice : (Cond.codeWith yL_notice cL_notice 5 (some .int) [(0, 10, 13, 19), (0, 10, 17, 83)]) ∈ cr_U := mem_U (i := 1255) (by decide +kernel) rfl
theorem ml_L_85 : (Cond.methodLink RL 85 yX11_searchBox) ∈ cr_U := mem_U (i := 1281) (by decide +kernel) rfl
theorem im_X11_searchBox : (Cond.instanceMethod yX11_searchBox) ∈ cr_U := mem_U (i := 1282) (by decide +kernel) rfl
theorem se_X11_searchBox : (Cond.selects RX11 yX11_searchBox yX11_searchBox) ∈ cr_U := mem_U (i := 1283) (by decide +kernel) rfl
theorem cw_L_searchBox : (Cond.codeWith yL_searchBox cL_searchBox 4 (some .int) [(0, 9, 12, 29)]) ∈ cr_U := mem_U (i := 1280) (by decide +kernel) rfl
theorem ml_L_88 : (Cond.methodLink RL 88 yX11_select) ∈ cr_U := mem_U (i := 1347) (by decide +kernel) rfl
theorem im_X11_select : (Cond.instanceMethod yX11_select) ∈ cr_U := mem_U (i := 1348) (by decide +kernel) rfl
theorem se_X11_select : (Cond.selects RX11 yX11_select yX11_select) ∈ cr_U := mem_U (i := 1349) (by decide +kernel) rfl
set_option maxRecDepth 100000 in
theorem nc_IllegalStateException_IndexOutOfBoundsException : hNc "java/lang/IllegalStateException" "java/lang/IndexOutOfBoundsException" := by unfold hNc; decide +kernel
theorem cw_L_select : (Cond.codeWith yL_select cL_select 6 (some .int) [(0, 12, 15, 29), (0, 12, 19, 13)]) ∈ cr_U := mem_U (i := 1346) (by decide +kernel) rfl
theorem ml_L_92 : (Cond.methodLink RL 92 yX11_noop) ∈ cr_U := mem_U (i := 1400) (by decide +kernel) rfl
theorem im_X11_noop : (Cond.instanceMethod yX11_noop) ∈ cr_U := mem_U (i := 1401) (by decide +kernel) rfl
theorem se_X11_noop : (Cond.selects RX11 yX11_noop yX11_noop) ∈ cr_U := mem_U (i := 1402) (by decide +kernel) rfl
theorem cw_L_noop : (Cond.codeWith yL_noop cL_noop 4 (some .int) [(0, 9, 12, 29), (0, 9, 15, 13)]) ∈ cr_U := mem_U (i := 1399) (by decide +kernel) rfl
theorem ml_L_95 : (Cond.methodLink RL 95 yX11_startIdle) ∈ cr_U := mem_U (i := 1417) (by decide +kernel) rfl
theorem im_X11_startIdle : (Cond.instanceMethod yX11_startIdle) ∈ cr_U := mem_U (i := 1418) (by decide +kernel) rfl
theorem se_X11_startIdle : (Cond.selects RX11 yX11_startIdle yX11_startIdle) ∈ cr_U := mem_U (i := 1419) (by decide +kernel) rfl
theorem cw_L_startIdle : (Cond.codeWith yL_startIdle cL_startIdle 4 (some .int) [(0, 9, 12, 29), (0, 9, 15, 13)]) ∈ cr_U := mem_U (i := 1416) (by decide +kernel) rfl
theorem ml_L_98 : (Cond.methodLink RL 98 yX11_stopIdle) ∈ cr_U := mem_U (i := 1424) (by decide +kernel) rfl
theorem im_X11_stopIdle : (Cond.instanceMethod yX11_stopIdle) ∈ cr_U := mem_U (i := 1425) (by decide +kernel) rfl
theorem se_X11_stopIdle : (Cond.selects RX11 yX11_stopIdle yX11_stopIdle) ∈ cr_U := mem_U (i := 1426) (by decide +kernel) rfl
theorem cw_L_stopIdle : (Cond.codeWith yL_stopIdle cL_stopIdle 4 (some .int) [(0, 9, 12, 29), (0, 9, 15, 13)]) ∈ cr_U := mem_U (i := 1423) (by decide +kernel) rfl
theorem ml_L_101 : (Cond.methodLink RL 101 yX11_fetch) ∈ cr_U := mem_U (i := 1432) (by decide +kernel) rfl
theorem im_X11_fetch : (Cond.instanceMethod yX11_fetch) ∈ cr_U := mem_U (i := 1433) (by decide +kernel) rfl
theorem se_X11_fetch : (Cond.selects RX11 yX11_fetch yX11_fetch) ∈ cr_U := mem_U (i := 1434) (by decide +kernel) rfl
set_option maxRecDepth 100000 in
theorem nc_IllegalStateException_IllegalArgumentException : hNc "java/lang/IllegalStateException" "java/lang/IllegalArgumentException" := by unfold hNc; decide +kernel
theorem cw_L_fetch : (Cond.codeWith yL_fetch cL_fetch 7 (some .int) [(0, 14, 17, 29), (0, 14, 21, 19), (0, 14, 25, 13)]) ∈ cr_U := mem_U (i := 1431) (by decide +kernel) rfl
theorem ml_L_105 : (Cond.methodLink RL 105 yX11_store) ∈ cr_U := mem_U (i := 1448) (by decide +kernel) rfl
theorem im_X11_store : (Cond.instanceMethod yX11_store) ∈ cr_U := mem_U (i := 1449) (by decide +kernel) rfl
theorem se_X11_store : (Cond.selects RX11 yX11_store yX11_store) ∈ cr_U := mem_U (i := 1450) (by decide +kernel) rfl
theorem cw_L_store : (Cond.codeWith yL_store cL_store 9 (some .int) [(0, 18, 21, 29), (0, 18, 25, 19), (0, 18, 29, 13)]) ∈ cr_U := mem_U (i := 1447) (by decide +kernel) rfl
theorem ml_L_109 : (Cond.methodLink RL 109 yX11_uidStore) ∈ cr_U := mem_U (i := 1465) (by decide +kernel) rfl
theorem im_X11_uidStore : (Cond.instanceMethod yX11_uidStore) ∈ cr_U := mem_U (i := 1466) (by decide +kernel) rfl
theorem se_X11_uidStore : (Cond.selects RX11 yX11_uidStore yX11_uidStore) ∈ cr_U := mem_U (i := 1467) (by decide +kernel) rfl
theorem cw_L_uidStore : (Cond.codeWith yL_uidStore cL_uidStore 8 (some .int) [(0, 16, 19, 29), (0, 16, 23, 19), (0, 16, 27, 13)]) ∈ cr_U := mem_U (i := 1464) (by decide +kernel) rfl
theorem ml_L_112 : (Cond.methodLink RL 112 yX11_search) ∈ cr_U := mem_U (i := 1472) (by decide +kernel) rfl
theorem im_X11_search : (Cond.instanceMethod yX11_search) ∈ cr_U := mem_U (i := 1473) (by decide +kernel) rfl
theorem se_X11_search : (Cond.selects RX11 yX11_search yX11_search) ∈ cr_U := mem_U (i := 1474) (by decide +kernel) rfl
theorem cw_L_search : (Cond.codeWith yL_search cL_search 4 (some .int) [(0, 8, 11, 29), (0, 8, 14, 13)]) ∈ cr_U := mem_U (i := 1471) (by decide +kernel) rfl
theorem ml_L_116 : (Cond.methodLink RL 116 yX11_expunge) ∈ cr_U := mem_U (i := 1484) (by decide +kernel) rfl
theorem im_X11_expunge : (Cond.instanceMethod yX11_expunge) ∈ cr_U := mem_U (i := 1485) (by decide +kernel) rfl
theorem se_X11_expunge : (Cond.selects RX11 yX11_expunge yX11_expunge) ∈ cr_U := mem_U (i := 1486) (by decide +kernel) rfl
theorem cw_L_expunge : (Cond.codeWith yL_expunge cL_expunge 4 (some .int) [(0, 9, 12, 29), (0, 9, 15, 13)]) ∈ cr_U := mem_U (i := 1483) (by decide +kernel) rfl
theorem ml_L_119 : (Cond.methodLink RL 119 yX11_uidExpunge) ∈ cr_U := mem_U (i := 1500) (by decide +kernel) rfl
theorem im_X11_uidExpunge : (Cond.instanceMethod yX11_uidExpunge) ∈ cr_U := mem_U (i := 1501) (by decide +kernel) rfl
theorem se_X11_uidExpunge : (Cond.selects RX11 yX11_uidExpunge yX11_uidExpunge) ∈ cr_U := mem_U (i := 1502) (by decide +kernel) rfl
theorem cw_L_uidExpunge : (Cond.codeWith yL_uidExpunge cL_uidExpunge 6 (some .int) [(0, 12, 15, 29), (0, 12, 19, 13)]) ∈ cr_U := mem_U (i := 1499) (by decide +kernel) rfl
theorem ml_L_122 : (Cond.methodLink RL 122 yX11_copy) ∈ cr_U := mem_U (i := 1507) (by decide +kernel) rfl
theorem im_X11_copy : (Cond.instanceMethod yX11_copy) ∈ cr_U := mem_U (i := 1508) (by decide +kernel) rfl
theorem se_X11_copy : (Cond.selects RX11 yX11_copy yX11_copy) ∈ cr_U := mem_U (i := 1509) (by decide +kernel) rfl
theorem cw_L_copy : (Cond.codeWith yL_copy cL_copy 7 (some .int) [(0, 14, 17, 29), (0, 14, 21, 19), (0, 14, 25, 13)]) ∈ cr_U := mem_U (i := 1506) (by decide +kernel) rfl
theorem ml_L_126 : (Cond.methodLink RL 126 yX11_move) ∈ cr_U := mem_U (i := 1528) (by decide +kernel) rfl
theorem im_X11_move : (Cond.instanceMethod yX11_move) ∈ cr_U := mem_U (i := 1529) (by decide +kernel) rfl
theorem se_X11_move : (Cond.selects RX11 yX11_move yX11_move) ∈ cr_U := mem_U (i := 1530) (by decide +kernel) rfl
theorem cw_L_move : (Cond.codeWith yL_move cL_move 7 (some .int) [(0, 14, 17, 29), (0, 14, 21, 19), (0, 14, 25, 13)]) ∈ cr_U := mem_U (i := 1527) (by decide +kernel) rfl
theorem ml_L_129 : (Cond.methodLink RL 129 yX11_close) ∈ cr_U := mem_U (i := 1540) (by decide +kernel) rfl
theorem im_X11_close : (Cond.instanceMethod yX11_close) ∈ cr_U := mem_U (i := 1541) (by decide +kernel) rfl
theorem se_X11_close : (Cond.selects RX11 yX11_close yX11_close) ∈ cr_U := mem_U (i := 1542) (by decide +kernel) rfl
theorem cw_L_close : (Cond.codeWith yL_close cL_close 4 (some .int) [(0, 9, 12, 29), (0, 9, 15, 13)]) ∈ cr_U := mem_U (i := 1539) (by decide +kernel) rfl
theorem ml_L_132 : (Cond.methodLink RL 132 yX11_deliver) ∈ cr_U := mem_U (i := 1548) (by decide +kernel) rfl
theorem im_X11_deliver : (Cond.instanceMethod yX11_deliver) ∈ cr_U := mem_U (i := 1549) (by decide +kernel) rfl
theorem se_X11_deliver : (Cond.selects RX11 yX11_deliver yX11_deliver) ∈ cr_U := mem_U (i := 1550) (by decide +kernel) rfl
theorem cw_L_deliver : (Cond.codeWith yL_deliver cL_deliver 6 (some .int) [(0, 12, 15, 29), (0, 12, 19, 19), (0, 12, 23, 13)]) ∈ cr_U := mem_U (i := 1547) (by decide +kernel) rfl
theorem ml_L_135 : (Cond.methodLink RL 135 yX11_setLimit) ∈ cr_U := mem_U (i := 1557) (by decide +kernel) rfl
theorem im_X11_setLimit : (Cond.instanceMethod yX11_setLimit) ∈ cr_U := mem_U (i := 1558) (by decide +kernel) rfl
theorem se_X11_setLimit : (Cond.selects RX11 yX11_setLimit yX11_setLimit) ∈ cr_U := mem_U (i := 1559) (by decide +kernel) rfl
theorem cw_L_setLimit : (Cond.codeWith yL_setLimit cL_setLimit 4 (some .int) [(0, 9, 12, 19)]) ∈ cr_U := mem_U (i := 1556) (by decide +kernel) rfl
theorem ml_L_138 : (Cond.methodLink RL 138 yX11_keep) ∈ cr_U := mem_U (i := 1565) (by decide +kernel) rfl
theorem im_X11_keep : (Cond.instanceMethod yX11_keep) ∈ cr_U := mem_U (i := 1566) (by decide +kernel) rfl
theorem se_X11_keep : (Cond.selects RX11 yX11_keep yX11_keep) ∈ cr_U := mem_U (i := 1567) (by decide +kernel) rfl
theorem cw_L_keep : (Cond.codeWith yL_keep cL_keep 4 (some .int) [(0, 9, 12, 29)]) ∈ cr_U := mem_U (i := 1564) (by decide +kernel) rfl
theorem ml_L_141 : (Cond.methodLink RL 141 yX11_restore) ∈ cr_U := mem_U (i := 1581) (by decide +kernel) rfl
theorem im_X11_restore : (Cond.instanceMethod yX11_restore) ∈ cr_U := mem_U (i := 1582) (by decide +kernel) rfl
theorem se_X11_restore : (Cond.selects RX11 yX11_restore yX11_restore) ∈ cr_U := mem_U (i := 1583) (by decide +kernel) rfl
theorem cw_L_restore : (Cond.codeWith yL_restore cL_restore 4 (some .int) [(0, 9, 12, 29), (0, 9, 15, 13)]) ∈ cr_U := mem_U (i := 1580) (by decide +kernel) rfl
theorem ml_L_144 : (Cond.methodLink RL 144 yX11_undo) ∈ cr_U := mem_U (i := 1593) (by decide +kernel) rfl
theorem im_X11_undo : (Cond.instanceMethod yX11_undo) ∈ cr_U := mem_U (i := 1594) (by decide +kernel) rfl
theorem se_X11_undo : (Cond.selects RX11 yX11_undo yX11_undo) ∈ cr_U := mem_U (i := 1595) (by decide +kernel) rfl
theorem cw_L_undo : (Cond.codeWith yL_undo cL_undo 3 (some .int) [(0, 8, 11, 13)]) ∈ cr_U := mem_U (i := 1592) (by decide +kernel) rfl
theorem ml_L_148 : (Cond.methodLink RL 148 yX11_writeBox) ∈ cr_U := mem_U (i := 1605) (by decide +kernel) rfl
theorem im_X11_writeBox : (Cond.instanceMethod yX11_writeBox) ∈ cr_U := mem_U (i := 1606) (by decide +kernel) rfl
theorem se_X11_writeBox : (Cond.selects RX11 yX11_writeBox yX11_writeBox) ∈ cr_U := mem_U (i := 1607) (by decide +kernel) rfl
theorem cw_L_writeBox : (Cond.codeWith yL_writeBox cL_writeBox 4 (some .int) [(0, 9, 12, 29)]) ∈ cr_U := mem_U (i := 1604) (by decide +kernel) rfl
theorem ml_L_151 : (Cond.methodLink RL 151 yX11_writeView) ∈ cr_U := mem_U (i := 1612) (by decide +kernel) rfl
theorem im_X11_writeView : (Cond.instanceMethod yX11_writeView) ∈ cr_U := mem_U (i := 1613) (by decide +kernel) rfl
theorem se_X11_writeView : (Cond.selects RX11 yX11_writeView yX11_writeView) ∈ cr_U := mem_U (i := 1614) (by decide +kernel) rfl
theorem cw_L_writeView : (Cond.codeWith yL_writeView cL_writeView 4 (some .int) [(0, 9, 12, 29)]) ∈ cr_U := mem_U (i := 1611) (by decide +kernel) rfl
theorem ml_L_154 : (Cond.methodLink RL 154 yX11_outputByte) ∈ cr_U := mem_U (i := 1619) (by decide +kernel) rfl
theorem im_X11_outputByte : (Cond.instanceMethod yX11_outputByte) ∈ cr_U := mem_U (i := 1620) (by decide +kernel) rfl
theorem se_X11_outputByte : (Cond.selects RX11 yX11_outputByte yX11_outputByte) ∈ cr_U := mem_U (i := 1621) (by decide +kernel) rfl
theorem cw_L_outputByte : (Cond.codeWith yL_outputByte cL_outputByte 4 (some .int) [(0, 9, 12, 29)]) ∈ cr_U := mem_U (i := 1618) (by decide +kernel) rfl
theorem ml_L_157 : (Cond.methodLink RL 157 yX11_init) ∈ cr_U := mem_U (i := 165) (by decide +kernel) rfl
theorem im_X11_init : (Cond.instanceMethod yX11_init) ∈ cr_U := mem_U (i := 166) (by decide +kernel) rfl
theorem ml_L_160 : (Cond.methodLink RL 160 yX12_init) ∈ cr_U := mem_U (i := 1631) (by decide +kernel) rfl
theorem im_X12_init : (Cond.instanceMethod yX12_init) ∈ cr_U := mem_U (i := 1632) (by decide +kernel) rfl
theorem ml_L_161 : (Cond.methodLink RL 161 yL_append) ∈ cr_U := mem_U (i := 935) (by decide +kernel) rfl
theorem sm_L_append : (Cond.static yL_append) ∈ cr_U := mem_U (i := 936) (by decide +kernel) rfl
theorem ml_L_166 : (Cond.methodLink RL 166 yX12_append) ∈ cr_U := mem_U (i := 1998) (by decide +kernel) rfl
theorem im_X12_append : (Cond.instanceMethod yX12_append) ∈ cr_U := mem_U (i := 1999) (by decide +kernel) rfl
theorem se_X12_append : (Cond.selects RX12 yX12_append yX12_append) ∈ cr_U := mem_U (i := 2000) (by decide +kernel) rfl
theorem ml_L_167 : (Cond.methodLink RL 167 yX12_thrown) ∈ cr_U := mem_U (i := 1625) (by decide +kernel) rfl
theorem im_X12_thrown : (Cond.instanceMethod yX12_thrown) ∈ cr_U := mem_U (i := 1626) (by decide +kernel) rfl
theorem se_X12_thrown : (Cond.selects RX12 yX12_thrown yX12_thrown) ∈ cr_U := mem_U (i := 1627) (by decide +kernel) rfl
theorem ml_L_170 : (Cond.methodLink RL 170 yL_truncate) ∈ cr_U := mem_U (i := 1015) (by decide +kernel) rfl
theorem sm_L_truncate : (Cond.static yL_truncate) ∈ cr_U := mem_U (i := 1016) (by decide +kernel) rfl
theorem ml_L_173 : (Cond.methodLink RL 173 yX12_truncate) ∈ cr_U := mem_U (i := 2006) (by decide +kernel) rfl
theorem im_X12_truncate : (Cond.instanceMethod yX12_truncate) ∈ cr_U := mem_U (i := 2007) (by decide +kernel) rfl
theorem se_X12_truncate : (Cond.selects RX12 yX12_truncate yX12_truncate) ∈ cr_U := mem_U (i := 2008) (by decide +kernel) rfl
theorem ml_L_174 : (Cond.methodLink RL 174 yX11_load) ∈ cr_U := mem_U (i := 472) (by decide +kernel) rfl
theorem im_X11_load : (Cond.instanceMethod yX11_load) ∈ cr_U := mem_U (i := 473) (by decide +kernel) rfl
theorem se_X11_load : (Cond.selects RX11 yX11_load yX11_load) ∈ cr_U := mem_U (i := 474) (by decide +kernel) rfl
theorem ml_L_177 : (Cond.methodLink RL 177 yX12_load) ∈ cr_U := mem_U (i := 2010) (by decide +kernel) rfl
theorem im_X12_load : (Cond.instanceMethod yX12_load) ∈ cr_U := mem_U (i := 2011) (by decide +kernel) rfl
theorem se_X12_load : (Cond.selects RX12 yX12_load yX12_load) ∈ cr_U := mem_U (i := 2012) (by decide +kernel) rfl
theorem ml_L_178 : (Cond.methodLink RL 178 yX11_errorCode) ∈ cr_U := mem_U (i := 823) (by decide +kernel) rfl
theorem im_X11_errorCode : (Cond.instanceMethod yX11_errorCode) ∈ cr_U := mem_U (i := 824) (by decide +kernel) rfl
theorem se_X11_errorCode : (Cond.selects RX11 yX11_errorCode yX11_errorCode) ∈ cr_U := mem_U (i := 825) (by decide +kernel) rfl
theorem ml_L_181 : (Cond.methodLink RL 181 yX12_errorCode) ∈ cr_U := mem_U (i := 2151) (by decide +kernel) rfl
theorem im_X12_errorCode : (Cond.instanceMethod yX12_errorCode) ∈ cr_U := mem_U (i := 2152) (by decide +kernel) rfl
theorem se_X12_errorCode : (Cond.selects RX12 yX12_errorCode yX12_errorCode) ∈ cr_U := mem_U (i := 2153) (by decide +kernel) rfl
theorem ml_L_182 : (Cond.methodLink RL 182 yX11_errorPosition) ∈ cr_U := mem_U (i := 827) (by decide +kernel) rfl
theorem im_X11_errorPosition : (Cond.instanceMethod yX11_errorPosition) ∈ cr_U := mem_U (i := 828) (by decide +kernel) rfl
theorem se_X11_errorPosition : (Cond.selects RX11 yX11_errorPosition yX11_errorPosition) ∈ cr_U := mem_U (i := 829) (by decide +kernel) rfl
theorem ml_L_185 : (Cond.methodLink RL 185 yX12_errorPosition) ∈ cr_U := mem_U (i := 2155) (by decide +kernel) rfl
theorem im_X12_errorPosition : (Cond.instanceMethod yX12_errorPosition) ∈ cr_U := mem_U (i := 2156) (by decide +kernel) rfl
theorem se_X12_errorPosition : (Cond.selects RX12 yX12_errorPosition yX12_errorPosition) ∈ cr_U := mem_U (i := 2157) (by decide +kernel) rfl
theorem ml_L_186 : (Cond.methodLink RL 186 yX11_findBox) ∈ cr_U := mem_U (i := 831) (by decide +kernel) rfl
theorem im_X11_findBox : (Cond.instanceMethod yX11_findBox) ∈ cr_U := mem_U (i := 832) (by decide +kernel) rfl
theorem se_X11_findBox : (Cond.selects RX11 yX11_findBox yX11_findBox) ∈ cr_U := mem_U (i := 833) (by decide +kernel) rfl
theorem ml_L_189 : (Cond.methodLink RL 189 yX12_findBox) ∈ cr_U := mem_U (i := 2159) (by decide +kernel) rfl
theorem im_X12_findBox : (Cond.instanceMethod yX12_findBox) ∈ cr_U := mem_U (i := 2160) (by decide +kernel) rfl
theorem se_X12_findBox : (Cond.selects RX12 yX12_findBox yX12_findBox) ∈ cr_U := mem_U (i := 2161) (by decide +kernel) rfl
theorem ml_L_190 : (Cond.methodLink RL 190 yX11_findSession) ∈ cr_U := mem_U (i := 838) (by decide +kernel) rfl
theorem im_X11_findSession : (Cond.instanceMethod yX11_findSession) ∈ cr_U := mem_U (i := 839) (by decide +kernel) rfl
theorem se_X11_findSession : (Cond.selects RX11 yX11_findSession yX11_findSession) ∈ cr_U := mem_U (i := 840) (by decide +kernel) rfl
theorem ml_L_193 : (Cond.methodLink RL 193 yX12_findSession) ∈ cr_U := mem_U (i := 2168) (by decide +kernel) rfl
theorem im_X12_findSession : (Cond.instanceMethod yX12_findSession) ∈ cr_U := mem_U (i := 2169) (by decide +kernel) rfl
theorem se_X12_findSession : (Cond.selects RX12 yX12_findSession yX12_findSession) ∈ cr_U := mem_U (i := 2170) (by decide +kernel) rfl
theorem ml_L_194 : (Cond.methodLink RL 194 yL_property) ∈ cr_U := mem_U (i := 1039) (by decide +kernel) rfl
theorem sm_L_property : (Cond.static yL_property) ∈ cr_U := mem_U (i := 1040) (by decide +kernel) rfl
theorem ml_L_197 : (Cond.methodLink RL 197 yX12_property) ∈ cr_U := mem_U (i := 2217) (by decide +kernel) rfl
theorem im_X12_property : (Cond.instanceMethod yX12_property) ∈ cr_U := mem_U (i := 2218) (by decide +kernel) rfl
theorem se_X12_property : (Cond.selects RX12 yX12_property yX12_property) ∈ cr_U := mem_U (i := 2219) (by decide +kernel) rfl
theorem ml_L_198 : (Cond.methodLink RL 198 yL_box) ∈ cr_U := mem_U (i := 1047) (by decide +kernel) rfl
theorem sm_L_box : (Cond.static yL_box) ∈ cr_U := mem_U (i := 1048) (by decide +kernel) rfl
theorem ml_L_201 : (Cond.methodLink RL 201 yX12_box) ∈ cr_U := mem_U (i := 2226) (by decide +kernel) rfl
theorem im_X12_box : (Cond.instanceMethod yX12_box) ∈ cr_U := mem_U (i := 2227) (by decide +kernel) rfl
theorem se_X12_box : (Cond.selects RX12 yX12_box yX12_box) ∈ cr_U := mem_U (i := 2228) (by decide +kernel) rfl
theorem ml_L_202 : (Cond.methodLink RL 202 yL_message) ∈ cr_U := mem_U (i := 1098) (by decide +kernel) rfl
theorem sm_L_message : (Cond.static yL_message) ∈ cr_U := mem_U (i := 1099) (by decide +kernel) rfl
theorem ml_L_205 : (Cond.methodLink RL 205 yX12_message) ∈ cr_U := mem_U (i := 2243) (by decide +kernel) rfl
theorem im_X12_message : (Cond.instanceMethod yX12_message) ∈ cr_U := mem_U (i := 2244) (by decide +kernel) rfl
theorem se_X12_message : (Cond.selects RX12 yX12_message yX12_message) ∈ cr_U := mem_U (i := 2245) (by decide +kernel) rfl
theorem ml_L_206 : (Cond.methodLink RL 206 yL_indexOf) ∈ cr_U := mem_U (i := 1107) (by decide +kernel) rfl
theorem sm_L_indexOf : (Cond.static yL_indexOf) ∈ cr_U := mem_U (i := 1108) (by decide +kernel) rfl
theorem ml_L_208 : (Cond.methodLink RL 208 yX12_indexOf) ∈ cr_U := mem_U (i := 2247) (by decide +kernel) rfl
theorem im_X12_indexOf : (Cond.instanceMethod yX12_indexOf) ∈ cr_U := mem_U (i := 2248) (by decide +kernel) rfl
theorem se_X12_indexOf : (Cond.selects RX12 yX12_indexOf yX12_indexOf) ∈ cr_U := mem_U (i := 2249) (by decide +kernel) rfl
theorem ml_L_209 : (Cond.methodLink RL 209 yL_session) ∈ cr_U := mem_U (i := 1115) (by decide +kernel) rfl
theorem sm_L_session : (Cond.static yL_session) ∈ cr_U := mem_U (i := 1116) (by decide +kernel) rfl
theorem ml_L_211 : (Cond.methodLink RL 211 yX12_session) ∈ cr_U := mem_U (i := 2251) (by decide +kernel) rfl
theorem im_X12_session : (Cond.instanceMethod yX12_session) ∈ cr_U := mem_U (i := 2252) (by decide +kernel) rfl
theorem se_X12_session : (Cond.selects RX12 yX12_session yX12_session) ∈ cr_U := mem_U (i := 2253) (by decide +kernel) rfl
theorem ml_L_212 : (Cond.methodLink RL 212 yL_entry) ∈ cr_U := mem_U (i := 1134) (by decide +kernel) rfl
theorem sm_L_entry : (Cond.static yL_entry) ∈ cr_U := mem_U (i := 1135) (by decide +kernel) rfl
theorem ml_L_214 : (Cond.methodLink RL 214 yX12_entry) ∈ cr_U := mem_U (i := 2267) (by decide +kernel) rfl
theorem im_X12_entry : (Cond.instanceMethod yX12_entry) ∈ cr_U := mem_U (i := 2268) (by decide +kernel) rfl
theorem se_X12_entry : (Cond.selects RX12 yX12_entry yX12_entry) ∈ cr_U := mem_U (i := 2269) (by decide +kernel) rfl
theorem ml_L_215 : (Cond.methodLink RL 215 yL_numberOf) ∈ cr_U := mem_U (i := 1148) (by decide +kernel) rfl
theorem sm_L_numberOf : (Cond.static yL_numberOf) ∈ cr_U := mem_U (i := 1149) (by decide +kernel) rfl
theorem ml_L_217 : (Cond.methodLink RL 217 yX12_numberOf) ∈ cr_U := mem_U (i := 2271) (by decide +kernel) rfl
theorem im_X12_numberOf : (Cond.instanceMethod yX12_numberOf) ∈ cr_U := mem_U (i := 2272) (by decide +kernel) rfl
theorem se_X12_numberOf : (Cond.selects RX12 yX12_numberOf yX12_numberOf) ∈ cr_U := mem_U (i := 2273) (by decide +kernel) rfl
theorem ml_L_218 : (Cond.methodLink RL 218 yL_numberThen) ∈ cr_U := mem_U (i := 1160) (by decide +kernel) rfl
theorem sm_L_numberThen : (Cond.static yL_numberThen) ∈ cr_U := mem_U (i := 1161) (by decide +kernel) rfl
theorem ml_L_220 : (Cond.methodLink RL 220 yX12_numberThen) ∈ cr_U := mem_U (i := 2279) (by decide +kernel) rfl
theorem im_X12_numberThen : (Cond.instanceMethod yX12_numberThen) ∈ cr_U := mem_U (i := 2280) (by decide +kernel) rfl
theorem se_X12_numberThen : (Cond.selects RX12 yX12_numberThen yX12_numberThen) ∈ cr_U := mem_U (i := 2281) (by decide +kernel) rfl
theorem ml_L_221 : (Cond.methodLink RL 221 yL_pending) ∈ cr_U := mem_U (i := 1169) (by decide +kernel) rfl
theorem sm_L_pending : (Cond.static yL_pending) ∈ cr_U := mem_U (i := 1170) (by decide +kernel) rfl
theorem ml_L_223 : (Cond.methodLink RL 223 yX12_pending) ∈ cr_U := mem_U (i := 2283) (by decide +kernel) rfl
theorem im_X12_pending : (Cond.instanceMethod yX12_pending) ∈ cr_U := mem_U (i := 2284) (by decide +kernel) rfl
theorem se_X12_pending : (Cond.selects RX12 yX12_pending yX12_pending) ∈ cr_U := mem_U (i := 2285) (by decide +kernel) rfl
theorem ml_L_224 : (Cond.methodLink RL 224 yL_isCurrent) ∈ cr_U := mem_U (i := 1177) (by decide +kernel) rfl
theorem sm_L_isCurrent : (Cond.static yL_isCurrent) ∈ cr_U := mem_U (i := 1178) (by decide +kernel) rfl
theorem ml_L_226 : (Cond.methodLink RL 226 yX12_isCurrent) ∈ cr_U := mem_U (i := 2291) (by decide +kernel) rfl
theorem im_X12_isCurrent : (Cond.instanceMethod yX12_isCurrent) ∈ cr_U := mem_U (i := 2292) (by decide +kernel) rfl
theorem se_X12_isCurrent : (Cond.selects RX12 yX12_isCurrent yX12_isCurrent) ∈ cr_U := mem_U (i := 2293) (by decide +kernel) rfl
theorem ml_L_227 : (Cond.methodLink RL 227 yL_firstUnseen) ∈ cr_U := mem_U (i := 1185) (by decide +kernel) rfl
theorem sm_L_firstUnseen : (Cond.static yL_firstUnseen) ∈ cr_U := mem_U (i := 1186) (by decide +kernel) rfl
theorem ml_L_229 : (Cond.methodLink RL 229 yX12_firstUnseen) ∈ cr_U := mem_U (i := 2299) (by decide +kernel) rfl
theorem im_X12_firstUnseen : (Cond.instanceMethod yX12_firstUnseen) ∈ cr_U := mem_U (i := 2300) (by decide +kernel) rfl
theorem se_X12_firstUnseen : (Cond.selects RX12 yX12_firstUnseen yX12_firstUnseen) ∈ cr_U := mem_U (i := 2301) (by decide +kernel) rfl
theorem ml_L_230 : (Cond.methodLink RL 230 yL_largest) ∈ cr_U := mem_U (i := 1196) (by decide +kernel) rfl
theorem sm_L_largest : (Cond.static yL_largest) ∈ cr_U := mem_U (i := 1197) (by decide +kernel) rfl
theorem ml_L_232 : (Cond.methodLink RL 232 yX12_largest) ∈ cr_U := mem_U (i := 2303) (by decide +kernel) rfl
theorem im_X12_largest : (Cond.instanceMethod yX12_largest) ∈ cr_U := mem_U (i := 2304) (by decide +kernel) rfl
theorem se_X12_largest : (Cond.selects RX12 yX12_largest yX12_largest) ∈ cr_U := mem_U (i := 2305) (by decide +kernel) rfl
theorem ml_L_233 : (Cond.methodLink RL 233 yL_common) ∈ cr_U := mem_U (i := 1207) (by decide +kernel) rfl
theorem sm_L_common : (Cond.static yL_common) ∈ cr_U := mem_U (i := 1208) (by decide +kernel) rfl
theorem ml_L_235 : (Cond.methodLink RL 235 yX12_common) ∈ cr_U := mem_U (i := 2307) (by decide +kernel) rfl
theorem im_X12_common : (Cond.instanceMethod yX12_common) ∈ cr_U := mem_U (i := 2308) (by decide +kernel) rfl
theorem se_X12_common : (Cond.selects RX12 yX12_common yX12_common) ∈ cr_U := mem_U (i := 2309) (by decide +kernel) rfl
theorem ml_L_236 : (Cond.methodLink RL 236 yL_holders) ∈ cr_U := mem_U (i := 1219) (by decide +kernel) rfl
theorem sm_L_holders : (Cond.static yL_holders) ∈ cr_U := mem_U (i := 1220) (by decide +kernel) rfl
theorem ml_L_238 : (Cond.methodLink RL 238 yX12_holders) ∈ cr_U := mem_U (i := 2311) (by decide +kernel) rfl
theorem im_X12_holders : (Cond.instanceMethod yX12_holders) ∈ cr_U := mem_U (i := 2312) (by decide +kernel) rfl
theorem se_X12_holders : (Cond.selects RX12 yX12_holders yX12_holders) ∈ cr_U := mem_U (i := 2313) (by decide +kernel) rfl
theorem ml_L_239 : (Cond.methodLink RL 239 yX11_stale) ∈ cr_U := mem_U (i := 843) (by decide +kernel) rfl
theorem im_X11_stale : (Cond.instanceMethod yX11_stale) ∈ cr_U := mem_U (i := 844) (by decide +kernel) rfl
theorem se_X11_stale : (Cond.selects RX11 yX11_stale yX11_stale) ∈ cr_U := mem_U (i := 845) (by decide +kernel) rfl
theorem ml_L_242 : (Cond.methodLink RL 242 yX12_stale) ∈ cr_U := mem_U (i := 2315) (by decide +kernel) rfl
theorem im_X12_stale : (Cond.instanceMethod yX12_stale) ∈ cr_U := mem_U (i := 2316) (by decide +kernel) rfl
theorem se_X12_stale : (Cond.selects RX12 yX12_stale yX12_stale) ∈ cr_U := mem_U (i := 2317) (by decide +kernel) rfl
theorem ml_L_243 : (Cond.methodLink RL 243 yL_unseen) ∈ cr_U := mem_U (i := 1231) (by decide +kernel) rfl
theorem sm_L_unseen : (Cond.static yL_unseen) ∈ cr_U := mem_U (i := 1232) (by decide +kernel) rfl
theorem ml_L_246 : (Cond.methodLink RL 246 yX12_unseen) ∈ cr_U := mem_U (i := 2319) (by decide +kernel) rfl
theorem im_X12_unseen : (Cond.instanceMethod yX12_unseen) ∈ cr_U := mem_U (i := 2320) (by decide +kernel) rfl
theorem se_X12_unseen : (Cond.selects RX12 yX12_unseen yX12_unseen) ∈ cr_U := mem_U (i := 2321) (by decide +kernel) rfl
theorem ml_L_247 : (Cond.methodLink RL 247 yL_mean) ∈ cr_U := mem_U (i := 1238) (by decide +kernel) rfl
theorem sm_L_mean : (Cond.static yL_mean) ∈ cr_U := mem_U (i := 1239) (by decide +kernel) rfl
theorem ml_L_249 : (Cond.methodLink RL 249 yX12_mean) ∈ cr_U := mem_U (i := 2323) (by decide +kernel) rfl
theorem im_X12_mean : (Cond.instanceMethod yX12_mean) ∈ cr_U := mem_U (i := 2324) (by decide +kernel) rfl
theorem se_X12_mean : (Cond.selects RX12 yX12_mean yX12_mean) ∈ cr_U := mem_U (i := 2325) (by decide +kernel) rfl
theorem ml_L_250 : (Cond.methodLink RL 250 yL_account) ∈ cr_U := mem_U (i := 1245) (by decide +kernel) rfl
theorem sm_L_account : (Cond.static yL_account) ∈ cr_U := mem_U (i := 1246) (by decide +kernel) rfl
theorem ml_L_252 : (Cond.methodLink RL 252 yX12_account) ∈ cr_U := mem_U (i := 2327) (by decide +kernel) rfl
theorem im_X12_account : (Cond.instanceMethod yX12_account) ∈ cr_U := mem_U (i := 2328) (by decide +kernel) rfl
theorem se_X12_account : (Cond.selects RX12 yX12_account yX12_account) ∈ cr_U := mem_U (i := 2329) (by decide +kernel) rfl
theorem ml_L_253 : (Cond.methodLink RL 253 yL_notice) ∈ cr_U := mem_U (i := 1253) (by decide +kernel) rfl
theorem sm_L_notice : (Cond.static yL_notice) ∈ cr_U := mem_U (i := 1254) (by decide +kernel) rfl
theorem ml_L_255 : (Cond.methodLink RL 255 yX12_notice) ∈ cr_U := mem_U (i := 2331) (by decide +kernel) rfl
theorem im_X12_notice : (Cond.instanceMethod yX12_notice) ∈ cr_U := mem_U (i := 2332) (by decide +kernel) rfl
theorem se_X12_notice : (Cond.selects RX12 yX12_notice yX12_notice) ∈ cr_U := mem_U (i := 2333) (by decide +kernel) rfl
theorem ml_L_256 : (Cond.methodLink RL 256 yL_searchBox) ∈ cr_U := mem_U (i := 1278) (by decide +kernel) rfl
theorem sm_L_searchBox : (Cond.static yL_searchBox) ∈ cr_U := mem_U (i := 1279) (by decide +kernel) rfl
theorem ml_L_258 : (Cond.methodLink RL 258 yX12_searchBox) ∈ cr_U := mem_U (i := 2172) (by decide +kernel) rfl
theorem im_X12_searchBox : (Cond.instanceMethod yX12_searchBox) ∈ cr_U := mem_U (i := 2173) (by decide +kernel) rfl
theorem se_X12_searchBox : (Cond.selects RX12 yX12_searchBox yX12_searchBox) ∈ cr_U := mem_U (i := 2174) (by decide +kernel) rfl
theorem ml_L_259 : (Cond.methodLink RL 259 yL_select) ∈ cr_U := mem_U (i := 1344) (by decide +kernel) rfl
theorem sm_L_select : (Cond.static yL_select) ∈ cr_U := mem_U (i := 1345) (by decide +kernel) rfl
theorem ml_L_262 : (Cond.methodLink RL 262 yX12_select) ∈ cr_U := mem_U (i := 1721) (by decide +kernel) rfl
theorem im_X12_select : (Cond.instanceMethod yX12_select) ∈ cr_U := mem_U (i := 1722) (by decide +kernel) rfl
theorem se_X12_select : (Cond.selects RX12 yX12_select yX12_select) ∈ cr_U := mem_U (i := 1723) (by decide +kernel) rfl
theorem ml_L_263 : (Cond.methodLink RL 263 yL_noop) ∈ cr_U := mem_U (i := 1397) (by decide +kernel) rfl
theorem sm_L_noop : (Cond.static yL_noop) ∈ cr_U := mem_U (i := 1398) (by decide +kernel) rfl
theorem ml_L_265 : (Cond.methodLink RL 265 yX12_noop) ∈ cr_U := mem_U (i := 1865) (by decide +kernel) rfl
theorem im_X12_noop : (Cond.instanceMethod yX12_noop) ∈ cr_U := mem_U (i := 1866) (by decide +kernel) rfl
theorem se_X12_noop : (Cond.selects RX12 yX12_noop yX12_noop) ∈ cr_U := mem_U (i := 1867) (by decide +kernel) rfl
theorem ml_L_266 : (Cond.methodLink RL 266 yL_startIdle) ∈ cr_U := mem_U (i := 1414) (by decide +kernel) rfl
theorem sm_L_startIdle : (Cond.static yL_startIdle) ∈ cr_U := mem_U (i := 1415) (by decide +kernel) rfl
theorem ml_L_268 : (Cond.methodLink RL 268 yX12_startIdle) ∈ cr_U := mem_U (i := 1877) (by decide +kernel) rfl
theorem im_X12_startIdle : (Cond.instanceMethod yX12_startIdle) ∈ cr_U := mem_U (i := 1878) (by decide +kernel) rfl
theorem se_X12_startIdle : (Cond.selects RX12 yX12_startIdle yX12_startIdle) ∈ cr_U := mem_U (i := 1879) (by decide +kernel) rfl
theorem ml_L_269 : (Cond.methodLink RL 269 yL_stopIdle) ∈ cr_U := mem_U (i := 1421) (by decide +kernel) rfl
theorem sm_L_stopIdle : (Cond.static yL_stopIdle) ∈ cr_U := mem_U (i := 1422) (by decide +kernel) rfl
theorem ml_L_271 : (Cond.methodLink RL 271 yX12_stopIdle) ∈ cr_U := mem_U (i := 1881) (by decide +kernel) rfl
theorem im_X12_stopIdle : (Cond.instanceMethod yX12_stopIdle) ∈ cr_U := mem_U (i := 1882) (by decide +kernel) rfl
theorem se_X12_stopIdle : (Cond.selects RX12 yX12_stopIdle yX12_stopIdle) ∈ cr_U := mem_U (i := 1883) (by decide +kernel) rfl
theorem ml_L_272 : (Cond.methodLink RL 272 yL_fetch) ∈ cr_U := mem_U (i := 1429) (by decide +kernel) rfl
theorem sm_L_fetch : (Cond.static yL_fetch) ∈ cr_U := mem_U (i := 1430) (by decide +kernel) rfl
theorem ml_L_275 : (Cond.methodLink RL 275 yX12_fetch) ∈ cr_U := mem_U (i := 1885) (by decide +kernel) rfl
theorem im_X12_fetch : (Cond.instanceMethod yX12_fetch) ∈ cr_U := mem_U (i := 1886) (by decide +kernel) rfl
theorem se_X12_fetch : (Cond.selects RX12 yX12_fetch yX12_fetch) ∈ cr_U := mem_U (i := 1887) (by decide +kernel) rfl
theorem ml_L_276 : (Cond.methodLink RL 276 yL_store) ∈ cr_U := mem_U (i := 1445) (by decide +kernel) rfl
theorem sm_L_store : (Cond.static yL_store) ∈ cr_U := mem_U (i := 1446) (by decide +kernel) rfl
theorem ml_L_279 : (Cond.methodLink RL 279 yX12_store) ∈ cr_U := mem_U (i := 1909) (by decide +kernel) rfl
theorem im_X12_store : (Cond.instanceMethod yX12_store) ∈ cr_U := mem_U (i := 1910) (by decide +kernel) rfl
theorem se_X12_store : (Cond.selects RX12 yX12_store yX12_store) ∈ cr_U := mem_U (i := 1911) (by decide +kernel) rfl
theorem ml_L_280 : (Cond.methodLink RL 280 yL_uidStore) ∈ cr_U := mem_U (i := 1462) (by decide +kernel) rfl
theorem sm_L_uidStore : (Cond.static yL_uidStore) ∈ cr_U := mem_U (i := 1463) (by decide +kernel) rfl
theorem ml_L_282 : (Cond.methodLink RL 282 yX12_uidStore) ∈ cr_U := mem_U (i := 1932) (by decide +kernel) rfl
theorem im_X12_uidStore : (Cond.instanceMethod yX12_uidStore) ∈ cr_U := mem_U (i := 1933) (by decide +kernel) rfl
theorem se_X12_uidStore : (Cond.selects RX12 yX12_uidStore yX12_uidStore) ∈ cr_U := mem_U (i := 1934) (by decide +kernel) rfl
theorem ml_L_283 : (Cond.methodLink RL 283 yL_search) ∈ cr_U := mem_U (i := 1469) (by decide +kernel) rfl
theorem sm_L_search : (Cond.static yL_search) ∈ cr_U := mem_U (i := 1470) (by decide +kernel) rfl
theorem ml_L_285 : (Cond.methodLink RL 285 yX12_search) ∈ cr_U := mem_U (i := 2212) (by decide +kernel) rfl
theorem im_X12_search : (Cond.instanceMethod yX12_search) ∈ cr_U := mem_U (i := 2213) (by decide +kernel) rfl
theorem se_X12_search : (Cond.selects RX12 yX12_search yX12_search) ∈ cr_U := mem_U (i := 2214) (by decide +kernel) rfl
theorem ml_L_286 : (Cond.methodLink RL 286 yL_expunge) ∈ cr_U := mem_U (i := 1481) (by decide +kernel) rfl
theorem sm_L_expunge : (Cond.static yL_expunge) ∈ cr_U := mem_U (i := 1482) (by decide +kernel) rfl
theorem ml_L_288 : (Cond.methodLink RL 288 yX12_expunge) ∈ cr_U := mem_U (i := 1936) (by decide +kernel) rfl
theorem im_X12_expunge : (Cond.instanceMethod yX12_expunge) ∈ cr_U := mem_U (i := 1937) (by decide +kernel) rfl
theorem se_X12_expunge : (Cond.selects RX12 yX12_expunge yX12_expunge) ∈ cr_U := mem_U (i := 1938) (by decide +kernel) rfl
theorem ml_L_289 : (Cond.methodLink RL 289 yL_uidExpunge) ∈ cr_U := mem_U (i := 1497) (by decide +kernel) rfl
theorem sm_L_uidExpunge : (Cond.static yL_uidExpunge) ∈ cr_U := mem_U (i := 1498) (by decide +kernel) rfl
theorem ml_L_291 : (Cond.methodLink RL 291 yX12_uidExpunge) ∈ cr_U := mem_U (i := 1949) (by decide +kernel) rfl
theorem im_X12_uidExpunge : (Cond.instanceMethod yX12_uidExpunge) ∈ cr_U := mem_U (i := 1950) (by decide +kernel) rfl
theorem se_X12_uidExpunge : (Cond.selects RX12 yX12_uidExpunge yX12_uidExpunge) ∈ cr_U := mem_U (i := 1951) (by decide +kernel) rfl
theorem ml_L_292 : (Cond.methodLink RL 292 yL_copy) ∈ cr_U := mem_U (i := 1504) (by decide +kernel) rfl
theorem sm_L_copy : (Cond.static yL_copy) ∈ cr_U := mem_U (i := 1505) (by decide +kernel) rfl
theorem ml_L_295 : (Cond.methodLink RL 295 yX12_copy) ∈ cr_U := mem_U (i := 1953) (by decide +kernel) rfl
theorem im_X12_copy : (Cond.instanceMethod yX12_copy) ∈ cr_U := mem_U (i := 1954) (by decide +kernel) rfl
theorem se_X12_copy : (Cond.selects RX12 yX12_copy yX12_copy) ∈ cr_U := mem_U (i := 1955) (by decide +kernel) rfl
theorem ml_L_296 : (Cond.methodLink RL 296 yL_move) ∈ cr_U := mem_U (i := 1525) (by decide +kernel) rfl
theorem sm_L_move : (Cond.static yL_move) ∈ cr_U := mem_U (i := 1526) (by decide +kernel) rfl
theorem ml_L_298 : (Cond.methodLink RL 298 yX12_move) ∈ cr_U := mem_U (i := 1977) (by decide +kernel) rfl
theorem im_X12_move : (Cond.instanceMethod yX12_move) ∈ cr_U := mem_U (i := 1978) (by decide +kernel) rfl
theorem se_X12_move : (Cond.selects RX12 yX12_move yX12_move) ∈ cr_U := mem_U (i := 1979) (by decide +kernel) rfl
theorem ml_L_299 : (Cond.methodLink RL 299 yL_close) ∈ cr_U := mem_U (i := 1537) (by decide +kernel) rfl
theorem sm_L_close : (Cond.static yL_close) ∈ cr_U := mem_U (i := 1538) (by decide +kernel) rfl
theorem ml_L_301 : (Cond.methodLink RL 301 yX12_close) ∈ cr_U := mem_U (i := 1981) (by decide +kernel) rfl
theorem im_X12_close : (Cond.instanceMethod yX12_close) ∈ cr_U := mem_U (i := 1982) (by decide +kernel) rfl
theorem se_X12_close : (Cond.selects RX12 yX12_close yX12_close) ∈ cr_U := mem_U (i := 1983) (by decide +kernel) rfl
theorem ml_L_302 : (Cond.methodLink RL 302 yL_deliver) ∈ cr_U := mem_U (i := 1545) (by decide +kernel) rfl
theorem sm_L_deliver : (Cond.static yL_deliver) ∈ cr_U := mem_U (i := 1546) (by decide +kernel) rfl
theorem ml_L_304 : (Cond.methodLink RL 304 yX12_deliver) ∈ cr_U := mem_U (i := 1985) (by decide +kernel) rfl
theorem im_X12_deliver : (Cond.instanceMethod yX12_deliver) ∈ cr_U := mem_U (i := 1986) (by decide +kernel) rfl
theorem se_X12_deliver : (Cond.selects RX12 yX12_deliver yX12_deliver) ∈ cr_U := mem_U (i := 1987) (by decide +kernel) rfl
theorem ml_L_305 : (Cond.methodLink RL 305 yL_setLimit) ∈ cr_U := mem_U (i := 1554) (by decide +kernel) rfl
theorem sm_L_setLimit : (Cond.static yL_setLimit) ∈ cr_U := mem_U (i := 1555) (by decide +kernel) rfl
theorem ml_L_307 : (Cond.methodLink RL 307 yX12_setLimit) ∈ cr_U := mem_U (i := 1990) (by decide +kernel) rfl
theorem im_X12_setLimit : (Cond.instanceMethod yX12_setLimit) ∈ cr_U := mem_U (i := 1991) (by decide +kernel) rfl
theorem se_X12_setLimit : (Cond.selects RX12 yX12_setLimit yX12_setLimit) ∈ cr_U := mem_U (i := 1992) (by decide +kernel) rfl
theorem ml_L_308 : (Cond.methodLink RL 308 yL_keep) ∈ cr_U := mem_U (i := 1562) (by decide +kernel) rfl
theorem sm_L_keep : (Cond.static yL_keep) ∈ cr_U := mem_U (i := 1563) (by decide +kernel) rfl
theorem ml_L_310 : (Cond.methodLink RL 310 yX12_keep) ∈ cr_U := mem_U (i := 2336) (by decide +kernel) rfl
theorem im_X12_keep : (Cond.instanceMethod yX12_keep) ∈ cr_U := mem_U (i := 2337) (by decide +kernel) rfl
theorem se_X12_keep : (Cond.selects RX12 yX12_keep yX12_keep) ∈ cr_U := mem_U (i := 2338) (by decide +kernel) rfl
theorem ml_L_311 : (Cond.methodLink RL 311 yL_restore) ∈ cr_U := mem_U (i := 1578) (by decide +kernel) rfl
theorem sm_L_restore : (Cond.static yL_restore) ∈ cr_U := mem_U (i := 1579) (by decide +kernel) rfl
theorem ml_L_313 : (Cond.methodLink RL 313 yX12_restore) ∈ cr_U := mem_U (i := 2343) (by decide +kernel) rfl
theorem im_X12_restore : (Cond.instanceMethod yX12_restore) ∈ cr_U := mem_U (i := 2344) (by decide +kernel) rfl
theorem se_X12_restore : (Cond.selects RX12 yX12_restore yX12_restore) ∈ cr_U := mem_U (i := 2345) (by decide +kernel) rfl
theorem ml_L_314 : (Cond.methodLink RL 314 yL_undo) ∈ cr_U := mem_U (i := 1590) (by decide +kernel) rfl
theorem sm_L_undo : (Cond.static yL_undo) ∈ cr_U := mem_U (i := 1591) (by decide +kernel) rfl
theorem ml_L_317 : (Cond.methodLink RL 317 yX12_undo) ∈ cr_U := mem_U (i := 2347) (by decide +kernel) rfl
theorem im_X12_undo : (Cond.instanceMethod yX12_undo) ∈ cr_U := mem_U (i := 2348) (by decide +kernel) rfl
theorem se_X12_undo : (Cond.selects RX12 yX12_undo yX12_undo) ∈ cr_U := mem_U (i := 2349) (by decide +kernel) rfl
theorem ml_L_318 : (Cond.methodLink RL 318 yX11_undoCount) ∈ cr_U := mem_U (i := 895) (by decide +kernel) rfl
theorem im_X11_undoCount : (Cond.instanceMethod yX11_undoCount) ∈ cr_U := mem_U (i := 896) (by decide +kernel) rfl
theorem se_X11_undoCount : (Cond.selects RX11 yX11_undoCount yX11_undoCount) ∈ cr_U := mem_U (i := 897) (by decide +kernel) rfl
theorem ml_L_321 : (Cond.methodLink RL 321 yX12_undoCount) ∈ cr_U := mem_U (i := 2351) (by decide +kernel) rfl
theorem im_X12_undoCount : (Cond.instanceMethod yX12_undoCount) ∈ cr_U := mem_U (i := 2352) (by decide +kernel) rfl
theorem se_X12_undoCount : (Cond.selects RX12 yX12_undoCount yX12_undoCount) ∈ cr_U := mem_U (i := 2353) (by decide +kernel) rfl
theorem ml_L_322 : (Cond.methodLink RL 322 yL_writeBox) ∈ cr_U := mem_U (i := 1602) (by decide +kernel) rfl
theorem sm_L_writeBox : (Cond.static yL_writeBox) ∈ cr_U := mem_U (i := 1603) (by decide +kernel) rfl
theorem ml_L_324 : (Cond.methodLink RL 324 yX12_writeBox) ∈ cr_U := mem_U (i := 2355) (by decide +kernel) rfl
theorem im_X12_writeBox : (Cond.instanceMethod yX12_writeBox) ∈ cr_U := mem_U (i := 2356) (by decide +kernel) rfl
theorem se_X12_writeBox : (Cond.selects RX12 yX12_writeBox yX12_writeBox) ∈ cr_U := mem_U (i := 2357) (by decide +kernel) rfl
theorem ml_L_325 : (Cond.methodLink RL 325 yL_writeView) ∈ cr_U := mem_U (i := 1609) (by decide +kernel) rfl
theorem sm_L_writeView : (Cond.static yL_writeView) ∈ cr_U := mem_U (i := 1610) (by decide +kernel) rfl
theorem ml_L_327 : (Cond.methodLink RL 327 yX12_writeView) ∈ cr_U := mem_U (i := 2375) (by decide +kernel) rfl
theorem im_X12_writeView : (Cond.instanceMethod yX12_writeView) ∈ cr_U := mem_U (i := 2376) (by decide +kernel) rfl
theorem se_X12_writeView : (Cond.selects RX12 yX12_writeView yX12_writeView) ∈ cr_U := mem_U (i := 2377) (by decide +kernel) rfl
theorem ml_L_328 : (Cond.methodLink RL 328 yX11_writeNotices) ∈ cr_U := mem_U (i := 903) (by decide +kernel) rfl
theorem im_X11_writeNotices : (Cond.instanceMethod yX11_writeNotices) ∈ cr_U := mem_U (i := 904) (by decide +kernel) rfl
theorem se_X11_writeNotices : (Cond.selects RX11 yX11_writeNotices yX11_writeNotices) ∈ cr_U := mem_U (i := 905) (by decide +kernel) rfl
theorem ml_L_331 : (Cond.methodLink RL 331 yX12_writeNotices) ∈ cr_U := mem_U (i := 2379) (by decide +kernel) rfl
theorem im_X12_writeNotices : (Cond.instanceMethod yX12_writeNotices) ∈ cr_U := mem_U (i := 2380) (by decide +kernel) rfl
theorem se_X12_writeNotices : (Cond.selects RX12 yX12_writeNotices yX12_writeNotices) ∈ cr_U := mem_U (i := 2381) (by decide +kernel) rfl
theorem ml_L_332 : (Cond.methodLink RL 332 yL_outputByte) ∈ cr_U := mem_U (i := 1616) (by decide +kernel) rfl
theorem sm_L_outputByte : (Cond.static yL_outputByte) ∈ cr_U := mem_U (i := 1617) (by decide +kernel) rfl
theorem ml_L_334 : (Cond.methodLink RL 334 yX12_outputByte) ∈ cr_U := mem_U (i := 2383) (by decide +kernel) rfl
theorem im_X12_outputByte : (Cond.instanceMethod yX12_outputByte) ∈ cr_U := mem_U (i := 2384) (by decide +kernel) rfl
theorem se_X12_outputByte : (Cond.selects RX12 yX12_outputByte yX12_outputByte) ∈ cr_U := mem_U (i := 2385) (by decide +kernel) rfl
theorem ar_4 : (Cond.arrayClass (newarray.typeOf .double)) ∈ cr_U := mem_U (i := 2387) (by decide +kernel) rfl
theorem cl_L_158 : (Cond.classLink RL 158 RX12) ∈ cr_U := mem_U (i := 1629) (by decide +kernel) rfl
theorem ins_X12 : (Cond.instantiable RX12 28) ∈ cr_U := mem_U (i := 1630) (by decide +kernel) rfl
theorem cl_L_8 : (Cond.classLink RL 8 RX11) ∈ cr_U := mem_U (i := 163) (by decide +kernel) rfl
theorem ins_X11 : (Cond.instantiable RX11 13) ∈ cr_U := mem_U (i := 164) (by decide +kernel) rfl
theorem dL_append_0 : decode cL_append 0 = .ok (.aload 6, 2) := by decide +kernel
theorem dL_append_2 : decode cL_append 2 = .ok (.iconst 0, 1) := by decide +kernel
theorem dL_append_3 : decode cL_append 3 = .ok (.aload_n 0, 1) := by decide +kernel
theorem dL_append_4 : decode cL_append 4 = .ok (.iload_n 1, 1) := by decide +kernel
theorem dL_append_5 : decode cL_append 5 = .ok (.iload_n 2, 1) := by decide +kernel
theorem dL_append_6 : decode cL_append 6 = .ok (.iload_n 3, 1) := by decide +kernel
theorem dL_append_7 : decode cL_append 7 = .ok (.iload 4, 2) := by decide +kernel
theorem dL_append_9 : decode cL_append 9 = .ok (.iload 5, 2) := by decide +kernel
theorem dL_append_11 : decode cL_append 11 = .ok (.invokevirtual 7, 3) := by decide +kernel
theorem dL_append_14 : decode cL_append 14 = .ok (.i2l, 1) := by decide +kernel
theorem dL_append_15 : decode cL_append 15 = .ok (.lastore, 1) := by decide +kernel
theorem dL_append_16 : decode cL_append 16 = .ok (.goto 7, 3) := by decide +kernel
theorem dL_append_19 : decode cL_append 19 = .ok (.astore 7, 2) := by decide +kernel
theorem dL_append_21 : decode cL_append 21 = .ok (.iconst 1, 1) := by decide +kernel
theorem dL_append_22 : decode cL_append 22 = .ok (.ireturn, 1) := by decide +kernel
theorem dL_append_23 : decode cL_append 23 = .ok (.iconst 0, 1) := by decide +kernel
theorem dL_append_24 : decode cL_append 24 = .ok (.ireturn, 1) := by decide +kernel
def mi_L_append : MI := (RL, yL_append, cL_append, 8, some .int, [(0, 16, 19, 13)], { frames := 9, cells := 1, slots := 6, locals := 145 })
theorem ok_L_append : mOKW mi_L_append 7 := ⟨rfl, cw_L_append, ini_L, ⟨rfl, by decide⟩, by decide, by decide, rfl⟩
theorem ha_L_append : hAll mi_L_append 11 mi_L_append.hh [("java/lang/IllegalStateException", 1)] [] := ⟨⟨⟨by decide, by decide⟩, by decide, cl_L_13, ca_IllegalStateException, ⟨1, 2, rfl, dL_append_21, dL_append_22, Or.inl ⟨rfl, 7, by decide, dL_append_19⟩⟩⟩, (fun p hp => nomatch hp), trivial⟩
theorem v_L_append (a0 : Nat) (a1 : Int32) (a2 : Int32) (a3 : Int32) (a4 : Int32) (a5 : Int32) (a6 : Nat) (M : Mem) : V mi_L_append 0 [(0, .ref a0), (1, .int a1), (2, .int a2), (3, .int a3), (4, .int a4), (5, .int a5), (6, .ref a6)] [] M 0 0 (f_L_append a0 a1 a2 a3 a4 a5 a6 M) wI := by
  unfold f_L_append
  refine V_aload dL_append_0 rfl 6 rfl ?_
  refine V_iconst (x := 0) dL_append_2 rfl rfl ?_
  refine V_aload_n dL_append_3 rfl 0 rfl ?_
  refine V_iload_n dL_append_4 rfl 1 rfl ?_
  refine V_iload_n dL_append_5 rfl 2 rfl ?_
  refine V_iload_n dL_append_6 rfl 3 rfl ?_
  refine V_iload dL_append_7 rfl 4 rfl ?_
  refine V_iload dL_append_9 rfl 5 rfl ?_
  refine V_cVH (wv := fun r => some (.int r)) (hs := [("java/lang/IllegalStateException", 1)]) (As := [.int a1, .int a2, .int a3, .int a4, .int a5]) (k_X11_append a0 a1 a2 a3 a4 a5 M) (fun _ h => o_X11_append h) ok_X11_append im_X11_append se_X11_append rfl (ci := 10) rfl ml_L_7 ⟨⟨(Nat.le_of_ble_eq_true rfl), (Nat.le_of_ble_eq_true rfl)⟩, (Nat.le_of_ble_eq_true rfl), (Nat.le_of_ble_eq_true rfl)⟩ dL_append_11 rfl rfl rfl (Nat.le_of_ble_eq_true rfl) ha_L_append rfl (fun _ _ => rfl) (fun _ _ => rfl) rfl rfl (fun x1 M2 => ?_)
  refine V_i2l dL_append_14 rfl ?_
  refine V_lastore dL_append_15 rfl (fun M3 => ?_)
  refine V_goto (q := 23) dL_append_16 (by decide) ?_
  refine V_iconst (x := 0) dL_append_23 rfl rfl ?_
  exact V_iret dL_append_24 rfl rfl ⟨(Nat.le_of_ble_eq_true rfl), (Nat.le_of_ble_eq_true rfl)⟩
theorem k_L_append (a0 : Nat) (a1 : Int32) (a2 : Int32) (a3 : Int32) (a4 : Int32) (a5 : Int32) (a6 : Nat) (M : Mem) : K mi_L_append [.ref a0, .int a1, .int a2, .int a3, .int a4, .int a5, .ref a6] M (f_L_append a0 a1 a2 a3 a4 a5 a6 M) wI := K_of_VW ok_L_append (Nat.le_of_ble_eq_true rfl) (v_L_append a0 a1 a2 a3 a4 a5 a6 M)
theorem dL_truncate_0 : decode cL_truncate 0 = .ok (.aload_n 0, 1) := by decide +kernel
theorem dL_truncate_1 : decode cL_truncate 1 = .ok (.iload_n 1, 1) := by decide +kernel
theorem dL_truncate_2 : decode cL_truncate 2 = .ok (.invokevirtual 15, 3) := by decide +kernel
theorem dL_truncate_5 : decode cL_truncate 5 = .ok (.goto 6, 3) := by decide +kernel
theorem dL_truncate_8 : decode cL_truncate 8 = .ok (.astore_n 2, 1) := by decide +kernel
theorem dL_truncate_9 : decode cL_truncate 9 = .ok (.iconst 1, 1) := by decide +kernel
theorem dL_truncate_10 : decode cL_truncate 10 = .ok (.ireturn, 1) := by decide +kernel
theorem dL_truncate_11 : decode cL_truncate 11 = .ok (.iconst 0, 1) := by decide +kernel
theorem dL_truncate_12 : decode cL_truncate 12 = .ok (.ireturn, 1) := by decide +kernel
def mi_L_truncate : MI := (RL, yL_truncate, cL_truncate, 3, some .int, [(0, 5, 8, 19)], { frames := 9, cells := 1, slots := 6, locals := 141 })
theorem ok_L_truncate : mOKW mi_L_truncate 2 := ⟨rfl, cw_L_truncate, ini_L, ⟨rfl, by decide⟩, by decide, by decide, rfl⟩
theorem ha_L_truncate : hAll mi_L_truncate 2 mi_L_truncate.hh [("java/lang/IllegalArgumentException", 1)] [] := ⟨⟨⟨by decide, by decide⟩, by decide, cl_L_19, ca_IllegalArgumentException, ⟨1, 1, rfl, dL_truncate_9, dL_truncate_10, Or.inr ⟨rfl, 2, by decide, dL_truncate_8⟩⟩⟩, (fun p hp => nomatch hp), trivial⟩
theorem v_L_truncate (a0 : Nat) (a1 : Int32) (M : Mem) : V mi_L_truncate 0 [(0, .ref a0), (1, .int a1)] [] M 0 0 (f_L_truncate a0 a1 M) wI := by
  unfold f_L_truncate
  refine V_aload_n dL_truncate_0 rfl 0 rfl ?_
  refine V_iload_n dL_truncate_1 rfl 1 rfl ?_
  refine V_cVH (wv := fun _ => none) (hs := [("java/lang/IllegalArgumentException", 1)]) (As := [.int a1]) (k_X11_truncate a0 a1 M) (fun _ h => o_X11_truncate h) ok_X11_truncate im_X11_truncate se_X11_truncate rfl (ci := 10) rfl ml_L_15 ⟨⟨(Nat.le_of_ble_eq_true rfl), (Nat.le_of_ble_eq_true rfl)⟩, (Nat.le_of_ble_eq_true rfl), (Nat.le_of_ble_eq_true rfl)⟩ dL_truncate_2 rfl rfl rfl (Nat.le_of_ble_eq_true rfl) ha_L_truncate rfl (fun _ _ => rfl) (fun _ _ => rfl) rfl rfl (fun _ M2 => ?_)
  refine V_goto (q := 11) dL_truncate_5 (by decide) ?_
  refine V_iconst (x := 0) dL_truncate_11 rfl rfl ?_
  exact V_iret dL_truncate_12 rfl rfl ⟨(Nat.le_of_ble_eq_true rfl), (Nat.le_of_ble_eq_true rfl)⟩
theorem k_L_truncate (a0 : Nat) (a1 : Int32) (M : Mem) : K mi_L_truncate [.ref a0, .int a1] M (f_L_truncate a0 a1 M) wI := K_of_VW ok_L_truncate (Nat.le_of_ble_eq_true rfl) (v_L_truncate a0 a1 M)
theorem dL_property_0 : decode cL_property 0 = .ok (.aload_n 2, 1) := by decide +kernel
theorem dL_property_1 : decode cL_property 1 = .ok (.iconst 0, 1) := by decide +kernel
theorem dL_property_2 : decode cL_property 2 = .ok (.aload_n 0, 1) := by decide +kernel
theorem dL_property_3 : decode cL_property 3 = .ok (.iload_n 1, 1) := by decide +kernel
theorem dL_property_4 : decode cL_property 4 = .ok (.invokevirtual 21, 3) := by decide +kernel
theorem dL_property_7 : decode cL_property 7 = .ok (.i2l, 1) := by decide +kernel
theorem dL_property_8 : decode cL_property 8 = .ok (.lastore, 1) := by decide +kernel
theorem dL_property_9 : decode cL_property 9 = .ok (.goto 6, 3) := by decide +kernel
theorem dL_property_12 : decode cL_property 12 = .ok (.astore_n 3, 1) := by decide +kernel
theorem dL_property_13 : decode cL_property 13 = .ok (.iconst 1, 1) := by decide +kernel
theorem dL_property_14 : decode cL_property 14 = .ok (.ireturn, 1) := by decide +kernel
theorem dL_property_15 : decode cL_property 15 = .ok (.iconst 0, 1) := by decide +kernel
theorem dL_property_16 : decode cL_property 16 = .ok (.ireturn, 1) := by decide +kernel
def mi_L_property : MI := (RL, yL_property, cL_property, 4, some .int, [(0, 9, 12, 19)], { frames := 9, cells := 1, slots := 6, locals := 141 })
theorem ok_L_property : mOKW mi_L_property 3 := ⟨rfl, cw_L_property, ini_L, ⟨rfl, by decide⟩, by decide, by decide, rfl⟩
theorem ha_L_property : hAll mi_L_property 4 mi_L_property.hh [("java/lang/IllegalArgumentException", 1)] [] := ⟨⟨⟨by decide, by decide⟩, by decide, cl_L_19, ca_IllegalArgumentException, ⟨1, 1, rfl, dL_property_13, dL_property_14, Or.inr ⟨rfl, 3, by decide, dL_property_12⟩⟩⟩, (fun p hp => nomatch hp), trivial⟩
theorem v_L_property (a0 : Nat) (a1 : Int32) (a2 : Nat) (M : Mem) : V mi_L_property 0 [(0, .ref a0), (1, .int a1), (2, .ref a2)] [] M 0 0 (f_L_property a0 a1 a2 M) wI := by
  unfold f_L_property
  refine V_aload_n dL_property_0 rfl 2 rfl ?_
  refine V_iconst (x := 0) dL_property_1 rfl rfl ?_
  refine V_aload_n dL_property_2 rfl 0 rfl ?_
  refine V_iload_n dL_property_3 rfl 1 rfl ?_
  refine V_cVH (wv := fun r => some (.int r)) (hs := [("java/lang/IllegalArgumentException", 1)]) (As := [.int a1]) (k_X11_property a0 a1 M) (fun _ h => o_X11_property h) ok_X11_property im_X11_property se_X11_property rfl (ci := 10) rfl ml_L_21 ⟨⟨(Nat.le_of_ble_eq_true rfl), (Nat.le_of_ble_eq_true rfl)⟩, (Nat.le_of_ble_eq_true rfl), (Nat.le_of_ble_eq_true rfl)⟩ dL_property_4 rfl rfl rfl (Nat.le_of_ble_eq_true rfl) ha_L_property rfl (fun _ _ => rfl) (fun _ _ => rfl) rfl rfl (fun x1 M2 => ?_)
  refine V_i2l dL_property_7 rfl ?_
  refine V_lastore dL_property_8 rfl (fun M3 => ?_)
  refine V_goto (q := 15) dL_property_9 (by decide) ?_
  refine V_iconst (x := 0) dL_property_15 rfl rfl ?_
  exact V_iret dL_property_16 rfl rfl ⟨(Nat.le_of_ble_eq_true rfl), (Nat.le_of_ble_eq_true rfl)⟩
theorem k_L_property (a0 : Nat) (a1 : Int32) (a2 : Nat) (M : Mem) : K mi_L_property [.ref a0, .int a1, .ref a2] M (f_L_property a0 a1 a2 M) wI := K_of_VW ok_L_property (Nat.le_of_ble_eq_true rfl) (v_L_property a0 a1 a2 M)
theorem dL_box_0 : decode cL_box 0 = .ok (.aload_n 3, 1) := by decide +kernel
theorem dL_box_1 : decode cL_box 1 = .ok (.iconst 0, 1) := by decide +kernel
theorem dL_box_2 : decode cL_box 2 = .ok (.aload_n 0, 1) := by decide +kernel
theorem dL_box_3 : decode cL_box 3 = .ok (.iload_n 1, 1) := by decide +kernel
theorem dL_box_4 : decode cL_box 4 = .ok (.iload_n 2, 1) := by decide +kernel
theorem dL_box_5 : decode cL_box 5 = .ok (.invokevirtual 25, 3) := by decide +kernel
theorem dL_box_8 : decode cL_box 8 = .ok (.i2l, 1) := by decide +kernel
theorem dL_box_9 : decode cL_box 9 = .ok (.lastore, 1) := by decide +kernel
theorem dL_box_10 : decode cL_box 10 = .ok (.goto 11, 3) := by decide +kernel
theorem dL_box_13 : decode cL_box 13 = .ok (.astore 4, 2) := by decide +kernel
theorem dL_box_15 : decode cL_box 15 = .ok (.iconst 1, 1) := by decide +kernel
theorem dL_box_16 : decode cL_box 16 = .ok (.ireturn, 1) := by decide +kernel
theorem dL_box_17 : decode cL_box 17 = .ok (.astore 4, 2) := by decide +kernel
theorem dL_box_19 : decode cL_box 19 = .ok (.iconst 2, 1) := by decide +kernel
theorem dL_box_20 : decode cL_box 20 = .ok (.ireturn, 1) := by decide +kernel
theorem dL_box_21 : decode cL_box 21 = .ok (.iconst 0, 1) := by decide +kernel
theorem dL_box_22 : decode cL_box 22 = .ok (.ireturn, 1) := by decide +kernel
def mi_L_box : MI := (RL, yL_box, cL_box, 5, some .int, [(0, 10, 13, 29), (0, 10, 17, 19)], { frames := 10, cells := 2, slots := 12, locals := 165 })
theorem ok_L_box : mOKW mi_L_box 4 := ⟨rfl, cw_L_box, ini_L, ⟨rfl, by decide⟩, by decide, by decide, rfl⟩
theorem ha_L_box : hAll mi_L_box 5 mi_L_box.hh [("java/lang/IndexOutOfBoundsException", 1), ("java/lang/IllegalArgumentException", 2)] [] := ⟨⟨⟨by decide, by decide⟩, by decide, cl_L_29, ca_IndexOutOfBoundsException, ⟨1, 2, rfl, dL_box_15, dL_box_16, Or.inl ⟨rfl, 4, by decide, dL_box_13⟩⟩⟩, (fun p hp => nomatch hp), ⟨⟨⟨by decide, by decide⟩, by decide, cl_L_19, ca_IllegalArgumentException, ⟨2, 2, rfl, dL_box_19, dL_box_20, Or.inl ⟨rfl, 4, by decide, dL_box_17⟩⟩⟩, (List.forall_mem_cons.mpr ⟨nc_IllegalArgumentException_IndexOutOfBoundsException, fun p hp => nomatch hp⟩), trivial⟩⟩
theorem v_L_box (a0 : Nat) (a1 : Int32) (a2 : Int32) (a3 : Nat) (M : Mem) : V mi_L_box 0 [(0, .ref a0), (1, .int a1), (2, .int a2), (3, .ref a3)] [] M 0 0 (f_L_box a0 a1 a2 a3 M) wI := by
  unfold f_L_box
  refine V_aload_n dL_box_0 rfl 3 rfl ?_
  refine V_iconst (x := 0) dL_box_1 rfl rfl ?_
  refine V_aload_n dL_box_2 rfl 0 rfl ?_
  refine V_iload_n dL_box_3 rfl 1 rfl ?_
  refine V_iload_n dL_box_4 rfl 2 rfl ?_
  refine V_cVH (wv := fun r => some (.int r)) (hs := [("java/lang/IndexOutOfBoundsException", 1), ("java/lang/IllegalArgumentException", 2)]) (As := [.int a1, .int a2]) (k_X11_box a0 a1 a2 M) (fun _ h => o_X11_box h) ok_X11_box im_X11_box se_X11_box rfl (ci := 10) rfl ml_L_25 ⟨⟨(Nat.le_of_ble_eq_true rfl), (Nat.le_of_ble_eq_true rfl)⟩, (Nat.le_of_ble_eq_true rfl), (Nat.le_of_ble_eq_true rfl)⟩ dL_box_5 rfl rfl rfl (Nat.le_of_ble_eq_true rfl) ha_L_box rfl (fun _ _ => rfl) (fun _ _ => rfl) rfl rfl (fun x1 M2 => ?_)
  refine V_i2l dL_box_8 rfl ?_
  refine V_lastore dL_box_9 rfl (fun M3 => ?_)
  refine V_goto (q := 21) dL_box_10 (by decide) ?_
  refine V_iconst (x := 0) dL_box_21 rfl rfl ?_
  exact V_iret dL_box_22 rfl rfl ⟨(Nat.le_of_ble_eq_true rfl), (Nat.le_of_ble_eq_true rfl)⟩
theorem k_L_box (a0 : Nat) (a1 : Int32) (a2 : Int32) (a3 : Nat) (M : Mem) : K mi_L_box [.ref a0, .int a1, .int a2, .ref a3] M (f_L_box a0 a1 a2 a3 M) wI := K_of_VW ok_L_box (Nat.le_of_ble_eq_true rfl) (v_L_box a0 a1 a2 a3 M)
theorem dL_message_0 : decode cL_message 0 = .ok (.aload 4, 2) := by decide +kernel
theorem dL_message_2 : decode cL_message 2 = .ok (.iconst 0, 1) := by decide +kernel
theorem dL_message_3 : decode cL_message 3 = .ok (.aload_n 0, 1) := by decide +kernel
theorem dL_message_4 : decode cL_message 4 = .ok (.iload_n 1, 1) := by decide +kernel
theorem dL_message_5 : decode cL_message 5 = .ok (.iload_n 2, 1) := by decide +kernel
theorem dL_message_6 : decode cL_message 6 = .ok (.iload_n 3, 1) := by decide +kernel
theorem dL_message_7 : decode cL_message 7 = .ok (.invokevirtual 31, 3) := by decide +kernel
theorem dL_message_10 : decode cL_message 10 = .ok (.i2l, 1) := by decide +kernel
theorem dL_message_11 : decode cL_message 11 = .ok (.lastore, 1) := by decide +kernel
theorem dL_message_12 : decode cL_message 12 = .ok (.goto 11, 3) := by decide +kernel
theorem dL_message_15 : decode cL_message 15 = .ok (.astore 5, 2) := by decide +kernel
theorem dL_message_17 : decode cL_message 17 = .ok (.iconst 1, 1) := by decide +kernel
theorem dL_message_18 : decode cL_message 18 = .ok (.ireturn, 1) := by decide +kernel
theorem dL_message_19 : decode cL_message 19 = .ok (.astore 5, 2) := by decide +kernel
theorem dL_message_21 : decode cL_message 21 = .ok (.iconst 2, 1) := by decide +kernel
theorem dL_message_22 : decode cL_message 22 = .ok (.ireturn, 1) := by decide +kernel
theorem dL_message_23 : decode cL_message 23 = .ok (.iconst 0, 1) := by decide +kernel
theorem dL_message_24 : decode cL_message 24 = .ok (.ireturn, 1) := by decide +kernel
def mi_L_message : MI := (RL, yL_message, cL_message, 6, some .int, [(0, 12, 15, 29), (0, 12, 19, 19)], { frames := 10, cells := 2, slots := 12, locals := 166 })
theorem ok_L_message : mOKW mi_L_message 5 := ⟨rfl, cw_L_message, ini_L, ⟨rfl, by decide⟩, by decide, by decide, rfl⟩
theorem ha_L_message : hAll mi_L_message 7 mi_L_message.hh [("java/lang/IndexOutOfBoundsException", 1), ("java/lang/IllegalArgumentException", 2)] [] := ⟨⟨⟨by decide, by decide⟩, by decide, cl_L_29, ca_IndexOutOfBoundsException, ⟨1, 2, rfl, dL_message_17, dL_message_18, Or.inl ⟨rfl, 5, by decide, dL_message_15⟩⟩⟩, (fun p hp => nomatch hp), ⟨⟨⟨by decide, by decide⟩, by decide, cl_L_19, ca_IllegalArgumentException, ⟨2, 2, rfl, dL_message_21, dL_message_22, Or.inl ⟨rfl, 5, by decide, dL_message_19⟩⟩⟩, (List.forall_mem_cons.mpr ⟨nc_IllegalArgumentException_IndexOutOfBoundsException, fun p hp => nomatch hp⟩), trivial⟩⟩
theorem v_L_message (a0 : Nat) (a1 : Int32) (a2 : Int32) (a3 : Int32) (a4 : Nat) (M : Mem) : V mi_L_message 0 [(0, .ref a0), (1, .int a1), (2, .int a2), (3, .int a3), (4, .ref a4)] [] M 0 0 (f_L_message a0 a1 a2 a3 a4 M) wI := by
  unfold f_L_message
  refine V_aload dL_message_0 rfl 4 rfl ?_
  refine V_iconst (x := 0) dL_message_2 rfl rfl ?_
  refine V_aload_n dL_message_3 rfl 0 rfl ?_
  refine V_iload_n dL_message_4 rfl 1 rfl ?_
  refine V_iload_n dL_message_5 rfl 2 rfl ?_
  refine V_iload_n dL_message_6 rfl 3 rfl ?_
  refine V_cVH (wv := fun r => some (.int r)) (hs := [("java/lang/IndexOutOfBoundsException", 1), ("java/lang/IllegalArgumentException", 2)]) (As := [.int a1, .int a2, .int a3]) (k_X11_message a0 a1 a2 a3 M) (fun _ h => o_X11_message h) ok_X11_message im_X11_message se_X11_message rfl (ci := 10) rfl ml_L_31 ⟨⟨(Nat.le_of_ble_eq_true rfl), (Nat.le_of_ble_eq_true rfl)⟩, (Nat.le_of_ble_eq_true rfl), (Nat.le_of_ble_eq_true rfl)⟩ dL_message_7 rfl rfl rfl (Nat.le_of_ble_eq_true rfl) ha_L_message rfl (fun _ _ => rfl) (fun _ _ => rfl) rfl rfl (fun x1 M2 => ?_)
  refine V_i2l dL_message_10 rfl ?_
  refine V_lastore dL_message_11 rfl (fun M3 => ?_)
  refine V_goto (q := 23) dL_message_12 (by decide) ?_
  refine V_iconst (x := 0) dL_message_23 rfl rfl ?_
  exact V_iret dL_message_24 rfl rfl ⟨(Nat.le_of_ble_eq_true rfl), (Nat.le_of_ble_eq_true rfl)⟩
theorem k_L_message (a0 : Nat) (a1 : Int32) (a2 : Int32) (a3 : Int32) (a4 : Nat) (M : Mem) : K mi_L_message [.ref a0, .int a1, .int a2, .int a3, .ref a4] M (f_L_message a0 a1 a2 a3 a4 M) wI := K_of_VW ok_L_message (Nat.le_of_ble_eq_true rfl) (v_L_message a0 a1 a2 a3 a4 M)
theorem dL_indexOf_0 : decode cL_indexOf 0 = .ok (.aload_n 3, 1) := by decide +kernel
theorem dL_indexOf_1 : decode cL_indexOf 1 = .ok (.iconst 0, 1) := by decide +kernel
theorem dL_indexOf_2 : decode cL_indexOf 2 = .ok (.aload_n 0, 1) := by decide +kernel
theorem dL_indexOf_3 : decode cL_indexOf 3 = .ok (.iload_n 1, 1) := by decide +kernel
theorem dL_indexOf_4 : decode cL_indexOf 4 = .ok (.iload_n 2, 1) := by decide +kernel
theorem dL_indexOf_5 : decode cL_indexOf 5 = .ok (.invokevirtual 35, 3) := by decide +kernel
theorem dL_indexOf_8 : decode cL_indexOf 8 = .ok (.i2l, 1) := by decide +kernel
theorem dL_indexOf_9 : decode cL_indexOf 9 = .ok (.lastore, 1) := by decide +kernel
theorem dL_indexOf_10 : decode cL_indexOf 10 = .ok (.goto 7, 3) := by decide +kernel
theorem dL_indexOf_13 : decode cL_indexOf 13 = .ok (.astore 4, 2) := by decide +kernel
theorem dL_indexOf_15 : decode cL_indexOf 15 = .ok (.iconst 1, 1) := by decide +kernel
theorem dL_indexOf_16 : decode cL_indexOf 16 = .ok (.ireturn, 1) := by decide +kernel
theorem dL_indexOf_17 : decode cL_indexOf 17 = .ok (.iconst 0, 1) := by decide +kernel
theorem dL_indexOf_18 : decode cL_indexOf 18 = .ok (.ireturn, 1) := by decide +kernel
def mi_L_indexOf : MI := (RL, yL_indexOf, cL_indexOf, 5, some .int, [(0, 10, 13, 29)], { frames := 10, cells := 1, slots := 6, locals := 164 })
theorem ok_L_indexOf : mOKW mi_L_indexOf 4 := ⟨rfl, cw_L_indexOf, ini_L, ⟨rfl, by decide⟩, by decide, by decide, rfl⟩
theorem ha_L_indexOf : hAll mi_L_indexOf 5 mi_L_indexOf.hh [("java/lang/IndexOutOfBoundsException", 1)] [] := ⟨⟨⟨by decide, by decide⟩, by decide, cl_L_29, ca_IndexOutOfBoundsException, ⟨1, 2, rfl, dL_indexOf_15, dL_indexOf_16, Or.inl ⟨rfl, 4, by decide, dL_indexOf_13⟩⟩⟩, (fun p hp => nomatch hp), trivial⟩
theorem v_L_indexOf (a0 : Nat) (a1 : Int32) (a2 : Int32) (a3 : Nat) (M : Mem) : V mi_L_indexOf 0 [(0, .ref a0), (1, .int a1), (2, .int a2), (3, .ref a3)] [] M 0 0 (f_L_indexOf a0 a1 a2 a3 M) wI := by
  unfold f_L_indexOf
  refine V_aload_n dL_indexOf_0 rfl 3 rfl ?_
  refine V_iconst (x := 0) dL_indexOf_1 rfl rfl ?_
  refine V_aload_n dL_indexOf_2 rfl 0 rfl ?_
  refine V_iload_n dL_indexOf_3 rfl 1 rfl ?_
  refine V_iload_n dL_indexOf_4 rfl 2 rfl ?_
  refine V_cVH (wv := fun r => some (.int r)) (hs := [("java/lang/IndexOutOfBoundsException", 1)]) (As := [.int a1, .int a2]) (k_X11_indexOf a0 a1 a2 M) (fun _ h => o_X11_indexOf h) ok_X11_indexOf im_X11_indexOf se_X11_indexOf rfl (ci := 10) rfl ml_L_35 ⟨⟨(Nat.le_of_ble_eq_true rfl), (Nat.le_of_ble_eq_true rfl)⟩, (Nat.le_of_ble_eq_true rfl), (Nat.le_of_ble_eq_true rfl)⟩ dL_indexOf_5 rfl rfl rfl (Nat.le_of_ble_eq_true rfl) ha_L_indexOf rfl (fun _ _ => rfl) (fun _ _ => rfl) rfl rfl (fun x1 M2 => ?_)
  refine V_i2l dL_indexOf_8 rfl ?_
  refine V_lastore dL_indexOf_9 rfl (fun M3 => ?_)
  refine V_goto (q := 17) dL_indexOf_10 (by decide) ?_
  refine V_iconst (x := 0) dL_indexOf_17 rfl rfl ?_
  exact V_iret dL_indexOf_18 rfl rfl ⟨(Nat.le_of_ble_eq_true rfl), (Nat.le_of_ble_eq_true rfl)⟩
theorem k_L_indexOf (a0 : Nat) (a1 : Int32) (a2 : Int32) (a3 : Nat) (M : Mem) : K mi_L_indexOf [.ref a0, .int a1, .int a2, .ref a3] M (f_L_indexOf a0 a1 a2 a3 M) wI := K_of_VW ok_L_indexOf (Nat.le_of_ble_eq_true rfl) (v_L_indexOf a0 a1 a2 a3 M)
theorem dL_session_0 : decode cL_session 0 = .ok (.aload_n 3, 1) := by decide +kernel
theorem dL_session_1 : decode cL_session 1 = .ok (.iconst 0, 1) := by decide +kernel
theorem dL_session_2 : decode cL_session 2 = .ok (.aload_n 0, 1) := by decide +kernel
theorem dL_session_3 : decode cL_session 3 = .ok (.iload_n 1, 1) := by decide +kernel
theorem dL_session_4 : decode cL_session 4 = .ok (.iload_n 2, 1) := by decide +kernel
theorem dL_session_5 : decode cL_session 5 = .ok (.invokevirtual 38, 3) := by decide +kernel
theorem dL_session_8 : decode cL_session 8 = .ok (.i2l, 1) := by decide +kernel
theorem dL_session_9 : decode cL_session 9 = .ok (.lastore, 1) := by decide +kernel
theorem dL_session_10 : decode cL_session 10 = .ok (.goto 11, 3) := by decide +kernel
theorem dL_session_13 : decode cL_session 13 = .ok (.astore 4, 2) := by decide +kernel
theorem dL_session_15 : decode cL_session 15 = .ok (.iconst 1, 1) := by decide +kernel
theorem dL_session_16 : decode cL_session 16 = .ok (.ireturn, 1) := by decide +kernel
theorem dL_session_17 : decode cL_session 17 = .ok (.astore 4, 2) := by decide +kernel
theorem dL_session_19 : decode cL_session 19 = .ok (.iconst 2, 1) := by decide +kernel
theorem dL_session_20 : decode cL_session 20 = .ok (.ireturn, 1) := by decide +kernel
theorem dL_session_21 : decode cL_session 21 = .ok (.iconst 0, 1) := by decide +kernel
theorem dL_session_22 : decode cL_session 22 = .ok (.ireturn, 1) := by decide +kernel
def mi_L_session : MI := (RL, yL_session, cL_session, 5, some .int, [(0, 10, 13, 29), (0, 10, 17, 19)], { frames := 10, cells := 2, slots := 12, locals := 166 })
theorem ok_L_session : mOKW mi_L_session 4 := ⟨rfl, cw_L_session, ini_L, ⟨rfl, by decide⟩, by decide, by decide, rfl⟩
theorem ha_L_session : hAll mi_L_session 5 mi_L_session.hh [("java/lang/IndexOutOfBoundsException", 1), ("java/lang/IllegalArgumentException", 2)] [] := ⟨⟨⟨by decide, by decide⟩, by decide, cl_L_29, ca_IndexOutOfBoundsException, ⟨1, 2, rfl, dL_session_15, dL_session_16, Or.inl ⟨rfl, 4, by decide, dL_session_13⟩⟩⟩, (fun p hp => nomatch hp), ⟨⟨⟨by decide, by decide⟩, by decide, cl_L_19, ca_IllegalArgumentException, ⟨2, 2, rfl, dL_session_19, dL_session_20, Or.inl ⟨rfl, 4, by decide, dL_session_17⟩⟩⟩, (List.forall_mem_cons.mpr ⟨nc_IllegalArgumentException_IndexOutOfBoundsException, fun p hp => nomatch hp⟩), trivial⟩⟩
theorem v_L_session (a0 : Nat) (a1 : Int32) (a2 : Int32) (a3 : Nat) (M : Mem) : V mi_L_session 0 [(0, .ref a0), (1, .int a1), (2, .int a2), (3, .ref a3)] [] M 0 0 (f_L_session a0 a1 a2 a3 M) wI := by
  unfold f_L_session
  refine V_aload_n dL_session_0 rfl 3 rfl ?_
  refine V_iconst (x := 0) dL_session_1 rfl rfl ?_
  refine V_aload_n dL_session_2 rfl 0 rfl ?_
  refine V_iload_n dL_session_3 rfl 1 rfl ?_
  refine V_iload_n dL_session_4 rfl 2 rfl ?_
  refine V_cVH (wv := fun r => some (.int r)) (hs := [("java/lang/IndexOutOfBoundsException", 1), ("java/lang/IllegalArgumentException", 2)]) (As := [.int a1, .int a2]) (k_X11_session a0 a1 a2 M) (fun _ h => o_X11_session h) ok_X11_session im_X11_session se_X11_session rfl (ci := 10) rfl ml_L_38 ⟨⟨(Nat.le_of_ble_eq_true rfl), (Nat.le_of_ble_eq_true rfl)⟩, (Nat.le_of_ble_eq_true rfl), (Nat.le_of_ble_eq_true rfl)⟩ dL_session_5 rfl rfl rfl (Nat.le_of_ble_eq_true rfl) ha_L_session rfl (fun _ _ => rfl) (fun _ _ => rfl) rfl rfl (fun x1 M2 => ?_)
  refine V_i2l dL_session_8 rfl ?_
  refine V_lastore dL_session_9 rfl (fun M3 => ?_)
  refine V_goto (q := 21) dL_session_10 (by decide) ?_
  refine V_iconst (x := 0) dL_session_21 rfl rfl ?_
  exact V_iret dL_session_22 rfl rfl ⟨(Nat.le_of_ble_eq_true rfl), (Nat.le_of_ble_eq_true rfl)⟩
theorem k_L_session (a0 : Nat) (a1 : Int32) (a2 : Int32) (a3 : Nat) (M : Mem) : K mi_L_session [.ref a0, .int a1, .int a2, .ref a3] M (f_L_session a0 a1 a2 a3 M) wI := K_of_VW ok_L_session (Nat.le_of_ble_eq_true rfl) (v_L_session a0 a1 a2 a3 M)
theorem dL_entry_0 : decode cL_entry 0 = .ok (.aload 4, 2) := by decide +kernel
theorem dL_entry_2 : decode cL_entry 2 = .ok (.iconst 0, 1) := by decide +kernel
theorem dL_entry_3 : decode cL_entry 3 = .ok (.aload_n 0, 1) := by decide +kernel
theorem dL_entry_4 : decode cL_entry 4 = .ok (.iload_n 1, 1) := by decide +kernel
theorem dL_entry_5 : decode cL_entry 5 = .ok (.iload_n 2, 1) := by decide +kernel
theorem dL_entry_6 : decode cL_entry 6 = .ok (.iload_n 3, 1) := by decide +kernel
theorem dL_entry_7 : decode cL_entry 7 = .ok (.invokevirtual 41, 3) := by decide +kernel
theorem dL_entry_10 : decode cL_entry 10 = .ok (.i2l, 1) := by decide +kernel
theorem dL_entry_11 : decode cL_entry 11 = .ok (.lastore, 1) := by decide +kernel
theorem dL_entry_12 : decode cL_entry 12 = .ok (.goto 11, 3) := by decide +kernel
theorem dL_entry_15 : decode cL_entry 15 = .ok (.astore 5, 2) := by decide +kernel
theorem dL_entry_17 : decode cL_entry 17 = .ok (.iconst 1, 1) := by decide +kernel
theorem dL_entry_18 : decode cL_entry 18 = .ok (.ireturn, 1) := by decide +kernel
theorem dL_entry_19 : decode cL_entry 19 = .ok (.astore 5, 2) := by decide +kernel
theorem dL_entry_21 : decode cL_entry 21 = .ok (.iconst 2, 1) := by decide +kernel
theorem dL_entry_22 : decode cL_entry 22 = .ok (.ireturn, 1) := by decide +kernel
theorem dL_entry_23 : decode cL_entry 23 = .ok (.iconst 0, 1) := by decide +kernel
theorem dL_entry_24 : decode cL_entry 24 = .ok (.ireturn, 1) := by decide +kernel
def mi_L_entry : MI := (RL, yL_entry, cL_entry, 6, some .int, [(0, 12, 15, 29), (0, 12, 19, 19)], { frames := 10, cells := 3, slots := 18, locals := 168 })
theorem ok_L_entry : mOKW mi_L_entry 5 := ⟨rfl, cw_L_entry, ini_L, ⟨rfl, by decide⟩, by decide, by decide, rfl⟩
theorem ha_L_entry : hAll mi_L_entry 7 mi_L_entry.hh [("java/lang/IndexOutOfBoundsException", 1), ("java/lang/IllegalArgumentException", 2)] [] := ⟨⟨⟨by decide, by decide⟩, by decide, cl_L_29, ca_IndexOutOfBoundsException, ⟨1, 2, rfl, dL_entry_17, dL_entry_18, Or.inl ⟨rfl, 5, by decide, dL_entry_15⟩⟩⟩, (fun p hp => nomatch hp), ⟨⟨⟨by decide, by decide⟩, by decide, cl_L_19, ca_IllegalArgumentException, ⟨2, 2, rfl, dL_entry_21, dL_entry_22, Or.inl ⟨rfl, 5, by decide, dL_entry_19⟩⟩⟩, (List.forall_mem_cons.mpr ⟨nc_IllegalArgumentException_IndexOutOfBoundsException, fun p hp => nomatch hp⟩), trivial⟩⟩
theorem v_L_entry (a0 : Nat) (a1 : Int32) (a2 : Int32) (a3 : Int32) (a4 : Nat) (M : Mem) : V mi_L_entry 0 [(0, .ref a0), (1, .int a1), (2, .int a2), (3, .int a3), (4, .ref a4)] [] M 0 0 (f_L_entry a0 a1 a2 a3 a4 M) wI := by
  unfold f_L_entry
  refine V_aload dL_entry_0 rfl 4 rfl ?_
  refine V_iconst (x := 0) dL_entry_2 rfl rfl ?_
  refine V_aload_n dL_entry_3 rfl 0 rfl ?_
  refine V_iload_n dL_entry_4 rfl 1 rfl ?_
  refine V_iload_n dL_entry_5 rfl 2 rfl ?_
  refine V_iload_n dL_entry_6 rfl 3 rfl ?_
  refine V_cVH (wv := fun r => some (.int r)) (hs := [("java/lang/IndexOutOfBoundsException", 1), ("java/lang/IllegalArgumentException", 2)]) (As := [.int a1, .int a2, .int a3]) (k_X11_entry a0 a1 a2 a3 M) (fun _ h => o_X11_entry h) ok_X11_entry im_X11_entry se_X11_entry rfl (ci := 10) rfl ml_L_41 ⟨⟨(Nat.le_of_ble_eq_true rfl), (Nat.le_of_ble_eq_true rfl)⟩, (Nat.le_of_ble_eq_true rfl), (Nat.le_of_ble_eq_true rfl)⟩ dL_entry_7 rfl rfl rfl (Nat.le_of_ble_eq_true rfl) ha_L_entry rfl (fun _ _ => rfl) (fun _ _ => rfl) rfl rfl (fun x1 M2 => ?_)
  refine V_i2l dL_entry_10 rfl ?_
  refine V_lastore dL_entry_11 rfl (fun M3 => ?_)
  refine V_goto (q := 23) dL_entry_12 (by decide) ?_
  refine V_iconst (x := 0) dL_entry_23 rfl rfl ?_
  exact V_iret dL_entry_24 rfl rfl ⟨(Nat.le_of_ble_eq_true rfl), (Nat.le_of_ble_eq_true rfl)⟩
theorem k_L_entry (a0 : Nat) (a1 : Int32) (a2 : Int32) (a3 : Int32) (a4 : Nat) (M : Mem) : K mi_L_entry [.ref a0, .int a1, .int a2, .int a3, .ref a4] M (f_L_entry a0 a1 a2 a3 a4 M) wI := K_of_VW ok_L_entry (Nat.le_of_ble_eq_true rfl) (v_L_entry a0 a1 a2 a3 a4 M)
theorem dL_numberOf_0 : decode cL_numberOf 0 = .ok (.aload_n 3, 1) := by decide +kernel
theorem dL_numberOf_1 : decode cL_numberOf 1 = .ok (.iconst 0, 1) := by decide +kernel
theorem dL_numberOf_2 : decode cL_numberOf 2 = .ok (.aload_n 0, 1) := by decide +kernel
theorem dL_numberOf_3 : decode cL_numberOf 3 = .ok (.iload_n 1, 1) := by decide +kernel
theorem dL_numberOf_4 : decode cL_numberOf 4 = .ok (.iload_n 2, 1) := by decide +kernel
theorem dL_numberOf_5 : decode cL_numberOf 5 = .ok (.invokevirtual 44, 3) := by decide +kernel
theorem dL_numberOf_8 : decode cL_numberOf 8 = .ok (.i2l, 1) := by decide +kernel
theorem dL_numberOf_9 : decode cL_numberOf 9 = .ok (.lastore, 1) := by decide +kernel
theorem dL_numberOf_10 : decode cL_numberOf 10 = .ok (.goto 7, 3) := by decide +kernel
theorem dL_numberOf_13 : decode cL_numberOf 13 = .ok (.astore 4, 2) := by decide +kernel
theorem dL_numberOf_15 : decode cL_numberOf 15 = .ok (.iconst 1, 1) := by decide +kernel
theorem dL_numberOf_16 : decode cL_numberOf 16 = .ok (.ireturn, 1) := by decide +kernel
theorem dL_numberOf_17 : decode cL_numberOf 17 = .ok (.iconst 0, 1) := by decide +kernel
theorem dL_numberOf_18 : decode cL_numberOf 18 = .ok (.ireturn, 1) := by decide +kernel
def mi_L_numberOf : MI := (RL, yL_numberOf, cL_numberOf, 5, some .int, [(0, 10, 13, 29)], { frames := 10, cells := 1, slots := 6, locals := 164 })
theorem ok_L_numberOf : mOKW mi_L_numberOf 4 := ⟨rfl, cw_L_numberOf, ini_L, ⟨rfl, by decide⟩, by decide, by decide, rfl⟩
theorem ha_L_numberOf : hAll mi_L_numberOf 5 mi_L_numberOf.hh [("java/lang/IndexOutOfBoundsException", 1)] [] := ⟨⟨⟨by decide, by decide⟩, by decide, cl_L_29, ca_IndexOutOfBoundsException, ⟨1, 2, rfl, dL_numberOf_15, dL_numberOf_16, Or.inl ⟨rfl, 4, by decide, dL_numberOf_13⟩⟩⟩, (fun p hp => nomatch hp), trivial⟩
theorem v_L_numberOf (a0 : Nat) (a1 : Int32) (a2 : Int32) (a3 : Nat) (M : Mem) : V mi_L_numberOf 0 [(0, .ref a0), (1, .int a1), (2, .int a2), (3, .ref a3)] [] M 0 0 (f_L_numberOf a0 a1 a2 a3 M) wI := by
  unfold f_L_numberOf
  refine V_aload_n dL_numberOf_0 rfl 3 rfl ?_
  refine V_iconst (x := 0) dL_numberOf_1 rfl rfl ?_
  refine V_aload_n dL_numberOf_2 rfl 0 rfl ?_
  refine V_iload_n dL_numberOf_3 rfl 1 rfl ?_
  refine V_iload_n dL_numberOf_4 rfl 2 rfl ?_
  refine V_cVH (wv := fun r => some (.int r)) (hs := [("java/lang/IndexOutOfBoundsException", 1)]) (As := [.int a1, .int a2]) (k_X11_numberOf a0 a1 a2 M) (fun _ h => o_X11_numberOf h) ok_X11_numberOf im_X11_numberOf se_X11_numberOf rfl (ci := 10) rfl ml_L_44 ⟨⟨(Nat.le_of_ble_eq_true rfl), (Nat.le_of_ble_eq_true rfl)⟩, (Nat.le_of_ble_eq_true rfl), (Nat.le_of_ble_eq_true rfl)⟩ dL_numberOf_5 rfl rfl rfl (Nat.le_of_ble_eq_true rfl) ha_L_numberOf rfl (fun _ _ => rfl) (fun _ _ => rfl) rfl rfl (fun x1 M2 => ?_)
  refine V_i2l dL_numberOf_8 rfl ?_
  refine V_lastore dL_numberOf_9 rfl (fun M3 => ?_)
  refine V_goto (q := 17) dL_numberOf_10 (by decide) ?_
  refine V_iconst (x := 0) dL_numberOf_17 rfl rfl ?_
  exact V_iret dL_numberOf_18 rfl rfl ⟨(Nat.le_of_ble_eq_true rfl), (Nat.le_of_ble_eq_true rfl)⟩
theorem k_L_numberOf (a0 : Nat) (a1 : Int32) (a2 : Int32) (a3 : Nat) (M : Mem) : K mi_L_numberOf [.ref a0, .int a1, .int a2, .ref a3] M (f_L_numberOf a0 a1 a2 a3 M) wI := K_of_VW ok_L_numberOf (Nat.le_of_ble_eq_true rfl) (v_L_numberOf a0 a1 a2 a3 M)
theorem dL_numberThen_0 : decode cL_numberThen 0 = .ok (.aload_n 3, 1) := by decide +kernel
theorem dL_numberThen_1 : decode cL_numberThen 1 = .ok (.iconst 0, 1) := by decide +kernel
theorem dL_numberThen_2 : decode cL_numberThen 2 = .ok (.aload_n 0, 1) := by decide +kernel
theorem dL_numberThen_3 : decode cL_numberThen 3 = .ok (.iload_n 1, 1) := by decide +kernel
theorem dL_numberThen_4 : decode cL_numberThen 4 = .ok (.iload_n 2, 1) := by decide +kernel
theorem dL_numberThen_5 : decode cL_numberThen 5 = .ok (.invokevirtual 47, 3) := by decide +kernel
theorem dL_numberThen_8 : decode cL_numberThen 8 = .ok (.i2l, 1) := by decide +kernel
theorem dL_numberThen_9 : decode cL_numberThen 9 = .ok (.lastore, 1) := by decide +kernel
theorem dL_numberThen_10 : decode cL_numberThen 10 = .ok (.goto 7, 3) := by decide +kernel
theorem dL_numberThen_13 : decode cL_numberThen 13 = .ok (.astore 4, 2) := by decide +kernel
theorem dL_numberThen_15 : decode cL_numberThen 15 = .ok (.iconst 1, 1) := by decide +kernel
theorem dL_numberThen_16 : decode cL_numberThen 16 = .ok (.ireturn, 1) := by decide +kernel
theorem dL_numberThen_17 : decode cL_numberThen 17 = .ok (.iconst 0, 1) := by decide +kernel
theorem dL_numberThen_18 : decode cL_numberThen 18 = .ok (.ireturn, 1) := by decide +kernel
def mi_L_numberThen : MI := (RL, yL_numberThen, cL_numberThen, 5, some .int, [(0, 10, 13, 29)], { frames := 10, cells := 2, slots := 12, locals := 166 })
theorem ok_L_numberThen : mOKW mi_L_numberThen 4 := ⟨rfl, cw_L_numberThen, ini_L, ⟨rfl, by decide⟩, by decide, by decide, rfl⟩
theorem ha_L_numberThen : hAll mi_L_numberThen 5 mi_L_numberThen.hh [("java/lang/IndexOutOfBoundsException", 1)] [] := ⟨⟨⟨by decide, by decide⟩, by decide, cl_L_29, ca_IndexOutOfBoundsException, ⟨1, 2, rfl, dL_numberThen_15, dL_numberThen_16, Or.inl ⟨rfl, 4, by decide, dL_numberThen_13⟩⟩⟩, (fun p hp => nomatch hp), trivial⟩
theorem v_L_numberThen (a0 : Nat) (a1 : Int32) (a2 : Int32) (a3 : Nat) (M : Mem) : V mi_L_numberThen 0 [(0, .ref a0), (1, .int a1), (2, .int a2), (3, .ref a3)] [] M 0 0 (f_L_numberThen a0 a1 a2 a3 M) wI := by
  unfold f_L_numberThen
  refine V_aload_n dL_numberThen_0 rfl 3 rfl ?_
  refine V_iconst (x := 0) dL_numberThen_1 rfl rfl ?_
  refine V_aload_n dL_numberThen_2 rfl 0 rfl ?_
  refine V_iload_n dL_numberThen_3 rfl 1 rfl ?_
  refine V_iload_n dL_numberThen_4 rfl 2 rfl ?_
  refine V_cVH (wv := fun r => some (.int r)) (hs := [("java/lang/IndexOutOfBoundsException", 1)]) (As := [.int a1, .int a2]) (k_X11_numberThen a0 a1 a2 M) (fun _ h => o_X11_numberThen h) ok_X11_numberThen im_X11_numberThen se_X11_numberThen rfl (ci := 10) rfl ml_L_47 ⟨⟨(Nat.le_of_ble_eq_true rfl), (Nat.le_of_ble_eq_true rfl)⟩, (Nat.le_of_ble_eq_true rfl), (Nat.le_of_ble_eq_true rfl)⟩ dL_numberThen_5 rfl rfl rfl (Nat.le_of_ble_eq_true rfl) ha_L_numberThen rfl (fun _ _ => rfl) (fun _ _ => rfl) rfl rfl (fun x1 M2 => ?_)
  refine V_i2l dL_numberThen_8 rfl ?_
  refine V_lastore dL_numberThen_9 rfl (fun M3 => ?_)
  refine V_goto (q := 17) dL_numberThen_10 (by decide) ?_
  refine V_iconst (x := 0) dL_numberThen_17 rfl rfl ?_
  exact V_iret dL_numberThen_18 rfl rfl ⟨(Nat.le_of_ble_eq_true rfl), (Nat.le_of_ble_eq_true rfl)⟩
theorem k_L_numberThen (a0 : Nat) (a1 : Int32) (a2 : Int32) (a3 : Nat) (M : Mem) : K mi_L_numberThen [.ref a0, .int a1, .int a2, .ref a3] M (f_L_numberThen a0 a1 a2 a3 M) wI := K_of_VW ok_L_numberThen (Nat.le_of_ble_eq_true rfl) (v_L_numberThen a0 a1 a2 a3 M)
theorem dL_pending_0 : decode cL_pending 0 = .ok (.aload_n 2, 1) := by decide +kernel
theorem dL_pending_1 : decode cL_pending 1 = .ok (.iconst 0, 1) := by decide +kernel
theorem dL_pending_2 : decode cL_pending 2 = .ok (.aload_n 0, 1) := by decide +kernel
theorem dL_pending_3 : decode cL_pending 3 = .ok (.iload_n 1, 1) := by decide +kernel
theorem dL_pending_4 : decode cL_pending 4 = .ok (.invokevirtual 50, 3) := by decide +kernel
theorem dL_pending_7 : decode cL_pending 7 = .ok (.i2l, 1) := by decide +kernel
theorem dL_pending_8 : decode cL_pending 8 = .ok (.lastore, 1) := by decide +kernel
theorem dL_pending_9 : decode cL_pending 9 = .ok (.goto 6, 3) := by decide +kernel
theorem dL_pending_12 : decode cL_pending 12 = .ok (.astore_n 3, 1) := by decide +kernel
theorem dL_pending_13 : decode cL_pending 13 = .ok (.iconst 1, 1) := by decide +kernel
theorem dL_pending_14 : decode cL_pending 14 = .ok (.ireturn, 1) := by decide +kernel
theorem dL_pending_15 : decode cL_pending 15 = .ok (.iconst 0, 1) := by decide +kernel
theorem dL_pending_16 : decode cL_pending 16 = .ok (.ireturn, 1) := by decide +kernel
def mi_L_pending : MI := (RL, yL_pending, cL_pending, 4, some .int, [(0, 9, 12, 29)], { frames := 10, cells := 1, slots := 6, locals := 167 })
theorem ok_L_pending : mOKW mi_L_pending 3 := ⟨rfl, cw_L_pending, ini_L, ⟨rfl, by decide⟩, by decide, by decide, rfl⟩
theorem ha_L_pending : hAll mi_L_pending 4 mi_L_pending.hh [("java/lang/IndexOutOfBoundsException", 1)] [] := ⟨⟨⟨by decide, by decide⟩, by decide, cl_L_29, ca_IndexOutOfBoundsException, ⟨1, 1, rfl, dL_pending_13, dL_pending_14, Or.inr ⟨rfl, 3, by decide, dL_pending_12⟩⟩⟩, (fun p hp => nomatch hp), trivial⟩
theorem v_L_pending (a0 : Nat) (a1 : Int32) (a2 : Nat) (M : Mem) : V mi_L_pending 0 [(0, .ref a0), (1, .int a1), (2, .ref a2)] [] M 0 0 (f_L_pending a0 a1 a2 M) wI := by
  unfold f_L_pending
  refine V_aload_n dL_pending_0 rfl 2 rfl ?_
  refine V_iconst (x := 0) dL_pending_1 rfl rfl ?_
  refine V_aload_n dL_pending_2 rfl 0 rfl ?_
  refine V_iload_n dL_pending_3 rfl 1 rfl ?_
  refine V_cVH (wv := fun r => some (.int r)) (hs := [("java/lang/IndexOutOfBoundsException", 1)]) (As := [.int a1]) (k_X11_pending a0 a1 M) (fun _ h => o_X11_pending h) ok_X11_pending im_X11_pending se_X11_pending rfl (ci := 10) rfl ml_L_50 ⟨⟨(Nat.le_of_ble_eq_true rfl), (Nat.le_of_ble_eq_true rfl)⟩, (Nat.le_of_ble_eq_true rfl), (Nat.le_of_ble_eq_true rfl)⟩ dL_pending_4 rfl rfl rfl (Nat.le_of_ble_eq_true rfl) ha_L_pending rfl (fun _ _ => rfl) (fun _ _ => rfl) rfl rfl (fun x1 M2 => ?_)
  refine V_i2l dL_pending_7 rfl ?_
  refine V_lastore dL_pending_8 rfl (fun M3 => ?_)
  refine V_goto (q := 15) dL_pending_9 (by decide) ?_
  refine V_iconst (x := 0) dL_pending_15 rfl rfl ?_
  exact V_iret dL_pending_16 rfl rfl ⟨(Nat.le_of_ble_eq_true rfl), (Nat.le_of_ble_eq_true rfl)⟩
theorem k_L_pending (a0 : Nat) (a1 : Int32) (a2 : Nat) (M : Mem) : K mi_L_pending [.ref a0, .int a1, .ref a2] M (f_L_pending a0 a1 a2 M) wI := K_of_VW ok_L_pending (Nat.le_of_ble_eq_true rfl) (v_L_pending a0 a1 a2 M)
theorem dL_isCurrent_0 : decode cL_isCurrent 0 = .ok (.aload_n 2, 1) := by decide +kernel
theorem dL_isCurrent_1 : decode cL_isCurrent 1 = .ok (.iconst 0, 1) := by decide +kernel
theorem dL_isCurrent_2 : decode cL_isCurrent 2 = .ok (.aload_n 0, 1) := by decide +kernel
theorem dL_isCurrent_3 : decode cL_isCurrent 3 = .ok (.iload_n 1, 1) := by decide +kernel
theorem dL_isCurrent_4 : decode cL_isCurrent 4 = .ok (.invokevirtual 53, 3) := by decide +kernel
theorem dL_isCurrent_7 : decode cL_isCurrent 7 = .ok (.ifCond .eq 7, 3) := by decide +kernel
theorem dL_isCurrent_10 : decode cL_isCurrent 10 = .ok (.lconst 1, 1) := by decide +kernel
theorem dL_isCurrent_11 : decode cL_isCurrent 11 = .ok (.goto 4, 3) := by decide +kernel
theorem dL_isCurrent_14 : decode cL_isCurrent 14 = .ok (.lconst 0, 1) := by decide +kernel
theorem dL_isCurrent_15 : decode cL_isCurrent 15 = .ok (.lastore, 1) := by decide +kernel
theorem dL_isCurrent_16 : decode cL_isCurrent 16 = .ok (.goto 6, 3) := by decide +kernel
theorem dL_isCurrent_19 : decode cL_isCurrent 19 = .ok (.astore_n 3, 1) := by decide +kernel
theorem dL_isCurrent_20 : decode cL_isCurrent 20 = .ok (.iconst 1, 1) := by decide +kernel
theorem dL_isCurrent_21 : decode cL_isCurrent 21 = .ok (.ireturn, 1) := by decide +kernel
theorem dL_isCurrent_22 : decode cL_isCurrent 22 = .ok (.iconst 0, 1) := by decide +kernel
theorem dL_isCurrent_23 : decode cL_isCurrent 23 = .ok (.ireturn, 1) := by decide +kernel
def mi_L_isCurrent : MI := (RL, yL_isCurrent, cL_isCurrent, 4, some .int, [(0, 16, 19, 29)], { frames := 10, cells := 1, slots := 6, locals := 167 })
theorem ok_L_isCurrent : mOKW mi_L_isCurrent 3 := ⟨rfl, cw_L_isCurrent, ini_L, ⟨rfl, by decide⟩, by decide, by decide, rfl⟩
theorem ha_L_isCurrent : hAll mi_L_isCurrent 4 mi_L_isCurrent.hh [("java/lang/IndexOutOfBoundsException", 1)] [] := ⟨⟨⟨by decide, by decide⟩, by decide, cl_L_29, ca_IndexOutOfBoundsException, ⟨1, 1, rfl, dL_isCurrent_20, dL_isCurrent_21, Or.inr ⟨rfl, 3, by decide, dL_isCurrent_19⟩⟩⟩, (fun p hp => nomatch hp), trivial⟩
theorem v_L_isCurrent (a0 : Nat) (a1 : Int32) (a2 : Nat) (M : Mem) : V mi_L_isCurrent 0 [(0, .ref a0), (1, .int a1), (2, .ref a2)] [] M 0 0 (f_L_isCurrent a0 a1 a2 M) wI := by
  unfold f_L_isCurrent
  refine V_aload_n dL_isCurrent_0 rfl 2 rfl ?_
  refine V_iconst (x := 0) dL_isCurrent_1 rfl rfl ?_
  refine V_aload_n dL_isCurrent_2 rfl 0 rfl ?_
  refine V_iload_n dL_isCurrent_3 rfl 1 rfl ?_
  refine V_cVH (wv := fun r => some (.int (b2i r))) (hs := [("java/lang/IndexOutOfBoundsException", 1)]) (As := [.int a1]) (k_X11_isCurrent a0 a1 M) (fun _ h => o_X11_isCurrent h) ok_X11_isCurrent im_X11_isCurrent se_X11_isCurrent rfl (ci := 10) rfl ml_L_53 ⟨⟨(Nat.le_of_ble_eq_true rfl), (Nat.le_of_ble_eq_true rfl)⟩, (Nat.le_of_ble_eq_true rfl), (Nat.le_of_ble_eq_true rfl)⟩ dL_isCurrent_4 rfl rfl rfl (Nat.le_of_ble_eq_true rfl) ha_L_isCurrent rfl (fun _ _ => rfl) (fun _ _ => rfl) rfl rfl (fun x1 M2 => ?_)
  refine V_ifz_eq (q := 14) (q2 := 10) dL_isCurrent_7 (by decide) rfl ?_ ?_
  · refine V_lconst (x := 0) dL_isCurrent_14 rfl rfl ?_
    refine V_lastore dL_isCurrent_15 rfl (fun M3 => ?_)
    refine V_goto (q := 22) dL_isCurrent_16 (by decide) ?_
    refine V_iconst (x := 0) dL_isCurrent_22 rfl rfl ?_
    exact V_iret dL_isCurrent_23 rfl rfl ⟨(Nat.le_of_ble_eq_true rfl), (Nat.le_of_ble_eq_true rfl)⟩
  · refine V_lconst (x := 1) dL_isCurrent_10 rfl rfl ?_
    refine V_goto (q := 15) dL_isCurrent_11 (by decide) ?_
    refine V_lastore dL_isCurrent_15 rfl (fun M4 => ?_)
    refine V_goto (q := 22) dL_isCurrent_16 (by decide) ?_
    refine V_iconst (x := 0) dL_isCurrent_22 rfl rfl ?_
    exact V_iret dL_isCurrent_23 rfl rfl ⟨(Nat.le_of_ble_eq_true rfl), (Nat.le_of_ble_eq_true rfl)⟩
theorem k_L_isCurrent (a0 : Nat) (a1 : Int32) (a2 : Nat) (M : Mem) : K mi_L_isCurrent [.ref a0, .int a1, .ref a2] M (f_L_isCurrent a0 a1 a2 M) wI := K_of_VW ok_L_isCurrent (Nat.le_of_ble_eq_true rfl) (v_L_isCurrent a0 a1 a2 M)
theorem dL_firstUnseen_0 : decode cL_firstUnseen 0 = .ok (.aload_n 2, 1) := by decide +kernel
theorem dL_firstUnseen_1 : decode cL_firstUnseen 1 = .ok (.iconst 0, 1) := by decide +kernel
theorem dL_firstUnseen_2 : decode cL_firstUnseen 2 = .ok (.aload_n 0, 1) := by decide +kernel
theorem dL_firstUnseen_3 : decode cL_firstUnseen 3 = .ok (.iload_n 1, 1) := by decide +kernel
theorem dL_firstUnseen_4 : decode cL_firstUnseen 4 = .ok (.invokevirtual 57, 3) := by decide +kernel
theorem dL_firstUnseen_7 : decode cL_firstUnseen 7 = .ok (.i2l, 1) := by decide +kernel
theorem dL_firstUnseen_8 : decode cL_firstUnseen 8 = .ok (.lastore, 1) := by decide +kernel
theorem dL_firstUnseen_9 : decode cL_firstUnseen 9 = .ok (.goto 6, 3) := by decide +kernel
theorem dL_firstUnseen_12 : decode cL_firstUnseen 12 = .ok (.astore_n 3, 1) := by decide +kernel
theorem dL_firstUnseen_13 : decode cL_firstUnseen 13 = .ok (.iconst 1, 1) := by decide +kernel
theorem dL_firstUnseen_14 : decode cL_firstUnseen 14 = .ok (.ireturn, 1) := by decide +kernel
theorem dL_firstUnseen_15 : decode cL_firstUnseen 15 = .ok (.iconst 0, 1) := by decide +kernel
theorem dL_firstUnseen_16 : decode cL_firstUnseen 16 = .ok (.ireturn, 1) := by decide +kernel
def mi_L_firstUnseen : MI := (RL, yL_firstUnseen, cL_firstUnseen, 4, some .int, [(0, 9, 12, 29)], { frames := 10, cells := 1, slots := 6, locals := 163 })
theorem ok_L_firstUnseen : mOKW mi_L_firstUnseen 3 := ⟨rfl, cw_L_firstUnseen, ini_L, ⟨rfl, by decide⟩, by decide, by decide, rfl⟩
theorem ha_L_firstUnseen : hAll mi_L_firstUnseen 4 mi_L_firstUnseen.hh [("java/lang/IndexOutOfBoundsException", 1)] [] := ⟨⟨⟨by decide, by decide⟩, by decide, cl_L_29, ca_IndexOutOfBoundsException, ⟨1, 1, rfl, dL_firstUnseen_13, dL_firstUnseen_14, Or.inr ⟨rfl, 3, by decide, dL_firstUnseen_12⟩⟩⟩, (fun p hp => nomatch hp), trivial⟩
theorem v_L_firstUnseen (a0 : Nat) (a1 : Int32) (a2 : Nat) (M : Mem) : V mi_L_firstUnseen 0 [(0, .ref a0), (1, .int a1), (2, .ref a2)] [] M 0 0 (f_L_firstUnseen a0 a1 a2 M) wI := by
  unfold f_L_firstUnseen
  refine V_aload_n dL_firstUnseen_0 rfl 2 rfl ?_
  refine V_iconst (x := 0) dL_firstUnseen_1 rfl rfl ?_
  refine V_aload_n dL_firstUnseen_2 rfl 0 rfl ?_
  refine V_iload_n dL_firstUnseen_3 rfl 1 rfl ?_
  refine V_cVH (wv := fun r => some (.int r)) (hs := [("java/lang/IndexOutOfBoundsException", 1)]) (As := [.int a1]) (k_X11_firstUnseen a0 a1 M) (fun _ h => o_X11_firstUnseen h) ok_X11_firstUnseen im_X11_firstUnseen se_X11_firstUnseen rfl (ci := 10) rfl ml_L_57 ⟨⟨(Nat.le_of_ble_eq_true rfl), (Nat.le_of_ble_eq_true rfl)⟩, (Nat.le_of_ble_eq_true rfl), (Nat.le_of_ble_eq_true rfl)⟩ dL_firstUnseen_4 rfl rfl rfl (Nat.le_of_ble_eq_true rfl) ha_L_firstUnseen rfl (fun _ _ => rfl) (fun _ _ => rfl) rfl rfl (fun x1 M2 => ?_)
  refine V_i2l dL_firstUnseen_7 rfl ?_
  refine V_lastore dL_firstUnseen_8 rfl (fun M3 => ?_)
  refine V_goto (q := 15) dL_firstUnseen_9 (by decide) ?_
  refine V_iconst (x := 0) dL_firstUnseen_15 rfl rfl ?_
  exact V_iret dL_firstUnseen_16 rfl rfl ⟨(Nat.le_of_ble_eq_true rfl), (Nat.le_of_ble_eq_true rfl)⟩
theorem k_L_firstUnseen (a0 : Nat) (a1 : Int32) (a2 : Nat) (M : Mem) : K mi_L_firstUnseen [.ref a0, .int a1, .ref a2] M (f_L_firstUnseen a0 a1 a2 M) wI := K_of_VW ok_L_firstUnseen (Nat.le_of_ble_eq_true rfl) (v_L_firstUnseen a0 a1 a2 M)
theorem dL_largest_0 : decode cL_largest 0 = .ok (.aload_n 2, 1) := by decide +kernel
theorem dL_largest_1 : decode cL_largest 1 = .ok (.iconst 0, 1) := by decide +kernel
theorem dL_largest_2 : decode cL_largest 2 = .ok (.aload_n 0, 1) := by decide +kernel
theorem dL_largest_3 : decode cL_largest 3 = .ok (.iload_n 1, 1) := by decide +kernel
theorem dL_largest_4 : decode cL_largest 4 = .ok (.invokevirtual 60, 3) := by decide +kernel
theorem dL_largest_7 : decode cL_largest 7 = .ok (.i2l, 1) := by decide +kernel
theorem dL_largest_8 : decode cL_largest 8 = .ok (.lastore, 1) := by decide +kernel
theorem dL_largest_9 : decode cL_largest 9 = .ok (.goto 6, 3) := by decide +kernel
theorem dL_largest_12 : decode cL_largest 12 = .ok (.astore_n 3, 1) := by decide +kernel
theorem dL_largest_13 : decode cL_largest 13 = .ok (.iconst 1, 1) := by decide +kernel
theorem dL_largest_14 : decode cL_largest 14 = .ok (.ireturn, 1) := by decide +kernel
theorem dL_largest_15 : decode cL_largest 15 = .ok (.iconst 0, 1) := by decide +kernel
theorem dL_largest_16 : decode cL_largest 16 = .ok (.ireturn, 1) := by decide +kernel
def mi_L_largest : MI := (RL, yL_largest, cL_largest, 4, some .int, [(0, 9, 12, 29)], { frames := 10, cells := 1, slots := 6, locals := 164 })
theorem ok_L_largest : mOKW mi_L_largest 3 := ⟨rfl, cw_L_largest, ini_L, ⟨rfl, by decide⟩, by decide, by decide, rfl⟩
theorem ha_L_largest : hAll mi_L_largest 4 mi_L_largest.hh [("java/lang/IndexOutOfBoundsException", 1)] [] := ⟨⟨⟨by decide, by decide⟩, by decide, cl_L_29, ca_IndexOutOfBoundsException, ⟨1, 1, rfl, dL_largest_13, dL_largest_14, Or.inr ⟨rfl, 3, by decide, dL_largest_12⟩⟩⟩, (fun p hp => nomatch hp), trivial⟩
theorem v_L_largest (a0 : Nat) (a1 : Int32) (a2 : Nat) (M : Mem) : V mi_L_largest 0 [(0, .ref a0), (1, .int a1), (2, .ref a2)] [] M 0 0 (f_L_largest a0 a1 a2 M) wI := by
  unfold f_L_largest
  refine V_aload_n dL_largest_0 rfl 2 rfl ?_
  refine V_iconst (x := 0) dL_largest_1 rfl rfl ?_
  refine V_aload_n dL_largest_2 rfl 0 rfl ?_
  refine V_iload_n dL_largest_3 rfl 1 rfl ?_
  refine V_cVH (wv := fun r => some (.int r)) (hs := [("java/lang/IndexOutOfBoundsException", 1)]) (As := [.int a1]) (k_X11_largest a0 a1 M) (fun _ h => o_X11_largest h) ok_X11_largest im_X11_largest se_X11_largest rfl (ci := 10) rfl ml_L_60 ⟨⟨(Nat.le_of_ble_eq_true rfl), (Nat.le_of_ble_eq_true rfl)⟩, (Nat.le_of_ble_eq_true rfl), (Nat.le_of_ble_eq_true rfl)⟩ dL_largest_4 rfl rfl rfl (Nat.le_of_ble_eq_true rfl) ha_L_largest rfl (fun _ _ => rfl) (fun _ _ => rfl) rfl rfl (fun x1 M2 => ?_)
  refine V_i2l dL_largest_7 rfl ?_
  refine V_lastore dL_largest_8 rfl (fun M3 => ?_)
  refine V_goto (q := 15) dL_largest_9 (by decide) ?_
  refine V_iconst (x := 0) dL_largest_15 rfl rfl ?_
  exact V_iret dL_largest_16 rfl rfl ⟨(Nat.le_of_ble_eq_true rfl), (Nat.le_of_ble_eq_true rfl)⟩
theorem k_L_largest (a0 : Nat) (a1 : Int32) (a2 : Nat) (M : Mem) : K mi_L_largest [.ref a0, .int a1, .ref a2] M (f_L_largest a0 a1 a2 M) wI := K_of_VW ok_L_largest (Nat.le_of_ble_eq_true rfl) (v_L_largest a0 a1 a2 M)
theorem dL_common_0 : decode cL_common 0 = .ok (.aload_n 3, 1) := by decide +kernel
theorem dL_common_1 : decode cL_common 1 = .ok (.iconst 0, 1) := by decide +kernel
theorem dL_common_2 : decode cL_common 2 = .ok (.aload_n 0, 1) := by decide +kernel
theorem dL_common_3 : decode cL_common 3 = .ok (.iload_n 1, 1) := by decide +kernel
theorem dL_common_4 : decode cL_common 4 = .ok (.iload_n 2, 1) := by decide +kernel
theorem dL_common_5 : decode cL_common 5 = .ok (.invokevirtual 63, 3) := by decide +kernel
theorem dL_common_8 : decode cL_common 8 = .ok (.i2l, 1) := by decide +kernel
theorem dL_common_9 : decode cL_common 9 = .ok (.lastore, 1) := by decide +kernel
theorem dL_common_10 : decode cL_common 10 = .ok (.goto 7, 3) := by decide +kernel
theorem dL_common_13 : decode cL_common 13 = .ok (.astore 4, 2) := by decide +kernel
theorem dL_common_15 : decode cL_common 15 = .ok (.iconst 1, 1) := by decide +kernel
theorem dL_common_16 : decode cL_common 16 = .ok (.ireturn, 1) := by decide +kernel
theorem dL_common_17 : decode cL_common 17 = .ok (.iconst 0, 1) := by decide +kernel
theorem dL_common_18 : decode cL_common 18 = .ok (.ireturn, 1) := by decide +kernel
def mi_L_common : MI := (RL, yL_common, cL_common, 5, some .int, [(0, 10, 13, 29)], { frames := 10, cells := 2, slots := 12, locals := 167 })
theorem ok_L_common : mOKW mi_L_common 4 := ⟨rfl, cw_L_common, ini_L, ⟨rfl, by decide⟩, by decide, by decide, rfl⟩
theorem ha_L_common : hAll mi_L_common 5 mi_L_common.hh [("java/lang/IndexOutOfBoundsException", 1)] [] := ⟨⟨⟨by decide, by decide⟩, by decide, cl_L_29, ca_IndexOutOfBoundsException, ⟨1, 2, rfl, dL_common_15, dL_common_16, Or.inl ⟨rfl, 4, by decide, dL_common_13⟩⟩⟩, (fun p hp => nomatch hp), trivial⟩
theorem v_L_common (a0 : Nat) (a1 : Int32) (a2 : Int32) (a3 : Nat) (M : Mem) : V mi_L_common 0 [(0, .ref a0), (1, .int a1), (2, .int a2), (3, .ref a3)] [] M 0 0 (f_L_common a0 a1 a2 a3 M) wI := by
  unfold f_L_common
  refine V_aload_n dL_common_0 rfl 3 rfl ?_
  refine V_iconst (x := 0) dL_common_1 rfl rfl ?_
  refine V_aload_n dL_common_2 rfl 0 rfl ?_
  refine V_iload_n dL_common_3 rfl 1 rfl ?_
  refine V_iload_n dL_common_4 rfl 2 rfl ?_
  refine V_cVH (wv := fun r => some (.int r)) (hs := [("java/lang/IndexOutOfBoundsException", 1)]) (As := [.int a1, .int a2]) (k_X11_common a0 a1 a2 M) (fun _ h => o_X11_common h) ok_X11_common im_X11_common se_X11_common rfl (ci := 10) rfl ml_L_63 ⟨⟨(Nat.le_of_ble_eq_true rfl), (Nat.le_of_ble_eq_true rfl)⟩, (Nat.le_of_ble_eq_true rfl), (Nat.le_of_ble_eq_true rfl)⟩ dL_common_5 rfl rfl rfl (Nat.le_of_ble_eq_true rfl) ha_L_common rfl (fun _ _ => rfl) (fun _ _ => rfl) rfl rfl (fun x1 M2 => ?_)
  refine V_i2l dL_common_8 rfl ?_
  refine V_lastore dL_common_9 rfl (fun M3 => ?_)
  refine V_goto (q := 17) dL_common_10 (by decide) ?_
  refine V_iconst (x := 0) dL_common_17 rfl rfl ?_
  exact V_iret dL_common_18 rfl rfl ⟨(Nat.le_of_ble_eq_true rfl), (Nat.le_of_ble_eq_true rfl)⟩
theorem k_L_common (a0 : Nat) (a1 : Int32) (a2 : Int32) (a3 : Nat) (M : Mem) : K mi_L_common [.ref a0, .int a1, .int a2, .ref a3] M (f_L_common a0 a1 a2 a3 M) wI := K_of_VW ok_L_common (Nat.le_of_ble_eq_true rfl) (v_L_common a0 a1 a2 a3 M)
theorem dL_holders_0 : decode cL_holders 0 = .ok (.aload_n 3, 1) := by decide +kernel
theorem dL_holders_1 : decode cL_holders 1 = .ok (.iconst 0, 1) := by decide +kernel
theorem dL_holders_2 : decode cL_holders 2 = .ok (.aload_n 0, 1) := by decide +kernel
theorem dL_holders_3 : decode cL_holders 3 = .ok (.iload_n 1, 1) := by decide +kernel
theorem dL_holders_4 : decode cL_holders 4 = .ok (.iload_n 2, 1) := by decide +kernel
theorem dL_holders_5 : decode cL_holders 5 = .ok (.invokevirtual 66, 3) := by decide +kernel
theorem dL_holders_8 : decode cL_holders 8 = .ok (.i2l, 1) := by decide +kernel
theorem dL_holders_9 : decode cL_holders 9 = .ok (.lastore, 1) := by decide +kernel
theorem dL_holders_10 : decode cL_holders 10 = .ok (.goto 7, 3) := by decide +kernel
theorem dL_holders_13 : decode cL_holders 13 = .ok (.astore 4, 2) := by decide +kernel
theorem dL_holders_15 : decode cL_holders 15 = .ok (.iconst 1, 1) := by decide +kernel
theorem dL_holders_16 : decode cL_holders 16 = .ok (.ireturn, 1) := by decide +kernel
theorem dL_holders_17 : decode cL_holders 17 = .ok (.iconst 0, 1) := by decide +kernel
theorem dL_holders_18 : decode cL_holders 18 = .ok (.ireturn, 1) := by decide +kernel
def mi_L_holders : MI := (RL, yL_holders, cL_holders, 5, some .int, [(0, 10, 13, 29)], { frames := 10, cells := 1, slots := 6, locals := 164 })
theorem ok_L_holders : mOKW mi_L_holders 4 := ⟨rfl, cw_L_holders, ini_L, ⟨rfl, by decide⟩, by decide, by decide, rfl⟩
theorem ha_L_holders : hAll mi_L_holders 5 mi_L_holders.hh [("java/lang/IndexOutOfBoundsException", 1)] [] := ⟨⟨⟨by decide, by decide⟩, by decide, cl_L_29, ca_IndexOutOfBoundsException, ⟨1, 2, rfl, dL_holders_15, dL_holders_16, Or.inl ⟨rfl, 4, by decide, dL_holders_13⟩⟩⟩, (fun p hp => nomatch hp), trivial⟩
theorem v_L_holders (a0 : Nat) (a1 : Int32) (a2 : Int32) (a3 : Nat) (M : Mem) : V mi_L_holders 0 [(0, .ref a0), (1, .int a1), (2, .int a2), (3, .ref a3)] [] M 0 0 (f_L_holders a0 a1 a2 a3 M) wI := by
  unfold f_L_holders
  refine V_aload_n dL_holders_0 rfl 3 rfl ?_
  refine V_iconst (x := 0) dL_holders_1 rfl rfl ?_
  refine V_aload_n dL_holders_2 rfl 0 rfl ?_
  refine V_iload_n dL_holders_3 rfl 1 rfl ?_
  refine V_iload_n dL_holders_4 rfl 2 rfl ?_
  refine V_cVH (wv := fun r => some (.int r)) (hs := [("java/lang/IndexOutOfBoundsException", 1)]) (As := [.int a1, .int a2]) (k_X11_holders a0 a1 a2 M) (fun _ h => o_X11_holders h) ok_X11_holders im_X11_holders se_X11_holders rfl (ci := 10) rfl ml_L_66 ⟨⟨(Nat.le_of_ble_eq_true rfl), (Nat.le_of_ble_eq_true rfl)⟩, (Nat.le_of_ble_eq_true rfl), (Nat.le_of_ble_eq_true rfl)⟩ dL_holders_5 rfl rfl rfl (Nat.le_of_ble_eq_true rfl) ha_L_holders rfl (fun _ _ => rfl) (fun _ _ => rfl) rfl rfl (fun x1 M2 => ?_)
  refine V_i2l dL_holders_8 rfl ?_
  refine V_lastore dL_holders_9 rfl (fun M3 => ?_)
  refine V_goto (q := 17) dL_holders_10 (by decide) ?_
  refine V_iconst (x := 0) dL_holders_17 rfl rfl ?_
  exact V_iret dL_holders_18 rfl rfl ⟨(Nat.le_of_ble_eq_true rfl), (Nat.le_of_ble_eq_true rfl)⟩
theorem k_L_holders (a0 : Nat) (a1 : Int32) (a2 : Int32) (a3 : Nat) (M : Mem) : K mi_L_holders [.ref a0, .int a1, .int a2, .ref a3] M (f_L_holders a0 a1 a2 a3 M) wI := K_of_VW ok_L_holders (Nat.le_of_ble_eq_true rfl) (v_L_holders a0 a1 a2 a3 M)
theorem dL_unseen_0 : decode cL_unseen 0 = .ok (.aload_n 2, 1) := by decide +kernel
theorem dL_unseen_1 : decode cL_unseen 1 = .ok (.iconst 0, 1) := by decide +kernel
theorem dL_unseen_2 : decode cL_unseen 2 = .ok (.aload_n 0, 1) := by decide +kernel
theorem dL_unseen_3 : decode cL_unseen 3 = .ok (.iload_n 1, 1) := by decide +kernel
theorem dL_unseen_4 : decode cL_unseen 4 = .ok (.invokevirtual 69, 3) := by decide +kernel
theorem dL_unseen_7 : decode cL_unseen 7 = .ok (.f2d, 1) := by decide +kernel
theorem dL_unseen_8 : decode cL_unseen 8 = .ok (.dastore, 1) := by decide +kernel
theorem dL_unseen_9 : decode cL_unseen 9 = .ok (.goto 6, 3) := by decide +kernel
theorem dL_unseen_12 : decode cL_unseen 12 = .ok (.astore_n 3, 1) := by decide +kernel
theorem dL_unseen_13 : decode cL_unseen 13 = .ok (.iconst 1, 1) := by decide +kernel
theorem dL_unseen_14 : decode cL_unseen 14 = .ok (.ireturn, 1) := by decide +kernel
theorem dL_unseen_15 : decode cL_unseen 15 = .ok (.iconst 0, 1) := by decide +kernel
theorem dL_unseen_16 : decode cL_unseen 16 = .ok (.ireturn, 1) := by decide +kernel
def mi_L_unseen : MI := (RL, yL_unseen, cL_unseen, 4, some .int, [(0, 9, 12, 29)], { frames := 10, cells := 1, slots := 6, locals := 166 })
theorem ok_L_unseen : mOKW mi_L_unseen 3 := ⟨rfl, cw_L_unseen, ini_L, ⟨rfl, by decide⟩, by decide, by decide, rfl⟩
theorem ha_L_unseen : hAll mi_L_unseen 4 mi_L_unseen.hh [("java/lang/IndexOutOfBoundsException", 1)] [] := ⟨⟨⟨by decide, by decide⟩, by decide, cl_L_29, ca_IndexOutOfBoundsException, ⟨1, 1, rfl, dL_unseen_13, dL_unseen_14, Or.inr ⟨rfl, 3, by decide, dL_unseen_12⟩⟩⟩, (fun p hp => nomatch hp), trivial⟩
theorem v_L_unseen (a0 : Nat) (a1 : Int32) (a2 : Nat) (M : Mem) : V mi_L_unseen 0 [(0, .ref a0), (1, .int a1), (2, .ref a2)] [] M 0 0 (f_L_unseen a0 a1 a2 M) wI := by
  unfold f_L_unseen
  refine V_aload_n dL_unseen_0 rfl 2 rfl ?_
  refine V_iconst (x := 0) dL_unseen_1 rfl rfl ?_
  refine V_aload_n dL_unseen_2 rfl 0 rfl ?_
  refine V_iload_n dL_unseen_3 rfl 1 rfl ?_
  refine V_cVH (wv := fun r => some (.float r)) (hs := [("java/lang/IndexOutOfBoundsException", 1)]) (As := [.int a1]) (k_X11_unseen a0 a1 M) (fun _ h => o_X11_unseen h) ok_X11_unseen im_X11_unseen se_X11_unseen rfl (ci := 10) rfl ml_L_69 ⟨⟨(Nat.le_of_ble_eq_true rfl), (Nat.le_of_ble_eq_true rfl)⟩, (Nat.le_of_ble_eq_true rfl), (Nat.le_of_ble_eq_true rfl)⟩ dL_unseen_4 rfl rfl rfl (Nat.le_of_ble_eq_true rfl) ha_L_unseen rfl (fun _ _ => rfl) (fun _ _ => rfl) rfl rfl (fun x1 M2 => ?_)
  refine V_nf64 fun hy => ?_
  refine V_f2d dL_unseen_7 rfl hy ?_
  refine V_dastore dL_unseen_8 rfl (fun M3 => ?_)
  refine V_goto (q := 15) dL_unseen_9 (by decide) ?_
  refine V_iconst (x := 0) dL_unseen_15 rfl rfl ?_
  exact V_iret dL_unseen_16 rfl rfl ⟨(Nat.le_of_ble_eq_true rfl), (Nat.le_of_ble_eq_true rfl)⟩
theorem k_L_unseen (a0 : Nat) (a1 : Int32) (a2 : Nat) (M : Mem) : K mi_L_unseen [.ref a0, .int a1, .ref a2] M (f_L_unseen a0 a1 a2 M) wI := K_of_VW ok_L_unseen (Nat.le_of_ble_eq_true rfl) (v_L_unseen a0 a1 a2 M)
theorem dL_mean_0 : decode cL_mean 0 = .ok (.aload_n 2, 1) := by decide +kernel
theorem dL_mean_1 : decode cL_mean 1 = .ok (.iconst 0, 1) := by decide +kernel
theorem dL_mean_2 : decode cL_mean 2 = .ok (.aload_n 0, 1) := by decide +kernel
theorem dL_mean_3 : decode cL_mean 3 = .ok (.iload_n 1, 1) := by decide +kernel
theorem dL_mean_4 : decode cL_mean 4 = .ok (.invokevirtual 73, 3) := by decide +kernel
theorem dL_mean_7 : decode cL_mean 7 = .ok (.dastore, 1) := by decide +kernel
theorem dL_mean_8 : decode cL_mean 8 = .ok (.goto 6, 3) := by decide +kernel
theorem dL_mean_11 : decode cL_mean 11 = .ok (.astore_n 3, 1) := by decide +kernel
theorem dL_mean_12 : decode cL_mean 12 = .ok (.iconst 1, 1) := by decide +kernel
theorem dL_mean_13 : decode cL_mean 13 = .ok (.ireturn, 1) := by decide +kernel
theorem dL_mean_14 : decode cL_mean 14 = .ok (.iconst 0, 1) := by decide +kernel
theorem dL_mean_15 : decode cL_mean 15 = .ok (.ireturn, 1) := by decide +kernel
def mi_L_mean : MI := (RL, yL_mean, cL_mean, 4, some .int, [(0, 8, 11, 29)], { frames := 10, cells := 1, slots := 6, locals := 165 })
theorem ok_L_mean : mOKW mi_L_mean 3 := ⟨rfl, cw_L_mean, ini_L, ⟨rfl, by decide⟩, by decide, by decide, rfl⟩
theorem ha_L_mean : hAll mi_L_mean 4 mi_L_mean.hh [("java/lang/IndexOutOfBoundsException", 1)] [] := ⟨⟨⟨by decide, by decide⟩, by decide, cl_L_29, ca_IndexOutOfBoundsException, ⟨1, 1, rfl, dL_mean_12, dL_mean_13, Or.inr ⟨rfl, 3, by decide, dL_mean_11⟩⟩⟩, (fun p hp => nomatch hp), trivial⟩
theorem v_L_mean (a0 : Nat) (a1 : Int32) (a2 : Nat) (M : Mem) : V mi_L_mean 0 [(0, .ref a0), (1, .int a1), (2, .ref a2)] [] M 0 0 (f_L_mean a0 a1 a2 M) wI := by
  unfold f_L_mean
  refine V_aload_n dL_mean_0 rfl 2 rfl ?_
  refine V_iconst (x := 0) dL_mean_1 rfl rfl ?_
  refine V_aload_n dL_mean_2 rfl 0 rfl ?_
  refine V_iload_n dL_mean_3 rfl 1 rfl ?_
  refine V_cVH (wv := fun r => some (.double r)) (hs := [("java/lang/IndexOutOfBoundsException", 1)]) (As := [.int a1]) (k_X11_mean a0 a1 M) (fun _ h => o_X11_mean h) ok_X11_mean im_X11_mean se_X11_mean rfl (ci := 10) rfl ml_L_73 ⟨⟨(Nat.le_of_ble_eq_true rfl), (Nat.le_of_ble_eq_true rfl)⟩, (Nat.le_of_ble_eq_true rfl), (Nat.le_of_ble_eq_true rfl)⟩ dL_mean_4 rfl rfl rfl (Nat.le_of_ble_eq_true rfl) ha_L_mean rfl (fun _ _ => rfl) (fun _ _ => rfl) rfl rfl (fun x1 M2 => ?_)
  refine V_dastore dL_mean_7 rfl (fun M3 => ?_)
  refine V_goto (q := 14) dL_mean_8 (by decide) ?_
  refine V_iconst (x := 0) dL_mean_14 rfl rfl ?_
  exact V_iret dL_mean_15 rfl rfl ⟨(Nat.le_of_ble_eq_true rfl), (Nat.le_of_ble_eq_true rfl)⟩
theorem k_L_mean (a0 : Nat) (a1 : Int32) (a2 : Nat) (M : Mem) : K mi_L_mean [.ref a0, .int a1, .ref a2] M (f_L_mean a0 a1 a2 M) wI := K_of_VW ok_L_mean (Nat.le_of_ble_eq_true rfl) (v_L_mean a0 a1 a2 M)
theorem dL_account_0 : decode cL_account 0 = .ok (.aload_n 3, 1) := by decide +kernel
theorem dL_account_1 : decode cL_account 1 = .ok (.iconst 0, 1) := by decide +kernel
theorem dL_account_2 : decode cL_account 2 = .ok (.aload_n 0, 1) := by decide +kernel
theorem dL_account_3 : decode cL_account 3 = .ok (.iload_n 1, 1) := by decide +kernel
theorem dL_account_4 : decode cL_account 4 = .ok (.iload_n 2, 1) := by decide +kernel
theorem dL_account_5 : decode cL_account 5 = .ok (.invokevirtual 77, 3) := by decide +kernel
theorem dL_account_8 : decode cL_account 8 = .ok (.i2l, 1) := by decide +kernel
theorem dL_account_9 : decode cL_account 9 = .ok (.lastore, 1) := by decide +kernel
theorem dL_account_10 : decode cL_account 10 = .ok (.goto 11, 3) := by decide +kernel
theorem dL_account_13 : decode cL_account 13 = .ok (.astore 4, 2) := by decide +kernel
theorem dL_account_15 : decode cL_account 15 = .ok (.iconst 1, 1) := by decide +kernel
theorem dL_account_16 : decode cL_account 16 = .ok (.ireturn, 1) := by decide +kernel
theorem dL_account_17 : decode cL_account 17 = .ok (.astore 4, 2) := by decide +kernel
theorem dL_account_19 : decode cL_account 19 = .ok (.iconst 2, 1) := by decide +kernel
theorem dL_account_20 : decode cL_account 20 = .ok (.ireturn, 1) := by decide +kernel
theorem dL_account_21 : decode cL_account 21 = .ok (.iconst 0, 1) := by decide +kernel
theorem dL_account_22 : decode cL_account 22 = .ok (.ireturn, 1) := by decide +kernel
def mi_L_account : MI := (RL, yL_account, cL_account, 5, some .int, [(0, 10, 13, 29), (0, 10, 17, 19)], { frames := 10, cells := 2, slots := 12, locals := 165 })
theorem ok_L_account : mOKW mi_L_account 4 := ⟨rfl, cw_L_account, ini_L, ⟨rfl, by decide⟩, by decide, by decide, rfl⟩
theorem ha_L_account : hAll mi_L_account 5 mi_L_account.hh [("java/lang/IndexOutOfBoundsException", 1), ("java/lang/IllegalArgumentException", 2)] [] := ⟨⟨⟨by decide, by decide⟩, by decide, cl_L_29, ca_IndexOutOfBoundsException, ⟨1, 2, rfl, dL_account_15, dL_account_16, Or.inl ⟨rfl, 4, by decide, dL_account_13⟩⟩⟩, (fun p hp => nomatch hp), ⟨⟨⟨by decide, by decide⟩, by decide, cl_L_19, ca_IllegalArgumentException, ⟨2, 2, rfl, dL_account_19, dL_account_20, Or.inl ⟨rfl, 4, by decide, dL_account_17⟩⟩⟩, (List.forall_mem_cons.mpr ⟨nc_IllegalArgumentException_IndexOutOfBoundsException, fun p hp => nomatch hp⟩), trivial⟩⟩
theorem v_L_account (a0 : Nat) (a1 : Int32) (a2 : Int32) (a3 : Nat) (M : Mem) : V mi_L_account 0 [(0, .ref a0), (1, .int a1), (2, .int a2), (3, .ref a3)] [] M 0 0 (f_L_account a0 a1 a2 a3 M) wI := by
  unfold f_L_account
  refine V_aload_n dL_account_0 rfl 3 rfl ?_
  refine V_iconst (x := 0) dL_account_1 rfl rfl ?_
  refine V_aload_n dL_account_2 rfl 0 rfl ?_
  refine V_iload_n dL_account_3 rfl 1 rfl ?_
  refine V_iload_n dL_account_4 rfl 2 rfl ?_
  refine V_cVH (wv := fun r => some (.int r)) (hs := [("java/lang/IndexOutOfBoundsException", 1), ("java/lang/IllegalArgumentException", 2)]) (As := [.int a1, .int a2]) (k_X11_account a0 a1 a2 M) (fun _ h => o_X11_account h) ok_X11_account im_X11_account se_X11_account rfl (ci := 10) rfl ml_L_77 ⟨⟨(Nat.le_of_ble_eq_true rfl), (Nat.le_of_ble_eq_true rfl)⟩, (Nat.le_of_ble_eq_true rfl), (Nat.le_of_ble_eq_true rfl)⟩ dL_account_5 rfl rfl rfl (Nat.le_of_ble_eq_true rfl) ha_L_account rfl (fun _ _ => rfl) (fun _ _ => rfl) rfl rfl (fun x1 M2 => ?_)
  refine V_i2l dL_account_8 rfl ?_
  refine V_lastore dL_account_9 rfl (fun M3 => ?_)
  refine V_goto (q := 21) dL_account_10 (by decide) ?_
  refine V_iconst (x := 0) dL_account_21 rfl rfl ?_
  exact V_iret dL_account_22 rfl rfl ⟨(Nat.le_of_ble_eq_true rfl), (Nat.le_of_ble_eq_true rfl)⟩
theorem k_L_account (a0 : Nat) (a1 : Int32) (a2 : Int32) (a3 : Nat) (M : Mem) : K mi_L_account [.ref a0, .int a1, .int a2, .ref a3] M (f_L_account a0 a1 a2 a3 M) wI := K_of_VW ok_L_account (Nat.le_of_ble_eq_true rfl) (v_L_account a0 a1 a2 a3 M)
theorem dL_notice_0 : decode cL_notice 0 = .ok (.aload_n 3, 1) := by decide +kernel
theorem dL_notice_1 : decode cL_notice 1 = .ok (.iconst 0, 1) := by decide +kernel
theorem dL_notice_2 : decode cL_notice 2 = .ok (.aload_n 0, 1) := by decide +kernel
theorem dL_notice_3 : decode cL_notice 3 = .ok (.iload_n 1, 1) := by decide +kernel
theorem dL_notice_4 : decode cL_notice 4 = .ok (.iload_n 2, 1) := by decide +kernel
theorem dL_notice_5 : decode cL_notice 5 = .ok (.invokevirtual 80, 3) := by decide +kernel
theorem dL_notice_8 : decode cL_notice 8 = .ok (.i2l, 1) := by decide +kernel
theorem dL_notice_9 : decode cL_notice 9 = .ok (.lastore, 1) := by decide +kernel
theorem dL_notice_10 : decode cL_notice 10 = .ok (.goto 11, 3) := by decide +kernel
theorem dL_notice_13 : decode cL_notice 13 = .ok (.astore 4, 2) := by decide +kernel
theorem dL_notice_15 : decode cL_notice 15 = .ok (.iconst 1, 1) := by decide +kernel
theorem dL_notice_16 : decode cL_notice 16 = .ok (.ireturn, 1) := by decide +kernel
theorem dL_notice_17 : decode cL_notice 17 = .ok (.astore 4, 2) := by decide +kernel
theorem dL_notice_19 : decode cL_notice 19 = .ok (.iconst 2, 1) := by decide +kernel
theorem dL_notice_20 : decode cL_notice 20 = .ok (.ireturn, 1) := by decide +kernel
theorem dL_notice_21 : decode cL_notice 21 = .ok (.iconst 0, 1) := by decide +kernel
theorem dL_notice_22 : decode cL_notice 22 = .ok (.ireturn, 1) := by decide +kernel
def mi_L_notice : MI := (RL, yL_notice, cL_notice, 5, some .int, [(0, 10, 13, 19), (0, 10, 17, 83)], { frames := 9, cells := 1, slots := 6, locals := 142 })
theorem ok_L_notice : mOKW mi_L_notice 4 := ⟨rfl, cw_L_notice, ini_L, ⟨rfl, by decide⟩, by decide, by decide, rfl⟩
theorem ha_L_notice : hAll mi_L_notice 5 mi_L_notice.hh [("java/lang/IllegalArgumentException", 1), ("java/util/NoSuchElementException", 2)] [] := ⟨⟨⟨by decide, by decide⟩, by decide, cl_L_19, ca_IllegalArgumentException, ⟨1, 2, rfl, dL_notice_15, dL_notice_16, Or.inl ⟨rfl, 4, by decide, dL_notice_13⟩⟩⟩, (fun p hp => nomatch hp), ⟨⟨⟨by decide, by decide⟩, by decide, cl_L_83, ca_NoSuchElementException, ⟨2, 2, rfl, dL_notice_19, dL_notice_20, Or.inl ⟨rfl, 4, by decide, dL_notice_17⟩⟩⟩, (List.forall_mem_cons.mpr ⟨nc_NoSuchElementException_IllegalArgumentException, fun p hp => nomatch hp⟩), trivial⟩⟩
theorem v_L_notice (a0 : Nat) (a1 : Int32) (a2 : Int32) (a3 : Nat) (M : Mem) : V mi_L_notice 0 [(0, .ref a0), (1, .int a1), (2, .int a2), (3, .ref a3)] [] M 0 0 (f_L_notice a0 a1 a2 a3 M) wI := by
  unfold f_L_notice
  refine V_aload_n dL_notice_0 rfl 3 rfl ?_
  refine V_iconst (x := 0) dL_notice_1 rfl rfl ?_
  refine V_aload_n dL_notice_2 rfl 0 rfl ?_
  refine V_iload_n dL_notice_3 rfl 1 rfl ?_
  refine V_iload_n dL_notice_4 rfl 2 rfl ?_
  refine V_cVH (wv := fun r => some (.int r)) (hs := [("java/lang/IllegalArgumentException", 1), ("java/util/NoSuchElementException", 2)]) (As := [.int a1, .int a2]) (k_X11_notice a0 a1 a2 M) (fun _ h => o_X11_notice h) ok_X11_notice im_X11_notice se_X11_notice rfl (ci := 10) rfl ml_L_80 ⟨⟨(Nat.le_of_ble_eq_true rfl), (Nat.le_of_ble_eq_true rfl)⟩, (Nat.le_of_ble_eq_true rfl), (Nat.le_of_ble_eq_true rfl)⟩ dL_notice_5 rfl rfl rfl (Nat.le_of_ble_eq_true rfl) ha_L_notice rfl (fun _ _ => rfl) (fun _ _ => rfl) rfl rfl (fun x1 M2 => ?_)
  refine V_i2l dL_notice_8 rfl ?_
  refine V_lastore dL_notice_9 rfl (fun M3 => ?_)
  refine V_goto (q := 21) dL_notice_10 (by decide) ?_
  refine V_iconst (x := 0) dL_notice_21 rfl rfl ?_
  exact V_iret dL_notice_22 rfl rfl ⟨(Nat.le_of_ble_eq_true rfl), (Nat.le_of_ble_eq_true rfl)⟩
theorem k_L_notice (a0 : Nat) (a1 : Int32) (a2 : Int32) (a3 : Nat) (M : Mem) : K mi_L_notice [.ref a0, .int a1, .int a2, .ref a3] M (f_L_notice a0 a1 a2 a3 M) wI := K_of_VW ok_L_notice (Nat.le_of_ble_eq_true rfl) (v_L_notice a0 a1 a2 a3 M)
theorem dL_searchBox_0 : decode cL_searchBox 0 = .ok (.aload_n 2, 1) := by decide +kernel
theorem dL_searchBox_1 : decode cL_searchBox 1 = .ok (.iconst 0, 1) := by decide +kernel
theorem dL_searchBox_2 : decode cL_searchBox 2 = .ok (.aload_n 0, 1) := by decide +kernel
theorem dL_searchBox_3 : decode cL_searchBox 3 = .ok (.iload_n 1, 1) := by decide +kernel
theorem dL_searchBox_4 : decode cL_searchBox 4 = .ok (.invokevirtual 85, 3) := by decide +kernel
theorem dL_searchBox_7 : decode cL_searchBox 7 = .ok (.i2l, 1) := by decide +kernel
theorem dL_searchBox_8 : decode cL_searchBox 8 = .ok (.lastore, 1) := by decide +kernel
theorem dL_searchBox_9 : decode cL_searchBox 9 = .ok (.goto 6, 3) := by decide +kernel
theorem dL_searchBox_12 : decode cL_searchBox 12 = .ok (.astore_n 3, 1) := by decide +kernel
theorem dL_searchBox_13 : decode cL_searchBox 13 = .ok (.iconst 1, 1) := by decide +kernel
theorem dL_searchBox_14 : decode cL_searchBox 14 = .ok (.ireturn, 1) := by decide +kernel
theorem dL_searchBox_15 : decode cL_searchBox 15 = .ok (.iconst 0, 1) := by decide +kernel
theorem dL_searchBox_16 : decode cL_searchBox 16 = .ok (.ireturn, 1) := by decide +kernel
def mi_L_searchBox : MI := (RL, yL_searchBox, cL_searchBox, 4, some .int, [(0, 9, 12, 29)], { frames := 49, cells := 1, slots := 6, locals := 1171 })
theorem ok_L_searchBox : mOKW mi_L_searchBox 3 := ⟨rfl, cw_L_searchBox, ini_L, ⟨rfl, by decide⟩, by decide, by decide, rfl⟩
theorem ha_L_searchBox : hAll mi_L_searchBox 4 mi_L_searchBox.hh [("java/lang/IndexOutOfBoundsException", 1)] [] := ⟨⟨⟨by decide, by decide⟩, by decide, cl_L_29, ca_IndexOutOfBoundsException, ⟨1, 1, rfl, dL_searchBox_13, dL_searchBox_14, Or.inr ⟨rfl, 3, by decide, dL_searchBox_12⟩⟩⟩, (fun p hp => nomatch hp), trivial⟩
theorem v_L_searchBox (a0 : Nat) (a1 : Int32) (a2 : Nat) (M : Mem) : V mi_L_searchBox 0 [(0, .ref a0), (1, .int a1), (2, .ref a2)] [] M 0 0 (f_L_searchBox a0 a1 a2 M) wI := by
  unfold f_L_searchBox
  refine V_aload_n dL_searchBox_0 rfl 2 rfl ?_
  refine V_iconst (x := 0) dL_searchBox_1 rfl rfl ?_
  refine V_aload_n dL_searchBox_2 rfl 0 rfl ?_
  refine V_iload_n dL_searchBox_3 rfl 1 rfl ?_
  refine V_cVH (wv := fun r => some (.int r)) (hs := [("java/lang/IndexOutOfBoundsException", 1)]) (As := [.int a1]) (k_X11_searchBox a0 a1 M) (fun _ h => o_X11_searchBox h) ok_X11_searchBox im_X11_searchBox se_X11_searchBox rfl (ci := 10) rfl ml_L_85 ⟨⟨(Nat.le_of_ble_eq_true rfl), (Nat.le_of_ble_eq_true rfl)⟩, (Nat.le_of_ble_eq_true rfl), (Nat.le_of_ble_eq_true rfl)⟩ dL_searchBox_4 rfl rfl rfl (Nat.le_of_ble_eq_true rfl) ha_L_searchBox rfl (fun _ _ => rfl) (fun _ _ => rfl) rfl rfl (fun x1 M2 => ?_)
  refine V_i2l dL_searchBox_7 rfl ?_
  refine V_lastore dL_searchBox_8 rfl (fun M3 => ?_)
  refine V_goto (q := 15) dL_searchBox_9 (by decide) ?_
  refine V_iconst (x := 0) dL_searchBox_15 rfl rfl ?_
  exact V_iret dL_searchBox_16 rfl rfl ⟨(Nat.le_of_ble_eq_true rfl), (Nat.le_of_ble_eq_true rfl)⟩
theorem k_L_searchBox (a0 : Nat) (a1 : Int32) (a2 : Nat) (M : Mem) : K mi_L_searchBox [.ref a0, .int a1, .ref a2] M (f_L_searchBox a0 a1 a2 M) wI := K_of_VW ok_L_searchBox (Nat.le_of_ble_eq_true rfl) (v_L_searchBox a0 a1 a2 M)
theorem dL_select_0 : decode cL_select 0 = .ok (.aload 4, 2) := by decide +kernel
theorem dL_select_2 : decode cL_select 2 = .ok (.iconst 0, 1) := by decide +kernel
theorem dL_select_3 : decode cL_select 3 = .ok (.aload_n 0, 1) := by decide +kernel
theorem dL_select_4 : decode cL_select 4 = .ok (.iload_n 1, 1) := by decide +kernel
theorem dL_select_5 : decode cL_select 5 = .ok (.iload_n 2, 1) := by decide +kernel
theorem dL_select_6 : decode cL_select 6 = .ok (.iload_n 3, 1) := by decide +kernel
theorem dL_select_7 : decode cL_select 7 = .ok (.invokevirtual 88, 3) := by decide +kernel
theorem dL_select_10 : decode cL_select 10 = .ok (.i2l, 1) := by decide +kernel
theorem dL_select_11 : decode cL_select 11 = .ok (.lastore, 1) := by decide +kernel
theorem dL_select_12 : decode cL_select 12 = .ok (.goto 11, 3) := by decide +kernel
theorem dL_select_15 : decode cL_select 15 = .ok (.astore 5, 2) := by decide +kernel
theorem dL_select_17 : decode cL_select 17 = .ok (.iconst 1, 1) := by decide +kernel
theorem dL_select_18 : decode cL_select 18 = .ok (.ireturn, 1) := by decide +kernel
theorem dL_select_19 : decode cL_select 19 = .ok (.astore 5, 2) := by decide +kernel
theorem dL_select_21 : decode cL_select 21 = .ok (.iconst 2, 1) := by decide +kernel
theorem dL_select_22 : decode cL_select 22 = .ok (.ireturn, 1) := by decide +kernel
theorem dL_select_23 : decode cL_select 23 = .ok (.iconst 0, 1) := by decide +kernel
theorem dL_select_24 : decode cL_select 24 = .ok (.ireturn, 1) := by decide +kernel
def mi_L_select : MI := (RL, yL_select, cL_select, 6, some .int, [(0, 12, 15, 29), (0, 12, 19, 13)], { frames := 10, cells := 3, slots := 18, locals := 178 })
theorem ok_L_select : mOKW mi_L_select 5 := ⟨rfl, cw_L_select, ini_L, ⟨rfl, by decide⟩, by decide, by decide, rfl⟩
theorem ha_L_select : hAll mi_L_select 7 mi_L_select.hh [("java/lang/IndexOutOfBoundsException", 1), ("java/lang/IllegalStateException", 2)] [] := ⟨⟨⟨by decide, by decide⟩, by decide, cl_L_29, ca_IndexOutOfBoundsException, ⟨1, 2, rfl, dL_select_17, dL_select_18, Or.inl ⟨rfl, 5, by decide, dL_select_15⟩⟩⟩, (fun p hp => nomatch hp), ⟨⟨⟨by decide, by decide⟩, by decide, cl_L_13, ca_IllegalStateException, ⟨2, 2, rfl, dL_select_21, dL_select_22, Or.inl ⟨rfl, 5, by decide, dL_select_19⟩⟩⟩, (List.forall_mem_cons.mpr ⟨nc_IllegalStateException_IndexOutOfBoundsException, fun p hp => nomatch hp⟩), trivial⟩⟩
theorem v_L_select (a0 : Nat) (a1 : Int32) (a2 : Int32) (a3 : Bool) (a4 : Nat) (M : Mem) : V mi_L_select 0 [(0, .ref a0), (1, .int a1), (2, .int a2), (3, .int (b2i a3)), (4, .ref a4)] [] M 0 0 (f_L_select a0 a1 a2 a3 a4 M) wI := by
  unfold f_L_select
  refine V_aload dL_select_0 rfl 4 rfl ?_
  refine V_iconst (x := 0) dL_select_2 rfl rfl ?_
  refine V_aload_n dL_select_3 rfl 0 rfl ?_
  refine V_iload_n dL_select_4 rfl 1 rfl ?_
  refine V_iload_n dL_select_5 rfl 2 rfl ?_
  refine V_iload_n dL_select_6 rfl 3 rfl ?_
  refine V_cVH (wv := fun r => some (.int r)) (hs := [("java/lang/IndexOutOfBoundsException", 1), ("java/lang/IllegalStateException", 2)]) (As := [.int a1, .int a2, .int (b2i a3)]) (k_X11_select a0 a1 a2 a3 M) (fun _ h => o_X11_select h) ok_X11_select im_X11_select se_X11_select rfl (ci := 10) rfl ml_L_88 ⟨⟨(Nat.le_of_ble_eq_true rfl), (Nat.le_of_ble_eq_true rfl)⟩, (Nat.le_of_ble_eq_true rfl), (Nat.le_of_ble_eq_true rfl)⟩ dL_select_7 rfl rfl rfl (Nat.le_of_ble_eq_true rfl) ha_L_select rfl (fun _ _ => rfl) (fun _ _ => rfl) rfl rfl (fun x1 M2 => ?_)
  refine V_i2l dL_select_10 rfl ?_
  refine V_lastore dL_select_11 rfl (fun M3 => ?_)
  refine V_goto (q := 23) dL_select_12 (by decide) ?_
  refine V_iconst (x := 0) dL_select_23 rfl rfl ?_
  exact V_iret dL_select_24 rfl rfl ⟨(Nat.le_of_ble_eq_true rfl), (Nat.le_of_ble_eq_true rfl)⟩
theorem k_L_select (a0 : Nat) (a1 : Int32) (a2 : Int32) (a3 : Bool) (a4 : Nat) (M : Mem) : K mi_L_select [.ref a0, .int a1, .int a2, .int (b2i a3), .ref a4] M (f_L_select a0 a1 a2 a3 a4 M) wI := K_of_VW ok_L_select (Nat.le_of_ble_eq_true rfl) (v_L_select a0 a1 a2 a3 a4 M)
theorem dL_noop_0 : decode cL_noop 0 = .ok (.aload_n 2, 1) := by decide +kernel
theorem dL_noop_1 : decode cL_noop 1 = .ok (.iconst 0, 1) := by decide +kernel
theorem dL_noop_2 : decode cL_noop 2 = .ok (.aload_n 0, 1) := by decide +kernel
theorem dL_noop_3 : decode cL_noop 3 = .ok (.iload_n 1, 1) := by decide +kernel
theorem dL_noop_4 : decode cL_noop 4 = .ok (.invokevirtual 92, 3) := by decide +kernel
theorem dL_noop_7 : decode cL_noop 7 = .ok (.i2l, 1) := by decide +kernel
theorem dL_noop_8 : decode cL_noop 8 = .ok (.lastore, 1) := by decide +kernel
theorem dL_noop_9 : decode cL_noop 9 = .ok (.goto 9, 3) := by decide +kernel
theorem dL_noop_12 : decode cL_noop 12 = .ok (.astore_n 3, 1) := by decide +kernel
theorem dL_noop_13 : decode cL_noop 13 = .ok (.iconst 1, 1) := by decide +kernel
theorem dL_noop_14 : decode cL_noop 14 = .ok (.ireturn, 1) := by decide +kernel
theorem dL_noop_15 : decode cL_noop 15 = .ok (.astore_n 3, 1) := by decide +kernel
theorem dL_noop_16 : decode cL_noop 16 = .ok (.iconst 2, 1) := by decide +kernel
theorem dL_noop_17 : decode cL_noop 17 = .ok (.ireturn, 1) := by decide +kernel
theorem dL_noop_18 : decode cL_noop 18 = .ok (.iconst 0, 1) := by decide +kernel
theorem dL_noop_19 : decode cL_noop 19 = .ok (.ireturn, 1) := by decide +kernel
def mi_L_noop : MI := (RL, yL_noop, cL_noop, 4, some .int, [(0, 9, 12, 29), (0, 9, 15, 13)], { frames := 10, cells := 2, slots := 12, locals := 198 })
theorem ok_L_noop : mOKW mi_L_noop 3 := ⟨rfl, cw_L_noop, ini_L, ⟨rfl, by decide⟩, by decide, by decide, rfl⟩
theorem ha_L_noop : hAll mi_L_noop 4 mi_L_noop.hh [("java/lang/IndexOutOfBoundsException", 1), ("java/lang/IllegalStateException", 2)] [] := ⟨⟨⟨by decide, by decide⟩, by decide, cl_L_29, ca_IndexOutOfBoundsException, ⟨1, 1, rfl, dL_noop_13, dL_noop_14, Or.inr ⟨rfl, 3, by decide, dL_noop_12⟩⟩⟩, (fun p hp => nomatch hp), ⟨⟨⟨by decide, by decide⟩, by decide, cl_L_13, ca_IllegalStateException, ⟨2, 1, rfl, dL_noop_16, dL_noop_17, Or.inr ⟨rfl, 3, by decide, dL_noop_15⟩⟩⟩, (List.forall_mem_cons.mpr ⟨nc_IllegalStateException_IndexOutOfBoundsException, fun p hp => nomatch hp⟩), trivial⟩⟩
theorem v_L_noop (a0 : Nat) (a1 : Int32) (a2 : Nat) (M : Mem) : V mi_L_noop 0 [(0, .ref a0), (1, .int a1), (2, .ref a2)] [] M 0 0 (f_L_noop a0 a1 a2 M) wI := by
  unfold f_L_noop
  refine V_aload_n dL_noop_0 rfl 2 rfl ?_
  refine V_iconst (x := 0) dL_noop_1 rfl rfl ?_
  refine V_aload_n dL_noop_2 rfl 0 rfl ?_
  refine V_iload_n dL_noop_3 rfl 1 rfl ?_
  refine V_cVH (wv := fun r => some (.int r)) (hs := [("java/lang/IndexOutOfBoundsException", 1), ("java/lang/IllegalStateException", 2)]) (As := [.int a1]) (k_X11_noop a0 a1 M) (fun _ h => o_X11_noop h) ok_X11_noop im_X11_noop se_X11_noop rfl (ci := 10) rfl ml_L_92 ⟨⟨(Nat.le_of_ble_eq_true rfl), (Nat.le_of_ble_eq_true rfl)⟩, (Nat.le_of_ble_eq_true rfl), (Nat.le_of_ble_eq_true rfl)⟩ dL_noop_4 rfl rfl rfl (Nat.le_of_ble_eq_true rfl) ha_L_noop rfl (fun _ _ => rfl) (fun _ _ => rfl) rfl rfl (fun x1 M2 => ?_)
  refine V_i2l dL_noop_7 rfl ?_
  refine V_lastore dL_noop_8 rfl (fun M3 => ?_)
  refine V_goto (q := 18) dL_noop_9 (by decide) ?_
  refine V_iconst (x := 0) dL_noop_18 rfl rfl ?_
  exact V_iret dL_noop_19 rfl rfl ⟨(Nat.le_of_ble_eq_true rfl), (Nat.le_of_ble_eq_true rfl)⟩
theorem k_L_noop (a0 : Nat) (a1 : Int32) (a2 : Nat) (M : Mem) : K mi_L_noop [.ref a0, .int a1, .ref a2] M (f_L_noop a0 a1 a2 M) wI := K_of_VW ok_L_noop (Nat.le_of_ble_eq_true rfl) (v_L_noop a0 a1 a2 M)
theorem dL_startIdle_0 : decode cL_startIdle 0 = .ok (.aload_n 2, 1) := by decide +kernel
theorem dL_startIdle_1 : decode cL_startIdle 1 = .ok (.iconst 0, 1) := by decide +kernel
theorem dL_startIdle_2 : decode cL_startIdle 2 = .ok (.aload_n 0, 1) := by decide +kernel
theorem dL_startIdle_3 : decode cL_startIdle 3 = .ok (.iload_n 1, 1) := by decide +kernel
theorem dL_startIdle_4 : decode cL_startIdle 4 = .ok (.invokevirtual 95, 3) := by decide +kernel
theorem dL_startIdle_7 : decode cL_startIdle 7 = .ok (.i2l, 1) := by decide +kernel
theorem dL_startIdle_8 : decode cL_startIdle 8 = .ok (.lastore, 1) := by decide +kernel
theorem dL_startIdle_9 : decode cL_startIdle 9 = .ok (.goto 9, 3) := by decide +kernel
theorem dL_startIdle_12 : decode cL_startIdle 12 = .ok (.astore_n 3, 1) := by decide +kernel
theorem dL_startIdle_13 : decode cL_startIdle 13 = .ok (.iconst 1, 1) := by decide +kernel
theorem dL_startIdle_14 : decode cL_startIdle 14 = .ok (.ireturn, 1) := by decide +kernel
theorem dL_startIdle_15 : decode cL_startIdle 15 = .ok (.astore_n 3, 1) := by decide +kernel
theorem dL_startIdle_16 : decode cL_startIdle 16 = .ok (.iconst 2, 1) := by decide +kernel
theorem dL_startIdle_17 : decode cL_startIdle 17 = .ok (.ireturn, 1) := by decide +kernel
theorem dL_startIdle_18 : decode cL_startIdle 18 = .ok (.iconst 0, 1) := by decide +kernel
theorem dL_startIdle_19 : decode cL_startIdle 19 = .ok (.ireturn, 1) := by decide +kernel
def mi_L_startIdle : MI := (RL, yL_startIdle, cL_startIdle, 4, some .int, [(0, 9, 12, 29), (0, 9, 15, 13)], { frames := 10, cells := 2, slots := 12, locals := 198 })
theorem ok_L_startIdle : mOKW mi_L_startIdle 3 := ⟨rfl, cw_L_startIdle, ini_L, ⟨rfl, by decide⟩, by decide, by decide, rfl⟩
theorem ha_L_startIdle : hAll mi_L_startIdle 4 mi_L_startIdle.hh [("java/lang/IndexOutOfBoundsException", 1), ("java/lang/IllegalStateException", 2)] [] := ⟨⟨⟨by decide, by decide⟩, by decide, cl_L_29, ca_IndexOutOfBoundsException, ⟨1, 1, rfl, dL_startIdle_13, dL_startIdle_14, Or.inr ⟨rfl, 3, by decide, dL_startIdle_12⟩⟩⟩, (fun p hp => nomatch hp), ⟨⟨⟨by decide, by decide⟩, by decide, cl_L_13, ca_IllegalStateException, ⟨2, 1, rfl, dL_startIdle_16, dL_startIdle_17, Or.inr ⟨rfl, 3, by decide, dL_startIdle_15⟩⟩⟩, (List.forall_mem_cons.mpr ⟨nc_IllegalStateException_IndexOutOfBoundsException, fun p hp => nomatch hp⟩), trivial⟩⟩
theorem v_L_startIdle (a0 : Nat) (a1 : Int32) (a2 : Nat) (M : Mem) : V mi_L_startIdle 0 [(0, .ref a0), (1, .int a1), (2, .ref a2)] [] M 0 0 (f_L_startIdle a0 a1 a2 M) wI := by
  unfold f_L_startIdle
  refine V_aload_n dL_startIdle_0 rfl 2 rfl ?_
  refine V_iconst (x := 0) dL_startIdle_1 rfl rfl ?_
  refine V_aload_n dL_startIdle_2 rfl 0 rfl ?_
  refine V_iload_n dL_startIdle_3 rfl 1 rfl ?_
  refine V_cVH (wv := fun r => some (.int r)) (hs := [("java/lang/IndexOutOfBoundsException", 1), ("java/lang/IllegalStateException", 2)]) (As := [.int a1]) (k_X11_startIdle a0 a1 M) (fun _ h => o_X11_startIdle h) ok_X11_startIdle im_X11_startIdle se_X11_startIdle rfl (ci := 10) rfl ml_L_95 ⟨⟨(Nat.le_of_ble_eq_true rfl), (Nat.le_of_ble_eq_true rfl)⟩, (Nat.le_of_ble_eq_true rfl), (Nat.le_of_ble_eq_true rfl)⟩ dL_startIdle_4 rfl rfl rfl (Nat.le_of_ble_eq_true rfl) ha_L_startIdle rfl (fun _ _ => rfl) (fun _ _ => rfl) rfl rfl (fun x1 M2 => ?_)
  refine V_i2l dL_startIdle_7 rfl ?_
  refine V_lastore dL_startIdle_8 rfl (fun M3 => ?_)
  refine V_goto (q := 18) dL_startIdle_9 (by decide) ?_
  refine V_iconst (x := 0) dL_startIdle_18 rfl rfl ?_
  exact V_iret dL_startIdle_19 rfl rfl ⟨(Nat.le_of_ble_eq_true rfl), (Nat.le_of_ble_eq_true rfl)⟩
theorem k_L_startIdle (a0 : Nat) (a1 : Int32) (a2 : Nat) (M : Mem) : K mi_L_startIdle [.ref a0, .int a1, .ref a2] M (f_L_startIdle a0 a1 a2 M) wI := K_of_VW ok_L_startIdle (Nat.le_of_ble_eq_true rfl) (v_L_startIdle a0 a1 a2 M)
theorem dL_stopIdle_0 : decode cL_stopIdle 0 = .ok (.aload_n 2, 1) := by decide +kernel
theorem dL_stopIdle_1 : decode cL_stopIdle 1 = .ok (.iconst 0, 1) := by decide +kernel
theorem dL_stopIdle_2 : decode cL_stopIdle 2 = .ok (.aload_n 0, 1) := by decide +kernel
theorem dL_stopIdle_3 : decode cL_stopIdle 3 = .ok (.iload_n 1, 1) := by decide +kernel
theorem dL_stopIdle_4 : decode cL_stopIdle 4 = .ok (.invokevirtual 98, 3) := by decide +kernel
theorem dL_stopIdle_7 : decode cL_stopIdle 7 = .ok (.i2l, 1) := by decide +kernel
theorem dL_stopIdle_8 : decode cL_stopIdle 8 = .ok (.lastore, 1) := by decide +kernel
theorem dL_stopIdle_9 : decode cL_stopIdle 9 = .ok (.goto 9, 3) := by decide +kernel
theorem dL_stopIdle_12 : decode cL_stopIdle 12 = .ok (.astore_n 3, 1) := by decide +kernel
theorem dL_stopIdle_13 : decode cL_stopIdle 13 = .ok (.iconst 1, 1) := by decide +kernel
theorem dL_stopIdle_14 : decode cL_stopIdle 14 = .ok (.ireturn, 1) := by decide +kernel
theorem dL_stopIdle_15 : decode cL_stopIdle 15 = .ok (.astore_n 3, 1) := by decide +kernel
theorem dL_stopIdle_16 : decode cL_stopIdle 16 = .ok (.iconst 2, 1) := by decide +kernel
theorem dL_stopIdle_17 : decode cL_stopIdle 17 = .ok (.ireturn, 1) := by decide +kernel
theorem dL_stopIdle_18 : decode cL_stopIdle 18 = .ok (.iconst 0, 1) := by decide +kernel
theorem dL_stopIdle_19 : decode cL_stopIdle 19 = .ok (.ireturn, 1) := by decide +kernel
def mi_L_stopIdle : MI := (RL, yL_stopIdle, cL_stopIdle, 4, some .int, [(0, 9, 12, 29), (0, 9, 15, 13)], { frames := 10, cells := 2, slots := 12, locals := 198 })
theorem ok_L_stopIdle : mOKW mi_L_stopIdle 3 := ⟨rfl, cw_L_stopIdle, ini_L, ⟨rfl, by decide⟩, by decide, by decide, rfl⟩
theorem ha_L_stopIdle : hAll mi_L_stopIdle 4 mi_L_stopIdle.hh [("java/lang/IndexOutOfBoundsException", 1), ("java/lang/IllegalStateException", 2)] [] := ⟨⟨⟨by decide, by decide⟩, by decide, cl_L_29, ca_IndexOutOfBoundsException, ⟨1, 1, rfl, dL_stopIdle_13, dL_stopIdle_14, Or.inr ⟨rfl, 3, by decide, dL_stopIdle_12⟩⟩⟩, (fun p hp => nomatch hp), ⟨⟨⟨by decide, by decide⟩, by decide, cl_L_13, ca_IllegalStateException, ⟨2, 1, rfl, dL_stopIdle_16, dL_stopIdle_17, Or.inr ⟨rfl, 3, by decide, dL_stopIdle_15⟩⟩⟩, (List.forall_mem_cons.mpr ⟨nc_IllegalStateException_IndexOutOfBoundsException, fun p hp => nomatch hp⟩), trivial⟩⟩
theorem v_L_stopIdle (a0 : Nat) (a1 : Int32) (a2 : Nat) (M : Mem) : V mi_L_stopIdle 0 [(0, .ref a0), (1, .int a1), (2, .ref a2)] [] M 0 0 (f_L_stopIdle a0 a1 a2 M) wI := by
  unfold f_L_stopIdle
  refine V_aload_n dL_stopIdle_0 rfl 2 rfl ?_
  refine V_iconst (x := 0) dL_stopIdle_1 rfl rfl ?_
  refine V_aload_n dL_stopIdle_2 rfl 0 rfl ?_
  refine V_iload_n dL_stopIdle_3 rfl 1 rfl ?_
  refine V_cVH (wv := fun r => some (.int r)) (hs := [("java/lang/IndexOutOfBoundsException", 1), ("java/lang/IllegalStateException", 2)]) (As := [.int a1]) (k_X11_stopIdle a0 a1 M) (fun _ h => o_X11_stopIdle h) ok_X11_stopIdle im_X11_stopIdle se_X11_stopIdle rfl (ci := 10) rfl ml_L_98 ⟨⟨(Nat.le_of_ble_eq_true rfl), (Nat.le_of_ble_eq_true rfl)⟩, (Nat.le_of_ble_eq_true rfl), (Nat.le_of_ble_eq_true rfl)⟩ dL_stopIdle_4 rfl rfl rfl (Nat.le_of_ble_eq_true rfl) ha_L_stopIdle rfl (fun _ _ => rfl) (fun _ _ => rfl) rfl rfl (fun x1 M2 => ?_)
  refine V_i2l dL_stopIdle_7 rfl ?_
  refine V_lastore dL_stopIdle_8 rfl (fun M3 => ?_)
  refine V_goto (q := 18) dL_stopIdle_9 (by decide) ?_
  refine V_iconst (x := 0) dL_stopIdle_18 rfl rfl ?_
  exact V_iret dL_stopIdle_19 rfl rfl ⟨(Nat.le_of_ble_eq_true rfl), (Nat.le_of_ble_eq_true rfl)⟩
theorem k_L_stopIdle (a0 : Nat) (a1 : Int32) (a2 : Nat) (M : Mem) : K mi_L_stopIdle [.ref a0, .int a1, .ref a2] M (f_L_stopIdle a0 a1 a2 M) wI := K_of_VW ok_L_stopIdle (Nat.le_of_ble_eq_true rfl) (v_L_stopIdle a0 a1 a2 M)
theorem dL_fetch_0 : decode cL_fetch 0 = .ok (.aload 5, 2) := by decide +kernel
theorem dL_fetch_2 : decode cL_fetch 2 = .ok (.iconst 0, 1) := by decide +kernel
theorem dL_fetch_3 : decode cL_fetch 3 = .ok (.aload_n 0, 1) := by decide +kernel
theorem dL_fetch_4 : decode cL_fetch 4 = .ok (.iload_n 1, 1) := by decide +kernel
theorem dL_fetch_5 : decode cL_fetch 5 = .ok (.iload_n 2, 1) := by decide +kernel
theorem dL_fetch_6 : decode cL_fetch 6 = .ok (.iload_n 3, 1) := by decide +kernel
theorem dL_fetch_7 : decode cL_fetch 7 = .ok (.iload 4, 2) := by decide +kernel
theorem dL_fetch_9 : decode cL_fetch 9 = .ok (.invokevirtual 101, 3) := by decide +kernel
theorem dL_fetch_12 : decode cL_fetch 12 = .ok (.i2l, 1) := by decide +kernel
theorem dL_fetch_13 : decode cL_fetch 13 = .ok (.lastore, 1) := by decide +kernel
theorem dL_fetch_14 : decode cL_fetch 14 = .ok (.goto 15, 3) := by decide +kernel
theorem dL_fetch_17 : decode cL_fetch 17 = .ok (.astore 6, 2) := by decide +kernel
theorem dL_fetch_19 : decode cL_fetch 19 = .ok (.iconst 1, 1) := by decide +kernel
theorem dL_fetch_20 : decode cL_fetch 20 = .ok (.ireturn, 1) := by decide +kernel
theorem dL_fetch_21 : decode cL_fetch 21 = .ok (.astore 6, 2) := by decide +kernel
theorem dL_fetch_23 : decode cL_fetch 23 = .ok (.iconst 2, 1) := by decide +kernel
theorem dL_fetch_24 : decode cL_fetch 24 = .ok (.ireturn, 1) := by decide +kernel
theorem dL_fetch_25 : decode cL_fetch 25 = .ok (.astore 6, 2) := by decide +kernel
theorem dL_fetch_27 : decode cL_fetch 27 = .ok (.iconst 3, 1) := by decide +kernel
theorem dL_fetch_28 : decode cL_fetch 28 = .ok (.ireturn, 1) := by decide +kernel
theorem dL_fetch_29 : decode cL_fetch 29 = .ok (.iconst 0, 1) := by decide +kernel
theorem dL_fetch_30 : decode cL_fetch 30 = .ok (.ireturn, 1) := by decide +kernel
def mi_L_fetch : MI := (RL, yL_fetch, cL_fetch, 7, some .int, [(0, 14, 17, 29), (0, 14, 21, 19), (0, 14, 25, 13)], { frames := 10, cells := 5, slots := 30, locals := 205 })
theorem ok_L_fetch : mOKW mi_L_fetch 6 := ⟨rfl, cw_L_fetch, ini_L, ⟨rfl, by decide⟩, by decide, by decide, rfl⟩
theorem ha_L_fetch : hAll mi_L_fetch 9 mi_L_fetch.hh [("java/lang/IndexOutOfBoundsException", 1), ("java/lang/IllegalArgumentException", 2), ("java/lang/IllegalStateException", 3)] [] := ⟨⟨⟨by decide, by decide⟩, by decide, cl_L_29, ca_IndexOutOfBoundsException, ⟨1, 2, rfl, dL_fetch_19, dL_fetch_20, Or.inl ⟨rfl, 6, by decide, dL_fetch_17⟩⟩⟩, (fun p hp => nomatch hp), ⟨⟨⟨by decide, by decide⟩, by decide, cl_L_19, ca_IllegalArgumentException, ⟨2, 2, rfl, dL_fetch_23, dL_fetch_24, Or.inl ⟨rfl, 6, by decide, dL_fetch_21⟩⟩⟩, (List.forall_mem_cons.mpr ⟨nc_IllegalArgumentException_IndexOutOfBoundsException, fun p hp => nomatch hp⟩), ⟨⟨⟨by decide, by decide⟩, by decide, cl_L_13, ca_IllegalStateException, ⟨3, 2, rfl, dL_fetch_27, dL_fetch_28, Or.inl ⟨rfl, 6, by decide, dL_fetch_25⟩⟩⟩, (List.forall_mem_cons.mpr ⟨nc_IllegalStateException_IllegalArgumentException, List.forall_mem_cons.mpr ⟨nc_IllegalStateException_IndexOutOfBoundsException, fun p hp => nomatch hp⟩⟩), trivial⟩⟩⟩
theorem v_L_fetch (a0 : Nat) (a1 : Int32) (a2 : Int32) (a3 : Int32) (a4 : Bool) (a5 : Nat) (M : Mem) : V mi_L_fetch 0 [(0, .ref a0), (1, .int a1), (2, .int a2), (3, .int a3), (4, .int (b2i a4)), (5, .ref a5)] [] M 0 0 (f_L_fetch a0 a1 a2 a3 a4 a5 M) wI := by
  unfold f_L_fetch
  refine V_aload dL_fetch_0 rfl 5 rfl ?_
  refine V_iconst (x := 0) dL_fetch_2 rfl rfl ?_
  refine V_aload_n dL_fetch_3 rfl 0 rfl ?_
  refine V_iload_n dL_fetch_4 rfl 1 rfl ?_
  refine V_iload_n dL_fetch_5 rfl 2 rfl ?_
  refine V_iload_n dL_fetch_6 rfl 3 rfl ?_
  refine V_iload dL_fetch_7 rfl 4 rfl ?_
  refine V_cVH (wv := fun r => some (.int r)) (hs := [("java/lang/IndexOutOfBoundsException", 1), ("java/lang/IllegalArgumentException", 2), ("java/lang/IllegalStateException", 3)]) (As := [.int a1, .int a2, .int a3, .int (b2i a4)]) (k_X11_fetch a0 a1 a2 a3 a4 M) (fun _ h => o_X11_fetch h) ok_X11_fetch im_X11_fetch se_X11_fetch rfl (ci := 10) rfl ml_L_101 ⟨⟨(Nat.le_of_ble_eq_true rfl), (Nat.le_of_ble_eq_true rfl)⟩, (Nat.le_of_ble_eq_true rfl), (Nat.le_of_ble_eq_true rfl)⟩ dL_fetch_9 rfl rfl rfl (Nat.le_of_ble_eq_true rfl) ha_L_fetch rfl (fun _ _ => rfl) (fun _ _ => rfl) rfl rfl (fun x1 M2 => ?_)
  refine V_i2l dL_fetch_12 rfl ?_
  refine V_lastore dL_fetch_13 rfl (fun M3 => ?_)
  refine V_goto (q := 29) dL_fetch_14 (by decide) ?_
  refine V_iconst (x := 0) dL_fetch_29 rfl rfl ?_
  exact V_iret dL_fetch_30 rfl rfl ⟨(Nat.le_of_ble_eq_true rfl), (Nat.le_of_ble_eq_true rfl)⟩
theorem k_L_fetch (a0 : Nat) (a1 : Int32) (a2 : Int32) (a3 : Int32) (a4 : Bool) (a5 : Nat) (M : Mem) : K mi_L_fetch [.ref a0, .int a1, .int a2, .int a3, .int (b2i a4), .ref a5] M (f_L_fetch a0 a1 a2 a3 a4 a5 M) wI := K_of_VW ok_L_fetch (Nat.le_of_ble_eq_true rfl) (v_L_fetch a0 a1 a2 a3 a4 a5 M)
theorem dL_store_0 : decode cL_store 0 = .ok (.aload 7, 2) := by decide +kernel
theorem dL_store_2 : decode cL_store 2 = .ok (.iconst 0, 1) := by decide +kernel
theorem dL_store_3 : decode cL_store 3 = .ok (.aload_n 0, 1) := by decide +kernel
theorem dL_store_4 : decode cL_store 4 = .ok (.iload_n 1, 1) := by decide +kernel
theorem dL_store_5 : decode cL_store 5 = .ok (.iload_n 2, 1) := by decide +kernel
theorem dL_store_6 : decode cL_store 6 = .ok (.iload_n 3, 1) := by decide +kernel
theorem dL_store_7 : decode cL_store 7 = .ok (.iload 4, 2) := by decide +kernel
theorem dL_store_9 : decode cL_store 9 = .ok (.iload 5, 2) := by decide +kernel
theorem dL_store_11 : decode cL_store 11 = .ok (.iload 6, 2) := by decide +kernel
theorem dL_store_13 : decode cL_store 13 = .ok (.invokevirtual 105, 3) := by decide +kernel
theorem dL_store_16 : decode cL_store 16 = .ok (.i2l, 1) := by decide +kernel
theorem dL_store_17 : decode cL_store 17 = .ok (.lastore, 1) := by decide +kernel
theorem dL_store_18 : decode cL_store 18 = .ok (.goto 15, 3) := by decide +kernel
theorem dL_store_21 : decode cL_store 21 = .ok (.astore 8, 2) := by decide +kernel
theorem dL_store_23 : decode cL_store 23 = .ok (.iconst 1, 1) := by decide +kernel
theorem dL_store_24 : decode cL_store 24 = .ok (.ireturn, 1) := by decide +kernel
theorem dL_store_25 : decode cL_store 25 = .ok (.astore 8, 2) := by decide +kernel
theorem dL_store_27 : decode cL_store 27 = .ok (.iconst 2, 1) := by decide +kernel
theorem dL_store_28 : decode cL_store 28 = .ok (.ireturn, 1) := by decide +kernel
theorem dL_store_29 : decode cL_store 29 = .ok (.astore 8, 2) := by decide +kernel
theorem dL_store_31 : decode cL_store 31 = .ok (.iconst 3, 1) := by decide +kernel
theorem dL_store_32 : decode cL_store 32 = .ok (.ireturn, 1) := by decide +kernel
theorem dL_store_33 : decode cL_store 33 = .ok (.iconst 0, 1) := by decide +kernel
theorem dL_store_34 : decode cL_store 34 = .ok (.ireturn, 1) := by decide +kernel
def mi_L_store : MI := (RL, yL_store, cL_store, 9, some .int, [(0, 18, 21, 29), (0, 18, 25, 19), (0, 18, 29, 13)], { frames := 11, cells := 7, slots := 42, locals := 207 })
theorem ok_L_store : mOKW mi_L_store 8 := ⟨rfl, cw_L_store, ini_L, ⟨rfl, by decide⟩, by decide, by decide, rfl⟩
theorem ha_L_store : hAll mi_L_store 13 mi_L_store.hh [("java/lang/IndexOutOfBoundsException", 1), ("java/lang/IllegalArgumentException", 2), ("java/lang/IllegalStateException", 3)] [] := ⟨⟨⟨by decide, by decide⟩, by decide, cl_L_29, ca_IndexOutOfBoundsException, ⟨1, 2, rfl, dL_store_23, dL_store_24, Or.inl ⟨rfl, 8, by decide, dL_store_21⟩⟩⟩, (fun p hp => nomatch hp), ⟨⟨⟨by decide, by decide⟩, by decide, cl_L_19, ca_IllegalArgumentException, ⟨2, 2, rfl, dL_store_27, dL_store_28, Or.inl ⟨rfl, 8, by decide, dL_store_25⟩⟩⟩, (List.forall_mem_cons.mpr ⟨nc_IllegalArgumentException_IndexOutOfBoundsException, fun p hp => nomatch hp⟩), ⟨⟨⟨by decide, by decide⟩, by decide, cl_L_13, ca_IllegalStateException, ⟨3, 2, rfl, dL_store_31, dL_store_32, Or.inl ⟨rfl, 8, by decide, dL_store_29⟩⟩⟩, (List.forall_mem_cons.mpr ⟨nc_IllegalStateException_IllegalArgumentException, List.forall_mem_cons.mpr ⟨nc_IllegalStateException_IndexOutOfBoundsException, fun p hp => nomatch hp⟩⟩), trivial⟩⟩⟩
theorem v_L_store (a0 : Nat) (a1 : Int32) (a2 : Int32) (a3 : Int32) (a4 : Int32) (a5 : Int32) (a6 : Bool) (a7 : Nat) (M : Mem) : V mi_L_store 0 [(0, .ref a0), (1, .int a1), (2, .int a2), (3, .int a3), (4, .int a4), (5, .int a5), (6, .int (b2i a6)), (7, .ref a7)] [] M 0 0 (f_L_store a0 a1 a2 a3 a4 a5 a6 a7 M) wI := by
  unfold f_L_store
  refine V_aload dL_store_0 rfl 7 rfl ?_
  refine V_iconst (x := 0) dL_store_2 rfl rfl ?_
  refine V_aload_n dL_store_3 rfl 0 rfl ?_
  refine V_iload_n dL_store_4 rfl 1 rfl ?_
  refine V_iload_n dL_store_5 rfl 2 rfl ?_
  refine V_iload_n dL_store_6 rfl 3 rfl ?_
  refine V_iload dL_store_7 rfl 4 rfl ?_
  refine V_iload dL_store_9 rfl 5 rfl ?_
  refine V_iload dL_store_11 rfl 6 rfl ?_
  refine V_cVH (wv := fun r => some (.int r)) (hs := [("java/lang/IndexOutOfBoundsException", 1), ("java/lang/IllegalArgumentException", 2), ("java/lang/IllegalStateException", 3)]) (As := [.int a1, .int a2, .int a3, .int a4, .int a5, .int (b2i a6)]) (k_X11_store a0 a1 a2 a3 a4 a5 a6 M) (fun _ h => o_X11_store h) ok_X11_store im_X11_store se_X11_store rfl (ci := 10) rfl ml_L_105 ⟨⟨(Nat.le_of_ble_eq_true rfl), (Nat.le_of_ble_eq_true rfl)⟩, (Nat.le_of_ble_eq_true rfl), (Nat.le_of_ble_eq_true rfl)⟩ dL_store_13 rfl rfl rfl (Nat.le_of_ble_eq_true rfl) ha_L_store rfl (fun _ _ => rfl) (fun _ _ => rfl) rfl rfl (fun x1 M2 => ?_)
  refine V_i2l dL_store_16 rfl ?_
  refine V_lastore dL_store_17 rfl (fun M3 => ?_)
  refine V_goto (q := 33) dL_store_18 (by decide) ?_
  refine V_iconst (x := 0) dL_store_33 rfl rfl ?_
  exact V_iret dL_store_34 rfl rfl ⟨(Nat.le_of_ble_eq_true rfl), (Nat.le_of_ble_eq_true rfl)⟩
theorem k_L_store (a0 : Nat) (a1 : Int32) (a2 : Int32) (a3 : Int32) (a4 : Int32) (a5 : Int32) (a6 : Bool) (a7 : Nat) (M : Mem) : K mi_L_store [.ref a0, .int a1, .int a2, .int a3, .int a4, .int a5, .int (b2i a6), .ref a7] M (f_L_store a0 a1 a2 a3 a4 a5 a6 a7 M) wI := K_of_VW ok_L_store (Nat.le_of_ble_eq_true rfl) (v_L_store a0 a1 a2 a3 a4 a5 a6 a7 M)
theorem dL_uidStore_0 : decode cL_uidStore 0 = .ok (.aload 6, 2) := by decide +kernel
theorem dL_uidStore_2 : decode cL_uidStore 2 = .ok (.iconst 0, 1) := by decide +kernel
theorem dL_uidStore_3 : decode cL_uidStore 3 = .ok (.aload_n 0, 1) := by decide +kernel
theorem dL_uidStore_4 : decode cL_uidStore 4 = .ok (.iload_n 1, 1) := by decide +kernel
theorem dL_uidStore_5 : decode cL_uidStore 5 = .ok (.iload_n 2, 1) := by decide +kernel
theorem dL_uidStore_6 : decode cL_uidStore 6 = .ok (.iload_n 3, 1) := by decide +kernel
theorem dL_uidStore_7 : decode cL_uidStore 7 = .ok (.iload 4, 2) := by decide +kernel
theorem dL_uidStore_9 : decode cL_uidStore 9 = .ok (.iload 5, 2) := by decide +kernel
theorem dL_uidStore_11 : decode cL_uidStore 11 = .ok (.invokevirtual 109, 3) := by decide +kernel
theorem dL_uidStore_14 : decode cL_uidStore 14 = .ok (.i2l, 1) := by decide +kernel
theorem dL_uidStore_15 : decode cL_uidStore 15 = .ok (.lastore, 1) := by decide +kernel
theorem dL_uidStore_16 : decode cL_uidStore 16 = .ok (.goto 15, 3) := by decide +kernel
theorem dL_uidStore_19 : decode cL_uidStore 19 = .ok (.astore 7, 2) := by decide +kernel
theorem dL_uidStore_21 : decode cL_uidStore 21 = .ok (.iconst 1, 1) := by decide +kernel
theorem dL_uidStore_22 : decode cL_uidStore 22 = .ok (.ireturn, 1) := by decide +kernel
theorem dL_uidStore_23 : decode cL_uidStore 23 = .ok (.astore 7, 2) := by decide +kernel
theorem dL_uidStore_25 : decode cL_uidStore 25 = .ok (.iconst 2, 1) := by decide +kernel
theorem dL_uidStore_26 : decode cL_uidStore 26 = .ok (.ireturn, 1) := by decide +kernel
theorem dL_uidStore_27 : decode cL_uidStore 27 = .ok (.astore 7, 2) := by decide +kernel
theorem dL_uidStore_29 : decode cL_uidStore 29 = .ok (.iconst 3, 1) := by decide +kernel
theorem dL_uidStore_30 : decode cL_uidStore 30 = .ok (.ireturn, 1) := by decide +kernel
theorem dL_uidStore_31 : decode cL_uidStore 31 = .ok (.iconst 0, 1) := by decide +kernel
theorem dL_uidStore_32 : decode cL_uidStore 32 = .ok (.ireturn, 1) := by decide +kernel
def mi_L_uidStore : MI := (RL, yL_uidStore, cL_uidStore, 8, some .int, [(0, 16, 19, 29), (0, 16, 23, 19), (0, 16, 27, 13)], { frames := 11, cells := 4, slots := 24, locals := 206 })
theorem ok_L_uidStore : mOKW mi_L_uidStore 7 := ⟨rfl, cw_L_uidStore, ini_L, ⟨rfl, by decide⟩, by decide, by decide, rfl⟩
theorem ha_L_uidStore : hAll mi_L_uidStore 11 mi_L_uidStore.hh [("java/lang/IndexOutOfBoundsException", 1), ("java/lang/IllegalArgumentException", 2), ("java/lang/IllegalStateException", 3)] [] := ⟨⟨⟨by decide, by decide⟩, by decide, cl_L_29, ca_IndexOutOfBoundsException, ⟨1, 2, rfl, dL_uidStore_21, dL_uidStore_22, Or.inl ⟨rfl, 7, by decide, dL_uidStore_19⟩⟩⟩, (fun p hp => nomatch hp), ⟨⟨⟨by decide, by decide⟩, by decide, cl_L_19, ca_IllegalArgumentException, ⟨2, 2, rfl, dL_uidStore_25, dL_uidStore_26, Or.inl ⟨rfl, 7, by decide, dL_uidStore_23⟩⟩⟩, (List.forall_mem_cons.mpr ⟨nc_IllegalArgumentException_IndexOutOfBoundsException, fun p hp => nomatch hp⟩), ⟨⟨⟨by decide, by decide⟩, by decide, cl_L_13, ca_IllegalStateException, ⟨3, 2, rfl, dL_uidStore_29, dL_uidStore_30, Or.inl ⟨rfl, 7, by decide, dL_uidStore_27⟩⟩⟩, (List.forall_mem_cons.mpr ⟨nc_IllegalStateException_IllegalArgumentException, List.forall_mem_cons.mpr ⟨nc_IllegalStateException_IndexOutOfBoundsException, fun p hp => nomatch hp⟩⟩), trivial⟩⟩⟩
theorem v_L_uidStore (a0 : Nat) (a1 : Int32) (a2 : Int32) (a3 : Int32) (a4 : Int32) (a5 : Int32) (a6 : Nat) (M : Mem) : V mi_L_uidStore 0 [(0, .ref a0), (1, .int a1), (2, .int a2), (3, .int a3), (4, .int a4), (5, .int a5), (6, .ref a6)] [] M 0 0 (f_L_uidStore a0 a1 a2 a3 a4 a5 a6 M) wI := by
  unfold f_L_uidStore
  refine V_aload dL_uidStore_0 rfl 6 rfl ?_
  refine V_iconst (x := 0) dL_uidStore_2 rfl rfl ?_
  refine V_aload_n dL_uidStore_3 rfl 0 rfl ?_
  refine V_iload_n dL_uidStore_4 rfl 1 rfl ?_
  refine V_iload_n dL_uidStore_5 rfl 2 rfl ?_
  refine V_iload_n dL_uidStore_6 rfl 3 rfl ?_
  refine V_iload dL_uidStore_7 rfl 4 rfl ?_
  refine V_iload dL_uidStore_9 rfl 5 rfl ?_
  refine V_cVH (wv := fun r => some (.int r)) (hs := [("java/lang/IndexOutOfBoundsException", 1), ("java/lang/IllegalArgumentException", 2), ("java/lang/IllegalStateException", 3)]) (As := [.int a1, .int a2, .int a3, .int a4, .int a5]) (k_X11_uidStore a0 a1 a2 a3 a4 a5 M) (fun _ h => o_X11_uidStore h) ok_X11_uidStore im_X11_uidStore se_X11_uidStore rfl (ci := 10) rfl ml_L_109 ⟨⟨(Nat.le_of_ble_eq_true rfl), (Nat.le_of_ble_eq_true rfl)⟩, (Nat.le_of_ble_eq_true rfl), (Nat.le_of_ble_eq_true rfl)⟩ dL_uidStore_11 rfl rfl rfl (Nat.le_of_ble_eq_true rfl) ha_L_uidStore rfl (fun _ _ => rfl) (fun _ _ => rfl) rfl rfl (fun x1 M2 => ?_)
  refine V_i2l dL_uidStore_14 rfl ?_
  refine V_lastore dL_uidStore_15 rfl (fun M3 => ?_)
  refine V_goto (q := 31) dL_uidStore_16 (by decide) ?_
  refine V_iconst (x := 0) dL_uidStore_31 rfl rfl ?_
  exact V_iret dL_uidStore_32 rfl rfl ⟨(Nat.le_of_ble_eq_true rfl), (Nat.le_of_ble_eq_true rfl)⟩
theorem k_L_uidStore (a0 : Nat) (a1 : Int32) (a2 : Int32) (a3 : Int32) (a4 : Int32) (a5 : Int32) (a6 : Nat) (M : Mem) : K mi_L_uidStore [.ref a0, .int a1, .int a2, .int a3, .int a4, .int a5, .ref a6] M (f_L_uidStore a0 a1 a2 a3 a4 a5 a6 M) wI := K_of_VW ok_L_uidStore (Nat.le_of_ble_eq_true rfl) (v_L_uidStore a0 a1 a2 a3 a4 a5 a6 M)
theorem dL_search_0 : decode cL_search 0 = .ok (.aload_n 2, 1) := by decide +kernel
theorem dL_search_1 : decode cL_search 1 = .ok (.iconst 0, 1) := by decide +kernel
theorem dL_search_2 : decode cL_search 2 = .ok (.aload_n 0, 1) := by decide +kernel
theorem dL_search_3 : decode cL_search 3 = .ok (.iload_n 1, 1) := by decide +kernel
theorem dL_search_4 : decode cL_search 4 = .ok (.invokevirtual 112, 3) := by decide +kernel
theorem dL_search_7 : decode cL_search 7 = .ok (.lastore, 1) := by decide +kernel
theorem dL_search_8 : decode cL_search 8 = .ok (.goto 9, 3) := by decide +kernel
theorem dL_search_11 : decode cL_search 11 = .ok (.astore_n 3, 1) := by decide +kernel
theorem dL_search_12 : decode cL_search 12 = .ok (.iconst 1, 1) := by decide +kernel
theorem dL_search_13 : decode cL_search 13 = .ok (.ireturn, 1) := by decide +kernel
theorem dL_search_14 : decode cL_search 14 = .ok (.astore_n 3, 1) := by decide +kernel
theorem dL_search_15 : decode cL_search 15 = .ok (.iconst 2, 1) := by decide +kernel
theorem dL_search_16 : decode cL_search 16 = .ok (.ireturn, 1) := by decide +kernel
theorem dL_search_17 : decode cL_search 17 = .ok (.iconst 0, 1) := by decide +kernel
theorem dL_search_18 : decode cL_search 18 = .ok (.ireturn, 1) := by decide +kernel
def mi_L_search : MI := (RL, yL_search, cL_search, 4, some .int, [(0, 8, 11, 29), (0, 8, 14, 13)], { frames := 49, cells := 2, slots := 12, locals := 1174 })
theorem ok_L_search : mOKW mi_L_search 3 := ⟨rfl, cw_L_search, ini_L, ⟨rfl, by decide⟩, by decide, by decide, rfl⟩
theorem ha_L_search : hAll mi_L_search 4 mi_L_search.hh [("java/lang/IndexOutOfBoundsException", 1), ("java/lang/IllegalStateException", 2)] [] := ⟨⟨⟨by decide, by decide⟩, by decide, cl_L_29, ca_IndexOutOfBoundsException, ⟨1, 1, rfl, dL_search_12, dL_search_13, Or.inr ⟨rfl, 3, by decide, dL_search_11⟩⟩⟩, (fun p hp => nomatch hp), ⟨⟨⟨by decide, by decide⟩, by decide, cl_L_13, ca_IllegalStateException, ⟨2, 1, rfl, dL_search_15, dL_search_16, Or.inr ⟨rfl, 3, by decide, dL_search_14⟩⟩⟩, (List.forall_mem_cons.mpr ⟨nc_IllegalStateException_IndexOutOfBoundsException, fun p hp => nomatch hp⟩), trivial⟩⟩
theorem v_L_search (a0 : Nat) (a1 : Int32) (a2 : Nat) (M : Mem) : V mi_L_search 0 [(0, .ref a0), (1, .int a1), (2, .ref a2)] [] M 0 0 (f_L_search a0 a1 a2 M) wI := by
  unfold f_L_search
  refine V_aload_n dL_search_0 rfl 2 rfl ?_
  refine V_iconst (x := 0) dL_search_1 rfl rfl ?_
  refine V_aload_n dL_search_2 rfl 0 rfl ?_
  refine V_iload_n dL_search_3 rfl 1 rfl ?_
  refine V_cVH (wv := fun r => some (.long r)) (hs := [("java/lang/IndexOutOfBoundsException", 1), ("java/lang/IllegalStateException", 2)]) (As := [.int a1]) (k_X11_search a0 a1 M) (fun _ h => o_X11_search h) ok_X11_search im_X11_search se_X11_search rfl (ci := 10) rfl ml_L_112 ⟨⟨(Nat.le_of_ble_eq_true rfl), (Nat.le_of_ble_eq_true rfl)⟩, (Nat.le_of_ble_eq_true rfl), (Nat.le_of_ble_eq_true rfl)⟩ dL_search_4 rfl rfl rfl (Nat.le_of_ble_eq_true rfl) ha_L_search rfl (fun _ _ => rfl) (fun _ _ => rfl) rfl rfl (fun x1 M2 => ?_)
  refine V_lastore dL_search_7 rfl (fun M3 => ?_)
  refine V_goto (q := 17) dL_search_8 (by decide) ?_
  refine V_iconst (x := 0) dL_search_17 rfl rfl ?_
  exact V_iret dL_search_18 rfl rfl ⟨(Nat.le_of_ble_eq_true rfl), (Nat.le_of_ble_eq_true rfl)⟩
theorem k_L_search (a0 : Nat) (a1 : Int32) (a2 : Nat) (M : Mem) : K mi_L_search [.ref a0, .int a1, .ref a2] M (f_L_search a0 a1 a2 M) wI := K_of_VW ok_L_search (Nat.le_of_ble_eq_true rfl) (v_L_search a0 a1 a2 M)
theorem dL_expunge_0 : decode cL_expunge 0 = .ok (.aload_n 2, 1) := by decide +kernel
theorem dL_expunge_1 : decode cL_expunge 1 = .ok (.iconst 0, 1) := by decide +kernel
theorem dL_expunge_2 : decode cL_expunge 2 = .ok (.aload_n 0, 1) := by decide +kernel
theorem dL_expunge_3 : decode cL_expunge 3 = .ok (.iload_n 1, 1) := by decide +kernel
theorem dL_expunge_4 : decode cL_expunge 4 = .ok (.invokevirtual 116, 3) := by decide +kernel
theorem dL_expunge_7 : decode cL_expunge 7 = .ok (.i2l, 1) := by decide +kernel
theorem dL_expunge_8 : decode cL_expunge 8 = .ok (.lastore, 1) := by decide +kernel
theorem dL_expunge_9 : decode cL_expunge 9 = .ok (.goto 9, 3) := by decide +kernel
theorem dL_expunge_12 : decode cL_expunge 12 = .ok (.astore_n 3, 1) := by decide +kernel
theorem dL_expunge_13 : decode cL_expunge 13 = .ok (.iconst 1, 1) := by decide +kernel
theorem dL_expunge_14 : decode cL_expunge 14 = .ok (.ireturn, 1) := by decide +kernel
theorem dL_expunge_15 : decode cL_expunge 15 = .ok (.astore_n 3, 1) := by decide +kernel
theorem dL_expunge_16 : decode cL_expunge 16 = .ok (.iconst 2, 1) := by decide +kernel
theorem dL_expunge_17 : decode cL_expunge 17 = .ok (.ireturn, 1) := by decide +kernel
theorem dL_expunge_18 : decode cL_expunge 18 = .ok (.iconst 0, 1) := by decide +kernel
theorem dL_expunge_19 : decode cL_expunge 19 = .ok (.ireturn, 1) := by decide +kernel
def mi_L_expunge : MI := (RL, yL_expunge, cL_expunge, 4, some .int, [(0, 9, 12, 29), (0, 9, 15, 13)], { frames := 11, cells := 3, slots := 18, locals := 200 })
theorem ok_L_expunge : mOKW mi_L_expunge 3 := ⟨rfl, cw_L_expunge, ini_L, ⟨rfl, by decide⟩, by decide, by decide, rfl⟩
theorem ha_L_expunge : hAll mi_L_expunge 4 mi_L_expunge.hh [("java/lang/IndexOutOfBoundsException", 1), ("java/lang/IllegalStateException", 2)] [] := ⟨⟨⟨by decide, by decide⟩, by decide, cl_L_29, ca_IndexOutOfBoundsException, ⟨1, 1, rfl, dL_expunge_13, dL_expunge_14, Or.inr ⟨rfl, 3, by decide, dL_expunge_12⟩⟩⟩, (fun p hp => nomatch hp), ⟨⟨⟨by decide, by decide⟩, by decide, cl_L_13, ca_IllegalStateException, ⟨2, 1, rfl, dL_expunge_16, dL_expunge_17, Or.inr ⟨rfl, 3, by decide, dL_expunge_15⟩⟩⟩, (List.forall_mem_cons.mpr ⟨nc_IllegalStateException_IndexOutOfBoundsException, fun p hp => nomatch hp⟩), trivial⟩⟩
theorem v_L_expunge (a0 : Nat) (a1 : Int32) (a2 : Nat) (M : Mem) : V mi_L_expunge 0 [(0, .ref a0), (1, .int a1), (2, .ref a2)] [] M 0 0 (f_L_expunge a0 a1 a2 M) wI := by
  unfold f_L_expunge
  refine V_aload_n dL_expunge_0 rfl 2 rfl ?_
  refine V_iconst (x := 0) dL_expunge_1 rfl rfl ?_
  refine V_aload_n dL_expunge_2 rfl 0 rfl ?_
  refine V_iload_n dL_expunge_3 rfl 1 rfl ?_
  refine V_cVH (wv := fun r => some (.int r)) (hs := [("java/lang/IndexOutOfBoundsException", 1), ("java/lang/IllegalStateException", 2)]) (As := [.int a1]) (k_X11_expunge a0 a1 M) (fun _ h => o_X11_expunge h) ok_X11_expunge im_X11_expunge se_X11_expunge rfl (ci := 10) rfl ml_L_116 ⟨⟨(Nat.le_of_ble_eq_true rfl), (Nat.le_of_ble_eq_true rfl)⟩, (Nat.le_of_ble_eq_true rfl), (Nat.le_of_ble_eq_true rfl)⟩ dL_expunge_4 rfl rfl rfl (Nat.le_of_ble_eq_true rfl) ha_L_expunge rfl (fun _ _ => rfl) (fun _ _ => rfl) rfl rfl (fun x1 M2 => ?_)
  refine V_i2l dL_expunge_7 rfl ?_
  refine V_lastore dL_expunge_8 rfl (fun M3 => ?_)
  refine V_goto (q := 18) dL_expunge_9 (by decide) ?_
  refine V_iconst (x := 0) dL_expunge_18 rfl rfl ?_
  exact V_iret dL_expunge_19 rfl rfl ⟨(Nat.le_of_ble_eq_true rfl), (Nat.le_of_ble_eq_true rfl)⟩
theorem k_L_expunge (a0 : Nat) (a1 : Int32) (a2 : Nat) (M : Mem) : K mi_L_expunge [.ref a0, .int a1, .ref a2] M (f_L_expunge a0 a1 a2 M) wI := K_of_VW ok_L_expunge (Nat.le_of_ble_eq_true rfl) (v_L_expunge a0 a1 a2 M)
theorem dL_uidExpunge_0 : decode cL_uidExpunge 0 = .ok (.aload 4, 2) := by decide +kernel
theorem dL_uidExpunge_2 : decode cL_uidExpunge 2 = .ok (.iconst 0, 1) := by decide +kernel
theorem dL_uidExpunge_3 : decode cL_uidExpunge 3 = .ok (.aload_n 0, 1) := by decide +kernel
theorem dL_uidExpunge_4 : decode cL_uidExpunge 4 = .ok (.iload_n 1, 1) := by decide +kernel
theorem dL_uidExpunge_5 : decode cL_uidExpunge 5 = .ok (.iload_n 2, 1) := by decide +kernel
theorem dL_uidExpunge_6 : decode cL_uidExpunge 6 = .ok (.iload_n 3, 1) := by decide +kernel
theorem dL_uidExpunge_7 : decode cL_uidExpunge 7 = .ok (.invokevirtual 119, 3) := by decide +kernel
theorem dL_uidExpunge_10 : decode cL_uidExpunge 10 = .ok (.i2l, 1) := by decide +kernel
theorem dL_uidExpunge_11 : decode cL_uidExpunge 11 = .ok (.lastore, 1) := by decide +kernel
theorem dL_uidExpunge_12 : decode cL_uidExpunge 12 = .ok (.goto 11, 3) := by decide +kernel
theorem dL_uidExpunge_15 : decode cL_uidExpunge 15 = .ok (.astore 5, 2) := by decide +kernel
theorem dL_uidExpunge_17 : decode cL_uidExpunge 17 = .ok (.iconst 1, 1) := by decide +kernel
theorem dL_uidExpunge_18 : decode cL_uidExpunge 18 = .ok (.ireturn, 1) := by decide +kernel
theorem dL_uidExpunge_19 : decode cL_uidExpunge 19 = .ok (.astore 5, 2) := by decide +kernel
theorem dL_uidExpunge_21 : decode cL_uidExpunge 21 = .ok (.iconst 2, 1) := by decide +kernel
theorem dL_uidExpunge_22 : decode cL_uidExpunge 22 = .ok (.ireturn, 1) := by decide +kernel
theorem dL_uidExpunge_23 : decode cL_uidExpunge 23 = .ok (.iconst 0, 1) := by decide +kernel
theorem dL_uidExpunge_24 : decode cL_uidExpunge 24 = .ok (.ireturn, 1) := by decide +kernel
def mi_L_uidExpunge : MI := (RL, yL_uidExpunge, cL_uidExpunge, 6, some .int, [(0, 12, 15, 29), (0, 12, 19, 13)], { frames := 11, cells := 3, slots := 18, locals := 202 })
theorem ok_L_uidExpunge : mOKW mi_L_uidExpunge 5 := ⟨rfl, cw_L_uidExpunge, ini_L, ⟨rfl, by decide⟩, by decide, by decide, rfl⟩
theorem ha_L_uidExpunge : hAll mi_L_uidExpunge 7 mi_L_uidExpunge.hh [("java/lang/IndexOutOfBoundsException", 1), ("java/lang/IllegalStateException", 2)] [] := ⟨⟨⟨by decide, by decide⟩, by decide, cl_L_29, ca_IndexOutOfBoundsException, ⟨1, 2, rfl, dL_uidExpunge_17, dL_uidExpunge_18, Or.inl ⟨rfl, 5, by decide, dL_uidExpunge_15⟩⟩⟩, (fun p hp => nomatch hp), ⟨⟨⟨by decide, by decide⟩, by decide, cl_L_13, ca_IllegalStateException, ⟨2, 2, rfl, dL_uidExpunge_21, dL_uidExpunge_22, Or.inl ⟨rfl, 5, by decide, dL_uidExpunge_19⟩⟩⟩, (List.forall_mem_cons.mpr ⟨nc_IllegalStateException_IndexOutOfBoundsException, fun p hp => nomatch hp⟩), trivial⟩⟩
theorem v_L_uidExpunge (a0 : Nat) (a1 : Int32) (a2 : Int32) (a3 : Int32) (a4 : Nat) (M : Mem) : V mi_L_uidExpunge 0 [(0, .ref a0), (1, .int a1), (2, .int a2), (3, .int a3), (4, .ref a4)] [] M 0 0 (f_L_uidExpunge a0 a1 a2 a3 a4 M) wI := by
  unfold f_L_uidExpunge
  refine V_aload dL_uidExpunge_0 rfl 4 rfl ?_
  refine V_iconst (x := 0) dL_uidExpunge_2 rfl rfl ?_
  refine V_aload_n dL_uidExpunge_3 rfl 0 rfl ?_
  refine V_iload_n dL_uidExpunge_4 rfl 1 rfl ?_
  refine V_iload_n dL_uidExpunge_5 rfl 2 rfl ?_
  refine V_iload_n dL_uidExpunge_6 rfl 3 rfl ?_
  refine V_cVH (wv := fun r => some (.int r)) (hs := [("java/lang/IndexOutOfBoundsException", 1), ("java/lang/IllegalStateException", 2)]) (As := [.int a1, .int a2, .int a3]) (k_X11_uidExpunge a0 a1 a2 a3 M) (fun _ h => o_X11_uidExpunge h) ok_X11_uidExpunge im_X11_uidExpunge se_X11_uidExpunge rfl (ci := 10) rfl ml_L_119 ⟨⟨(Nat.le_of_ble_eq_true rfl), (Nat.le_of_ble_eq_true rfl)⟩, (Nat.le_of_ble_eq_true rfl), (Nat.le_of_ble_eq_true rfl)⟩ dL_uidExpunge_7 rfl rfl rfl (Nat.le_of_ble_eq_true rfl) ha_L_uidExpunge rfl (fun _ _ => rfl) (fun _ _ => rfl) rfl rfl (fun x1 M2 => ?_)
  refine V_i2l dL_uidExpunge_10 rfl ?_
  refine V_lastore dL_uidExpunge_11 rfl (fun M3 => ?_)
  refine V_goto (q := 23) dL_uidExpunge_12 (by decide) ?_
  refine V_iconst (x := 0) dL_uidExpunge_23 rfl rfl ?_
  exact V_iret dL_uidExpunge_24 rfl rfl ⟨(Nat.le_of_ble_eq_true rfl), (Nat.le_of_ble_eq_true rfl)⟩
theorem k_L_uidExpunge (a0 : Nat) (a1 : Int32) (a2 : Int32) (a3 : Int32) (a4 : Nat) (M : Mem) : K mi_L_uidExpunge [.ref a0, .int a1, .int a2, .int a3, .ref a4] M (f_L_uidExpunge a0 a1 a2 a3 a4 M) wI := K_of_VW ok_L_uidExpunge (Nat.le_of_ble_eq_true rfl) (v_L_uidExpunge a0 a1 a2 a3 a4 M)
theorem dL_copy_0 : decode cL_copy 0 = .ok (.aload 5, 2) := by decide +kernel
theorem dL_copy_2 : decode cL_copy 2 = .ok (.iconst 0, 1) := by decide +kernel
theorem dL_copy_3 : decode cL_copy 3 = .ok (.aload_n 0, 1) := by decide +kernel
theorem dL_copy_4 : decode cL_copy 4 = .ok (.iload_n 1, 1) := by decide +kernel
theorem dL_copy_5 : decode cL_copy 5 = .ok (.iload_n 2, 1) := by decide +kernel
theorem dL_copy_6 : decode cL_copy 6 = .ok (.iload_n 3, 1) := by decide +kernel
theorem dL_copy_7 : decode cL_copy 7 = .ok (.iload 4, 2) := by decide +kernel
theorem dL_copy_9 : decode cL_copy 9 = .ok (.invokevirtual 122, 3) := by decide +kernel
theorem dL_copy_12 : decode cL_copy 12 = .ok (.i2l, 1) := by decide +kernel
theorem dL_copy_13 : decode cL_copy 13 = .ok (.lastore, 1) := by decide +kernel
theorem dL_copy_14 : decode cL_copy 14 = .ok (.goto 15, 3) := by decide +kernel
theorem dL_copy_17 : decode cL_copy 17 = .ok (.astore 6, 2) := by decide +kernel
theorem dL_copy_19 : decode cL_copy 19 = .ok (.iconst 1, 1) := by decide +kernel
theorem dL_copy_20 : decode cL_copy 20 = .ok (.ireturn, 1) := by decide +kernel
theorem dL_copy_21 : decode cL_copy 21 = .ok (.astore 6, 2) := by decide +kernel
theorem dL_copy_23 : decode cL_copy 23 = .ok (.iconst 2, 1) := by decide +kernel
theorem dL_copy_24 : decode cL_copy 24 = .ok (.ireturn, 1) := by decide +kernel
theorem dL_copy_25 : decode cL_copy 25 = .ok (.astore 6, 2) := by decide +kernel
theorem dL_copy_27 : decode cL_copy 27 = .ok (.iconst 3, 1) := by decide +kernel
theorem dL_copy_28 : decode cL_copy 28 = .ok (.ireturn, 1) := by decide +kernel
theorem dL_copy_29 : decode cL_copy 29 = .ok (.iconst 0, 1) := by decide +kernel
theorem dL_copy_30 : decode cL_copy 30 = .ok (.ireturn, 1) := by decide +kernel
def mi_L_copy : MI := (RL, yL_copy, cL_copy, 7, some .int, [(0, 14, 17, 29), (0, 14, 21, 19), (0, 14, 25, 13)], { frames := 10, cells := 7, slots := 42, locals := 204 })
theorem ok_L_copy : mOKW mi_L_copy 6 := ⟨rfl, cw_L_copy, ini_L, ⟨rfl, by decide⟩, by decide, by decide, rfl⟩
theorem ha_L_copy : hAll mi_L_copy 9 mi_L_copy.hh [("java/lang/IndexOutOfBoundsException", 1), ("java/lang/IllegalArgumentException", 2), ("java/lang/IllegalStateException", 3)] [] := ⟨⟨⟨by decide, by decide⟩, by decide, cl_L_29, ca_IndexOutOfBoundsException, ⟨1, 2, rfl, dL_copy_19, dL_copy_20, Or.inl ⟨rfl, 6, by decide, dL_copy_17⟩⟩⟩, (fun p hp => nomatch hp), ⟨⟨⟨by decide, by decide⟩, by decide, cl_L_19, ca_IllegalArgumentException, ⟨2, 2, rfl, dL_copy_23, dL_copy_24, Or.inl ⟨rfl, 6, by decide, dL_copy_21⟩⟩⟩, (List.forall_mem_cons.mpr ⟨nc_IllegalArgumentException_IndexOutOfBoundsException, fun p hp => nomatch hp⟩), ⟨⟨⟨by decide, by decide⟩, by decide, cl_L_13, ca_IllegalStateException, ⟨3, 2, rfl, dL_copy_27, dL_copy_28, Or.inl ⟨rfl, 6, by decide, dL_copy_25⟩⟩⟩, (List.forall_mem_cons.mpr ⟨nc_IllegalStateException_IllegalArgumentException, List.forall_mem_cons.mpr ⟨nc_IllegalStateException_IndexOutOfBoundsException, fun p hp => nomatch hp⟩⟩), trivial⟩⟩⟩
theorem v_L_copy (a0 : Nat) (a1 : Int32) (a2 : Int32) (a3 : Int32) (a4 : Int32) (a5 : Nat) (M : Mem) : V mi_L_copy 0 [(0, .ref a0), (1, .int a1), (2, .int a2), (3, .int a3), (4, .int a4), (5, .ref a5)] [] M 0 0 (f_L_copy a0 a1 a2 a3 a4 a5 M) wI := by
  unfold f_L_copy
  refine V_aload dL_copy_0 rfl 5 rfl ?_
  refine V_iconst (x := 0) dL_copy_2 rfl rfl ?_
  refine V_aload_n dL_copy_3 rfl 0 rfl ?_
  refine V_iload_n dL_copy_4 rfl 1 rfl ?_
  refine V_iload_n dL_copy_5 rfl 2 rfl ?_
  refine V_iload_n dL_copy_6 rfl 3 rfl ?_
  refine V_iload dL_copy_7 rfl 4 rfl ?_
  refine V_cVH (wv := fun r => some (.int r)) (hs := [("java/lang/IndexOutOfBoundsException", 1), ("java/lang/IllegalArgumentException", 2), ("java/lang/IllegalStateException", 3)]) (As := [.int a1, .int a2, .int a3, .int a4]) (k_X11_copy a0 a1 a2 a3 a4 M) (fun _ h => o_X11_copy h) ok_X11_copy im_X11_copy se_X11_copy rfl (ci := 10) rfl ml_L_122 ⟨⟨(Nat.le_of_ble_eq_true rfl), (Nat.le_of_ble_eq_true rfl)⟩, (Nat.le_of_ble_eq_true rfl), (Nat.le_of_ble_eq_true rfl)⟩ dL_copy_9 rfl rfl rfl (Nat.le_of_ble_eq_true rfl) ha_L_copy rfl (fun _ _ => rfl) (fun _ _ => rfl) rfl rfl (fun x1 M2 => ?_)
  refine V_i2l dL_copy_12 rfl ?_
  refine V_lastore dL_copy_13 rfl (fun M3 => ?_)
  refine V_goto (q := 29) dL_copy_14 (by decide) ?_
  refine V_iconst (x := 0) dL_copy_29 rfl rfl ?_
  exact V_iret dL_copy_30 rfl rfl ⟨(Nat.le_of_ble_eq_true rfl), (Nat.le_of_ble_eq_true rfl)⟩
theorem k_L_copy (a0 : Nat) (a1 : Int32) (a2 : Int32) (a3 : Int32) (a4 : Int32) (a5 : Nat) (M : Mem) : K mi_L_copy [.ref a0, .int a1, .int a2, .int a3, .int a4, .ref a5] M (f_L_copy a0 a1 a2 a3 a4 a5 M) wI := K_of_VW ok_L_copy (Nat.le_of_ble_eq_true rfl) (v_L_copy a0 a1 a2 a3 a4 a5 M)
theorem dL_move_0 : decode cL_move 0 = .ok (.aload 5, 2) := by decide +kernel
theorem dL_move_2 : decode cL_move 2 = .ok (.iconst 0, 1) := by decide +kernel
theorem dL_move_3 : decode cL_move 3 = .ok (.aload_n 0, 1) := by decide +kernel
theorem dL_move_4 : decode cL_move 4 = .ok (.iload_n 1, 1) := by decide +kernel
theorem dL_move_5 : decode cL_move 5 = .ok (.iload_n 2, 1) := by decide +kernel
theorem dL_move_6 : decode cL_move 6 = .ok (.iload_n 3, 1) := by decide +kernel
theorem dL_move_7 : decode cL_move 7 = .ok (.iload 4, 2) := by decide +kernel
theorem dL_move_9 : decode cL_move 9 = .ok (.invokevirtual 126, 3) := by decide +kernel
theorem dL_move_12 : decode cL_move 12 = .ok (.i2l, 1) := by decide +kernel
theorem dL_move_13 : decode cL_move 13 = .ok (.lastore, 1) := by decide +kernel
theorem dL_move_14 : decode cL_move 14 = .ok (.goto 15, 3) := by decide +kernel
theorem dL_move_17 : decode cL_move 17 = .ok (.astore 6, 2) := by decide +kernel
theorem dL_move_19 : decode cL_move 19 = .ok (.iconst 1, 1) := by decide +kernel
theorem dL_move_20 : decode cL_move 20 = .ok (.ireturn, 1) := by decide +kernel
theorem dL_move_21 : decode cL_move 21 = .ok (.astore 6, 2) := by decide +kernel
theorem dL_move_23 : decode cL_move 23 = .ok (.iconst 2, 1) := by decide +kernel
theorem dL_move_24 : decode cL_move 24 = .ok (.ireturn, 1) := by decide +kernel
theorem dL_move_25 : decode cL_move 25 = .ok (.astore 6, 2) := by decide +kernel
theorem dL_move_27 : decode cL_move 27 = .ok (.iconst 3, 1) := by decide +kernel
theorem dL_move_28 : decode cL_move 28 = .ok (.ireturn, 1) := by decide +kernel
theorem dL_move_29 : decode cL_move 29 = .ok (.iconst 0, 1) := by decide +kernel
theorem dL_move_30 : decode cL_move 30 = .ok (.ireturn, 1) := by decide +kernel
def mi_L_move : MI := (RL, yL_move, cL_move, 7, some .int, [(0, 14, 17, 29), (0, 14, 21, 19), (0, 14, 25, 13)], { frames := 11, cells := 8, slots := 48, locals := 204 })
theorem ok_L_move : mOKW mi_L_move 6 := ⟨rfl, cw_L_move, ini_L, ⟨rfl, by decide⟩, by decide, by decide, rfl⟩
theorem ha_L_move : hAll mi_L_move 9 mi_L_move.hh [("java/lang/IndexOutOfBoundsException", 1), ("java/lang/IllegalArgumentException", 2), ("java/lang/IllegalStateException", 3)] [] := ⟨⟨⟨by decide, by decide⟩, by decide, cl_L_29, ca_IndexOutOfBoundsException, ⟨1, 2, rfl, dL_move_19, dL_move_20, Or.inl ⟨rfl, 6, by decide, dL_move_17⟩⟩⟩, (fun p hp => nomatch hp), ⟨⟨⟨by decide, by decide⟩, by decide, cl_L_19, ca_IllegalArgumentException, ⟨2, 2, rfl, dL_move_23, dL_move_24, Or.inl ⟨rfl, 6, by decide, dL_move_21⟩⟩⟩, (List.forall_mem_cons.mpr ⟨nc_IllegalArgumentException_IndexOutOfBoundsException, fun p hp => nomatch hp⟩), ⟨⟨⟨by decide, by decide⟩, by decide, cl_L_13, ca_IllegalStateException, ⟨3, 2, rfl, dL_move_27, dL_move_28, Or.inl ⟨rfl, 6, by decide, dL_move_25⟩⟩⟩, (List.forall_mem_cons.mpr ⟨nc_IllegalStateException_IllegalArgumentException, List.forall_mem_cons.mpr ⟨nc_IllegalStateException_IndexOutOfBoundsException, fun p hp => nomatch hp⟩⟩), trivial⟩⟩⟩
theorem v_L_move (a0 : Nat) (a1 : Int32) (a2 : Int32) (a3 : Int32) (a4 : Int32) (a5 : Nat) (M : Mem) : V mi_L_move 0 [(0, .ref a0), (1, .int a1), (2, .int a2), (3, .int a3), (4, .int a4), (5, .ref a5)] [] M 0 0 (f_L_move a0 a1 a2 a3 a4 a5 M) wI := by
  unfold f_L_move
  refine V_aload dL_move_0 rfl 5 rfl ?_
  refine V_iconst (x := 0) dL_move_2 rfl rfl ?_
  refine V_aload_n dL_move_3 rfl 0 rfl ?_
  refine V_iload_n dL_move_4 rfl 1 rfl ?_
  refine V_iload_n dL_move_5 rfl 2 rfl ?_
  refine V_iload_n dL_move_6 rfl 3 rfl ?_
  refine V_iload dL_move_7 rfl 4 rfl ?_
  refine V_cVH (wv := fun r => some (.int r)) (hs := [("java/lang/IndexOutOfBoundsException", 1), ("java/lang/IllegalArgumentException", 2), ("java/lang/IllegalStateException", 3)]) (As := [.int a1, .int a2, .int a3, .int a4]) (k_X11_move a0 a1 a2 a3 a4 M) (fun _ h => o_X11_move h) ok_X11_move im_X11_move se_X11_move rfl (ci := 10) rfl ml_L_126 ⟨⟨(Nat.le_of_ble_eq_true rfl), (Nat.le_of_ble_eq_true rfl)⟩, (Nat.le_of_ble_eq_true rfl), (Nat.le_of_ble_eq_true rfl)⟩ dL_move_9 rfl rfl rfl (Nat.le_of_ble_eq_true rfl) ha_L_move rfl (fun _ _ => rfl) (fun _ _ => rfl) rfl rfl (fun x1 M2 => ?_)
  refine V_i2l dL_move_12 rfl ?_
  refine V_lastore dL_move_13 rfl (fun M3 => ?_)
  refine V_goto (q := 29) dL_move_14 (by decide) ?_
  refine V_iconst (x := 0) dL_move_29 rfl rfl ?_
  exact V_iret dL_move_30 rfl rfl ⟨(Nat.le_of_ble_eq_true rfl), (Nat.le_of_ble_eq_true rfl)⟩
theorem k_L_move (a0 : Nat) (a1 : Int32) (a2 : Int32) (a3 : Int32) (a4 : Int32) (a5 : Nat) (M : Mem) : K mi_L_move [.ref a0, .int a1, .int a2, .int a3, .int a4, .ref a5] M (f_L_move a0 a1 a2 a3 a4 a5 M) wI := K_of_VW ok_L_move (Nat.le_of_ble_eq_true rfl) (v_L_move a0 a1 a2 a3 a4 a5 M)
theorem dL_close_0 : decode cL_close 0 = .ok (.aload_n 2, 1) := by decide +kernel
theorem dL_close_1 : decode cL_close 1 = .ok (.iconst 0, 1) := by decide +kernel
theorem dL_close_2 : decode cL_close 2 = .ok (.aload_n 0, 1) := by decide +kernel
theorem dL_close_3 : decode cL_close 3 = .ok (.iload_n 1, 1) := by decide +kernel
theorem dL_close_4 : decode cL_close 4 = .ok (.invokevirtual 129, 3) := by decide +kernel
theorem dL_close_7 : decode cL_close 7 = .ok (.i2l, 1) := by decide +kernel
theorem dL_close_8 : decode cL_close 8 = .ok (.lastore, 1) := by decide +kernel
theorem dL_close_9 : decode cL_close 9 = .ok (.goto 9, 3) := by decide +kernel
theorem dL_close_12 : decode cL_close 12 = .ok (.astore_n 3, 1) := by decide +kernel
theorem dL_close_13 : decode cL_close 13 = .ok (.iconst 1, 1) := by decide +kernel
theorem dL_close_14 : decode cL_close 14 = .ok (.ireturn, 1) := by decide +kernel
theorem dL_close_15 : decode cL_close 15 = .ok (.astore_n 3, 1) := by decide +kernel
theorem dL_close_16 : decode cL_close 16 = .ok (.iconst 2, 1) := by decide +kernel
theorem dL_close_17 : decode cL_close 17 = .ok (.ireturn, 1) := by decide +kernel
theorem dL_close_18 : decode cL_close 18 = .ok (.iconst 0, 1) := by decide +kernel
theorem dL_close_19 : decode cL_close 19 = .ok (.ireturn, 1) := by decide +kernel
def mi_L_close : MI := (RL, yL_close, cL_close, 4, some .int, [(0, 9, 12, 29), (0, 9, 15, 13)], { frames := 10, cells := 2, slots := 12, locals := 177 })
theorem ok_L_close : mOKW mi_L_close 3 := ⟨rfl, cw_L_close, ini_L, ⟨rfl, by decide⟩, by decide, by decide, rfl⟩
theorem ha_L_close : hAll mi_L_close 4 mi_L_close.hh [("java/lang/IndexOutOfBoundsException", 1), ("java/lang/IllegalStateException", 2)] [] := ⟨⟨⟨by decide, by decide⟩, by decide, cl_L_29, ca_IndexOutOfBoundsException, ⟨1, 1, rfl, dL_close_13, dL_close_14, Or.inr ⟨rfl, 3, by decide, dL_close_12⟩⟩⟩, (fun p hp => nomatch hp), ⟨⟨⟨by decide, by decide⟩, by decide, cl_L_13, ca_IllegalStateException, ⟨2, 1, rfl, dL_close_16, dL_close_17, Or.inr ⟨rfl, 3, by decide, dL_close_15⟩⟩⟩, (List.forall_mem_cons.mpr ⟨nc_IllegalStateException_IndexOutOfBoundsException, fun p hp => nomatch hp⟩), trivial⟩⟩
theorem v_L_close (a0 : Nat) (a1 : Int32) (a2 : Nat) (M : Mem) : V mi_L_close 0 [(0, .ref a0), (1, .int a1), (2, .ref a2)] [] M 0 0 (f_L_close a0 a1 a2 M) wI := by
  unfold f_L_close
  refine V_aload_n dL_close_0 rfl 2 rfl ?_
  refine V_iconst (x := 0) dL_close_1 rfl rfl ?_
  refine V_aload_n dL_close_2 rfl 0 rfl ?_
  refine V_iload_n dL_close_3 rfl 1 rfl ?_
  refine V_cVH (wv := fun r => some (.int r)) (hs := [("java/lang/IndexOutOfBoundsException", 1), ("java/lang/IllegalStateException", 2)]) (As := [.int a1]) (k_X11_close a0 a1 M) (fun _ h => o_X11_close h) ok_X11_close im_X11_close se_X11_close rfl (ci := 10) rfl ml_L_129 ⟨⟨(Nat.le_of_ble_eq_true rfl), (Nat.le_of_ble_eq_true rfl)⟩, (Nat.le_of_ble_eq_true rfl), (Nat.le_of_ble_eq_true rfl)⟩ dL_close_4 rfl rfl rfl (Nat.le_of_ble_eq_true rfl) ha_L_close rfl (fun _ _ => rfl) (fun _ _ => rfl) rfl rfl (fun x1 M2 => ?_)
  refine V_i2l dL_close_7 rfl ?_
  refine V_lastore dL_close_8 rfl (fun M3 => ?_)
  refine V_goto (q := 18) dL_close_9 (by decide) ?_
  refine V_iconst (x := 0) dL_close_18 rfl rfl ?_
  exact V_iret dL_close_19 rfl rfl ⟨(Nat.le_of_ble_eq_true rfl), (Nat.le_of_ble_eq_true rfl)⟩
theorem k_L_close (a0 : Nat) (a1 : Int32) (a2 : Nat) (M : Mem) : K mi_L_close [.ref a0, .int a1, .ref a2] M (f_L_close a0 a1 a2 M) wI := K_of_VW ok_L_close (Nat.le_of_ble_eq_true rfl) (v_L_close a0 a1 a2 M)
theorem dL_deliver_0 : decode cL_deliver 0 = .ok (.aload 4, 2) := by decide +kernel
theorem dL_deliver_2 : decode cL_deliver 2 = .ok (.iconst 0, 1) := by decide +kernel
theorem dL_deliver_3 : decode cL_deliver 3 = .ok (.aload_n 0, 1) := by decide +kernel
theorem dL_deliver_4 : decode cL_deliver 4 = .ok (.iload_n 1, 1) := by decide +kernel
theorem dL_deliver_5 : decode cL_deliver 5 = .ok (.iload_n 2, 1) := by decide +kernel
theorem dL_deliver_6 : decode cL_deliver 6 = .ok (.iload_n 3, 1) := by decide +kernel
theorem dL_deliver_7 : decode cL_deliver 7 = .ok (.invokevirtual 132, 3) := by decide +kernel
theorem dL_deliver_10 : decode cL_deliver 10 = .ok (.i2l, 1) := by decide +kernel
theorem dL_deliver_11 : decode cL_deliver 11 = .ok (.lastore, 1) := by decide +kernel
theorem dL_deliver_12 : decode cL_deliver 12 = .ok (.goto 15, 3) := by decide +kernel
theorem dL_deliver_15 : decode cL_deliver 15 = .ok (.astore 5, 2) := by decide +kernel
theorem dL_deliver_17 : decode cL_deliver 17 = .ok (.iconst 1, 1) := by decide +kernel
theorem dL_deliver_18 : decode cL_deliver 18 = .ok (.ireturn, 1) := by decide +kernel
theorem dL_deliver_19 : decode cL_deliver 19 = .ok (.astore 5, 2) := by decide +kernel
theorem dL_deliver_21 : decode cL_deliver 21 = .ok (.iconst 2, 1) := by decide +kernel
theorem dL_deliver_22 : decode cL_deliver 22 = .ok (.ireturn, 1) := by decide +kernel
theorem dL_deliver_23 : decode cL_deliver 23 = .ok (.astore 5, 2) := by decide +kernel
theorem dL_deliver_25 : decode cL_deliver 25 = .ok (.iconst 3, 1) := by decide +kernel
theorem dL_deliver_26 : decode cL_deliver 26 = .ok (.ireturn, 1) := by decide +kernel
theorem dL_deliver_27 : decode cL_deliver 27 = .ok (.iconst 0, 1) := by decide +kernel
theorem dL_deliver_28 : decode cL_deliver 28 = .ok (.ireturn, 1) := by decide +kernel
def mi_L_deliver : MI := (RL, yL_deliver, cL_deliver, 6, some .int, [(0, 12, 15, 29), (0, 12, 19, 19), (0, 12, 23, 13)], { frames := 10, cells := 2, slots := 12, locals := 178 })
theorem ok_L_deliver : mOKW mi_L_deliver 5 := ⟨rfl, cw_L_deliver, ini_L, ⟨rfl, by decide⟩, by decide, by decide, rfl⟩
theorem ha_L_deliver : hAll mi_L_deliver 7 mi_L_deliver.hh [("java/lang/IndexOutOfBoundsException", 1), ("java/lang/IllegalArgumentException", 2), ("java/lang/IllegalStateException", 3)] [] := ⟨⟨⟨by decide, by decide⟩, by decide, cl_L_29, ca_IndexOutOfBoundsException, ⟨1, 2, rfl, dL_deliver_17, dL_deliver_18, Or.inl ⟨rfl, 5, by decide, dL_deliver_15⟩⟩⟩, (fun p hp => nomatch hp), ⟨⟨⟨by decide, by decide⟩, by decide, cl_L_19, ca_IllegalArgumentException, ⟨2, 2, rfl, dL_deliver_21, dL_deliver_22, Or.inl ⟨rfl, 5, by decide, dL_deliver_19⟩⟩⟩, (List.forall_mem_cons.mpr ⟨nc_IllegalArgumentException_IndexOutOfBoundsException, fun p hp => nomatch hp⟩), ⟨⟨⟨by decide, by decide⟩, by decide, cl_L_13, ca_IllegalStateException, ⟨3, 2, rfl, dL_deliver_25, dL_deliver_26, Or.inl ⟨rfl, 5, by decide, dL_deliver_23⟩⟩⟩, (List.forall_mem_cons.mpr ⟨nc_IllegalStateException_IllegalArgumentException, List.forall_mem_cons.mpr ⟨nc_IllegalStateException_IndexOutOfBoundsException, fun p hp => nomatch hp⟩⟩), trivial⟩⟩⟩
theorem v_L_deliver (a0 : Nat) (a1 : Int32) (a2 : Int32) (a3 : Int32) (a4 : Nat) (M : Mem) : V mi_L_deliver 0 [(0, .ref a0), (1, .int a1), (2, .int a2), (3, .int a3), (4, .ref a4)] [] M 0 0 (f_L_deliver a0 a1 a2 a3 a4 M) wI := by
  unfold f_L_deliver
  refine V_aload dL_deliver_0 rfl 4 rfl ?_
  refine V_iconst (x := 0) dL_deliver_2 rfl rfl ?_
  refine V_aload_n dL_deliver_3 rfl 0 rfl ?_
  refine V_iload_n dL_deliver_4 rfl 1 rfl ?_
  refine V_iload_n dL_deliver_5 rfl 2 rfl ?_
  refine V_iload_n dL_deliver_6 rfl 3 rfl ?_
  refine V_cVH (wv := fun r => some (.int r)) (hs := [("java/lang/IndexOutOfBoundsException", 1), ("java/lang/IllegalArgumentException", 2), ("java/lang/IllegalStateException", 3)]) (As := [.int a1, .int a2, .int a3]) (k_X11_deliver a0 a1 a2 a3 M) (fun _ h => o_X11_deliver h) ok_X11_deliver im_X11_deliver se_X11_deliver rfl (ci := 10) rfl ml_L_132 ⟨⟨(Nat.le_of_ble_eq_true rfl), (Nat.le_of_ble_eq_true rfl)⟩, (Nat.le_of_ble_eq_true rfl), (Nat.le_of_ble_eq_true rfl)⟩ dL_deliver_7 rfl rfl rfl (Nat.le_of_ble_eq_true rfl) ha_L_deliver rfl (fun _ _ => rfl) (fun _ _ => rfl) rfl rfl (fun x1 M2 => ?_)
  refine V_i2l dL_deliver_10 rfl ?_
  refine V_lastore dL_deliver_11 rfl (fun M3 => ?_)
  refine V_goto (q := 27) dL_deliver_12 (by decide) ?_
  refine V_iconst (x := 0) dL_deliver_27 rfl rfl ?_
  exact V_iret dL_deliver_28 rfl rfl ⟨(Nat.le_of_ble_eq_true rfl), (Nat.le_of_ble_eq_true rfl)⟩
theorem k_L_deliver (a0 : Nat) (a1 : Int32) (a2 : Int32) (a3 : Int32) (a4 : Nat) (M : Mem) : K mi_L_deliver [.ref a0, .int a1, .int a2, .int a3, .ref a4] M (f_L_deliver a0 a1 a2 a3 a4 M) wI := K_of_VW ok_L_deliver (Nat.le_of_ble_eq_true rfl) (v_L_deliver a0 a1 a2 a3 a4 M)
theorem dL_setLimit_0 : decode cL_setLimit 0 = .ok (.aload_n 2, 1) := by decide +kernel
theorem dL_setLimit_1 : decode cL_setLimit 1 = .ok (.iconst 0, 1) := by decide +kernel
theorem dL_setLimit_2 : decode cL_setLimit 2 = .ok (.aload_n 0, 1) := by decide +kernel
theorem dL_setLimit_3 : decode cL_setLimit 3 = .ok (.iload_n 1, 1) := by decide +kernel
theorem dL_setLimit_4 : decode cL_setLimit 4 = .ok (.invokevirtual 135, 3) := by decide +kernel
theorem dL_setLimit_7 : decode cL_setLimit 7 = .ok (.i2l, 1) := by decide +kernel
theorem dL_setLimit_8 : decode cL_setLimit 8 = .ok (.lastore, 1) := by decide +kernel
theorem dL_setLimit_9 : decode cL_setLimit 9 = .ok (.goto 6, 3) := by decide +kernel
theorem dL_setLimit_12 : decode cL_setLimit 12 = .ok (.astore_n 3, 1) := by decide +kernel
theorem dL_setLimit_13 : decode cL_setLimit 13 = .ok (.iconst 1, 1) := by decide +kernel
theorem dL_setLimit_14 : decode cL_setLimit 14 = .ok (.ireturn, 1) := by decide +kernel
theorem dL_setLimit_15 : decode cL_setLimit 15 = .ok (.iconst 0, 1) := by decide +kernel
theorem dL_setLimit_16 : decode cL_setLimit 16 = .ok (.ireturn, 1) := by decide +kernel
def mi_L_setLimit : MI := (RL, yL_setLimit, cL_setLimit, 4, some .int, [(0, 9, 12, 19)], { frames := 9, cells := 1, slots := 6, locals := 143 })
theorem ok_L_setLimit : mOKW mi_L_setLimit 3 := ⟨rfl, cw_L_setLimit, ini_L, ⟨rfl, by decide⟩, by decide, by decide, rfl⟩
theorem ha_L_setLimit : hAll mi_L_setLimit 4 mi_L_setLimit.hh [("java/lang/IllegalArgumentException", 1)] [] := ⟨⟨⟨by decide, by decide⟩, by decide, cl_L_19, ca_IllegalArgumentException, ⟨1, 1, rfl, dL_setLimit_13, dL_setLimit_14, Or.inr ⟨rfl, 3, by decide, dL_setLimit_12⟩⟩⟩, (fun p hp => nomatch hp), trivial⟩
theorem v_L_setLimit (a0 : Nat) (a1 : Int32) (a2 : Nat) (M : Mem) : V mi_L_setLimit 0 [(0, .ref a0), (1, .int a1), (2, .ref a2)] [] M 0 0 (f_L_setLimit a0 a1 a2 M) wI := by
  unfold f_L_setLimit
  refine V_aload_n dL_setLimit_0 rfl 2 rfl ?_
  refine V_iconst (x := 0) dL_setLimit_1 rfl rfl ?_
  refine V_aload_n dL_setLimit_2 rfl 0 rfl ?_
  refine V_iload_n dL_setLimit_3 rfl 1 rfl ?_
  refine V_cVH (wv := fun r => some (.int r)) (hs := [("java/lang/IllegalArgumentException", 1)]) (As := [.int a1]) (k_X11_setLimit a0 a1 M) (fun _ h => o_X11_setLimit h) ok_X11_setLimit im_X11_setLimit se_X11_setLimit rfl (ci := 10) rfl ml_L_135 ⟨⟨(Nat.le_of_ble_eq_true rfl), (Nat.le_of_ble_eq_true rfl)⟩, (Nat.le_of_ble_eq_true rfl), (Nat.le_of_ble_eq_true rfl)⟩ dL_setLimit_4 rfl rfl rfl (Nat.le_of_ble_eq_true rfl) ha_L_setLimit rfl (fun _ _ => rfl) (fun _ _ => rfl) rfl rfl (fun x1 M2 => ?_)
  refine V_i2l dL_setLimit_7 rfl ?_
  refine V_lastore dL_setLimit_8 rfl (fun M3 => ?_)
  refine V_goto (q := 15) dL_setLimit_9 (by decide) ?_
  refine V_iconst (x := 0) dL_setLimit_15 rfl rfl ?_
  exact V_iret dL_setLimit_16 rfl rfl ⟨(Nat.le_of_ble_eq_true rfl), (Nat.le_of_ble_eq_true rfl)⟩
theorem k_L_setLimit (a0 : Nat) (a1 : Int32) (a2 : Nat) (M : Mem) : K mi_L_setLimit [.ref a0, .int a1, .ref a2] M (f_L_setLimit a0 a1 a2 M) wI := K_of_VW ok_L_setLimit (Nat.le_of_ble_eq_true rfl) (v_L_setLimit a0 a1 a2 M)
theorem dL_keep_0 : decode cL_keep 0 = .ok (.aload_n 2, 1) := by decide +kernel
theorem dL_keep_1 : decode cL_keep 1 = .ok (.iconst 0, 1) := by decide +kernel
theorem dL_keep_2 : decode cL_keep 2 = .ok (.aload_n 0, 1) := by decide +kernel
theorem dL_keep_3 : decode cL_keep 3 = .ok (.iload_n 1, 1) := by decide +kernel
theorem dL_keep_4 : decode cL_keep 4 = .ok (.invokevirtual 138, 3) := by decide +kernel
theorem dL_keep_7 : decode cL_keep 7 = .ok (.i2l, 1) := by decide +kernel
theorem dL_keep_8 : decode cL_keep 8 = .ok (.lastore, 1) := by decide +kernel
theorem dL_keep_9 : decode cL_keep 9 = .ok (.goto 6, 3) := by decide +kernel
theorem dL_keep_12 : decode cL_keep 12 = .ok (.astore_n 3, 1) := by decide +kernel
theorem dL_keep_13 : decode cL_keep 13 = .ok (.iconst 1, 1) := by decide +kernel
theorem dL_keep_14 : decode cL_keep 14 = .ok (.ireturn, 1) := by decide +kernel
theorem dL_keep_15 : decode cL_keep 15 = .ok (.iconst 0, 1) := by decide +kernel
theorem dL_keep_16 : decode cL_keep 16 = .ok (.ireturn, 1) := by decide +kernel
def mi_L_keep : MI := (RL, yL_keep, cL_keep, 4, some .int, [(0, 9, 12, 29)], { frames := 10, cells := 1, slots := 6, locals := 164 })
theorem ok_L_keep : mOKW mi_L_keep 3 := ⟨rfl, cw_L_keep, ini_L, ⟨rfl, by decide⟩, by decide, by decide, rfl⟩
theorem ha_L_keep : hAll mi_L_keep 4 mi_L_keep.hh [("java/lang/IndexOutOfBoundsException", 1)] [] := ⟨⟨⟨by decide, by decide⟩, by decide, cl_L_29, ca_IndexOutOfBoundsException, ⟨1, 1, rfl, dL_keep_13, dL_keep_14, Or.inr ⟨rfl, 3, by decide, dL_keep_12⟩⟩⟩, (fun p hp => nomatch hp), trivial⟩
theorem v_L_keep (a0 : Nat) (a1 : Int32) (a2 : Nat) (M : Mem) : V mi_L_keep 0 [(0, .ref a0), (1, .int a1), (2, .ref a2)] [] M 0 0 (f_L_keep a0 a1 a2 M) wI := by
  unfold f_L_keep
  refine V_aload_n dL_keep_0 rfl 2 rfl ?_
  refine V_iconst (x := 0) dL_keep_1 rfl rfl ?_
  refine V_aload_n dL_keep_2 rfl 0 rfl ?_
  refine V_iload_n dL_keep_3 rfl 1 rfl ?_
  refine V_cVH (wv := fun r => some (.int r)) (hs := [("java/lang/IndexOutOfBoundsException", 1)]) (As := [.int a1]) (k_X11_keep a0 a1 M) (fun _ h => o_X11_keep h) ok_X11_keep im_X11_keep se_X11_keep rfl (ci := 10) rfl ml_L_138 ⟨⟨(Nat.le_of_ble_eq_true rfl), (Nat.le_of_ble_eq_true rfl)⟩, (Nat.le_of_ble_eq_true rfl), (Nat.le_of_ble_eq_true rfl)⟩ dL_keep_4 rfl rfl rfl (Nat.le_of_ble_eq_true rfl) ha_L_keep rfl (fun _ _ => rfl) (fun _ _ => rfl) rfl rfl (fun x1 M2 => ?_)
  refine V_i2l dL_keep_7 rfl ?_
  refine V_lastore dL_keep_8 rfl (fun M3 => ?_)
  refine V_goto (q := 15) dL_keep_9 (by decide) ?_
  refine V_iconst (x := 0) dL_keep_15 rfl rfl ?_
  exact V_iret dL_keep_16 rfl rfl ⟨(Nat.le_of_ble_eq_true rfl), (Nat.le_of_ble_eq_true rfl)⟩
theorem k_L_keep (a0 : Nat) (a1 : Int32) (a2 : Nat) (M : Mem) : K mi_L_keep [.ref a0, .int a1, .ref a2] M (f_L_keep a0 a1 a2 M) wI := K_of_VW ok_L_keep (Nat.le_of_ble_eq_true rfl) (v_L_keep a0 a1 a2 M)
theorem dL_restore_0 : decode cL_restore 0 = .ok (.aload_n 2, 1) := by decide +kernel
theorem dL_restore_1 : decode cL_restore 1 = .ok (.iconst 0, 1) := by decide +kernel
theorem dL_restore_2 : decode cL_restore 2 = .ok (.aload_n 0, 1) := by decide +kernel
theorem dL_restore_3 : decode cL_restore 3 = .ok (.iload_n 1, 1) := by decide +kernel
theorem dL_restore_4 : decode cL_restore 4 = .ok (.invokevirtual 141, 3) := by decide +kernel
theorem dL_restore_7 : decode cL_restore 7 = .ok (.i2l, 1) := by decide +kernel
theorem dL_restore_8 : decode cL_restore 8 = .ok (.lastore, 1) := by decide +kernel
theorem dL_restore_9 : decode cL_restore 9 = .ok (.goto 9, 3) := by decide +kernel
theorem dL_restore_12 : decode cL_restore 12 = .ok (.astore_n 3, 1) := by decide +kernel
theorem dL_restore_13 : decode cL_restore 13 = .ok (.iconst 1, 1) := by decide +kernel
theorem dL_restore_14 : decode cL_restore 14 = .ok (.ireturn, 1) := by decide +kernel
theorem dL_restore_15 : decode cL_restore 15 = .ok (.astore_n 3, 1) := by decide +kernel
theorem dL_restore_16 : decode cL_restore 16 = .ok (.iconst 2, 1) := by decide +kernel
theorem dL_restore_17 : decode cL_restore 17 = .ok (.ireturn, 1) := by decide +kernel
theorem dL_restore_18 : decode cL_restore 18 = .ok (.iconst 0, 1) := by decide +kernel
theorem dL_restore_19 : decode cL_restore 19 = .ok (.ireturn, 1) := by decide +kernel
def mi_L_restore : MI := (RL, yL_restore, cL_restore, 4, some .int, [(0, 9, 12, 29), (0, 9, 15, 13)], { frames := 10, cells := 2, slots := 12, locals := 164 })
theorem ok_L_restore : mOKW mi_L_restore 3 := ⟨rfl, cw_L_restore, ini_L, ⟨rfl, by decide⟩, by decide, by decide, rfl⟩
theorem ha_L_restore : hAll mi_L_restore 4 mi_L_restore.hh [("java/lang/IndexOutOfBoundsException", 1), ("java/lang/IllegalStateException", 2)] [] := ⟨⟨⟨by decide, by decide⟩, by decide, cl_L_29, ca_IndexOutOfBoundsException, ⟨1, 1, rfl, dL_restore_13, dL_restore_14, Or.inr ⟨rfl, 3, by decide, dL_restore_12⟩⟩⟩, (fun p hp => nomatch hp), ⟨⟨⟨by decide, by decide⟩, by decide, cl_L_13, ca_IllegalStateException, ⟨2, 1, rfl, dL_restore_16, dL_restore_17, Or.inr ⟨rfl, 3, by decide, dL_restore_15⟩⟩⟩, (List.forall_mem_cons.mpr ⟨nc_IllegalStateException_IndexOutOfBoundsException, fun p hp => nomatch hp⟩), trivial⟩⟩
theorem v_L_restore (a0 : Nat) (a1 : Int32) (a2 : Nat) (M : Mem) : V mi_L_restore 0 [(0, .ref a0), (1, .int a1), (2, .ref a2)] [] M 0 0 (f_L_restore a0 a1 a2 M) wI := by
  unfold f_L_restore
  refine V_aload_n dL_restore_0 rfl 2 rfl ?_
  refine V_iconst (x := 0) dL_restore_1 rfl rfl ?_
  refine V_aload_n dL_restore_2 rfl 0 rfl ?_
  refine V_iload_n dL_restore_3 rfl 1 rfl ?_
  refine V_cVH (wv := fun r => some (.int r)) (hs := [("java/lang/IndexOutOfBoundsException", 1), ("java/lang/IllegalStateException", 2)]) (As := [.int a1]) (k_X11_restore a0 a1 M) (fun _ h => o_X11_restore h) ok_X11_restore im_X11_restore se_X11_restore rfl (ci := 10) rfl ml_L_141 ⟨⟨(Nat.le_of_ble_eq_true rfl), (Nat.le_of_ble_eq_true rfl)⟩, (Nat.le_of_ble_eq_true rfl), (Nat.le_of_ble_eq_true rfl)⟩ dL_restore_4 rfl rfl rfl (Nat.le_of_ble_eq_true rfl) ha_L_restore rfl (fun _ _ => rfl) (fun _ _ => rfl) rfl rfl (fun x1 M2 => ?_)
  refine V_i2l dL_restore_7 rfl ?_
  refine V_lastore dL_restore_8 rfl (fun M3 => ?_)
  refine V_goto (q := 18) dL_restore_9 (by decide) ?_
  refine V_iconst (x := 0) dL_restore_18 rfl rfl ?_
  exact V_iret dL_restore_19 rfl rfl ⟨(Nat.le_of_ble_eq_true rfl), (Nat.le_of_ble_eq_true rfl)⟩
theorem k_L_restore (a0 : Nat) (a1 : Int32) (a2 : Nat) (M : Mem) : K mi_L_restore [.ref a0, .int a1, .ref a2] M (f_L_restore a0 a1 a2 M) wI := K_of_VW ok_L_restore (Nat.le_of_ble_eq_true rfl) (v_L_restore a0 a1 a2 M)
theorem dL_undo_0 : decode cL_undo 0 = .ok (.aload_n 1, 1) := by decide +kernel
theorem dL_undo_1 : decode cL_undo 1 = .ok (.iconst 0, 1) := by decide +kernel
theorem dL_undo_2 : decode cL_undo 2 = .ok (.aload_n 0, 1) := by decide +kernel
theorem dL_undo_3 : decode cL_undo 3 = .ok (.invokevirtual 144, 3) := by decide +kernel
theorem dL_undo_6 : decode cL_undo 6 = .ok (.i2l, 1) := by decide +kernel
theorem dL_undo_7 : decode cL_undo 7 = .ok (.lastore, 1) := by decide +kernel
theorem dL_undo_8 : decode cL_undo 8 = .ok (.goto 6, 3) := by decide +kernel
theorem dL_undo_11 : decode cL_undo 11 = .ok (.astore_n 2, 1) := by decide +kernel
theorem dL_undo_12 : decode cL_undo 12 = .ok (.iconst 1, 1) := by decide +kernel
theorem dL_undo_13 : decode cL_undo 13 = .ok (.ireturn, 1) := by decide +kernel
theorem dL_undo_14 : decode cL_undo 14 = .ok (.iconst 0, 1) := by decide +kernel
theorem dL_undo_15 : decode cL_undo 15 = .ok (.ireturn, 1) := by decide +kernel
def mi_L_undo : MI := (RL, yL_undo, cL_undo, 3, some .int, [(0, 8, 11, 13)], { frames := 9, cells := 1, slots := 6, locals := 140 })
theorem ok_L_undo : mOKW mi_L_undo 2 := ⟨rfl, cw_L_undo, ini_L, ⟨rfl, by decide⟩, by decide, by decide, rfl⟩
theorem ha_L_undo : hAll mi_L_undo 3 mi_L_undo.hh [("java/lang/IllegalStateException", 1)] [] := ⟨⟨⟨by decide, by decide⟩, by decide, cl_L_13, ca_IllegalStateException, ⟨1, 1, rfl, dL_undo_12, dL_undo_13, Or.inr ⟨rfl, 2, by decide, dL_undo_11⟩⟩⟩, (fun p hp => nomatch hp), trivial⟩
theorem v_L_undo (a0 : Nat) (a1 : Nat) (M : Mem) : V mi_L_undo 0 [(0, .ref a0), (1, .ref a1)] [] M 0 0 (f_L_undo a0 a1 M) wI := by
  unfold f_L_undo
  refine V_aload_n dL_undo_0 rfl 1 rfl ?_
  refine V_iconst (x := 0) dL_undo_1 rfl rfl ?_
  refine V_aload_n dL_undo_2 rfl 0 rfl ?_
  refine V_cVH (wv := fun r => some (.int r)) (hs := [("java/lang/IllegalStateException", 1)]) (As := []) (k_X11_undo a0 M) (fun _ h => o_X11_undo h) ok_X11_undo im_X11_undo se_X11_undo rfl (ci := 10) rfl ml_L_144 ⟨⟨(Nat.le_of_ble_eq_true rfl), (Nat.le_of_ble_eq_true rfl)⟩, (Nat.le_of_ble_eq_true rfl), (Nat.le_of_ble_eq_true rfl)⟩ dL_undo_3 rfl rfl rfl (Nat.le_of_ble_eq_true rfl) ha_L_undo rfl (fun _ _ => rfl) (fun _ _ => rfl) rfl rfl (fun x1 M2 => ?_)
  refine V_i2l dL_undo_6 rfl ?_
  refine V_lastore dL_undo_7 rfl (fun M3 => ?_)
  refine V_goto (q := 14) dL_undo_8 (by decide) ?_
  refine V_iconst (x := 0) dL_undo_14 rfl rfl ?_
  exact V_iret dL_undo_15 rfl rfl ⟨(Nat.le_of_ble_eq_true rfl), (Nat.le_of_ble_eq_true rfl)⟩
theorem k_L_undo (a0 : Nat) (a1 : Nat) (M : Mem) : K mi_L_undo [.ref a0, .ref a1] M (f_L_undo a0 a1 M) wI := K_of_VW ok_L_undo (Nat.le_of_ble_eq_true rfl) (v_L_undo a0 a1 M)
theorem dL_writeBox_0 : decode cL_writeBox 0 = .ok (.aload_n 2, 1) := by decide +kernel
theorem dL_writeBox_1 : decode cL_writeBox 1 = .ok (.iconst 0, 1) := by decide +kernel
theorem dL_writeBox_2 : decode cL_writeBox 2 = .ok (.aload_n 0, 1) := by decide +kernel
theorem dL_writeBox_3 : decode cL_writeBox 3 = .ok (.iload_n 1, 1) := by decide +kernel
theorem dL_writeBox_4 : decode cL_writeBox 4 = .ok (.invokevirtual 148, 3) := by decide +kernel
theorem dL_writeBox_7 : decode cL_writeBox 7 = .ok (.i2l, 1) := by decide +kernel
theorem dL_writeBox_8 : decode cL_writeBox 8 = .ok (.lastore, 1) := by decide +kernel
theorem dL_writeBox_9 : decode cL_writeBox 9 = .ok (.goto 6, 3) := by decide +kernel
theorem dL_writeBox_12 : decode cL_writeBox 12 = .ok (.astore_n 3, 1) := by decide +kernel
theorem dL_writeBox_13 : decode cL_writeBox 13 = .ok (.iconst 1, 1) := by decide +kernel
theorem dL_writeBox_14 : decode cL_writeBox 14 = .ok (.ireturn, 1) := by decide +kernel
theorem dL_writeBox_15 : decode cL_writeBox 15 = .ok (.iconst 0, 1) := by decide +kernel
theorem dL_writeBox_16 : decode cL_writeBox 16 = .ok (.ireturn, 1) := by decide +kernel
def mi_L_writeBox : MI := (RL, yL_writeBox, cL_writeBox, 4, some .int, [(0, 9, 12, 29)], { frames := 10, cells := 1, slots := 6, locals := 165 })
theorem ok_L_writeBox : mOKW mi_L_writeBox 3 := ⟨rfl, cw_L_writeBox, ini_L, ⟨rfl, by decide⟩, by decide, by decide, rfl⟩
theorem ha_L_writeBox : hAll mi_L_writeBox 4 mi_L_writeBox.hh [("java/lang/IndexOutOfBoundsException", 1)] [] := ⟨⟨⟨by decide, by decide⟩, by decide, cl_L_29, ca_IndexOutOfBoundsException, ⟨1, 1, rfl, dL_writeBox_13, dL_writeBox_14, Or.inr ⟨rfl, 3, by decide, dL_writeBox_12⟩⟩⟩, (fun p hp => nomatch hp), trivial⟩
theorem v_L_writeBox (a0 : Nat) (a1 : Int32) (a2 : Nat) (M : Mem) : V mi_L_writeBox 0 [(0, .ref a0), (1, .int a1), (2, .ref a2)] [] M 0 0 (f_L_writeBox a0 a1 a2 M) wI := by
  unfold f_L_writeBox
  refine V_aload_n dL_writeBox_0 rfl 2 rfl ?_
  refine V_iconst (x := 0) dL_writeBox_1 rfl rfl ?_
  refine V_aload_n dL_writeBox_2 rfl 0 rfl ?_
  refine V_iload_n dL_writeBox_3 rfl 1 rfl ?_
  refine V_cVH (wv := fun r => some (.int r)) (hs := [("java/lang/IndexOutOfBoundsException", 1)]) (As := [.int a1]) (k_X11_writeBox a0 a1 M) (fun _ h => o_X11_writeBox h) ok_X11_writeBox im_X11_writeBox se_X11_writeBox rfl (ci := 10) rfl ml_L_148 ⟨⟨(Nat.le_of_ble_eq_true rfl), (Nat.le_of_ble_eq_true rfl)⟩, (Nat.le_of_ble_eq_true rfl), (Nat.le_of_ble_eq_true rfl)⟩ dL_writeBox_4 rfl rfl rfl (Nat.le_of_ble_eq_true rfl) ha_L_writeBox rfl (fun _ _ => rfl) (fun _ _ => rfl) rfl rfl (fun x1 M2 => ?_)
  refine V_i2l dL_writeBox_7 rfl ?_
  refine V_lastore dL_writeBox_8 rfl (fun M3 => ?_)
  refine V_goto (q := 15) dL_writeBox_9 (by decide) ?_
  refine V_iconst (x := 0) dL_writeBox_15 rfl rfl ?_
  exact V_iret dL_writeBox_16 rfl rfl ⟨(Nat.le_of_ble_eq_true rfl), (Nat.le_of_ble_eq_true rfl)⟩
theorem k_L_writeBox (a0 : Nat) (a1 : Int32) (a2 : Nat) (M : Mem) : K mi_L_writeBox [.ref a0, .int a1, .ref a2] M (f_L_writeBox a0 a1 a2 M) wI := K_of_VW ok_L_writeBox (Nat.le_of_ble_eq_true rfl) (v_L_writeBox a0 a1 a2 M)
theorem dL_writeView_0 : decode cL_writeView 0 = .ok (.aload_n 2, 1) := by decide +kernel
theorem dL_writeView_1 : decode cL_writeView 1 = .ok (.iconst 0, 1) := by decide +kernel
theorem dL_writeView_2 : decode cL_writeView 2 = .ok (.aload_n 0, 1) := by decide +kernel
theorem dL_writeView_3 : decode cL_writeView 3 = .ok (.iload_n 1, 1) := by decide +kernel
theorem dL_writeView_4 : decode cL_writeView 4 = .ok (.invokevirtual 151, 3) := by decide +kernel
theorem dL_writeView_7 : decode cL_writeView 7 = .ok (.i2l, 1) := by decide +kernel
theorem dL_writeView_8 : decode cL_writeView 8 = .ok (.lastore, 1) := by decide +kernel
theorem dL_writeView_9 : decode cL_writeView 9 = .ok (.goto 6, 3) := by decide +kernel
theorem dL_writeView_12 : decode cL_writeView 12 = .ok (.astore_n 3, 1) := by decide +kernel
theorem dL_writeView_13 : decode cL_writeView 13 = .ok (.iconst 1, 1) := by decide +kernel
theorem dL_writeView_14 : decode cL_writeView 14 = .ok (.ireturn, 1) := by decide +kernel
theorem dL_writeView_15 : decode cL_writeView 15 = .ok (.iconst 0, 1) := by decide +kernel
theorem dL_writeView_16 : decode cL_writeView 16 = .ok (.ireturn, 1) := by decide +kernel
def mi_L_writeView : MI := (RL, yL_writeView, cL_writeView, 4, some .int, [(0, 9, 12, 29)], { frames := 10, cells := 1, slots := 6, locals := 166 })
theorem ok_L_writeView : mOKW mi_L_writeView 3 := ⟨rfl, cw_L_writeView, ini_L, ⟨rfl, by decide⟩, by decide, by decide, rfl⟩
theorem ha_L_writeView : hAll mi_L_writeView 4 mi_L_writeView.hh [("java/lang/IndexOutOfBoundsException", 1)] [] := ⟨⟨⟨by decide, by decide⟩, by decide, cl_L_29, ca_IndexOutOfBoundsException, ⟨1, 1, rfl, dL_writeView_13, dL_writeView_14, Or.inr ⟨rfl, 3, by decide, dL_writeView_12⟩⟩⟩, (fun p hp => nomatch hp), trivial⟩
theorem v_L_writeView (a0 : Nat) (a1 : Int32) (a2 : Nat) (M : Mem) : V mi_L_writeView 0 [(0, .ref a0), (1, .int a1), (2, .ref a2)] [] M 0 0 (f_L_writeView a0 a1 a2 M) wI := by
  unfold f_L_writeView
  refine V_aload_n dL_writeView_0 rfl 2 rfl ?_
  refine V_iconst (x := 0) dL_writeView_1 rfl rfl ?_
  refine V_aload_n dL_writeView_2 rfl 0 rfl ?_
  refine V_iload_n dL_writeView_3 rfl 1 rfl ?_
  refine V_cVH (wv := fun r => some (.int r)) (hs := [("java/lang/IndexOutOfBoundsException", 1)]) (As := [.int a1]) (k_X11_writeView a0 a1 M) (fun _ h => o_X11_writeView h) ok_X11_writeView im_X11_writeView se_X11_writeView rfl (ci := 10) rfl ml_L_151 ⟨⟨(Nat.le_of_ble_eq_true rfl), (Nat.le_of_ble_eq_true rfl)⟩, (Nat.le_of_ble_eq_true rfl), (Nat.le_of_ble_eq_true rfl)⟩ dL_writeView_4 rfl rfl rfl (Nat.le_of_ble_eq_true rfl) ha_L_writeView rfl (fun _ _ => rfl) (fun _ _ => rfl) rfl rfl (fun x1 M2 => ?_)
  refine V_i2l dL_writeView_7 rfl ?_
  refine V_lastore dL_writeView_8 rfl (fun M3 => ?_)
  refine V_goto (q := 15) dL_writeView_9 (by decide) ?_
  refine V_iconst (x := 0) dL_writeView_15 rfl rfl ?_
  exact V_iret dL_writeView_16 rfl rfl ⟨(Nat.le_of_ble_eq_true rfl), (Nat.le_of_ble_eq_true rfl)⟩
theorem k_L_writeView (a0 : Nat) (a1 : Int32) (a2 : Nat) (M : Mem) : K mi_L_writeView [.ref a0, .int a1, .ref a2] M (f_L_writeView a0 a1 a2 M) wI := K_of_VW ok_L_writeView (Nat.le_of_ble_eq_true rfl) (v_L_writeView a0 a1 a2 M)
theorem dL_outputByte_0 : decode cL_outputByte 0 = .ok (.aload_n 2, 1) := by decide +kernel
theorem dL_outputByte_1 : decode cL_outputByte 1 = .ok (.iconst 0, 1) := by decide +kernel
theorem dL_outputByte_2 : decode cL_outputByte 2 = .ok (.aload_n 0, 1) := by decide +kernel
theorem dL_outputByte_3 : decode cL_outputByte 3 = .ok (.iload_n 1, 1) := by decide +kernel
theorem dL_outputByte_4 : decode cL_outputByte 4 = .ok (.invokevirtual 154, 3) := by decide +kernel
theorem dL_outputByte_7 : decode cL_outputByte 7 = .ok (.i2l, 1) := by decide +kernel
theorem dL_outputByte_8 : decode cL_outputByte 8 = .ok (.lastore, 1) := by decide +kernel
theorem dL_outputByte_9 : decode cL_outputByte 9 = .ok (.goto 6, 3) := by decide +kernel
theorem dL_outputByte_12 : decode cL_outputByte 12 = .ok (.astore_n 3, 1) := by decide +kernel
theorem dL_outputByte_13 : decode cL_outputByte 13 = .ok (.iconst 1, 1) := by decide +kernel
theorem dL_outputByte_14 : decode cL_outputByte 14 = .ok (.ireturn, 1) := by decide +kernel
theorem dL_outputByte_15 : decode cL_outputByte 15 = .ok (.iconst 0, 1) := by decide +kernel
theorem dL_outputByte_16 : decode cL_outputByte 16 = .ok (.ireturn, 1) := by decide +kernel
def mi_L_outputByte : MI := (RL, yL_outputByte, cL_outputByte, 4, some .int, [(0, 9, 12, 29)], { frames := 9, cells := 1, slots := 6, locals := 141 })
theorem ok_L_outputByte : mOKW mi_L_outputByte 3 := ⟨rfl, cw_L_outputByte, ini_L, ⟨rfl, by decide⟩, by decide, by decide, rfl⟩
theorem ha_L_outputByte : hAll mi_L_outputByte 4 mi_L_outputByte.hh [("java/lang/IndexOutOfBoundsException", 1)] [] := ⟨⟨⟨by decide, by decide⟩, by decide, cl_L_29, ca_IndexOutOfBoundsException, ⟨1, 1, rfl, dL_outputByte_13, dL_outputByte_14, Or.inr ⟨rfl, 3, by decide, dL_outputByte_12⟩⟩⟩, (fun p hp => nomatch hp), trivial⟩
theorem v_L_outputByte (a0 : Nat) (a1 : Int32) (a2 : Nat) (M : Mem) : V mi_L_outputByte 0 [(0, .ref a0), (1, .int a1), (2, .ref a2)] [] M 0 0 (f_L_outputByte a0 a1 a2 M) wI := by
  unfold f_L_outputByte
  refine V_aload_n dL_outputByte_0 rfl 2 rfl ?_
  refine V_iconst (x := 0) dL_outputByte_1 rfl rfl ?_
  refine V_aload_n dL_outputByte_2 rfl 0 rfl ?_
  refine V_iload_n dL_outputByte_3 rfl 1 rfl ?_
  refine V_cVH (wv := fun r => some (.int r)) (hs := [("java/lang/IndexOutOfBoundsException", 1)]) (As := [.int a1]) (k_X11_outputByte a0 a1 M) (fun _ h => o_X11_outputByte h) ok_X11_outputByte im_X11_outputByte se_X11_outputByte rfl (ci := 10) rfl ml_L_154 ⟨⟨(Nat.le_of_ble_eq_true rfl), (Nat.le_of_ble_eq_true rfl)⟩, (Nat.le_of_ble_eq_true rfl), (Nat.le_of_ble_eq_true rfl)⟩ dL_outputByte_4 rfl rfl rfl (Nat.le_of_ble_eq_true rfl) ha_L_outputByte rfl (fun _ _ => rfl) (fun _ _ => rfl) rfl rfl (fun x1 M2 => ?_)
  refine V_i2l dL_outputByte_7 rfl ?_
  refine V_lastore dL_outputByte_8 rfl (fun M3 => ?_)
  refine V_goto (q := 15) dL_outputByte_9 (by decide) ?_
  refine V_iconst (x := 0) dL_outputByte_15 rfl rfl ?_
  exact V_iret dL_outputByte_16 rfl rfl ⟨(Nat.le_of_ble_eq_true rfl), (Nat.le_of_ble_eq_true rfl)⟩
theorem k_L_outputByte (a0 : Nat) (a1 : Int32) (a2 : Nat) (M : Mem) : K mi_L_outputByte [.ref a0, .int a1, .ref a2] M (f_L_outputByte a0 a1 a2 M) wI := K_of_VW ok_L_outputByte (Nat.le_of_ble_eq_true rfl) (v_L_outputByte a0 a1 a2 M)
theorem dL_law_0 : decode cL_law 0 = .ok (.new 8, 3) := by decide +kernel
theorem dL_law_3 : decode cL_law 3 = .ok (.dup, 1) := by decide +kernel
theorem dL_law_4 : decode cL_law 4 = .ok (.invokespecial 157, 3) := by decide +kernel
theorem dL_law_7 : decode cL_law 7 = .ok (.astore_n 1, 1) := by decide +kernel
theorem dL_law_8 : decode cL_law 8 = .ok (.new 158, 3) := by decide +kernel
theorem dL_law_11 : decode cL_law 11 = .ok (.dup, 1) := by decide +kernel
theorem dL_law_12 : decode cL_law 12 = .ok (.invokespecial 160, 3) := by decide +kernel
theorem dL_law_15 : decode cL_law 15 = .ok (.astore_n 2, 1) := by decide +kernel
theorem dL_law_16 : decode cL_law 16 = .ok (.iconst 1, 1) := by decide +kernel
theorem dL_law_17 : decode cL_law 17 = .ok (.newarray .long, 2) := by decide +kernel
theorem dL_law_19 : decode cL_law 19 = .ok (.astore_n 3, 1) := by decide +kernel
theorem dL_law_20 : decode cL_law 20 = .ok (.iconst 1, 1) := by decide +kernel
theorem dL_law_21 : decode cL_law 21 = .ok (.newarray .double, 2) := by decide +kernel
theorem dL_law_23 : decode cL_law 23 = .ok (.astore 4, 2) := by decide +kernel
theorem dL_law_25 : decode cL_law 25 = .ok (.iconst 0, 1) := by decide +kernel
theorem dL_law_26 : decode cL_law 26 = .ok (.istore 5, 2) := by decide +kernel
theorem dL_law_28 : decode cL_law 28 = .ok (.iload 5, 2) := by decide +kernel
theorem dL_law_30 : decode cL_law 30 = .ok (.aload_n 0, 1) := by decide +kernel
theorem dL_law_31 : decode cL_law 31 = .ok (.arraylength, 1) := by decide +kernel
theorem dL_law_32 : decode cL_law 32 = .ok (.bipush 7, 2) := by decide +kernel
theorem dL_law_34 : decode cL_law 34 = .ok (.isub, 1) := by decide +kernel
theorem dL_law_35 : decode cL_law 35 = .ok (.if_icmp .gt 3246, 3) := by decide +kernel
theorem dL_law_38 : decode cL_law 38 = .ok (.aload_n 0, 1) := by decide +kernel
theorem dL_law_39 : decode cL_law 39 = .ok (.iload 5, 2) := by decide +kernel
theorem dL_law_41 : decode cL_law 41 = .ok (.iaload, 1) := by decide +kernel
theorem dL_law_42 : decode cL_law 42 = .ok (.bipush 63, 2) := by decide +kernel
theorem dL_law_44 : decode cL_law 44 = .ok (.iand, 1) := by decide +kernel
theorem dL_law_45 : decode cL_law 45 = .ok (.tableswitch 3230 0 49 #[215, 319, 355, 368, 381, 394, 407, 420, 476, 544, 624, 692, 760, 840, 908, 976, 1032, 1095, 1151, 1207, 1275, 1343, 1356, 1434, 1511, 1579, 1647, 1703, 1799, 1855, 1911, 1967, 2075, 2209, 2313, 2368, 2424, 2504, 2596, 2688, 2744, 2824, 2880, 2936, 2992, 3036, 3049, 3105, 3161, 3174], 215) := by decide +kernel
theorem dL_law_260 : decode cL_law 260 = .ok (.aload_n 1, 1) := by decide +kernel
theorem dL_law_261 : decode cL_law 261 = .ok (.aload_n 0, 1) := by decide +kernel
theorem dL_law_262 : decode cL_law 262 = .ok (.iload 5, 2) := by decide +kernel
theorem dL_law_264 : decode cL_law 264 = .ok (.iconst 1, 1) := by decide +kernel
theorem dL_law_265 : decode cL_law 265 = .ok (.iadd, 1) := by decide +kernel
theorem dL_law_266 : decode cL_law 266 = .ok (.iaload, 1) := by decide +kernel
theorem dL_law_267 : decode cL_law 267 = .ok (.aload_n 0, 1) := by decide +kernel
theorem dL_law_268 : decode cL_law 268 = .ok (.iload 5, 2) := by decide +kernel
theorem dL_law_270 : decode cL_law 270 = .ok (.iconst 2, 1) := by decide +kernel
theorem dL_law_271 : decode cL_law 271 = .ok (.iadd, 1) := by decide +kernel
theorem dL_law_272 : decode cL_law 272 = .ok (.iaload, 1) := by decide +kernel
theorem dL_law_273 : decode cL_law 273 = .ok (.aload_n 0, 1) := by decide +kernel
theorem dL_law_274 : decode cL_law 274 = .ok (.iload 5, 2) := by decide +kernel
theorem dL_law_276 : decode cL_law 276 = .ok (.iconst 3, 1) := by decide +kernel
theorem dL_law_277 : decode cL_law 277 = .ok (.iadd, 1) := by decide +kernel
theorem dL_law_278 : decode cL_law 278 = .ok (.iaload, 1) := by decide +kernel
theorem dL_law_279 : decode cL_law 279 = .ok (.aload_n 0, 1) := by decide +kernel
theorem dL_law_280 : decode cL_law 280 = .ok (.iload 5, 2) := by decide +kernel
theorem dL_law_282 : decode cL_law 282 = .ok (.iconst 4, 1) := by decide +kernel
theorem dL_law_283 : decode cL_law 283 = .ok (.iadd, 1) := by decide +kernel
theorem dL_law_284 : decode cL_law 284 = .ok (.iaload, 1) := by decide +kernel
theorem dL_law_285 : decode cL_law 285 = .ok (.aload_n 0, 1) := by decide +kernel
theorem dL_law_286 : decode cL_law 286 = .ok (.iload 5, 2) := by decide +kernel
theorem dL_law_288 : decode cL_law 288 = .ok (.iconst 5, 1) := by decide +kernel
theorem dL_law_289 : decode cL_law 289 = .ok (.iadd, 1) := by decide +kernel
theorem dL_law_290 : decode cL_law 290 = .ok (.iaload, 1) := by decide +kernel
theorem dL_law_291 : decode cL_law 291 = .ok (.aload_n 3, 1) := by decide +kernel
theorem dL_law_292 : decode cL_law 292 = .ok (.invokestatic 161, 3) := by decide +kernel
theorem dL_law_295 : decode cL_law 295 = .ok (.istore 6, 2) := by decide +kernel
theorem dL_law_297 : decode cL_law 297 = .ok (.aload_n 2, 1) := by decide +kernel
theorem dL_law_298 : decode cL_law 298 = .ok (.aload_n 0, 1) := by decide +kernel
theorem dL_law_299 : decode cL_law 299 = .ok (.iload 5, 2) := by decide +kernel
theorem dL_law_301 : decode cL_law 301 = .ok (.iconst 1, 1) := by decide +kernel
theorem dL_law_302 : decode cL_law 302 = .ok (.iadd, 1) := by decide +kernel
theorem dL_law_303 : decode cL_law 303 = .ok (.iaload, 1) := by decide +kernel
theorem dL_law_304 : decode cL_law 304 = .ok (.aload_n 0, 1) := by decide +kernel
theorem dL_law_305 : decode cL_law 305 = .ok (.iload 5, 2) := by decide +kernel
theorem dL_law_307 : decode cL_law 307 = .ok (.iconst 2, 1) := by decide +kernel
theorem dL_law_308 : decode cL_law 308 = .ok (.iadd, 1) := by decide +kernel
theorem dL_law_309 : decode cL_law 309 = .ok (.iaload, 1) := by decide +kernel
theorem dL_law_310 : decode cL_law 310 = .ok (.aload_n 0, 1) := by decide +kernel
theorem dL_law_311 : decode cL_law 311 = .ok (.iload 5, 2) := by decide +kernel
theorem dL_law_313 : decode cL_law 313 = .ok (.iconst 3, 1) := by decide +kernel
theorem dL_law_314 : decode cL_law 314 = .ok (.iadd, 1) := by decide +kernel
theorem dL_law_315 : decode cL_law 315 = .ok (.iaload, 1) := by decide +kernel
theorem dL_law_316 : decode cL_law 316 = .ok (.aload_n 0, 1) := by decide +kernel
theorem dL_law_317 : decode cL_law 317 = .ok (.iload 5, 2) := by decide +kernel
theorem dL_law_319 : decode cL_law 319 = .ok (.iconst 4, 1) := by decide +kernel
theorem dL_law_320 : decode cL_law 320 = .ok (.iadd, 1) := by decide +kernel
theorem dL_law_321 : decode cL_law 321 = .ok (.iaload, 1) := by decide +kernel
theorem dL_law_322 : decode cL_law 322 = .ok (.aload_n 0, 1) := by decide +kernel
theorem dL_law_323 : decode cL_law 323 = .ok (.iload 5, 2) := by decide +kernel
theorem dL_law_325 : decode cL_law 325 = .ok (.iconst 5, 1) := by decide +kernel
theorem dL_law_326 : decode cL_law 326 = .ok (.iadd, 1) := by decide +kernel
theorem dL_law_327 : decode cL_law 327 = .ok (.iaload, 1) := by decide +kernel
theorem dL_law_328 : decode cL_law 328 = .ok (.invokevirtual 166, 3) := by decide +kernel
theorem dL_law_331 : decode cL_law 331 = .ok (.istore 7, 2) := by decide +kernel
theorem dL_law_333 : decode cL_law 333 = .ok (.aload_n 2, 1) := by decide +kernel
theorem dL_law_334 : decode cL_law 334 = .ok (.invokevirtual 167, 3) := by decide +kernel
theorem dL_law_337 : decode cL_law 337 = .ok (.iload 6, 2) := by decide +kernel
theorem dL_law_339 : decode cL_law 339 = .ok (.if_icmp .eq 5, 3) := by decide +kernel
theorem dL_law_342 : decode cL_law 342 = .ok (.iconst 0, 1) := by decide +kernel
theorem dL_law_343 : decode cL_law 343 = .ok (.ireturn, 1) := by decide +kernel
theorem dL_law_344 : decode cL_law 344 = .ok (.iload 6, 2) := by decide +kernel
theorem dL_law_346 : decode cL_law 346 = .ok (.ifCond .ne 15, 3) := by decide +kernel
theorem dL_law_349 : decode cL_law 349 = .ok (.aload_n 3, 1) := by decide +kernel
theorem dL_law_350 : decode cL_law 350 = .ok (.iconst 0, 1) := by decide +kernel
theorem dL_law_351 : decode cL_law 351 = .ok (.laload, 1) := by decide +kernel
theorem dL_law_352 : decode cL_law 352 = .ok (.iload 7, 2) := by decide +kernel
theorem dL_law_354 : decode cL_law 354 = .ok (.i2l, 1) := by decide +kernel
theorem dL_law_355 : decode cL_law 355 = .ok (.lcmp, 1) := by decide +kernel
theorem dL_law_356 : decode cL_law 356 = .ok (.ifCond .eq 5, 3) := by decide +kernel
theorem dL_law_359 : decode cL_law 359 = .ok (.iconst 0, 1) := by decide +kernel
theorem dL_law_360 : decode cL_law 360 = .ok (.ireturn, 1) := by decide +kernel
theorem dL_law_361 : decode cL_law 361 = .ok (.goto 2914, 3) := by decide +kernel
theorem dL_law_364 : decode cL_law 364 = .ok (.aload_n 1, 1) := by decide +kernel
theorem dL_law_365 : decode cL_law 365 = .ok (.aload_n 0, 1) := by decide +kernel
theorem dL_law_366 : decode cL_law 366 = .ok (.iload 5, 2) := by decide +kernel
theorem dL_law_368 : decode cL_law 368 = .ok (.iconst 1, 1) := by decide +kernel
theorem dL_law_369 : decode cL_law 369 = .ok (.iadd, 1) := by decide +kernel
theorem dL_law_370 : decode cL_law 370 = .ok (.iaload, 1) := by decide +kernel
theorem dL_law_371 : decode cL_law 371 = .ok (.invokestatic 170, 3) := by decide +kernel
theorem dL_law_374 : decode cL_law 374 = .ok (.istore 6, 2) := by decide +kernel
theorem dL_law_376 : decode cL_law 376 = .ok (.aload_n 2, 1) := by decide +kernel
theorem dL_law_377 : decode cL_law 377 = .ok (.aload_n 0, 1) := by decide +kernel
theorem dL_law_378 : decode cL_law 378 = .ok (.iload 5, 2) := by decide +kernel
theorem dL_law_380 : decode cL_law 380 = .ok (.iconst 1, 1) := by decide +kernel
theorem dL_law_381 : decode cL_law 381 = .ok (.iadd, 1) := by decide +kernel
theorem dL_law_382 : decode cL_law 382 = .ok (.iaload, 1) := by decide +kernel
theorem dL_law_383 : decode cL_law 383 = .ok (.invokevirtual 173, 3) := by decide +kernel
theorem dL_law_386 : decode cL_law 386 = .ok (.aload_n 2, 1) := by decide +kernel
theorem dL_law_387 : decode cL_law 387 = .ok (.invokevirtual 167, 3) := by decide +kernel
theorem dL_law_390 : decode cL_law 390 = .ok (.iload 6, 2) := by decide +kernel
theorem dL_law_392 : decode cL_law 392 = .ok (.if_icmp .eq 5, 3) := by decide +kernel
theorem dL_law_395 : decode cL_law 395 = .ok (.iconst 0, 1) := by decide +kernel
theorem dL_law_396 : decode cL_law 396 = .ok (.ireturn, 1) := by decide +kernel
theorem dL_law_397 : decode cL_law 397 = .ok (.goto 2878, 3) := by decide +kernel
theorem dL_law_400 : decode cL_law 400 = .ok (.aload_n 1, 1) := by decide +kernel
theorem dL_law_401 : decode cL_law 401 = .ok (.invokevirtual 174, 3) := by decide +kernel
theorem dL_law_404 : decode cL_law 404 = .ok (.aload_n 2, 1) := by decide +kernel
theorem dL_law_405 : decode cL_law 405 = .ok (.invokevirtual 177, 3) := by decide +kernel
theorem dL_law_408 : decode cL_law 408 = .ok (.if_icmp .eq 2867, 3) := by decide +kernel
theorem dL_law_411 : decode cL_law 411 = .ok (.iconst 0, 1) := by decide +kernel
theorem dL_law_412 : decode cL_law 412 = .ok (.ireturn, 1) := by decide +kernel
theorem dL_law_413 : decode cL_law 413 = .ok (.aload_n 1, 1) := by decide +kernel
theorem dL_law_414 : decode cL_law 414 = .ok (.invokevirtual 178, 3) := by decide +kernel
theorem dL_law_417 : decode cL_law 417 = .ok (.aload_n 2, 1) := by decide +kernel
theorem dL_law_418 : decode cL_law 418 = .ok (.invokevirtual 181, 3) := by decide +kernel
theorem dL_law_421 : decode cL_law 421 = .ok (.if_icmp .eq 2854, 3) := by decide +kernel
theorem dL_law_424 : decode cL_law 424 = .ok (.iconst 0, 1) := by decide +kernel
theorem dL_law_425 : decode cL_law 425 = .ok (.ireturn, 1) := by decide +kernel
theorem dL_law_426 : decode cL_law 426 = .ok (.aload_n 1, 1) := by decide +kernel
theorem dL_law_427 : decode cL_law 427 = .ok (.invokevirtual 182, 3) := by decide +kernel
theorem dL_law_430 : decode cL_law 430 = .ok (.aload_n 2, 1) := by decide +kernel
theorem dL_law_431 : decode cL_law 431 = .ok (.invokevirtual 185, 3) := by decide +kernel
theorem dL_law_434 : decode cL_law 434 = .ok (.if_icmp .eq 2841, 3) := by decide +kernel
theorem dL_law_437 : decode cL_law 437 = .ok (.iconst 0, 1) := by decide +kernel
theorem dL_law_438 : decode cL_law 438 = .ok (.ireturn, 1) := by decide +kernel
theorem dL_law_439 : decode cL_law 439 = .ok (.aload_n 1, 1) := by decide +kernel
theorem dL_law_440 : decode cL_law 440 = .ok (.invokevirtual 186, 3) := by decide +kernel
theorem dL_law_443 : decode cL_law 443 = .ok (.aload_n 2, 1) := by decide +kernel
theorem dL_law_444 : decode cL_law 444 = .ok (.invokevirtual 189, 3) := by decide +kernel
theorem dL_law_447 : decode cL_law 447 = .ok (.if_icmp .eq 2828, 3) := by decide +kernel
theorem dL_law_450 : decode cL_law 450 = .ok (.iconst 0, 1) := by decide +kernel
theorem dL_law_451 : decode cL_law 451 = .ok (.ireturn, 1) := by decide +kernel
theorem dL_law_452 : decode cL_law 452 = .ok (.aload_n 1, 1) := by decide +kernel
theorem dL_law_453 : decode cL_law 453 = .ok (.invokevirtual 190, 3) := by decide +kernel
theorem dL_law_456 : decode cL_law 456 = .ok (.aload_n 2, 1) := by decide +kernel
theorem dL_law_457 : decode cL_law 457 = .ok (.invokevirtual 193, 3) := by decide +kernel
theorem dL_law_460 : decode cL_law 460 = .ok (.if_icmp .eq 2815, 3) := by decide +kernel
theorem dL_law_463 : decode cL_law 463 = .ok (.iconst 0, 1) := by decide +kernel
theorem dL_law_464 : decode cL_law 464 = .ok (.ireturn, 1) := by decide +kernel
theorem dL_law_465 : decode cL_law 465 = .ok (.aload_n 1, 1) := by decide +kernel
theorem dL_law_466 : decode cL_law 466 = .ok (.aload_n 0, 1) := by decide +kernel
theorem dL_law_467 : decode cL_law 467 = .ok (.iload 5, 2) := by decide +kernel
theorem dL_law_469 : decode cL_law 469 = .ok (.iconst 1, 1) := by decide +kernel
theorem dL_law_470 : decode cL_law 470 = .ok (.iadd, 1) := by decide +kernel
theorem dL_law_471 : decode cL_law 471 = .ok (.iaload, 1) := by decide +kernel
theorem dL_law_472 : decode cL_law 472 = .ok (.aload_n 3, 1) := by decide +kernel
theorem dL_law_473 : decode cL_law 473 = .ok (.invokestatic 194, 3) := by decide +kernel
theorem dL_law_476 : decode cL_law 476 = .ok (.istore 6, 2) := by decide +kernel
theorem dL_law_478 : decode cL_law 478 = .ok (.aload_n 2, 1) := by decide +kernel
theorem dL_law_479 : decode cL_law 479 = .ok (.aload_n 0, 1) := by decide +kernel
theorem dL_law_480 : decode cL_law 480 = .ok (.iload 5, 2) := by decide +kernel
theorem dL_law_482 : decode cL_law 482 = .ok (.iconst 1, 1) := by decide +kernel
theorem dL_law_483 : decode cL_law 483 = .ok (.iadd, 1) := by decide +kernel
theorem dL_law_484 : decode cL_law 484 = .ok (.iaload, 1) := by decide +kernel
theorem dL_law_485 : decode cL_law 485 = .ok (.invokevirtual 197, 3) := by decide +kernel
theorem dL_law_488 : decode cL_law 488 = .ok (.istore 7, 2) := by decide +kernel
theorem dL_law_490 : decode cL_law 490 = .ok (.aload_n 2, 1) := by decide +kernel
theorem dL_law_491 : decode cL_law 491 = .ok (.invokevirtual 167, 3) := by decide +kernel
theorem dL_law_494 : decode cL_law 494 = .ok (.iload 6, 2) := by decide +kernel
theorem dL_law_496 : decode cL_law 496 = .ok (.if_icmp .eq 5, 3) := by decide +kernel
theorem dL_law_499 : decode cL_law 499 = .ok (.iconst 0, 1) := by decide +kernel
theorem dL_law_500 : decode cL_law 500 = .ok (.ireturn, 1) := by decide +kernel
theorem dL_law_501 : decode cL_law 501 = .ok (.iload 6, 2) := by decide +kernel
theorem dL_law_503 : decode cL_law 503 = .ok (.ifCond .ne 15, 3) := by decide +kernel
theorem dL_law_506 : decode cL_law 506 = .ok (.aload_n 3, 1) := by decide +kernel
theorem dL_law_507 : decode cL_law 507 = .ok (.iconst 0, 1) := by decide +kernel
theorem dL_law_508 : decode cL_law 508 = .ok (.laload, 1) := by decide +kernel
theorem dL_law_509 : decode cL_law 509 = .ok (.iload 7, 2) := by decide +kernel
theorem dL_law_511 : decode cL_law 511 = .ok (.i2l, 1) := by decide +kernel
theorem dL_law_512 : decode cL_law 512 = .ok (.lcmp, 1) := by decide +kernel
theorem dL_law_513 : decode cL_law 513 = .ok (.ifCond .eq 5, 3) := by decide +kernel
theorem dL_law_516 : decode cL_law 516 = .ok (.iconst 0, 1) := by decide +kernel
theorem dL_law_517 : decode cL_law 517 = .ok (.ireturn, 1) := by decide +kernel
theorem dL_law_518 : decode cL_law 518 = .ok (.goto 2757, 3) := by decide +kernel
theorem dL_law_521 : decode cL_law 521 = .ok (.aload_n 1, 1) := by decide +kernel
theorem dL_law_522 : decode cL_law 522 = .ok (.aload_n 0, 1) := by decide +kernel
theorem dL_law_523 : decode cL_law 523 = .ok (.iload 5, 2) := by decide +kernel
theorem dL_law_525 : decode cL_law 525 = .ok (.iconst 1, 1) := by decide +kernel
theorem dL_law_526 : decode cL_law 526 = .ok (.iadd, 1) := by decide +kernel
theorem dL_law_527 : decode cL_law 527 = .ok (.iaload, 1) := by decide +kernel
theorem dL_law_528 : decode cL_law 528 = .ok (.aload_n 0, 1) := by decide +kernel
theorem dL_law_529 : decode cL_law 529 = .ok (.iload 5, 2) := by decide +kernel
theorem dL_law_531 : decode cL_law 531 = .ok (.iconst 2, 1) := by decide +kernel
theorem dL_law_532 : decode cL_law 532 = .ok (.iadd, 1) := by decide +kernel
theorem dL_law_533 : decode cL_law 533 = .ok (.iaload, 1) := by decide +kernel
theorem dL_law_534 : decode cL_law 534 = .ok (.aload_n 3, 1) := by decide +kernel
theorem dL_law_535 : decode cL_law 535 = .ok (.invokestatic 198, 3) := by decide +kernel
theorem dL_law_538 : decode cL_law 538 = .ok (.istore 6, 2) := by decide +kernel
theorem dL_law_540 : decode cL_law 540 = .ok (.aload_n 2, 1) := by decide +kernel
theorem dL_law_541 : decode cL_law 541 = .ok (.aload_n 0, 1) := by decide +kernel
theorem dL_law_542 : decode cL_law 542 = .ok (.iload 5, 2) := by decide +kernel
theorem dL_law_544 : decode cL_law 544 = .ok (.iconst 1, 1) := by decide +kernel
theorem dL_law_545 : decode cL_law 545 = .ok (.iadd, 1) := by decide +kernel
theorem dL_law_546 : decode cL_law 546 = .ok (.iaload, 1) := by decide +kernel
theorem dL_law_547 : decode cL_law 547 = .ok (.aload_n 0, 1) := by decide +kernel
theorem dL_law_548 : decode cL_law 548 = .ok (.iload 5, 2) := by decide +kernel
theorem dL_law_550 : decode cL_law 550 = .ok (.iconst 2, 1) := by decide +kernel
theorem dL_law_551 : decode cL_law 551 = .ok (.iadd, 1) := by decide +kernel
theorem dL_law_552 : decode cL_law 552 = .ok (.iaload, 1) := by decide +kernel
theorem dL_law_553 : decode cL_law 553 = .ok (.invokevirtual 201, 3) := by decide +kernel
theorem dL_law_556 : decode cL_law 556 = .ok (.istore 7, 2) := by decide +kernel
theorem dL_law_558 : decode cL_law 558 = .ok (.aload_n 2, 1) := by decide +kernel
theorem dL_law_559 : decode cL_law 559 = .ok (.invokevirtual 167, 3) := by decide +kernel
theorem dL_law_562 : decode cL_law 562 = .ok (.iload 6, 2) := by decide +kernel
theorem dL_law_564 : decode cL_law 564 = .ok (.if_icmp .eq 5, 3) := by decide +kernel
theorem dL_law_567 : decode cL_law 567 = .ok (.iconst 0, 1) := by decide +kernel
theorem dL_law_568 : decode cL_law 568 = .ok (.ireturn, 1) := by decide +kernel
theorem dL_law_569 : decode cL_law 569 = .ok (.iload 6, 2) := by decide +kernel
theorem dL_law_571 : decode cL_law 571 = .ok (.ifCond .ne 15, 3) := by decide +kernel
theorem dL_law_574 : decode cL_law 574 = .ok (.aload_n 3, 1) := by decide +kernel
theorem dL_law_575 : decode cL_law 575 = .ok (.iconst 0, 1) := by decide +kernel
theorem dL_law_576 : decode cL_law 576 = .ok (.laload, 1) := by decide +kernel
theorem dL_law_577 : decode cL_law 577 = .ok (.iload 7, 2) := by decide +kernel
theorem dL_law_579 : decode cL_law 579 = .ok (.i2l, 1) := by decide +kernel
theorem dL_law_580 : decode cL_law 580 = .ok (.lcmp, 1) := by decide +kernel
theorem dL_law_581 : decode cL_law 581 = .ok (.ifCond .eq 5, 3) := by decide +kernel
theorem dL_law_584 : decode cL_law 584 = .ok (.iconst 0, 1) := by decide +kernel
theorem dL_law_585 : decode cL_law 585 = .ok (.ireturn, 1) := by decide +kernel
theorem dL_law_586 : decode cL_law 586 = .ok (.goto 2689, 3) := by decide +kernel
theorem dL_law_589 : decode cL_law 589 = .ok (.aload_n 1, 1) := by decide +kernel
theorem dL_law_590 : decode cL_law 590 = .ok (.aload_n 0, 1) := by decide +kernel
theorem dL_law_591 : decode cL_law 591 = .ok (.iload 5, 2) := by decide +kernel
theorem dL_law_593 : decode cL_law 593 = .ok (.iconst 1, 1) := by decide +kernel
theorem dL_law_594 : decode cL_law 594 = .ok (.iadd, 1) := by decide +kernel
theorem dL_law_595 : decode cL_law 595 = .ok (.iaload, 1) := by decide +kernel
theorem dL_law_596 : decode cL_law 596 = .ok (.aload_n 0, 1) := by decide +kernel
theorem dL_law_597 : decode cL_law 597 = .ok (.iload 5, 2) := by decide +kernel
theorem dL_law_599 : decode cL_law 599 = .ok (.iconst 2, 1) := by decide +kernel
theorem dL_law_600 : decode cL_law 600 = .ok (.iadd, 1) := by decide +kernel
theorem dL_law_601 : decode cL_law 601 = .ok (.iaload, 1) := by decide +kernel
theorem dL_law_602 : decode cL_law 602 = .ok (.aload_n 0, 1) := by decide +kernel
theorem dL_law_603 : decode cL_law 603 = .ok (.iload 5, 2) := by decide +kernel
theorem dL_law_605 : decode cL_law 605 = .ok (.iconst 3, 1) := by decide +kernel
theorem dL_law_606 : decode cL_law 606 = .ok (.iadd, 1) := by decide +kernel
theorem dL_law_607 : decode cL_law 607 = .ok (.iaload, 1) := by decide +kernel
theorem dL_law_608 : decode cL_law 608 = .ok (.aload_n 3, 1) := by decide +kernel
theorem dL_law_609 : decode cL_law 609 = .ok (.invokestatic 202, 3) := by decide +kernel
theorem dL_law_612 : decode cL_law 612 = .ok (.istore 6, 2) := by decide +kernel
theorem dL_law_614 : decode cL_law 614 = .ok (.aload_n 2, 1) := by decide +kernel
theorem dL_law_615 : decode cL_law 615 = .ok (.aload_n 0, 1) := by decide +kernel
theorem dL_law_616 : decode cL_law 616 = .ok (.iload 5, 2) := by decide +kernel
theorem dL_law_618 : decode cL_law 618 = .ok (.iconst 1, 1) := by decide +kernel
theorem dL_law_619 : decode cL_law 619 = .ok (.iadd, 1) := by decide +kernel
theorem dL_law_620 : decode cL_law 620 = .ok (.iaload, 1) := by decide +kernel
theorem dL_law_621 : decode cL_law 621 = .ok (.aload_n 0, 1) := by decide +kernel
theorem dL_law_622 : decode cL_law 622 = .ok (.iload 5, 2) := by decide +kernel
theorem dL_law_624 : decode cL_law 624 = .ok (.iconst 2, 1) := by decide +kernel
theorem dL_law_625 : decode cL_law 625 = .ok (.iadd, 1) := by decide +kernel
theorem dL_law_626 : decode cL_law 626 = .ok (.iaload, 1) := by decide +kernel
theorem dL_law_627 : decode cL_law 627 = .ok (.aload_n 0, 1) := by decide +kernel
theorem dL_law_628 : decode cL_law 628 = .ok (.iload 5, 2) := by decide +kernel
theorem dL_law_630 : decode cL_law 630 = .ok (.iconst 3, 1) := by decide +kernel
theorem dL_law_631 : decode cL_law 631 = .ok (.iadd, 1) := by decide +kernel
theorem dL_law_632 : decode cL_law 632 = .ok (.iaload, 1) := by decide +kernel
theorem dL_law_633 : decode cL_law 633 = .ok (.invokevirtual 205, 3) := by decide +kernel
theorem dL_law_636 : decode cL_law 636 = .ok (.istore 7, 2) := by decide +kernel
theorem dL_law_638 : decode cL_law 638 = .ok (.aload_n 2, 1) := by decide +kernel
theorem dL_law_639 : decode cL_law 639 = .ok (.invokevirtual 167, 3) := by decide +kernel
theorem dL_law_642 : decode cL_law 642 = .ok (.iload 6, 2) := by decide +kernel
theorem dL_law_644 : decode cL_law 644 = .ok (.if_icmp .eq 5, 3) := by decide +kernel
theorem dL_law_647 : decode cL_law 647 = .ok (.iconst 0, 1) := by decide +kernel
theorem dL_law_648 : decode cL_law 648 = .ok (.ireturn, 1) := by decide +kernel
theorem dL_law_649 : decode cL_law 649 = .ok (.iload 6, 2) := by decide +kernel
theorem dL_law_651 : decode cL_law 651 = .ok (.ifCond .ne 15, 3) := by decide +kernel
theorem dL_law_654 : decode cL_law 654 = .ok (.aload_n 3, 1) := by decide +kernel
theorem dL_law_655 : decode cL_law 655 = .ok (.iconst 0, 1) := by decide +kernel
theorem dL_law_656 : decode cL_law 656 = .ok (.laload, 1) := by decide +kernel
theorem dL_law_657 : decode cL_law 657 = .ok (.iload 7, 2) := by decide +kernel
theorem dL_law_659 : decode cL_law 659 = .ok (.i2l, 1) := by decide +kernel
theorem dL_law_660 : decode cL_law 660 = .ok (.lcmp, 1) := by decide +kernel
theorem dL_law_661 : decode cL_law 661 = .ok (.ifCond .eq 5, 3) := by decide +kernel
theorem dL_law_664 : decode cL_law 664 = .ok (.iconst 0, 1) := by decide +kernel
theorem dL_law_665 : decode cL_law 665 = .ok (.ireturn, 1) := by decide +kernel
theorem dL_law_666 : decode cL_law 666 = .ok (.goto 2609, 3) := by decide +kernel
theorem dL_law_669 : decode cL_law 669 = .ok (.aload_n 1, 1) := by decide +kernel
theorem dL_law_670 : decode cL_law 670 = .ok (.aload_n 0, 1) := by decide +kernel
theorem dL_law_671 : decode cL_law 671 = .ok (.iload 5, 2) := by decide +kernel
theorem dL_law_673 : decode cL_law 673 = .ok (.iconst 1, 1) := by decide +kernel
theorem dL_law_674 : decode cL_law 674 = .ok (.iadd, 1) := by decide +kernel
theorem dL_law_675 : decode cL_law 675 = .ok (.iaload, 1) := by decide +kernel
theorem dL_law_676 : decode cL_law 676 = .ok (.aload_n 0, 1) := by decide +kernel
theorem dL_law_677 : decode cL_law 677 = .ok (.iload 5, 2) := by decide +kernel
theorem dL_law_679 : decode cL_law 679 = .ok (.iconst 2, 1) := by decide +kernel
theorem dL_law_680 : decode cL_law 680 = .ok (.iadd, 1) := by decide +kernel
theorem dL_law_681 : decode cL_law 681 = .ok (.iaload, 1) := by decide +kernel
theorem dL_law_682 : decode cL_law 682 = .ok (.aload_n 3, 1) := by decide +kernel
theorem dL_law_683 : decode cL_law 683 = .ok (.invokestatic 206, 3) := by decide +kernel
theorem dL_law_686 : decode cL_law 686 = .ok (.istore 6, 2) := by decide +kernel
theorem dL_law_688 : decode cL_law 688 = .ok (.aload_n 2, 1) := by decide +kernel
theorem dL_law_689 : decode cL_law 689 = .ok (.aload_n 0, 1) := by decide +kernel
theorem dL_law_690 : decode cL_law 690 = .ok (.iload 5, 2) := by decide +kernel
theorem dL_law_692 : decode cL_law 692 = .ok (.iconst 1, 1) := by decide +kernel
theorem dL_law_693 : decode cL_law 693 = .ok (.iadd, 1) := by decide +kernel
theorem dL_law_694 : decode cL_law 694 = .ok (.iaload, 1) := by decide +kernel
theorem dL_law_695 : decode cL_law 695 = .ok (.aload_n 0, 1) := by decide +kernel
theorem dL_law_696 : decode cL_law 696 = .ok (.iload 5, 2) := by decide +kernel
theorem dL_law_698 : decode cL_law 698 = .ok (.iconst 2, 1) := by decide +kernel
theorem dL_law_699 : decode cL_law 699 = .ok (.iadd, 1) := by decide +kernel
theorem dL_law_700 : decode cL_law 700 = .ok (.iaload, 1) := by decide +kernel
theorem dL_law_701 : decode cL_law 701 = .ok (.invokevirtual 208, 3) := by decide +kernel
theorem dL_law_704 : decode cL_law 704 = .ok (.istore 7, 2) := by decide +kernel
theorem dL_law_706 : decode cL_law 706 = .ok (.aload_n 2, 1) := by decide +kernel
theorem dL_law_707 : decode cL_law 707 = .ok (.invokevirtual 167, 3) := by decide +kernel
theorem dL_law_710 : decode cL_law 710 = .ok (.iload 6, 2) := by decide +kernel
theorem dL_law_712 : decode cL_law 712 = .ok (.if_icmp .eq 5, 3) := by decide +kernel
theorem dL_law_715 : decode cL_law 715 = .ok (.iconst 0, 1) := by decide +kernel
theorem dL_law_716 : decode cL_law 716 = .ok (.ireturn, 1) := by decide +kernel
theorem dL_law_717 : decode cL_law 717 = .ok (.iload 6, 2) := by decide +kernel
theorem dL_law_719 : decode cL_law 719 = .ok (.ifCond .ne 15, 3) := by decide +kernel
theorem dL_law_722 : decode cL_law 722 = .ok (.aload_n 3, 1) := by decide +kernel
theorem dL_law_723 : decode cL_law 723 = .ok (.iconst 0, 1) := by decide +kernel
theorem dL_law_724 : decode cL_law 724 = .ok (.laload, 1) := by decide +kernel
theorem dL_law_725 : decode cL_law 725 = .ok (.iload 7, 2) := by decide +kernel
theorem dL_law_727 : decode cL_law 727 = .ok (.i2l, 1) := by decide +kernel
theorem dL_law_728 : decode cL_law 728 = .ok (.lcmp, 1) := by decide +kernel
theorem dL_law_729 : decode cL_law 729 = .ok (.ifCond .eq 5, 3) := by decide +kernel
theorem dL_law_732 : decode cL_law 732 = .ok (.iconst 0, 1) := by decide +kernel
theorem dL_law_733 : decode cL_law 733 = .ok (.ireturn, 1) := by decide +kernel
theorem dL_law_734 : decode cL_law 734 = .ok (.goto 2541, 3) := by decide +kernel
theorem dL_law_737 : decode cL_law 737 = .ok (.aload_n 1, 1) := by decide +kernel
theorem dL_law_738 : decode cL_law 738 = .ok (.aload_n 0, 1) := by decide +kernel
theorem dL_law_739 : decode cL_law 739 = .ok (.iload 5, 2) := by decide +kernel
theorem dL_law_741 : decode cL_law 741 = .ok (.iconst 1, 1) := by decide +kernel
theorem dL_law_742 : decode cL_law 742 = .ok (.iadd, 1) := by decide +kernel
theorem dL_law_743 : decode cL_law 743 = .ok (.iaload, 1) := by decide +kernel
theorem dL_law_744 : decode cL_law 744 = .ok (.aload_n 0, 1) := by decide +kernel
theorem dL_law_745 : decode cL_law 745 = .ok (.iload 5, 2) := by decide +kernel
theorem dL_law_747 : decode cL_law 747 = .ok (.iconst 2, 1) := by decide +kernel
theorem dL_law_748 : decode cL_law 748 = .ok (.iadd, 1) := by decide +kernel
theorem dL_law_749 : decode cL_law 749 = .ok (.iaload, 1) := by decide +kernel
theorem dL_law_750 : decode cL_law 750 = .ok (.aload_n 3, 1) := by decide +kernel
theorem dL_law_751 : decode cL_law 751 = .ok (.invokestatic 209, 3) := by decide +kernel
theorem dL_law_754 : decode cL_law 754 = .ok (.istore 6, 2) := by decide +kernel
theorem dL_law_756 : decode cL_law 756 = .ok (.aload_n 2, 1) := by decide +kernel
theorem dL_law_757 : decode cL_law 757 = .ok (.aload_n 0, 1) := by decide +kernel
theorem dL_law_758 : decode cL_law 758 = .ok (.iload 5, 2) := by decide +kernel
theorem dL_law_760 : decode cL_law 760 = .ok (.iconst 1, 1) := by decide +kernel
theorem dL_law_761 : decode cL_law 761 = .ok (.iadd, 1) := by decide +kernel
theorem dL_law_762 : decode cL_law 762 = .ok (.iaload, 1) := by decide +kernel
theorem dL_law_763 : decode cL_law 763 = .ok (.aload_n 0, 1) := by decide +kernel
theorem dL_law_764 : decode cL_law 764 = .ok (.iload 5, 2) := by decide +kernel
theorem dL_law_766 : decode cL_law 766 = .ok (.iconst 2, 1) := by decide +kernel
theorem dL_law_767 : decode cL_law 767 = .ok (.iadd, 1) := by decide +kernel
theorem dL_law_768 : decode cL_law 768 = .ok (.iaload, 1) := by decide +kernel
theorem dL_law_769 : decode cL_law 769 = .ok (.invokevirtual 211, 3) := by decide +kernel
theorem dL_law_772 : decode cL_law 772 = .ok (.istore 7, 2) := by decide +kernel
theorem dL_law_774 : decode cL_law 774 = .ok (.aload_n 2, 1) := by decide +kernel
theorem dL_law_775 : decode cL_law 775 = .ok (.invokevirtual 167, 3) := by decide +kernel
theorem dL_law_778 : decode cL_law 778 = .ok (.iload 6, 2) := by decide +kernel
theorem dL_law_780 : decode cL_law 780 = .ok (.if_icmp .eq 5, 3) := by decide +kernel
theorem dL_law_783 : decode cL_law 783 = .ok (.iconst 0, 1) := by decide +kernel
theorem dL_law_784 : decode cL_law 784 = .ok (.ireturn, 1) := by decide +kernel
theorem dL_law_785 : decode cL_law 785 = .ok (.iload 6, 2) := by decide +kernel
theorem dL_law_787 : decode cL_law 787 = .ok (.ifCond .ne 15, 3) := by decide +kernel
theorem dL_law_790 : decode cL_law 790 = .ok (.aload_n 3, 1) := by decide +kernel
theorem dL_law_791 : decode cL_law 791 = .ok (.iconst 0, 1) := by decide +kernel
theorem dL_law_792 : decode cL_law 792 = .ok (.laload, 1) := by decide +kernel
theorem dL_law_793 : decode cL_law 793 = .ok (.iload 7, 2) := by decide +kernel
theorem dL_law_795 : decode cL_law 795 = .ok (.i2l, 1) := by decide +kernel
theorem dL_law_796 : decode cL_law 796 = .ok (.lcmp, 1) := by decide +kernel
theorem dL_law_797 : decode cL_law 797 = .ok (.ifCond .eq 5, 3) := by decide +kernel
theorem dL_law_800 : decode cL_law 800 = .ok (.iconst 0, 1) := by decide +kernel
theorem dL_law_801 : decode cL_law 801 = .ok (.ireturn, 1) := by decide +kernel
theorem dL_law_802 : decode cL_law 802 = .ok (.goto 2473, 3) := by decide +kernel
theorem dL_law_805 : decode cL_law 805 = .ok (.aload_n 1, 1) := by decide +kernel
theorem dL_law_806 : decode cL_law 806 = .ok (.aload_n 0, 1) := by decide +kernel
theorem dL_law_807 : decode cL_law 807 = .ok (.iload 5, 2) := by decide +kernel
theorem dL_law_809 : decode cL_law 809 = .ok (.iconst 1, 1) := by decide +kernel
theorem dL_law_810 : decode cL_law 810 = .ok (.iadd, 1) := by decide +kernel
theorem dL_law_811 : decode cL_law 811 = .ok (.iaload, 1) := by decide +kernel
theorem dL_law_812 : decode cL_law 812 = .ok (.aload_n 0, 1) := by decide +kernel
theorem dL_law_813 : decode cL_law 813 = .ok (.iload 5, 2) := by decide +kernel
theorem dL_law_815 : decode cL_law 815 = .ok (.iconst 2, 1) := by decide +kernel
theorem dL_law_816 : decode cL_law 816 = .ok (.iadd, 1) := by decide +kernel
theorem dL_law_817 : decode cL_law 817 = .ok (.iaload, 1) := by decide +kernel
theorem dL_law_818 : decode cL_law 818 = .ok (.aload_n 0, 1) := by decide +kernel
theorem dL_law_819 : decode cL_law 819 = .ok (.iload 5, 2) := by decide +kernel
theorem dL_law_821 : decode cL_law 821 = .ok (.iconst 3, 1) := by decide +kernel
theorem dL_law_822 : decode cL_law 822 = .ok (.iadd, 1) := by decide +kernel
theorem dL_law_823 : decode cL_law 823 = .ok (.iaload, 1) := by decide +kernel
theorem dL_law_824 : decode cL_law 824 = .ok (.aload_n 3, 1) := by decide +kernel
theorem dL_law_825 : decode cL_law 825 = .ok (.invokestatic 212, 3) := by decide +kernel
theorem dL_law_828 : decode cL_law 828 = .ok (.istore 6, 2) := by decide +kernel
theorem dL_law_830 : decode cL_law 830 = .ok (.aload_n 2, 1) := by decide +kernel
theorem dL_law_831 : decode cL_law 831 = .ok (.aload_n 0, 1) := by decide +kernel
theorem dL_law_832 : decode cL_law 832 = .ok (.iload 5, 2) := by decide +kernel
theorem dL_law_834 : decode cL_law 834 = .ok (.iconst 1, 1) := by decide +kernel
theorem dL_law_835 : decode cL_law 835 = .ok (.iadd, 1) := by decide +kernel
theorem dL_law_836 : decode cL_law 836 = .ok (.iaload, 1) := by decide +kernel
theorem dL_law_837 : decode cL_law 837 = .ok (.aload_n 0, 1) := by decide +kernel
theorem dL_law_838 : decode cL_law 838 = .ok (.iload 5, 2) := by decide +kernel
theorem dL_law_840 : decode cL_law 840 = .ok (.iconst 2, 1) := by decide +kernel
theorem dL_law_841 : decode cL_law 841 = .ok (.iadd, 1) := by decide +kernel
theorem dL_law_842 : decode cL_law 842 = .ok (.iaload, 1) := by decide +kernel
theorem dL_law_843 : decode cL_law 843 = .ok (.aload_n 0, 1) := by decide +kernel
theorem dL_law_844 : decode cL_law 844 = .ok (.iload 5, 2) := by decide +kernel
theorem dL_law_846 : decode cL_law 846 = .ok (.iconst 3, 1) := by decide +kernel
theorem dL_law_847 : decode cL_law 847 = .ok (.iadd, 1) := by decide +kernel
theorem dL_law_848 : decode cL_law 848 = .ok (.iaload, 1) := by decide +kernel
theorem dL_law_849 : decode cL_law 849 = .ok (.invokevirtual 214, 3) := by decide +kernel
theorem dL_law_852 : decode cL_law 852 = .ok (.istore 7, 2) := by decide +kernel
theorem dL_law_854 : decode cL_law 854 = .ok (.aload_n 2, 1) := by decide +kernel
theorem dL_law_855 : decode cL_law 855 = .ok (.invokevirtual 167, 3) := by decide +kernel
theorem dL_law_858 : decode cL_law 858 = .ok (.iload 6, 2) := by decide +kernel
theorem dL_law_860 : decode cL_law 860 = .ok (.if_icmp .eq 5, 3) := by decide +kernel
theorem dL_law_863 : decode cL_law 863 = .ok (.iconst 0, 1) := by decide +kernel
theorem dL_law_864 : decode cL_law 864 = .ok (.ireturn, 1) := by decide +kernel
theorem dL_law_865 : decode cL_law 865 = .ok (.iload 6, 2) := by decide +kernel
theorem dL_law_867 : decode cL_law 867 = .ok (.ifCond .ne 15, 3) := by decide +kernel
theorem dL_law_870 : decode cL_law 870 = .ok (.aload_n 3, 1) := by decide +kernel
theorem dL_law_871 : decode cL_law 871 = .ok (.iconst 0, 1) := by decide +kernel
theorem dL_law_872 : decode cL_law 872 = .ok (.laload, 1) := by decide +kernel
theorem dL_law_873 : decode cL_law 873 = .ok (.iload 7, 2) := by decide +kernel
theorem dL_law_875 : decode cL_law 875 = .ok (.i2l, 1) := by decide +kernel
theorem dL_law_876 : decode cL_law 876 = .ok (.lcmp, 1) := by decide +kernel
theorem dL_law_877 : decode cL_law 877 = .ok (.ifCond .eq 5, 3) := by decide +kernel
theorem dL_law_880 : decode cL_law 880 = .ok (.iconst 0, 1) := by decide +kernel
theorem dL_law_881 : decode cL_law 881 = .ok (.ireturn, 1) := by decide +kernel
theorem dL_law_882 : decode cL_law 882 = .ok (.goto 2393, 3) := by decide +kernel
theorem dL_law_885 : decode cL_law 885 = .ok (.aload_n 1, 1) := by decide +kernel
theorem dL_law_886 : decode cL_law 886 = .ok (.aload_n 0, 1) := by decide +kernel
theorem dL_law_887 : decode cL_law 887 = .ok (.iload 5, 2) := by decide +kernel
theorem dL_law_889 : decode cL_law 889 = .ok (.iconst 1, 1) := by decide +kernel
theorem dL_law_890 : decode cL_law 890 = .ok (.iadd, 1) := by decide +kernel
theorem dL_law_891 : decode cL_law 891 = .ok (.iaload, 1) := by decide +kernel
theorem dL_law_892 : decode cL_law 892 = .ok (.aload_n 0, 1) := by decide +kernel
theorem dL_law_893 : decode cL_law 893 = .ok (.iload 5, 2) := by decide +kernel
theorem dL_law_895 : decode cL_law 895 = .ok (.iconst 2, 1) := by decide +kernel
theorem dL_law_896 : decode cL_law 896 = .ok (.iadd, 1) := by decide +kernel
theorem dL_law_897 : decode cL_law 897 = .ok (.iaload, 1) := by decide +kernel
theorem dL_law_898 : decode cL_law 898 = .ok (.aload_n 3, 1) := by decide +kernel
theorem dL_law_899 : decode cL_law 899 = .ok (.invokestatic 215, 3) := by decide +kernel
theorem dL_law_902 : decode cL_law 902 = .ok (.istore 6, 2) := by decide +kernel
theorem dL_law_904 : decode cL_law 904 = .ok (.aload_n 2, 1) := by decide +kernel
theorem dL_law_905 : decode cL_law 905 = .ok (.aload_n 0, 1) := by decide +kernel
theorem dL_law_906 : decode cL_law 906 = .ok (.iload 5, 2) := by decide +kernel
theorem dL_law_908 : decode cL_law 908 = .ok (.iconst 1, 1) := by decide +kernel
theorem dL_law_909 : decode cL_law 909 = .ok (.iadd, 1) := by decide +kernel
theorem dL_law_910 : decode cL_law 910 = .ok (.iaload, 1) := by decide +kernel
theorem dL_law_911 : decode cL_law 911 = .ok (.aload_n 0, 1) := by decide +kernel
theorem dL_law_912 : decode cL_law 912 = .ok (.iload 5, 2) := by decide +kernel
theorem dL_law_914 : decode cL_law 914 = .ok (.iconst 2, 1) := by decide +kernel
theorem dL_law_915 : decode cL_law 915 = .ok (.iadd, 1) := by decide +kernel
theorem dL_law_916 : decode cL_law 916 = .ok (.iaload, 1) := by decide +kernel
theorem dL_law_917 : decode cL_law 917 = .ok (.invokevirtual 217, 3) := by decide +kernel
theorem dL_law_920 : decode cL_law 920 = .ok (.istore 7, 2) := by decide +kernel
theorem dL_law_922 : decode cL_law 922 = .ok (.aload_n 2, 1) := by decide +kernel
theorem dL_law_923 : decode cL_law 923 = .ok (.invokevirtual 167, 3) := by decide +kernel
theorem dL_law_926 : decode cL_law 926 = .ok (.iload 6, 2) := by decide +kernel
theorem dL_law_928 : decode cL_law 928 = .ok (.if_icmp .eq 5, 3) := by decide +kernel
theorem dL_law_931 : decode cL_law 931 = .ok (.iconst 0, 1) := by decide +kernel
theorem dL_law_932 : decode cL_law 932 = .ok (.ireturn, 1) := by decide +kernel
theorem dL_law_933 : decode cL_law 933 = .ok (.iload 6, 2) := by decide +kernel
theorem dL_law_935 : decode cL_law 935 = .ok (.ifCond .ne 15, 3) := by decide +kernel
theorem dL_law_938 : decode cL_law 938 = .ok (.aload_n 3, 1) := by decide +kernel
theorem dL_law_939 : decode cL_law 939 = .ok (.iconst 0, 1) := by decide +kernel
theorem dL_law_940 : decode cL_law 940 = .ok (.laload, 1) := by decide +kernel
theorem dL_law_941 : decode cL_law 941 = .ok (.iload 7, 2) := by decide +kernel
theorem dL_law_943 : decode cL_law 943 = .ok (.i2l, 1) := by decide +kernel
theorem dL_law_944 : decode cL_law 944 = .ok (.lcmp, 1) := by decide +kernel
theorem dL_law_945 : decode cL_law 945 = .ok (.ifCond .eq 5, 3) := by decide +kernel
theorem dL_law_948 : decode cL_law 948 = .ok (.iconst 0, 1) := by decide +kernel
theorem dL_law_949 : decode cL_law 949 = .ok (.ireturn, 1) := by decide +kernel
theorem dL_law_950 : decode cL_law 950 = .ok (.goto 2325, 3) := by decide +kernel
theorem dL_law_953 : decode cL_law 953 = .ok (.aload_n 1, 1) := by decide +kernel
theorem dL_law_954 : decode cL_law 954 = .ok (.aload_n 0, 1) := by decide +kernel
theorem dL_law_955 : decode cL_law 955 = .ok (.iload 5, 2) := by decide +kernel
theorem dL_law_957 : decode cL_law 957 = .ok (.iconst 1, 1) := by decide +kernel
theorem dL_law_958 : decode cL_law 958 = .ok (.iadd, 1) := by decide +kernel
theorem dL_law_959 : decode cL_law 959 = .ok (.iaload, 1) := by decide +kernel
theorem dL_law_960 : decode cL_law 960 = .ok (.aload_n 0, 1) := by decide +kernel
theorem dL_law_961 : decode cL_law 961 = .ok (.iload 5, 2) := by decide +kernel
theorem dL_law_963 : decode cL_law 963 = .ok (.iconst 2, 1) := by decide +kernel
theorem dL_law_964 : decode cL_law 964 = .ok (.iadd, 1) := by decide +kernel
theorem dL_law_965 : decode cL_law 965 = .ok (.iaload, 1) := by decide +kernel
theorem dL_law_966 : decode cL_law 966 = .ok (.aload_n 3, 1) := by decide +kernel
theorem dL_law_967 : decode cL_law 967 = .ok (.invokestatic 218, 3) := by decide +kernel
theorem dL_law_970 : decode cL_law 970 = .ok (.istore 6, 2) := by decide +kernel
theorem dL_law_972 : decode cL_law 972 = .ok (.aload_n 2, 1) := by decide +kernel
theorem dL_law_973 : decode cL_law 973 = .ok (.aload_n 0, 1) := by decide +kernel
theorem dL_law_974 : decode cL_law 974 = .ok (.iload 5, 2) := by decide +kernel
theorem dL_law_976 : decode cL_law 976 = .ok (.iconst 1, 1) := by decide +kernel
theorem dL_law_977 : decode cL_law 977 = .ok (.iadd, 1) := by decide +kernel
theorem dL_law_978 : decode cL_law 978 = .ok (.iaload, 1) := by decide +kernel
theorem dL_law_979 : decode cL_law 979 = .ok (.aload_n 0, 1) := by decide +kernel
theorem dL_law_980 : decode cL_law 980 = .ok (.iload 5, 2) := by decide +kernel
theorem dL_law_982 : decode cL_law 982 = .ok (.iconst 2, 1) := by decide +kernel
theorem dL_law_983 : decode cL_law 983 = .ok (.iadd, 1) := by decide +kernel
theorem dL_law_984 : decode cL_law 984 = .ok (.iaload, 1) := by decide +kernel
theorem dL_law_985 : decode cL_law 985 = .ok (.invokevirtual 220, 3) := by decide +kernel
theorem dL_law_988 : decode cL_law 988 = .ok (.istore 7, 2) := by decide +kernel
theorem dL_law_990 : decode cL_law 990 = .ok (.aload_n 2, 1) := by decide +kernel
theorem dL_law_991 : decode cL_law 991 = .ok (.invokevirtual 167, 3) := by decide +kernel
theorem dL_law_994 : decode cL_law 994 = .ok (.iload 6, 2) := by decide +kernel
theorem dL_law_996 : decode cL_law 996 = .ok (.if_icmp .eq 5, 3) := by decide +kernel
theorem dL_law_999 : decode cL_law 999 = .ok (.iconst 0, 1) := by decide +kernel
theorem dL_law_1000 : decode cL_law 1000 = .ok (.ireturn, 1) := by decide +kernel
theorem dL_law_1001 : decode cL_law 1001 = .ok (.iload 6, 2) := by decide +kernel
theorem dL_law_1003 : decode cL_law 1003 = .ok (.ifCond .ne 15, 3) := by decide +kernel
theorem dL_law_1006 : decode cL_law 1006 = .ok (.aload_n 3, 1) := by decide +kernel
theorem dL_law_1007 : decode cL_law 1007 = .ok (.iconst 0, 1) := by decide +kernel
theorem dL_law_1008 : decode cL_law 1008 = .ok (.laload, 1) := by decide +kernel
theorem dL_law_1009 : decode cL_law 1009 = .ok (.iload 7, 2) := by decide +kernel
theorem dL_law_1011 : decode cL_law 1011 = .ok (.i2l, 1) := by decide +kernel
theorem dL_law_1012 : decode cL_law 1012 = .ok (.lcmp, 1) := by decide +kernel
theorem dL_law_1013 : decode cL_law 1013 = .ok (.ifCond .eq 5, 3) := by decide +kernel
theorem dL_law_1016 : decode cL_law 1016 = .ok (.iconst 0, 1) := by decide +kernel
theorem dL_law_1017 : decode cL_law 1017 = .ok (.ireturn, 1) := by decide +kernel
theorem dL_law_1018 : decode cL_law 1018 = .ok (.goto 2257, 3) := by decide +kernel
theorem dL_law_1021 : decode cL_law 1021 = .ok (.aload_n 1, 1) := by decide +kernel
theorem dL_law_1022 : decode cL_law 1022 = .ok (.aload_n 0, 1) := by decide +kernel
theorem dL_law_1023 : decode cL_law 1023 = .ok (.iload 5, 2) := by decide +kernel
theorem dL_law_1025 : decode cL_law 1025 = .ok (.iconst 1, 1) := by decide +kernel
theorem dL_law_1026 : decode cL_law 1026 = .ok (.iadd, 1) := by decide +kernel
theorem dL_law_1027 : decode cL_law 1027 = .ok (.iaload, 1) := by decide +kernel
theorem dL_law_1028 : decode cL_law 1028 = .ok (.aload_n 3, 1) := by decide +kernel
theorem dL_law_1029 : decode cL_law 1029 = .ok (.invokestatic 221, 3) := by decide +kernel
theorem dL_law_1032 : decode cL_law 1032 = .ok (.istore 6, 2) := by decide +kernel
theorem dL_law_1034 : decode cL_law 1034 = .ok (.aload_n 2, 1) := by decide +kernel
theorem dL_law_1035 : decode cL_law 1035 = .ok (.aload_n 0, 1) := by decide +kernel
theorem dL_law_1036 : decode cL_law 1036 = .ok (.iload 5, 2) := by decide +kernel
theorem dL_law_1038 : decode cL_law 1038 = .ok (.iconst 1, 1) := by decide +kernel
theorem dL_law_1039 : decode cL_law 1039 = .ok (.iadd, 1) := by decide +kernel
theorem dL_law_1040 : decode cL_law 1040 = .ok (.iaload, 1) := by decide +kernel
theorem dL_law_1041 : decode cL_law 1041 = .ok (.invokevirtual 223, 3) := by decide +kernel
theorem dL_law_1044 : decode cL_law 1044 = .ok (.istore 7, 2) := by decide +kernel
theorem dL_law_1046 : decode cL_law 1046 = .ok (.aload_n 2, 1) := by decide +kernel
theorem dL_law_1047 : decode cL_law 1047 = .ok (.invokevirtual 167, 3) := by decide +kernel
theorem dL_law_1050 : decode cL_law 1050 = .ok (.iload 6, 2) := by decide +kernel
theorem dL_law_1052 : decode cL_law 1052 = .ok (.if_icmp .eq 5, 3) := by decide +kernel
theorem dL_law_1055 : decode cL_law 1055 = .ok (.iconst 0, 1) := by decide +kernel
theorem dL_law_1056 : decode cL_law 1056 = .ok (.ireturn, 1) := by decide +kernel
theorem dL_law_1057 : decode cL_law 1057 = .ok (.iload 6, 2) := by decide +kernel
theorem dL_law_1059 : decode cL_law 1059 = .ok (.ifCond .ne 15, 3) := by decide +kernel
theorem dL_law_1062 : decode cL_law 1062 = .ok (.aload_n 3, 1) := by decide +kernel
theorem dL_law_1063 : decode cL_law 1063 = .ok (.iconst 0, 1) := by decide +kernel
theorem dL_law_1064 : decode cL_law 1064 = .ok (.laload, 1) := by decide +kernel
theorem dL_law_1065 : decode cL_law 1065 = .ok (.iload 7, 2) := by decide +kernel
theorem dL_law_1067 : decode cL_law 1067 = .ok (.i2l, 1) := by decide +kernel
theorem dL_law_1068 : decode cL_law 1068 = .ok (.lcmp, 1) := by decide +kernel
theorem dL_law_1069 : decode cL_law 1069 = .ok (.ifCond .eq 5, 3) := by decide +kernel
theorem dL_law_1072 : decode cL_law 1072 = .ok (.iconst 0, 1) := by decide +kernel
theorem dL_law_1073 : decode cL_law 1073 = .ok (.ireturn, 1) := by decide +kernel
theorem dL_law_1074 : decode cL_law 1074 = .ok (.goto 2201, 3) := by decide +kernel
theorem dL_law_1077 : decode cL_law 1077 = .ok (.aload_n 1, 1) := by decide +kernel
theorem dL_law_1078 : decode cL_law 1078 = .ok (.aload_n 0, 1) := by decide +kernel
theorem dL_law_1079 : decode cL_law 1079 = .ok (.iload 5, 2) := by decide +kernel
theorem dL_law_1081 : decode cL_law 1081 = .ok (.iconst 1, 1) := by decide +kernel
theorem dL_law_1082 : decode cL_law 1082 = .ok (.iadd, 1) := by decide +kernel
theorem dL_law_1083 : decode cL_law 1083 = .ok (.iaload, 1) := by decide +kernel
theorem dL_law_1084 : decode cL_law 1084 = .ok (.aload_n 3, 1) := by decide +kernel
theorem dL_law_1085 : decode cL_law 1085 = .ok (.invokestatic 224, 3) := by decide +kernel
theorem dL_law_1088 : decode cL_law 1088 = .ok (.istore 6, 2) := by decide +kernel
theorem dL_law_1090 : decode cL_law 1090 = .ok (.aload_n 2, 1) := by decide +kernel
theorem dL_law_1091 : decode cL_law 1091 = .ok (.aload_n 0, 1) := by decide +kernel
theorem dL_law_1092 : decode cL_law 1092 = .ok (.iload 5, 2) := by decide +kernel
theorem dL_law_1094 : decode cL_law 1094 = .ok (.iconst 1, 1) := by decide +kernel
theorem dL_law_1095 : decode cL_law 1095 = .ok (.iadd, 1) := by decide +kernel
theorem dL_law_1096 : decode cL_law 1096 = .ok (.iaload, 1) := by decide +kernel
theorem dL_law_1097 : decode cL_law 1097 = .ok (.invokevirtual 226, 3) := by decide +kernel
theorem dL_law_1100 : decode cL_law 1100 = .ok (.istore 7, 2) := by decide +kernel
theorem dL_law_1102 : decode cL_law 1102 = .ok (.aload_n 2, 1) := by decide +kernel
theorem dL_law_1103 : decode cL_law 1103 = .ok (.invokevirtual 167, 3) := by decide +kernel
theorem dL_law_1106 : decode cL_law 1106 = .ok (.iload 6, 2) := by decide +kernel
theorem dL_law_1108 : decode cL_law 1108 = .ok (.if_icmp .eq 5, 3) := by decide +kernel
theorem dL_law_1111 : decode cL_law 1111 = .ok (.iconst 0, 1) := by decide +kernel
theorem dL_law_1112 : decode cL_law 1112 = .ok (.ireturn, 1) := by decide +kernel
theorem dL_law_1113 : decode cL_law 1113 = .ok (.iload 6, 2) := by decide +kernel
theorem dL_law_1115 : decode cL_law 1115 = .ok (.ifCond .ne 22, 3) := by decide +kernel
theorem dL_law_1118 : decode cL_law 1118 = .ok (.aload_n 3, 1) := by decide +kernel
theorem dL_law_1119 : decode cL_law 1119 = .ok (.iconst 0, 1) := by decide +kernel
theorem dL_law_1120 : decode cL_law 1120 = .ok (.laload, 1) := by decide +kernel
theorem dL_law_1121 : decode cL_law 1121 = .ok (.iload 7, 2) := by decide +kernel
theorem dL_law_1123 : decode cL_law 1123 = .ok (.ifCond .eq 7, 3) := by decide +kernel
theorem dL_law_1126 : decode cL_law 1126 = .ok (.lconst 1, 1) := by decide +kernel
theorem dL_law_1127 : decode cL_law 1127 = .ok (.goto 4, 3) := by decide +kernel
theorem dL_law_1130 : decode cL_law 1130 = .ok (.lconst 0, 1) := by decide +kernel
theorem dL_law_1131 : decode cL_law 1131 = .ok (.lcmp, 1) := by decide +kernel
theorem dL_law_1132 : decode cL_law 1132 = .ok (.ifCond .eq 5, 3) := by decide +kernel
theorem dL_law_1135 : decode cL_law 1135 = .ok (.iconst 0, 1) := by decide +kernel
theorem dL_law_1136 : decode cL_law 1136 = .ok (.ireturn, 1) := by decide +kernel
theorem dL_law_1137 : decode cL_law 1137 = .ok (.goto 2138, 3) := by decide +kernel
theorem dL_law_1140 : decode cL_law 1140 = .ok (.aload_n 1, 1) := by decide +kernel
theorem dL_law_1141 : decode cL_law 1141 = .ok (.aload_n 0, 1) := by decide +kernel
theorem dL_law_1142 : decode cL_law 1142 = .ok (.iload 5, 2) := by decide +kernel
theorem dL_law_1144 : decode cL_law 1144 = .ok (.iconst 1, 1) := by decide +kernel
theorem dL_law_1145 : decode cL_law 1145 = .ok (.iadd, 1) := by decide +kernel
theorem dL_law_1146 : decode cL_law 1146 = .ok (.iaload, 1) := by decide +kernel
theorem dL_law_1147 : decode cL_law 1147 = .ok (.aload_n 3, 1) := by decide +kernel
theorem dL_law_1148 : decode cL_law 1148 = .ok (.invokestatic 227, 3) := by decide +kernel
theorem dL_law_1151 : decode cL_law 1151 = .ok (.istore 6, 2) := by decide +kernel
theorem dL_law_1153 : decode cL_law 1153 = .ok (.aload_n 2, 1) := by decide +kernel
theorem dL_law_1154 : decode cL_law 1154 = .ok (.aload_n 0, 1) := by decide +kernel
theorem dL_law_1155 : decode cL_law 1155 = .ok (.iload 5, 2) := by decide +kernel
theorem dL_law_1157 : decode cL_law 1157 = .ok (.iconst 1, 1) := by decide +kernel
theorem dL_law_1158 : decode cL_law 1158 = .ok (.iadd, 1) := by decide +kernel
theorem dL_law_1159 : decode cL_law 1159 = .ok (.iaload, 1) := by decide +kernel
theorem dL_law_1160 : decode cL_law 1160 = .ok (.invokevirtual 229, 3) := by decide +kernel
theorem dL_law_1163 : decode cL_law 1163 = .ok (.istore 7, 2) := by decide +kernel
theorem dL_law_1165 : decode cL_law 1165 = .ok (.aload_n 2, 1) := by decide +kernel
theorem dL_law_1166 : decode cL_law 1166 = .ok (.invokevirtual 167, 3) := by decide +kernel
theorem dL_law_1169 : decode cL_law 1169 = .ok (.iload 6, 2) := by decide +kernel
theorem dL_law_1171 : decode cL_law 1171 = .ok (.if_icmp .eq 5, 3) := by decide +kernel
theorem dL_law_1174 : decode cL_law 1174 = .ok (.iconst 0, 1) := by decide +kernel
theorem dL_law_1175 : decode cL_law 1175 = .ok (.ireturn, 1) := by decide +kernel
theorem dL_law_1176 : decode cL_law 1176 = .ok (.iload 6, 2) := by decide +kernel
theorem dL_law_1178 : decode cL_law 1178 = .ok (.ifCond .ne 15, 3) := by decide +kernel
theorem dL_law_1181 : decode cL_law 1181 = .ok (.aload_n 3, 1) := by decide +kernel
theorem dL_law_1182 : decode cL_law 1182 = .ok (.iconst 0, 1) := by decide +kernel
theorem dL_law_1183 : decode cL_law 1183 = .ok (.laload, 1) := by decide +kernel
theorem dL_law_1184 : decode cL_law 1184 = .ok (.iload 7, 2) := by decide +kernel
theorem dL_law_1186 : decode cL_law 1186 = .ok (.i2l, 1) := by decide +kernel
theorem dL_law_1187 : decode cL_law 1187 = .ok (.lcmp, 1) := by decide +kernel
theorem dL_law_1188 : decode cL_law 1188 = .ok (.ifCond .eq 5, 3) := by decide +kernel
theorem dL_law_1191 : decode cL_law 1191 = .ok (.iconst 0, 1) := by decide +kernel
theorem dL_law_1192 : decode cL_law 1192 = .ok (.ireturn, 1) := by decide +kernel
theorem dL_law_1193 : decode cL_law 1193 = .ok (.goto 2082, 3) := by decide +kernel
theorem dL_law_1196 : decode cL_law 1196 = .ok (.aload_n 1, 1) := by decide +kernel
theorem dL_law_1197 : decode cL_law 1197 = .ok (.aload_n 0, 1) := by decide +kernel
theorem dL_law_1198 : decode cL_law 1198 = .ok (.iload 5, 2) := by decide +kernel
theorem dL_law_1200 : decode cL_law 1200 = .ok (.iconst 1, 1) := by decide +kernel
theorem dL_law_1201 : decode cL_law 1201 = .ok (.iadd, 1) := by decide +kernel
theorem dL_law_1202 : decode cL_law 1202 = .ok (.iaload, 1) := by decide +kernel
theorem dL_law_1203 : decode cL_law 1203 = .ok (.aload_n 3, 1) := by decide +kernel
theorem dL_law_1204 : decode cL_law 1204 = .ok (.invokestatic 230, 3) := by decide +kernel
theorem dL_law_1207 : decode cL_law 1207 = .ok (.istore 6, 2) := by decide +kernel
theorem dL_law_1209 : decode cL_law 1209 = .ok (.aload_n 2, 1) := by decide +kernel
theorem dL_law_1210 : decode cL_law 1210 = .ok (.aload_n 0, 1) := by decide +kernel
theorem dL_law_1211 : decode cL_law 1211 = .ok (.iload 5, 2) := by decide +kernel
theorem dL_law_1213 : decode cL_law 1213 = .ok (.iconst 1, 1) := by decide +kernel
theorem dL_law_1214 : decode cL_law 1214 = .ok (.iadd, 1) := by decide +kernel
theorem dL_law_1215 : decode cL_law 1215 = .ok (.iaload, 1) := by decide +kernel
theorem dL_law_1216 : decode cL_law 1216 = .ok (.invokevirtual 232, 3) := by decide +kernel
theorem dL_law_1219 : decode cL_law 1219 = .ok (.istore 7, 2) := by decide +kernel
theorem dL_law_1221 : decode cL_law 1221 = .ok (.aload_n 2, 1) := by decide +kernel
theorem dL_law_1222 : decode cL_law 1222 = .ok (.invokevirtual 167, 3) := by decide +kernel
theorem dL_law_1225 : decode cL_law 1225 = .ok (.iload 6, 2) := by decide +kernel
theorem dL_law_1227 : decode cL_law 1227 = .ok (.if_icmp .eq 5, 3) := by decide +kernel
theorem dL_law_1230 : decode cL_law 1230 = .ok (.iconst 0, 1) := by decide +kernel
theorem dL_law_1231 : decode cL_law 1231 = .ok (.ireturn, 1) := by decide +kernel
theorem dL_law_1232 : decode cL_law 1232 = .ok (.iload 6, 2) := by decide +kernel
theorem dL_law_1234 : decode cL_law 1234 = .ok (.ifCond .ne 15, 3) := by decide +kernel
theorem dL_law_1237 : decode cL_law 1237 = .ok (.aload_n 3, 1) := by decide +kernel
theorem dL_law_1238 : decode cL_law 1238 = .ok (.iconst 0, 1) := by decide +kernel
theorem dL_law_1239 : decode cL_law 1239 = .ok (.laload, 1) := by decide +kernel
theorem dL_law_1240 : decode cL_law 1240 = .ok (.iload 7, 2) := by decide +kernel
theorem dL_law_1242 : decode cL_law 1242 = .ok (.i2l, 1) := by decide +kernel
theorem dL_law_1243 : decode cL_law 1243 = .ok (.lcmp, 1) := by decide +kernel
theorem dL_law_1244 : decode cL_law 1244 = .ok (.ifCond .eq 5, 3) := by decide +kernel
theorem dL_law_1247 : decode cL_law 1247 = .ok (.iconst 0, 1) := by decide +kernel
theorem dL_law_1248 : decode cL_law 1248 = .ok (.ireturn, 1) := by decide +kernel
theorem dL_law_1249 : decode cL_law 1249 = .ok (.goto 2026, 3) := by decide +kernel
theorem dL_law_1252 : decode cL_law 1252 = .ok (.aload_n 1, 1) := by decide +kernel
theorem dL_law_1253 : decode cL_law 1253 = .ok (.aload_n 0, 1) := by decide +kernel
theorem dL_law_1254 : decode cL_law 1254 = .ok (.iload 5, 2) := by decide +kernel
theorem dL_law_1256 : decode cL_law 1256 = .ok (.iconst 1, 1) := by decide +kernel
theorem dL_law_1257 : decode cL_law 1257 = .ok (.iadd, 1) := by decide +kernel
theorem dL_law_1258 : decode cL_law 1258 = .ok (.iaload, 1) := by decide +kernel
theorem dL_law_1259 : decode cL_law 1259 = .ok (.aload_n 0, 1) := by decide +kernel
theorem dL_law_1260 : decode cL_law 1260 = .ok (.iload 5, 2) := by decide +kernel
theorem dL_law_1262 : decode cL_law 1262 = .ok (.iconst 2, 1) := by decide +kernel
theorem dL_law_1263 : decode cL_law 1263 = .ok (.iadd, 1) := by decide +kernel
theorem dL_law_1264 : decode cL_law 1264 = .ok (.iaload, 1) := by decide +kernel
theorem dL_law_1265 : decode cL_law 1265 = .ok (.aload_n 3, 1) := by decide +kernel
theorem dL_law_1266 : decode cL_law 1266 = .ok (.invokestatic 233, 3) := by decide +kernel
theorem dL_law_1269 : decode cL_law 1269 = .ok (.istore 6, 2) := by decide +kernel
theorem dL_law_1271 : decode cL_law 1271 = .ok (.aload_n 2, 1) := by decide +kernel
theorem dL_law_1272 : decode cL_law 1272 = .ok (.aload_n 0, 1) := by decide +kernel
theorem dL_law_1273 : decode cL_law 1273 = .ok (.iload 5, 2) := by decide +kernel
theorem dL_law_1275 : decode cL_law 1275 = .ok (.iconst 1, 1) := by decide +kernel
theorem dL_law_1276 : decode cL_law 1276 = .ok (.iadd, 1) := by decide +kernel
theorem dL_law_1277 : decode cL_law 1277 = .ok (.iaload, 1) := by decide +kernel
theorem dL_law_1278 : decode cL_law 1278 = .ok (.aload_n 0, 1) := by decide +kernel
theorem dL_law_1279 : decode cL_law 1279 = .ok (.iload 5, 2) := by decide +kernel
theorem dL_law_1281 : decode cL_law 1281 = .ok (.iconst 2, 1) := by decide +kernel
theorem dL_law_1282 : decode cL_law 1282 = .ok (.iadd, 1) := by decide +kernel
theorem dL_law_1283 : decode cL_law 1283 = .ok (.iaload, 1) := by decide +kernel
theorem dL_law_1284 : decode cL_law 1284 = .ok (.invokevirtual 235, 3) := by decide +kernel
theorem dL_law_1287 : decode cL_law 1287 = .ok (.istore 7, 2) := by decide +kernel
theorem dL_law_1289 : decode cL_law 1289 = .ok (.aload_n 2, 1) := by decide +kernel
theorem dL_law_1290 : decode cL_law 1290 = .ok (.invokevirtual 167, 3) := by decide +kernel
theorem dL_law_1293 : decode cL_law 1293 = .ok (.iload 6, 2) := by decide +kernel
theorem dL_law_1295 : decode cL_law 1295 = .ok (.if_icmp .eq 5, 3) := by decide +kernel
theorem dL_law_1298 : decode cL_law 1298 = .ok (.iconst 0, 1) := by decide +kernel
theorem dL_law_1299 : decode cL_law 1299 = .ok (.ireturn, 1) := by decide +kernel
theorem dL_law_1300 : decode cL_law 1300 = .ok (.iload 6, 2) := by decide +kernel
theorem dL_law_1302 : decode cL_law 1302 = .ok (.ifCond .ne 15, 3) := by decide +kernel
theorem dL_law_1305 : decode cL_law 1305 = .ok (.aload_n 3, 1) := by decide +kernel
theorem dL_law_1306 : decode cL_law 1306 = .ok (.iconst 0, 1) := by decide +kernel
theorem dL_law_1307 : decode cL_law 1307 = .ok (.laload, 1) := by decide +kernel
theorem dL_law_1308 : decode cL_law 1308 = .ok (.iload 7, 2) := by decide +kernel
theorem dL_law_1310 : decode cL_law 1310 = .ok (.i2l, 1) := by decide +kernel
theorem dL_law_1311 : decode cL_law 1311 = .ok (.lcmp, 1) := by decide +kernel
theorem dL_law_1312 : decode cL_law 1312 = .ok (.ifCond .eq 5, 3) := by decide +kernel
theorem dL_law_1315 : decode cL_law 1315 = .ok (.iconst 0, 1) := by decide +kernel
theorem dL_law_1316 : decode cL_law 1316 = .ok (.ireturn, 1) := by decide +kernel
theorem dL_law_1317 : decode cL_law 1317 = .ok (.goto 1958, 3) := by decide +kernel
theorem dL_law_1320 : decode cL_law 1320 = .ok (.aload_n 1, 1) := by decide +kernel
theorem dL_law_1321 : decode cL_law 1321 = .ok (.aload_n 0, 1) := by decide +kernel
theorem dL_law_1322 : decode cL_law 1322 = .ok (.iload 5, 2) := by decide +kernel
theorem dL_law_1324 : decode cL_law 1324 = .ok (.iconst 1, 1) := by decide +kernel
theorem dL_law_1325 : decode cL_law 1325 = .ok (.iadd, 1) := by decide +kernel
theorem dL_law_1326 : decode cL_law 1326 = .ok (.iaload, 1) := by decide +kernel
theorem dL_law_1327 : decode cL_law 1327 = .ok (.aload_n 0, 1) := by decide +kernel
theorem dL_law_1328 : decode cL_law 1328 = .ok (.iload 5, 2) := by decide +kernel
theorem dL_law_1330 : decode cL_law 1330 = .ok (.iconst 2, 1) := by decide +kernel
theorem dL_law_1331 : decode cL_law 1331 = .ok (.iadd, 1) := by decide +kernel
theorem dL_law_1332 : decode cL_law 1332 = .ok (.iaload, 1) := by decide +kernel
theorem dL_law_1333 : decode cL_law 1333 = .ok (.aload_n 3, 1) := by decide +kernel
theorem dL_law_1334 : decode cL_law 1334 = .ok (.invokestatic 236, 3) := by decide +kernel
theorem dL_law_1337 : decode cL_law 1337 = .ok (.istore 6, 2) := by decide +kernel
theorem dL_law_1339 : decode cL_law 1339 = .ok (.aload_n 2, 1) := by decide +kernel
theorem dL_law_1340 : decode cL_law 1340 = .ok (.aload_n 0, 1) := by decide +kernel
theorem dL_law_1341 : decode cL_law 1341 = .ok (.iload 5, 2) := by decide +kernel
theorem dL_law_1343 : decode cL_law 1343 = .ok (.iconst 1, 1) := by decide +kernel
theorem dL_law_1344 : decode cL_law 1344 = .ok (.iadd, 1) := by decide +kernel
theorem dL_law_1345 : decode cL_law 1345 = .ok (.iaload, 1) := by decide +kernel
theorem dL_law_1346 : decode cL_law 1346 = .ok (.aload_n 0, 1) := by decide +kernel
theorem dL_law_1347 : decode cL_law 1347 = .ok (.iload 5, 2) := by decide +kernel
theorem dL_law_1349 : decode cL_law 1349 = .ok (.iconst 2, 1) := by decide +kernel
theorem dL_law_1350 : decode cL_law 1350 = .ok (.iadd, 1) := by decide +kernel
theorem dL_law_1351 : decode cL_law 1351 = .ok (.iaload, 1) := by decide +kernel
theorem dL_law_1352 : decode cL_law 1352 = .ok (.invokevirtual 238, 3) := by decide +kernel
theorem dL_law_1355 : decode cL_law 1355 = .ok (.istore 7, 2) := by decide +kernel
theorem dL_law_1357 : decode cL_law 1357 = .ok (.aload_n 2, 1) := by decide +kernel
theorem dL_law_1358 : decode cL_law 1358 = .ok (.invokevirtual 167, 3) := by decide +kernel
theorem dL_law_1361 : decode cL_law 1361 = .ok (.iload 6, 2) := by decide +kernel
theorem dL_law_1363 : decode cL_law 1363 = .ok (.if_icmp .eq 5, 3) := by decide +kernel
theorem dL_law_1366 : decode cL_law 1366 = .ok (.iconst 0, 1) := by decide +kernel
theorem dL_law_1367 : decode cL_law 1367 = .ok (.ireturn, 1) := by decide +kernel
theorem dL_law_1368 : decode cL_law 1368 = .ok (.iload 6, 2) := by decide +kernel
theorem dL_law_1370 : decode cL_law 1370 = .ok (.ifCond .ne 15, 3) := by decide +kernel
theorem dL_law_1373 : decode cL_law 1373 = .ok (.aload_n 3, 1) := by decide +kernel
theorem dL_law_1374 : decode cL_law 1374 = .ok (.iconst 0, 1) := by decide +kernel
theorem dL_law_1375 : decode cL_law 1375 = .ok (.laload, 1) := by decide +kernel
theorem dL_law_1376 : decode cL_law 1376 = .ok (.iload 7, 2) := by decide +kernel
theorem dL_law_1378 : decode cL_law 1378 = .ok (.i2l, 1) := by decide +kernel
theorem dL_law_1379 : decode cL_law 1379 = .ok (.lcmp, 1) := by decide +kernel
theorem dL_law_1380 : decode cL_law 1380 = .ok (.ifCond .eq 5, 3) := by decide +kernel
theorem dL_law_1383 : decode cL_law 1383 = .ok (.iconst 0, 1) := by decide +kernel
theorem dL_law_1384 : decode cL_law 1384 = .ok (.ireturn, 1) := by decide +kernel
theorem dL_law_1385 : decode cL_law 1385 = .ok (.goto 1890, 3) := by decide +kernel
theorem dL_law_1388 : decode cL_law 1388 = .ok (.aload_n 1, 1) := by decide +kernel
theorem dL_law_1389 : decode cL_law 1389 = .ok (.invokevirtual 239, 3) := by decide +kernel
theorem dL_law_1392 : decode cL_law 1392 = .ok (.aload_n 2, 1) := by decide +kernel
theorem dL_law_1393 : decode cL_law 1393 = .ok (.invokevirtual 242, 3) := by decide +kernel
theorem dL_law_1396 : decode cL_law 1396 = .ok (.if_icmp .eq 1879, 3) := by decide +kernel
theorem dL_law_1399 : decode cL_law 1399 = .ok (.iconst 0, 1) := by decide +kernel
theorem dL_law_1400 : decode cL_law 1400 = .ok (.ireturn, 1) := by decide +kernel
theorem dL_law_1401 : decode cL_law 1401 = .ok (.aload_n 1, 1) := by decide +kernel
theorem dL_law_1402 : decode cL_law 1402 = .ok (.aload_n 0, 1) := by decide +kernel
theorem dL_law_1403 : decode cL_law 1403 = .ok (.iload 5, 2) := by decide +kernel
theorem dL_law_1405 : decode cL_law 1405 = .ok (.iconst 1, 1) := by decide +kernel
theorem dL_law_1406 : decode cL_law 1406 = .ok (.iadd, 1) := by decide +kernel
theorem dL_law_1407 : decode cL_law 1407 = .ok (.iaload, 1) := by decide +kernel
theorem dL_law_1408 : decode cL_law 1408 = .ok (.aload 4, 2) := by decide +kernel
theorem dL_law_1410 : decode cL_law 1410 = .ok (.invokestatic 243, 3) := by decide +kernel
theorem dL_law_1413 : decode cL_law 1413 = .ok (.istore 6, 2) := by decide +kernel
theorem dL_law_1415 : decode cL_law 1415 = .ok (.aload_n 2, 1) := by decide +kernel
theorem dL_law_1416 : decode cL_law 1416 = .ok (.aload_n 0, 1) := by decide +kernel
theorem dL_law_1417 : decode cL_law 1417 = .ok (.iload 5, 2) := by decide +kernel
theorem dL_law_1419 : decode cL_law 1419 = .ok (.iconst 1, 1) := by decide +kernel
theorem dL_law_1420 : decode cL_law 1420 = .ok (.iadd, 1) := by decide +kernel
theorem dL_law_1421 : decode cL_law 1421 = .ok (.iaload, 1) := by decide +kernel
theorem dL_law_1422 : decode cL_law 1422 = .ok (.invokevirtual 246, 3) := by decide +kernel
theorem dL_law_1425 : decode cL_law 1425 = .ok (.fstore 7, 2) := by decide +kernel
theorem dL_law_1427 : decode cL_law 1427 = .ok (.aload_n 2, 1) := by decide +kernel
theorem dL_law_1428 : decode cL_law 1428 = .ok (.invokevirtual 167, 3) := by decide +kernel
theorem dL_law_1431 : decode cL_law 1431 = .ok (.iload 6, 2) := by decide +kernel
theorem dL_law_1433 : decode cL_law 1433 = .ok (.if_icmp .eq 5, 3) := by decide +kernel
theorem dL_law_1436 : decode cL_law 1436 = .ok (.iconst 0, 1) := by decide +kernel
theorem dL_law_1437 : decode cL_law 1437 = .ok (.ireturn, 1) := by decide +kernel
theorem dL_law_1438 : decode cL_law 1438 = .ok (.iload 6, 2) := by decide +kernel
theorem dL_law_1440 : decode cL_law 1440 = .ok (.ifCond .ne 36, 3) := by decide +kernel
theorem dL_law_1443 : decode cL_law 1443 = .ok (.aload 4, 2) := by decide +kernel
theorem dL_law_1445 : decode cL_law 1445 = .ok (.iconst 0, 1) := by decide +kernel
theorem dL_law_1446 : decode cL_law 1446 = .ok (.daload, 1) := by decide +kernel
theorem dL_law_1447 : decode cL_law 1447 = .ok (.fload 7, 2) := by decide +kernel
theorem dL_law_1449 : decode cL_law 1449 = .ok (.f2d, 1) := by decide +kernel
theorem dL_law_1450 : decode cL_law 1450 = .ok (.dcmp .l, 1) := by decide +kernel
theorem dL_law_1451 : decode cL_law 1451 = .ok (.ifCond .eq 25, 3) := by decide +kernel
theorem dL_law_1454 : decode cL_law 1454 = .ok (.aload 4, 2) := by decide +kernel
theorem dL_law_1456 : decode cL_law 1456 = .ok (.iconst 0, 1) := by decide +kernel
theorem dL_law_1457 : decode cL_law 1457 = .ok (.daload, 1) := by decide +kernel
theorem dL_law_1458 : decode cL_law 1458 = .ok (.aload 4, 2) := by decide +kernel
theorem dL_law_1460 : decode cL_law 1460 = .ok (.iconst 0, 1) := by decide +kernel
theorem dL_law_1461 : decode cL_law 1461 = .ok (.daload, 1) := by decide +kernel
theorem dL_law_1462 : decode cL_law 1462 = .ok (.dcmp .l, 1) := by decide +kernel
theorem dL_law_1463 : decode cL_law 1463 = .ok (.ifCond .eq 11, 3) := by decide +kernel
theorem dL_law_1466 : decode cL_law 1466 = .ok (.fload 7, 2) := by decide +kernel
theorem dL_law_1468 : decode cL_law 1468 = .ok (.fload 7, 2) := by decide +kernel
theorem dL_law_1470 : decode cL_law 1470 = .ok (.fcmp .l, 1) := by decide +kernel
theorem dL_law_1471 : decode cL_law 1471 = .ok (.ifCond .ne 5, 3) := by decide +kernel
theorem dL_law_1474 : decode cL_law 1474 = .ok (.iconst 0, 1) := by decide +kernel
theorem dL_law_1475 : decode cL_law 1475 = .ok (.ireturn, 1) := by decide +kernel
theorem dL_law_1476 : decode cL_law 1476 = .ok (.goto 1799, 3) := by decide +kernel
theorem dL_law_1479 : decode cL_law 1479 = .ok (.aload_n 1, 1) := by decide +kernel
theorem dL_law_1480 : decode cL_law 1480 = .ok (.aload_n 0, 1) := by decide +kernel
theorem dL_law_1481 : decode cL_law 1481 = .ok (.iload 5, 2) := by decide +kernel
theorem dL_law_1483 : decode cL_law 1483 = .ok (.iconst 1, 1) := by decide +kernel
theorem dL_law_1484 : decode cL_law 1484 = .ok (.iadd, 1) := by decide +kernel
theorem dL_law_1485 : decode cL_law 1485 = .ok (.iaload, 1) := by decide +kernel
theorem dL_law_1486 : decode cL_law 1486 = .ok (.aload 4, 2) := by decide +kernel
theorem dL_law_1488 : decode cL_law 1488 = .ok (.invokestatic 247, 3) := by decide +kernel
theorem dL_law_1491 : decode cL_law 1491 = .ok (.istore 6, 2) := by decide +kernel
theorem dL_law_1493 : decode cL_law 1493 = .ok (.aload_n 2, 1) := by decide +kernel
theorem dL_law_1494 : decode cL_law 1494 = .ok (.aload_n 0, 1) := by decide +kernel
theorem dL_law_1495 : decode cL_law 1495 = .ok (.iload 5, 2) := by decide +kernel
theorem dL_law_1497 : decode cL_law 1497 = .ok (.iconst 1, 1) := by decide +kernel
theorem dL_law_1498 : decode cL_law 1498 = .ok (.iadd, 1) := by decide +kernel
theorem dL_law_1499 : decode cL_law 1499 = .ok (.iaload, 1) := by decide +kernel
theorem dL_law_1500 : decode cL_law 1500 = .ok (.invokevirtual 249, 3) := by decide +kernel
theorem dL_law_1503 : decode cL_law 1503 = .ok (.dstore 7, 2) := by decide +kernel
theorem dL_law_1505 : decode cL_law 1505 = .ok (.aload_n 2, 1) := by decide +kernel
theorem dL_law_1506 : decode cL_law 1506 = .ok (.invokevirtual 167, 3) := by decide +kernel
theorem dL_law_1509 : decode cL_law 1509 = .ok (.iload 6, 2) := by decide +kernel
theorem dL_law_1511 : decode cL_law 1511 = .ok (.if_icmp .eq 5, 3) := by decide +kernel
theorem dL_law_1514 : decode cL_law 1514 = .ok (.iconst 0, 1) := by decide +kernel
theorem dL_law_1515 : decode cL_law 1515 = .ok (.ireturn, 1) := by decide +kernel
theorem dL_law_1516 : decode cL_law 1516 = .ok (.iload 6, 2) := by decide +kernel
theorem dL_law_1518 : decode cL_law 1518 = .ok (.ifCond .ne 35, 3) := by decide +kernel
theorem dL_law_1521 : decode cL_law 1521 = .ok (.aload 4, 2) := by decide +kernel
theorem dL_law_1523 : decode cL_law 1523 = .ok (.iconst 0, 1) := by decide +kernel
theorem dL_law_1524 : decode cL_law 1524 = .ok (.daload, 1) := by decide +kernel
theorem dL_law_1525 : decode cL_law 1525 = .ok (.dload 7, 2) := by decide +kernel
theorem dL_law_1527 : decode cL_law 1527 = .ok (.dcmp .l, 1) := by decide +kernel
theorem dL_law_1528 : decode cL_law 1528 = .ok (.ifCond .eq 25, 3) := by decide +kernel
theorem dL_law_1531 : decode cL_law 1531 = .ok (.aload 4, 2) := by decide +kernel
theorem dL_law_1533 : decode cL_law 1533 = .ok (.iconst 0, 1) := by decide +kernel
theorem dL_law_1534 : decode cL_law 1534 = .ok (.daload, 1) := by decide +kernel
theorem dL_law_1535 : decode cL_law 1535 = .ok (.aload 4, 2) := by decide +kernel
theorem dL_law_1537 : decode cL_law 1537 = .ok (.iconst 0, 1) := by decide +kernel
theorem dL_law_1538 : decode cL_law 1538 = .ok (.daload, 1) := by decide +kernel
theorem dL_law_1539 : decode cL_law 1539 = .ok (.dcmp .l, 1) := by decide +kernel
theorem dL_law_1540 : decode cL_law 1540 = .ok (.ifCond .eq 11, 3) := by decide +kernel
theorem dL_law_1543 : decode cL_law 1543 = .ok (.dload 7, 2) := by decide +kernel
theorem dL_law_1545 : decode cL_law 1545 = .ok (.dload 7, 2) := by decide +kernel
theorem dL_law_1547 : decode cL_law 1547 = .ok (.dcmp .l, 1) := by decide +kernel
theorem dL_law_1548 : decode cL_law 1548 = .ok (.ifCond .ne 5, 3) := by decide +kernel
theorem dL_law_1551 : decode cL_law 1551 = .ok (.iconst 0, 1) := by decide +kernel
theorem dL_law_1552 : decode cL_law 1552 = .ok (.ireturn, 1) := by decide +kernel
theorem dL_law_1553 : decode cL_law 1553 = .ok (.goto 1722, 3) := by decide +kernel
theorem dL_law_1556 : decode cL_law 1556 = .ok (.aload_n 1, 1) := by decide +kernel
theorem dL_law_1557 : decode cL_law 1557 = .ok (.aload_n 0, 1) := by decide +kernel
theorem dL_law_1558 : decode cL_law 1558 = .ok (.iload 5, 2) := by decide +kernel
theorem dL_law_1560 : decode cL_law 1560 = .ok (.iconst 1, 1) := by decide +kernel
theorem dL_law_1561 : decode cL_law 1561 = .ok (.iadd, 1) := by decide +kernel
theorem dL_law_1562 : decode cL_law 1562 = .ok (.iaload, 1) := by decide +kernel
theorem dL_law_1563 : decode cL_law 1563 = .ok (.aload_n 0, 1) := by decide +kernel
theorem dL_law_1564 : decode cL_law 1564 = .ok (.iload 5, 2) := by decide +kernel
theorem dL_law_1566 : decode cL_law 1566 = .ok (.iconst 2, 1) := by decide +kernel
theorem dL_law_1567 : decode cL_law 1567 = .ok (.iadd, 1) := by decide +kernel
theorem dL_law_1568 : decode cL_law 1568 = .ok (.iaload, 1) := by decide +kernel
theorem dL_law_1569 : decode cL_law 1569 = .ok (.aload_n 3, 1) := by decide +kernel
theorem dL_law_1570 : decode cL_law 1570 = .ok (.invokestatic 250, 3) := by decide +kernel
theorem dL_law_1573 : decode cL_law 1573 = .ok (.istore 6, 2) := by decide +kernel
theorem dL_law_1575 : decode cL_law 1575 = .ok (.aload_n 2, 1) := by decide +kernel
theorem dL_law_1576 : decode cL_law 1576 = .ok (.aload_n 0, 1) := by decide +kernel
theorem dL_law_1577 : decode cL_law 1577 = .ok (.iload 5, 2) := by decide +kernel
theorem dL_law_1579 : decode cL_law 1579 = .ok (.iconst 1, 1) := by decide +kernel
theorem dL_law_1580 : decode cL_law 1580 = .ok (.iadd, 1) := by decide +kernel
theorem dL_law_1581 : decode cL_law 1581 = .ok (.iaload, 1) := by decide +kernel
theorem dL_law_1582 : decode cL_law 1582 = .ok (.aload_n 0, 1) := by decide +kernel
theorem dL_law_1583 : decode cL_law 1583 = .ok (.iload 5, 2) := by decide +kernel
theorem dL_law_1585 : decode cL_law 1585 = .ok (.iconst 2, 1) := by decide +kernel
theorem dL_law_1586 : decode cL_law 1586 = .ok (.iadd, 1) := by decide +kernel
theorem dL_law_1587 : decode cL_law 1587 = .ok (.iaload, 1) := by decide +kernel
theorem dL_law_1588 : decode cL_law 1588 = .ok (.invokevirtual 252, 3) := by decide +kernel
theorem dL_law_1591 : decode cL_law 1591 = .ok (.istore 7, 2) := by decide +kernel
theorem dL_law_1593 : decode cL_law 1593 = .ok (.aload_n 2, 1) := by decide +kernel
theorem dL_law_1594 : decode cL_law 1594 = .ok (.invokevirtual 167, 3) := by decide +kernel
theorem dL_law_1597 : decode cL_law 1597 = .ok (.iload 6, 2) := by decide +kernel
theorem dL_law_1599 : decode cL_law 1599 = .ok (.if_icmp .eq 5, 3) := by decide +kernel
theorem dL_law_1602 : decode cL_law 1602 = .ok (.iconst 0, 1) := by decide +kernel
theorem dL_law_1603 : decode cL_law 1603 = .ok (.ireturn, 1) := by decide +kernel
theorem dL_law_1604 : decode cL_law 1604 = .ok (.iload 6, 2) := by decide +kernel
theorem dL_law_1606 : decode cL_law 1606 = .ok (.ifCond .ne 15, 3) := by decide +kernel
theorem dL_law_1609 : decode cL_law 1609 = .ok (.aload_n 3, 1) := by decide +kernel
theorem dL_law_1610 : decode cL_law 1610 = .ok (.iconst 0, 1) := by decide +kernel
theorem dL_law_1611 : decode cL_law 1611 = .ok (.laload, 1) := by decide +kernel
theorem dL_law_1612 : decode cL_law 1612 = .ok (.iload 7, 2) := by decide +kernel
theorem dL_law_1614 : decode cL_law 1614 = .ok (.i2l, 1) := by decide +kernel
theorem dL_law_1615 : decode cL_law 1615 = .ok (.lcmp, 1) := by decide +kernel
theorem dL_law_1616 : decode cL_law 1616 = .ok (.ifCond .eq 5, 3) := by decide +kernel
theorem dL_law_1619 : decode cL_law 1619 = .ok (.iconst 0, 1) := by decide +kernel
theorem dL_law_1620 : decode cL_law 1620 = .ok (.ireturn, 1) := by decide +kernel
theorem dL_law_1621 : decode cL_law 1621 = .ok (.goto 1654, 3) := by decide +kernel
theorem dL_law_1624 : decode cL_law 1624 = .ok (.aload_n 1, 1) := by decide +kernel
theorem dL_law_1625 : decode cL_law 1625 = .ok (.aload_n 0, 1) := by decide +kernel
theorem dL_law_1626 : decode cL_law 1626 = .ok (.iload 5, 2) := by decide +kernel
theorem dL_law_1628 : decode cL_law 1628 = .ok (.iconst 1, 1) := by decide +kernel
theorem dL_law_1629 : decode cL_law 1629 = .ok (.iadd, 1) := by decide +kernel
theorem dL_law_1630 : decode cL_law 1630 = .ok (.iaload, 1) := by decide +kernel
theorem dL_law_1631 : decode cL_law 1631 = .ok (.aload_n 0, 1) := by decide +kernel
theorem dL_law_1632 : decode cL_law 1632 = .ok (.iload 5, 2) := by decide +kernel
theorem dL_law_1634 : decode cL_law 1634 = .ok (.iconst 2, 1) := by decide +kernel
theorem dL_law_1635 : decode cL_law 1635 = .ok (.iadd, 1) := by decide +kernel
theorem dL_law_1636 : decode cL_law 1636 = .ok (.iaload, 1) := by decide +kernel
theorem dL_law_1637 : decode cL_law 1637 = .ok (.aload_n 3, 1) := by decide +kernel
theorem dL_law_1638 : decode cL_law 1638 = .ok (.invokestatic 253, 3) := by decide +kernel
theorem dL_law_1641 : decode cL_law 1641 = .ok (.istore 6, 2) := by decide +kernel
theorem dL_law_1643 : decode cL_law 1643 = .ok (.aload_n 2, 1) := by decide +kernel
theorem dL_law_1644 : decode cL_law 1644 = .ok (.aload_n 0, 1) := by decide +kernel
theorem dL_law_1645 : decode cL_law 1645 = .ok (.iload 5, 2) := by decide +kernel
theorem dL_law_1647 : decode cL_law 1647 = .ok (.iconst 1, 1) := by decide +kernel
theorem dL_law_1648 : decode cL_law 1648 = .ok (.iadd, 1) := by decide +kernel
theorem dL_law_1649 : decode cL_law 1649 = .ok (.iaload, 1) := by decide +kernel
theorem dL_law_1650 : decode cL_law 1650 = .ok (.aload_n 0, 1) := by decide +kernel
theorem dL_law_1651 : decode cL_law 1651 = .ok (.iload 5, 2) := by decide +kernel
theorem dL_law_1653 : decode cL_law 1653 = .ok (.iconst 2, 1) := by decide +kernel
theorem dL_law_1654 : decode cL_law 1654 = .ok (.iadd, 1) := by decide +kernel
theorem dL_law_1655 : decode cL_law 1655 = .ok (.iaload, 1) := by decide +kernel
theorem dL_law_1656 : decode cL_law 1656 = .ok (.invokevirtual 255, 3) := by decide +kernel
theorem dL_law_1659 : decode cL_law 1659 = .ok (.istore 7, 2) := by decide +kernel
theorem dL_law_1661 : decode cL_law 1661 = .ok (.aload_n 2, 1) := by decide +kernel
theorem dL_law_1662 : decode cL_law 1662 = .ok (.invokevirtual 167, 3) := by decide +kernel
theorem dL_law_1665 : decode cL_law 1665 = .ok (.iload 6, 2) := by decide +kernel
theorem dL_law_1667 : decode cL_law 1667 = .ok (.if_icmp .eq 5, 3) := by decide +kernel
theorem dL_law_1670 : decode cL_law 1670 = .ok (.iconst 0, 1) := by decide +kernel
theorem dL_law_1671 : decode cL_law 1671 = .ok (.ireturn, 1) := by decide +kernel
theorem dL_law_1672 : decode cL_law 1672 = .ok (.iload 6, 2) := by decide +kernel
theorem dL_law_1674 : decode cL_law 1674 = .ok (.ifCond .ne 15, 3) := by decide +kernel
theorem dL_law_1677 : decode cL_law 1677 = .ok (.aload_n 3, 1) := by decide +kernel
theorem dL_law_1678 : decode cL_law 1678 = .ok (.iconst 0, 1) := by decide +kernel
theorem dL_law_1679 : decode cL_law 1679 = .ok (.laload, 1) := by decide +kernel
theorem dL_law_1680 : decode cL_law 1680 = .ok (.iload 7, 2) := by decide +kernel
theorem dL_law_1682 : decode cL_law 1682 = .ok (.i2l, 1) := by decide +kernel
theorem dL_law_1683 : decode cL_law 1683 = .ok (.lcmp, 1) := by decide +kernel
theorem dL_law_1684 : decode cL_law 1684 = .ok (.ifCond .eq 5, 3) := by decide +kernel
theorem dL_law_1687 : decode cL_law 1687 = .ok (.iconst 0, 1) := by decide +kernel
theorem dL_law_1688 : decode cL_law 1688 = .ok (.ireturn, 1) := by decide +kernel
theorem dL_law_1689 : decode cL_law 1689 = .ok (.goto 1586, 3) := by decide +kernel
theorem dL_law_1692 : decode cL_law 1692 = .ok (.aload_n 1, 1) := by decide +kernel
theorem dL_law_1693 : decode cL_law 1693 = .ok (.aload_n 0, 1) := by decide +kernel
theorem dL_law_1694 : decode cL_law 1694 = .ok (.iload 5, 2) := by decide +kernel
theorem dL_law_1696 : decode cL_law 1696 = .ok (.iconst 1, 1) := by decide +kernel
theorem dL_law_1697 : decode cL_law 1697 = .ok (.iadd, 1) := by decide +kernel
theorem dL_law_1698 : decode cL_law 1698 = .ok (.iaload, 1) := by decide +kernel
theorem dL_law_1699 : decode cL_law 1699 = .ok (.aload_n 3, 1) := by decide +kernel
theorem dL_law_1700 : decode cL_law 1700 = .ok (.invokestatic 256, 3) := by decide +kernel
theorem dL_law_1703 : decode cL_law 1703 = .ok (.istore 6, 2) := by decide +kernel
theorem dL_law_1705 : decode cL_law 1705 = .ok (.aload_n 2, 1) := by decide +kernel
theorem dL_law_1706 : decode cL_law 1706 = .ok (.aload_n 0, 1) := by decide +kernel
theorem dL_law_1707 : decode cL_law 1707 = .ok (.iload 5, 2) := by decide +kernel
theorem dL_law_1709 : decode cL_law 1709 = .ok (.iconst 1, 1) := by decide +kernel
theorem dL_law_1710 : decode cL_law 1710 = .ok (.iadd, 1) := by decide +kernel
theorem dL_law_1711 : decode cL_law 1711 = .ok (.iaload, 1) := by decide +kernel
theorem dL_law_1712 : decode cL_law 1712 = .ok (.invokevirtual 258, 3) := by decide +kernel
theorem dL_law_1715 : decode cL_law 1715 = .ok (.istore 7, 2) := by decide +kernel
theorem dL_law_1717 : decode cL_law 1717 = .ok (.aload_n 2, 1) := by decide +kernel
theorem dL_law_1718 : decode cL_law 1718 = .ok (.invokevirtual 167, 3) := by decide +kernel
theorem dL_law_1721 : decode cL_law 1721 = .ok (.iload 6, 2) := by decide +kernel
theorem dL_law_1723 : decode cL_law 1723 = .ok (.if_icmp .eq 5, 3) := by decide +kernel
theorem dL_law_1726 : decode cL_law 1726 = .ok (.iconst 0, 1) := by decide +kernel
theorem dL_law_1727 : decode cL_law 1727 = .ok (.ireturn, 1) := by decide +kernel
theorem dL_law_1728 : decode cL_law 1728 = .ok (.iload 6, 2) := by decide +kernel
theorem dL_law_1730 : decode cL_law 1730 = .ok (.ifCond .ne 15, 3) := by decide +kernel
theorem dL_law_1733 : decode cL_law 1733 = .ok (.aload_n 3, 1) := by decide +kernel
theorem dL_law_1734 : decode cL_law 1734 = .ok (.iconst 0, 1) := by decide +kernel
theorem dL_law_1735 : decode cL_law 1735 = .ok (.laload, 1) := by decide +kernel
theorem dL_law_1736 : decode cL_law 1736 = .ok (.iload 7, 2) := by decide +kernel
theorem dL_law_1738 : decode cL_law 1738 = .ok (.i2l, 1) := by decide +kernel
theorem dL_law_1739 : decode cL_law 1739 = .ok (.lcmp, 1) := by decide +kernel
theorem dL_law_1740 : decode cL_law 1740 = .ok (.ifCond .eq 5, 3) := by decide +kernel
theorem dL_law_1743 : decode cL_law 1743 = .ok (.iconst 0, 1) := by decide +kernel
theorem dL_law_1744 : decode cL_law 1744 = .ok (.ireturn, 1) := by decide +kernel
theorem dL_law_1745 : decode cL_law 1745 = .ok (.goto 1530, 3) := by decide +kernel
theorem dL_law_1748 : decode cL_law 1748 = .ok (.aload_n 1, 1) := by decide +kernel
theorem dL_law_1749 : decode cL_law 1749 = .ok (.aload_n 0, 1) := by decide +kernel
theorem dL_law_1750 : decode cL_law 1750 = .ok (.iload 5, 2) := by decide +kernel
theorem dL_law_1752 : decode cL_law 1752 = .ok (.iconst 1, 1) := by decide +kernel
theorem dL_law_1753 : decode cL_law 1753 = .ok (.iadd, 1) := by decide +kernel
theorem dL_law_1754 : decode cL_law 1754 = .ok (.iaload, 1) := by decide +kernel
theorem dL_law_1755 : decode cL_law 1755 = .ok (.aload_n 0, 1) := by decide +kernel
theorem dL_law_1756 : decode cL_law 1756 = .ok (.iload 5, 2) := by decide +kernel
theorem dL_law_1758 : decode cL_law 1758 = .ok (.iconst 2, 1) := by decide +kernel
theorem dL_law_1759 : decode cL_law 1759 = .ok (.iadd, 1) := by decide +kernel
theorem dL_law_1760 : decode cL_law 1760 = .ok (.iaload, 1) := by decide +kernel
theorem dL_law_1761 : decode cL_law 1761 = .ok (.aload_n 0, 1) := by decide +kernel
theorem dL_law_1762 : decode cL_law 1762 = .ok (.iload 5, 2) := by decide +kernel
theorem dL_law_1764 : decode cL_law 1764 = .ok (.iconst 3, 1) := by decide +kernel
theorem dL_law_1765 : decode cL_law 1765 = .ok (.iadd, 1) := by decide +kernel
theorem dL_law_1766 : decode cL_law 1766 = .ok (.iaload, 1) := by decide +kernel
theorem dL_law_1767 : decode cL_law 1767 = .ok (.ifCond .eq 7, 3) := by decide +kernel
theorem dL_law_1770 : decode cL_law 1770 = .ok (.iconst 1, 1) := by decide +kernel
theorem dL_law_1771 : decode cL_law 1771 = .ok (.goto 4, 3) := by decide +kernel
theorem dL_law_1774 : decode cL_law 1774 = .ok (.iconst 0, 1) := by decide +kernel
theorem dL_law_1775 : decode cL_law 1775 = .ok (.aload_n 3, 1) := by decide +kernel
theorem dL_law_1776 : decode cL_law 1776 = .ok (.invokestatic 259, 3) := by decide +kernel
theorem dL_law_1779 : decode cL_law 1779 = .ok (.istore 6, 2) := by decide +kernel
theorem dL_law_1781 : decode cL_law 1781 = .ok (.aload_n 2, 1) := by decide +kernel
theorem dL_law_1782 : decode cL_law 1782 = .ok (.aload_n 0, 1) := by decide +kernel
theorem dL_law_1783 : decode cL_law 1783 = .ok (.iload 5, 2) := by decide +kernel
theorem dL_law_1785 : decode cL_law 1785 = .ok (.iconst 1, 1) := by decide +kernel
theorem dL_law_1786 : decode cL_law 1786 = .ok (.iadd, 1) := by decide +kernel
theorem dL_law_1787 : decode cL_law 1787 = .ok (.iaload, 1) := by decide +kernel
theorem dL_law_1788 : decode cL_law 1788 = .ok (.aload_n 0, 1) := by decide +kernel
theorem dL_law_1789 : decode cL_law 1789 = .ok (.iload 5, 2) := by decide +kernel
theorem dL_law_1791 : decode cL_law 1791 = .ok (.iconst 2, 1) := by decide +kernel
theorem dL_law_1792 : decode cL_law 1792 = .ok (.iadd, 1) := by decide +kernel
theorem dL_law_1793 : decode cL_law 1793 = .ok (.iaload, 1) := by decide +kernel
theorem dL_law_1794 : decode cL_law 1794 = .ok (.aload_n 0, 1) := by decide +kernel
theorem dL_law_1795 : decode cL_law 1795 = .ok (.iload 5, 2) := by decide +kernel
theorem dL_law_1797 : decode cL_law 1797 = .ok (.iconst 3, 1) := by decide +kernel
theorem dL_law_1798 : decode cL_law 1798 = .ok (.iadd, 1) := by decide +kernel
theorem dL_law_1799 : decode cL_law 1799 = .ok (.iaload, 1) := by decide +kernel
theorem dL_law_1800 : decode cL_law 1800 = .ok (.ifCond .eq 7, 3) := by decide +kernel
theorem dL_law_1803 : decode cL_law 1803 = .ok (.iconst 1, 1) := by decide +kernel
theorem dL_law_1804 : decode cL_law 1804 = .ok (.goto 4, 3) := by decide +kernel
theorem dL_law_1807 : decode cL_law 1807 = .ok (.iconst 0, 1) := by decide +kernel
theorem dL_law_1808 : decode cL_law 1808 = .ok (.invokevirtual 262, 3) := by decide +kernel
theorem dL_law_1811 : decode cL_law 1811 = .ok (.istore 7, 2) := by decide +kernel
theorem dL_law_1813 : decode cL_law 1813 = .ok (.aload_n 2, 1) := by decide +kernel
theorem dL_law_1814 : decode cL_law 1814 = .ok (.invokevirtual 167, 3) := by decide +kernel
theorem dL_law_1817 : decode cL_law 1817 = .ok (.iload 6, 2) := by decide +kernel
theorem dL_law_1819 : decode cL_law 1819 = .ok (.if_icmp .eq 5, 3) := by decide +kernel
theorem dL_law_1822 : decode cL_law 1822 = .ok (.iconst 0, 1) := by decide +kernel
theorem dL_law_1823 : decode cL_law 1823 = .ok (.ireturn, 1) := by decide +kernel
theorem dL_law_1824 : decode cL_law 1824 = .ok (.iload 6, 2) := by decide +kernel
theorem dL_law_1826 : decode cL_law 1826 = .ok (.ifCond .ne 15, 3) := by decide +kernel
theorem dL_law_1829 : decode cL_law 1829 = .ok (.aload_n 3, 1) := by decide +kernel
theorem dL_law_1830 : decode cL_law 1830 = .ok (.iconst 0, 1) := by decide +kernel
theorem dL_law_1831 : decode cL_law 1831 = .ok (.laload, 1) := by decide +kernel
theorem dL_law_1832 : decode cL_law 1832 = .ok (.iload 7, 2) := by decide +kernel
theorem dL_law_1834 : decode cL_law 1834 = .ok (.i2l, 1) := by decide +kernel
theorem dL_law_1835 : decode cL_law 1835 = .ok (.lcmp, 1) := by decide +kernel
theorem dL_law_1836 : decode cL_law 1836 = .ok (.ifCond .eq 5, 3) := by decide +kernel
theorem dL_law_1839 : decode cL_law 1839 = .ok (.iconst 0, 1) := by decide +kernel
theorem dL_law_1840 : decode cL_law 1840 = .ok (.ireturn, 1) := by decide +kernel
theorem dL_law_1841 : decode cL_law 1841 = .ok (.goto 1434, 3) := by decide +kernel
theorem dL_law_1844 : decode cL_law 1844 = .ok (.aload_n 1, 1) := by decide +kernel
theorem dL_law_1845 : decode cL_law 1845 = .ok (.aload_n 0, 1) := by decide +kernel
theorem dL_law_1846 : decode cL_law 1846 = .ok (.iload 5, 2) := by decide +kernel
theorem dL_law_1848 : decode cL_law 1848 = .ok (.iconst 1, 1) := by decide +kernel
theorem dL_law_1849 : decode cL_law 1849 = .ok (.iadd, 1) := by decide +kernel
theorem dL_law_1850 : decode cL_law 1850 = .ok (.iaload, 1) := by decide +kernel
theorem dL_law_1851 : decode cL_law 1851 = .ok (.aload_n 3, 1) := by decide +kernel
theorem dL_law_1852 : decode cL_law 1852 = .ok (.invokestatic 263, 3) := by decide +kernel
theorem dL_law_1855 : decode cL_law 1855 = .ok (.istore 6, 2) := by decide +kernel
theorem dL_law_1857 : decode cL_law 1857 = .ok (.aload_n 2, 1) := by decide +kernel
theorem dL_law_1858 : decode cL_law 1858 = .ok (.aload_n 0, 1) := by decide +kernel
theorem dL_law_1859 : decode cL_law 1859 = .ok (.iload 5, 2) := by decide +kernel
theorem dL_law_1861 : decode cL_law 1861 = .ok (.iconst 1, 1) := by decide +kernel
theorem dL_law_1862 : decode cL_law 1862 = .ok (.iadd, 1) := by decide +kernel
theorem dL_law_1863 : decode cL_law 1863 = .ok (.iaload, 1) := by decide +kernel
theorem dL_law_1864 : decode cL_law 1864 = .ok (.invokevirtual 265, 3) := by decide +kernel
theorem dL_law_1867 : decode cL_law 1867 = .ok (.istore 7, 2) := by decide +kernel
theorem dL_law_1869 : decode cL_law 1869 = .ok (.aload_n 2, 1) := by decide +kernel
theorem dL_law_1870 : decode cL_law 1870 = .ok (.invokevirtual 167, 3) := by decide +kernel
theorem dL_law_1873 : decode cL_law 1873 = .ok (.iload 6, 2) := by decide +kernel
theorem dL_law_1875 : decode cL_law 1875 = .ok (.if_icmp .eq 5, 3) := by decide +kernel
theorem dL_law_1878 : decode cL_law 1878 = .ok (.iconst 0, 1) := by decide +kernel
theorem dL_law_1879 : decode cL_law 1879 = .ok (.ireturn, 1) := by decide +kernel
theorem dL_law_1880 : decode cL_law 1880 = .ok (.iload 6, 2) := by decide +kernel
theorem dL_law_1882 : decode cL_law 1882 = .ok (.ifCond .ne 15, 3) := by decide +kernel
theorem dL_law_1885 : decode cL_law 1885 = .ok (.aload_n 3, 1) := by decide +kernel
theorem dL_law_1886 : decode cL_law 1886 = .ok (.iconst 0, 1) := by decide +kernel
theorem dL_law_1887 : decode cL_law 1887 = .ok (.laload, 1) := by decide +kernel
theorem dL_law_1888 : decode cL_law 1888 = .ok (.iload 7, 2) := by decide +kernel
theorem dL_law_1890 : decode cL_law 1890 = .ok (.i2l, 1) := by decide +kernel
theorem dL_law_1891 : decode cL_law 1891 = .ok (.lcmp, 1) := by decide +kernel
theorem dL_law_1892 : decode cL_law 1892 = .ok (.ifCond .eq 5, 3) := by decide +kernel
theorem dL_law_1895 : decode cL_law 1895 = .ok (.iconst 0, 1) := by decide +kernel
theorem dL_law_1896 : decode cL_law 1896 = .ok (.ireturn, 1) := by decide +kernel
theorem dL_law_1897 : decode cL_law 1897 = .ok (.goto 1378, 3) := by decide +kernel
theorem dL_law_1900 : decode cL_law 1900 = .ok (.aload_n 1, 1) := by decide +kernel
theorem dL_law_1901 : decode cL_law 1901 = .ok (.aload_n 0, 1) := by decide +kernel
theorem dL_law_1902 : decode cL_law 1902 = .ok (.iload 5, 2) := by decide +kernel
theorem dL_law_1904 : decode cL_law 1904 = .ok (.iconst 1, 1) := by decide +kernel
theorem dL_law_1905 : decode cL_law 1905 = .ok (.iadd, 1) := by decide +kernel
theorem dL_law_1906 : decode cL_law 1906 = .ok (.iaload, 1) := by decide +kernel
theorem dL_law_1907 : decode cL_law 1907 = .ok (.aload_n 3, 1) := by decide +kernel
theorem dL_law_1908 : decode cL_law 1908 = .ok (.invokestatic 266, 3) := by decide +kernel
theorem dL_law_1911 : decode cL_law 1911 = .ok (.istore 6, 2) := by decide +kernel
theorem dL_law_1913 : decode cL_law 1913 = .ok (.aload_n 2, 1) := by decide +kernel
theorem dL_law_1914 : decode cL_law 1914 = .ok (.aload_n 0, 1) := by decide +kernel
theorem dL_law_1915 : decode cL_law 1915 = .ok (.iload 5, 2) := by decide +kernel
theorem dL_law_1917 : decode cL_law 1917 = .ok (.iconst 1, 1) := by decide +kernel
theorem dL_law_1918 : decode cL_law 1918 = .ok (.iadd, 1) := by decide +kernel
theorem dL_law_1919 : decode cL_law 1919 = .ok (.iaload, 1) := by decide +kernel
theorem dL_law_1920 : decode cL_law 1920 = .ok (.invokevirtual 268, 3) := by decide +kernel
theorem dL_law_1923 : decode cL_law 1923 = .ok (.istore 7, 2) := by decide +kernel
theorem dL_law_1925 : decode cL_law 1925 = .ok (.aload_n 2, 1) := by decide +kernel
theorem dL_law_1926 : decode cL_law 1926 = .ok (.invokevirtual 167, 3) := by decide +kernel
theorem dL_law_1929 : decode cL_law 1929 = .ok (.iload 6, 2) := by decide +kernel
theorem dL_law_1931 : decode cL_law 1931 = .ok (.if_icmp .eq 5, 3) := by decide +kernel
theorem dL_law_1934 : decode cL_law 1934 = .ok (.iconst 0, 1) := by decide +kernel
theorem dL_law_1935 : decode cL_law 1935 = .ok (.ireturn, 1) := by decide +kernel
theorem dL_law_1936 : decode cL_law 1936 = .ok (.iload 6, 2) := by decide +kernel
theorem dL_law_1938 : decode cL_law 1938 = .ok (.ifCond .ne 15, 3) := by decide +kernel
theorem dL_law_1941 : decode cL_law 1941 = .ok (.aload_n 3, 1) := by decide +kernel
theorem dL_law_1942 : decode cL_law 1942 = .ok (.iconst 0, 1) := by decide +kernel
theorem dL_law_1943 : decode cL_law 1943 = .ok (.laload, 1) := by decide +kernel
theorem dL_law_1944 : decode cL_law 1944 = .ok (.iload 7, 2) := by decide +kernel
theorem dL_law_1946 : decode cL_law 1946 = .ok (.i2l, 1) := by decide +kernel
theorem dL_law_1947 : decode cL_law 1947 = .ok (.lcmp, 1) := by decide +kernel
theorem dL_law_1948 : decode cL_law 1948 = .ok (.ifCond .eq 5, 3) := by decide +kernel
theorem dL_law_1951 : decode cL_law 1951 = .ok (.iconst 0, 1) := by decide +kernel
theorem dL_law_1952 : decode cL_law 1952 = .ok (.ireturn, 1) := by decide +kernel
theorem dL_law_1953 : decode cL_law 1953 = .ok (.goto 1322, 3) := by decide +kernel
theorem dL_law_1956 : decode cL_law 1956 = .ok (.aload_n 1, 1) := by decide +kernel
theorem dL_law_1957 : decode cL_law 1957 = .ok (.aload_n 0, 1) := by decide +kernel
theorem dL_law_1958 : decode cL_law 1958 = .ok (.iload 5, 2) := by decide +kernel
theorem dL_law_1960 : decode cL_law 1960 = .ok (.iconst 1, 1) := by decide +kernel
theorem dL_law_1961 : decode cL_law 1961 = .ok (.iadd, 1) := by decide +kernel
theorem dL_law_1962 : decode cL_law 1962 = .ok (.iaload, 1) := by decide +kernel
theorem dL_law_1963 : decode cL_law 1963 = .ok (.aload_n 3, 1) := by decide +kernel
theorem dL_law_1964 : decode cL_law 1964 = .ok (.invokestatic 269, 3) := by decide +kernel
theorem dL_law_1967 : decode cL_law 1967 = .ok (.istore 6, 2) := by decide +kernel
theorem dL_law_1969 : decode cL_law 1969 = .ok (.aload_n 2, 1) := by decide +kernel
theorem dL_law_1970 : decode cL_law 1970 = .ok (.aload_n 0, 1) := by decide +kernel
theorem dL_law_1971 : decode cL_law 1971 = .ok (.iload 5, 2) := by decide +kernel
theorem dL_law_1973 : decode cL_law 1973 = .ok (.iconst 1, 1) := by decide +kernel
theorem dL_law_1974 : decode cL_law 1974 = .ok (.iadd, 1) := by decide +kernel
theorem dL_law_1975 : decode cL_law 1975 = .ok (.iaload, 1) := by decide +kernel
theorem dL_law_1976 : decode cL_law 1976 = .ok (.invokevirtual 271, 3) := by decide +kernel
theorem dL_law_1979 : decode cL_law 1979 = .ok (.istore 7, 2) := by decide +kernel
theorem dL_law_1981 : decode cL_law 1981 = .ok (.aload_n 2, 1) := by decide +kernel
theorem dL_law_1982 : decode cL_law 1982 = .ok (.invokevirtual 167, 3) := by decide +kernel
theorem dL_law_1985 : decode cL_law 1985 = .ok (.iload 6, 2) := by decide +kernel
theorem dL_law_1987 : decode cL_law 1987 = .ok (.if_icmp .eq 5, 3) := by decide +kernel
theorem dL_law_1990 : decode cL_law 1990 = .ok (.iconst 0, 1) := by decide +kernel
theorem dL_law_1991 : decode cL_law 1991 = .ok (.ireturn, 1) := by decide +kernel
theorem dL_law_1992 : decode cL_law 1992 = .ok (.iload 6, 2) := by decide +kernel
theorem dL_law_1994 : decode cL_law 1994 = .ok (.ifCond .ne 15, 3) := by decide +kernel
theorem dL_law_1997 : decode cL_law 1997 = .ok (.aload_n 3, 1) := by decide +kernel
theorem dL_law_1998 : decode cL_law 1998 = .ok (.iconst 0, 1) := by decide +kernel
theorem dL_law_1999 : decode cL_law 1999 = .ok (.laload, 1) := by decide +kernel
theorem dL_law_2000 : decode cL_law 2000 = .ok (.iload 7, 2) := by decide +kernel
theorem dL_law_2002 : decode cL_law 2002 = .ok (.i2l, 1) := by decide +kernel
theorem dL_law_2003 : decode cL_law 2003 = .ok (.lcmp, 1) := by decide +kernel
theorem dL_law_2004 : decode cL_law 2004 = .ok (.ifCond .eq 5, 3) := by decide +kernel
theorem dL_law_2007 : decode cL_law 2007 = .ok (.iconst 0, 1) := by decide +kernel
theorem dL_law_2008 : decode cL_law 2008 = .ok (.ireturn, 1) := by decide +kernel
theorem dL_law_2009 : decode cL_law 2009 = .ok (.goto 1266, 3) := by decide +kernel
theorem dL_law_2012 : decode cL_law 2012 = .ok (.aload_n 1, 1) := by decide +kernel
theorem dL_law_2013 : decode cL_law 2013 = .ok (.aload_n 0, 1) := by decide +kernel
theorem dL_law_2014 : decode cL_law 2014 = .ok (.iload 5, 2) := by decide +kernel
theorem dL_law_2016 : decode cL_law 2016 = .ok (.iconst 1, 1) := by decide +kernel
theorem dL_law_2017 : decode cL_law 2017 = .ok (.iadd, 1) := by decide +kernel
theorem dL_law_2018 : decode cL_law 2018 = .ok (.iaload, 1) := by decide +kernel
theorem dL_law_2019 : decode cL_law 2019 = .ok (.aload_n 0, 1) := by decide +kernel
theorem dL_law_2020 : decode cL_law 2020 = .ok (.iload 5, 2) := by decide +kernel
theorem dL_law_2022 : decode cL_law 2022 = .ok (.iconst 2, 1) := by decide +kernel
theorem dL_law_2023 : decode cL_law 2023 = .ok (.iadd, 1) := by decide +kernel
theorem dL_law_2024 : decode cL_law 2024 = .ok (.iaload, 1) := by decide +kernel
theorem dL_law_2025 : decode cL_law 2025 = .ok (.aload_n 0, 1) := by decide +kernel
theorem dL_law_2026 : decode cL_law 2026 = .ok (.iload 5, 2) := by decide +kernel
theorem dL_law_2028 : decode cL_law 2028 = .ok (.iconst 3, 1) := by decide +kernel
theorem dL_law_2029 : decode cL_law 2029 = .ok (.iadd, 1) := by decide +kernel
theorem dL_law_2030 : decode cL_law 2030 = .ok (.iaload, 1) := by decide +kernel
theorem dL_law_2031 : decode cL_law 2031 = .ok (.aload_n 0, 1) := by decide +kernel
theorem dL_law_2032 : decode cL_law 2032 = .ok (.iload 5, 2) := by decide +kernel
theorem dL_law_2034 : decode cL_law 2034 = .ok (.iconst 4, 1) := by decide +kernel
theorem dL_law_2035 : decode cL_law 2035 = .ok (.iadd, 1) := by decide +kernel
theorem dL_law_2036 : decode cL_law 2036 = .ok (.iaload, 1) := by decide +kernel
theorem dL_law_2037 : decode cL_law 2037 = .ok (.ifCond .eq 7, 3) := by decide +kernel
theorem dL_law_2040 : decode cL_law 2040 = .ok (.iconst 1, 1) := by decide +kernel
theorem dL_law_2041 : decode cL_law 2041 = .ok (.goto 4, 3) := by decide +kernel
theorem dL_law_2044 : decode cL_law 2044 = .ok (.iconst 0, 1) := by decide +kernel
theorem dL_law_2045 : decode cL_law 2045 = .ok (.aload_n 3, 1) := by decide +kernel
theorem dL_law_2046 : decode cL_law 2046 = .ok (.invokestatic 272, 3) := by decide +kernel
theorem dL_law_2049 : decode cL_law 2049 = .ok (.istore 6, 2) := by decide +kernel
theorem dL_law_2051 : decode cL_law 2051 = .ok (.aload_n 2, 1) := by decide +kernel
theorem dL_law_2052 : decode cL_law 2052 = .ok (.aload_n 0, 1) := by decide +kernel
theorem dL_law_2053 : decode cL_law 2053 = .ok (.iload 5, 2) := by decide +kernel
theorem dL_law_2055 : decode cL_law 2055 = .ok (.iconst 1, 1) := by decide +kernel
theorem dL_law_2056 : decode cL_law 2056 = .ok (.iadd, 1) := by decide +kernel
theorem dL_law_2057 : decode cL_law 2057 = .ok (.iaload, 1) := by decide +kernel
theorem dL_law_2058 : decode cL_law 2058 = .ok (.aload_n 0, 1) := by decide +kernel
theorem dL_law_2059 : decode cL_law 2059 = .ok (.iload 5, 2) := by decide +kernel
theorem dL_law_2061 : decode cL_law 2061 = .ok (.iconst 2, 1) := by decide +kernel
theorem dL_law_2062 : decode cL_law 2062 = .ok (.iadd, 1) := by decide +kernel
theorem dL_law_2063 : decode cL_law 2063 = .ok (.iaload, 1) := by decide +kernel
theorem dL_law_2064 : decode cL_law 2064 = .ok (.aload_n 0, 1) := by decide +kernel
theorem dL_law_2065 : decode cL_law 2065 = .ok (.iload 5, 2) := by decide +kernel
theorem dL_law_2067 : decode cL_law 2067 = .ok (.iconst 3, 1) := by decide +kernel
theorem dL_law_2068 : decode cL_law 2068 = .ok (.iadd, 1) := by decide +kernel
theorem dL_law_2069 : decode cL_law 2069 = .ok (.iaload, 1) := by decide +kernel
theorem dL_law_2070 : decode cL_law 2070 = .ok (.aload_n 0, 1) := by decide +kernel
theorem dL_law_2071 : decode cL_law 2071 = .ok (.iload 5, 2) := by decide +kernel
theorem dL_law_2073 : decode cL_law 2073 = .ok (.iconst 4, 1) := by decide +kernel
theorem dL_law_2074 : decode cL_law 2074 = .ok (.iadd, 1) := by decide +kernel
theorem dL_law_2075 : decode cL_law 2075 = .ok (.iaload, 1) := by decide +kernel
theorem dL_law_2076 : decode cL_law 2076 = .ok (.ifCond .eq 7, 3) := by decide +kernel
theorem dL_law_2079 : decode cL_law 2079 = .ok (.iconst 1, 1) := by decide +kernel
theorem dL_law_2080 : decode cL_law 2080 = .ok (.goto 4, 3) := by decide +kernel
theorem dL_law_2083 : decode cL_law 2083 = .ok (.iconst 0, 1) := by decide +kernel
theorem dL_law_2084 : decode cL_law 2084 = .ok (.invokevirtual 275, 3) := by decide +kernel
theorem dL_law_2087 : decode cL_law 2087 = .ok (.istore 7, 2) := by decide +kernel
theorem dL_law_2089 : decode cL_law 2089 = .ok (.aload_n 2, 1) := by decide +kernel
theorem dL_law_2090 : decode cL_law 2090 = .ok (.invokevirtual 167, 3) := by decide +kernel
theorem dL_law_2093 : decode cL_law 2093 = .ok (.iload 6, 2) := by decide +kernel
theorem dL_law_2095 : decode cL_law 2095 = .ok (.if_icmp .eq 5, 3) := by decide +kernel
theorem dL_law_2098 : decode cL_law 2098 = .ok (.iconst 0, 1) := by decide +kernel
theorem dL_law_2099 : decode cL_law 2099 = .ok (.ireturn, 1) := by decide +kernel
theorem dL_law_2100 : decode cL_law 2100 = .ok (.iload 6, 2) := by decide +kernel
theorem dL_law_2102 : decode cL_law 2102 = .ok (.ifCond .ne 15, 3) := by decide +kernel
theorem dL_law_2105 : decode cL_law 2105 = .ok (.aload_n 3, 1) := by decide +kernel
theorem dL_law_2106 : decode cL_law 2106 = .ok (.iconst 0, 1) := by decide +kernel
theorem dL_law_2107 : decode cL_law 2107 = .ok (.laload, 1) := by decide +kernel
theorem dL_law_2108 : decode cL_law 2108 = .ok (.iload 7, 2) := by decide +kernel
theorem dL_law_2110 : decode cL_law 2110 = .ok (.i2l, 1) := by decide +kernel
theorem dL_law_2111 : decode cL_law 2111 = .ok (.lcmp, 1) := by decide +kernel
theorem dL_law_2112 : decode cL_law 2112 = .ok (.ifCond .eq 5, 3) := by decide +kernel
theorem dL_law_2115 : decode cL_law 2115 = .ok (.iconst 0, 1) := by decide +kernel
theorem dL_law_2116 : decode cL_law 2116 = .ok (.ireturn, 1) := by decide +kernel
theorem dL_law_2117 : decode cL_law 2117 = .ok (.goto 1158, 3) := by decide +kernel
theorem dL_law_2120 : decode cL_law 2120 = .ok (.aload_n 1, 1) := by decide +kernel
theorem dL_law_2121 : decode cL_law 2121 = .ok (.aload_n 0, 1) := by decide +kernel
theorem dL_law_2122 : decode cL_law 2122 = .ok (.iload 5, 2) := by decide +kernel
theorem dL_law_2124 : decode cL_law 2124 = .ok (.iconst 1, 1) := by decide +kernel
theorem dL_law_2125 : decode cL_law 2125 = .ok (.iadd, 1) := by decide +kernel
theorem dL_law_2126 : decode cL_law 2126 = .ok (.iaload, 1) := by decide +kernel
theorem dL_law_2127 : decode cL_law 2127 = .ok (.aload_n 0, 1) := by decide +kernel
theorem dL_law_2128 : decode cL_law 2128 = .ok (.iload 5, 2) := by decide +kernel
theorem dL_law_2130 : decode cL_law 2130 = .ok (.iconst 2, 1) := by decide +kernel
theorem dL_law_2131 : decode cL_law 2131 = .ok (.iadd, 1) := by decide +kernel
theorem dL_law_2132 : decode cL_law 2132 = .ok (.iaload, 1) := by decide +kernel
theorem dL_law_2133 : decode cL_law 2133 = .ok (.aload_n 0, 1) := by decide +kernel
theorem dL_law_2134 : decode cL_law 2134 = .ok (.iload 5, 2) := by decide +kernel
theorem dL_law_2136 : decode cL_law 2136 = .ok (.iconst 3, 1) := by decide +kernel
theorem dL_law_2137 : decode cL_law 2137 = .ok (.iadd, 1) := by decide +kernel
theorem dL_law_2138 : decode cL_law 2138 = .ok (.iaload, 1) := by decide +kernel
theorem dL_law_2139 : decode cL_law 2139 = .ok (.aload_n 0, 1) := by decide +kernel
theorem dL_law_2140 : decode cL_law 2140 = .ok (.iload 5, 2) := by decide +kernel
theorem dL_law_2142 : decode cL_law 2142 = .ok (.iconst 4, 1) := by decide +kernel
theorem dL_law_2143 : decode cL_law 2143 = .ok (.iadd, 1) := by decide +kernel
theorem dL_law_2144 : decode cL_law 2144 = .ok (.iaload, 1) := by decide +kernel
theorem dL_law_2145 : decode cL_law 2145 = .ok (.aload_n 0, 1) := by decide +kernel
theorem dL_law_2146 : decode cL_law 2146 = .ok (.iload 5, 2) := by decide +kernel
theorem dL_law_2148 : decode cL_law 2148 = .ok (.iconst 5, 1) := by decide +kernel
theorem dL_law_2149 : decode cL_law 2149 = .ok (.iadd, 1) := by decide +kernel
theorem dL_law_2150 : decode cL_law 2150 = .ok (.iaload, 1) := by decide +kernel
theorem dL_law_2151 : decode cL_law 2151 = .ok (.aload_n 0, 1) := by decide +kernel
theorem dL_law_2152 : decode cL_law 2152 = .ok (.iload 5, 2) := by decide +kernel
theorem dL_law_2154 : decode cL_law 2154 = .ok (.bipush 6, 2) := by decide +kernel
theorem dL_law_2156 : decode cL_law 2156 = .ok (.iadd, 1) := by decide +kernel
theorem dL_law_2157 : decode cL_law 2157 = .ok (.iaload, 1) := by decide +kernel
theorem dL_law_2158 : decode cL_law 2158 = .ok (.ifCond .eq 7, 3) := by decide +kernel
theorem dL_law_2161 : decode cL_law 2161 = .ok (.iconst 1, 1) := by decide +kernel
theorem dL_law_2162 : decode cL_law 2162 = .ok (.goto 4, 3) := by decide +kernel
theorem dL_law_2165 : decode cL_law 2165 = .ok (.iconst 0, 1) := by decide +kernel
theorem dL_law_2166 : decode cL_law 2166 = .ok (.aload_n 3, 1) := by decide +kernel
theorem dL_law_2167 : decode cL_law 2167 = .ok (.invokestatic 276, 3) := by decide +kernel
theorem dL_law_2170 : decode cL_law 2170 = .ok (.istore 6, 2) := by decide +kernel
theorem dL_law_2172 : decode cL_law 2172 = .ok (.aload_n 2, 1) := by decide +kernel
theorem dL_law_2173 : decode cL_law 2173 = .ok (.aload_n 0, 1) := by decide +kernel
theorem dL_law_2174 : decode cL_law 2174 = .ok (.iload 5, 2) := by decide +kernel
theorem dL_law_2176 : decode cL_law 2176 = .ok (.iconst 1, 1) := by decide +kernel
theorem dL_law_2177 : decode cL_law 2177 = .ok (.iadd, 1) := by decide +kernel
theorem dL_law_2178 : decode cL_law 2178 = .ok (.iaload, 1) := by decide +kernel
theorem dL_law_2179 : decode cL_law 2179 = .ok (.aload_n 0, 1) := by decide +kernel
theorem dL_law_2180 : decode cL_law 2180 = .ok (.iload 5, 2) := by decide +kernel
theorem dL_law_2182 : decode cL_law 2182 = .ok (.iconst 2, 1) := by decide +kernel
theorem dL_law_2183 : decode cL_law 2183 = .ok (.iadd, 1) := by decide +kernel
theorem dL_law_2184 : decode cL_law 2184 = .ok (.iaload, 1) := by decide +kernel
theorem dL_law_2185 : decode cL_law 2185 = .ok (.aload_n 0, 1) := by decide +kernel
theorem dL_law_2186 : decode cL_law 2186 = .ok (.iload 5, 2) := by decide +kernel
theorem dL_law_2188 : decode cL_law 2188 = .ok (.iconst 3, 1) := by decide +kernel
theorem dL_law_2189 : decode cL_law 2189 = .ok (.iadd, 1) := by decide +kernel
theorem dL_law_2190 : decode cL_law 2190 = .ok (.iaload, 1) := by decide +kernel
theorem dL_law_2191 : decode cL_law 2191 = .ok (.aload_n 0, 1) := by decide +kernel
theorem dL_law_2192 : decode cL_law 2192 = .ok (.iload 5, 2) := by decide +kernel
theorem dL_law_2194 : decode cL_law 2194 = .ok (.iconst 4, 1) := by decide +kernel
theorem dL_law_2195 : decode cL_law 2195 = .ok (.iadd, 1) := by decide +kernel
theorem dL_law_2196 : decode cL_law 2196 = .ok (.iaload, 1) := by decide +kernel
theorem dL_law_2197 : decode cL_law 2197 = .ok (.aload_n 0, 1) := by decide +kernel
theorem dL_law_2198 : decode cL_law 2198 = .ok (.iload 5, 2) := by decide +kernel
theorem dL_law_2200 : decode cL_law 2200 = .ok (.iconst 5, 1) := by decide +kernel
theorem dL_law_2201 : decode cL_law 2201 = .ok (.iadd, 1) := by decide +kernel
theorem dL_law_2202 : decode cL_law 2202 = .ok (.iaload, 1) := by decide +kernel
theorem dL_law_2203 : decode cL_law 2203 = .ok (.aload_n 0, 1) := by decide +kernel
theorem dL_law_2204 : decode cL_law 2204 = .ok (.iload 5, 2) := by decide +kernel
theorem dL_law_2206 : decode cL_law 2206 = .ok (.bipush 6, 2) := by decide +kernel
theorem dL_law_2208 : decode cL_law 2208 = .ok (.iadd, 1) := by decide +kernel
theorem dL_law_2209 : decode cL_law 2209 = .ok (.iaload, 1) := by decide +kernel
theorem dL_law_2210 : decode cL_law 2210 = .ok (.ifCond .eq 7, 3) := by decide +kernel
theorem dL_law_2213 : decode cL_law 2213 = .ok (.iconst 1, 1) := by decide +kernel
theorem dL_law_2214 : decode cL_law 2214 = .ok (.goto 4, 3) := by decide +kernel
theorem dL_law_2217 : decode cL_law 2217 = .ok (.iconst 0, 1) := by decide +kernel
theorem dL_law_2218 : decode cL_law 2218 = .ok (.invokevirtual 279, 3) := by decide +kernel
theorem dL_law_2221 : decode cL_law 2221 = .ok (.istore 7, 2) := by decide +kernel
theorem dL_law_2223 : decode cL_law 2223 = .ok (.aload_n 2, 1) := by decide +kernel
theorem dL_law_2224 : decode cL_law 2224 = .ok (.invokevirtual 167, 3) := by decide +kernel
theorem dL_law_2227 : decode cL_law 2227 = .ok (.iload 6, 2) := by decide +kernel
theorem dL_law_2229 : decode cL_law 2229 = .ok (.if_icmp .eq 5, 3) := by decide +kernel
theorem dL_law_2232 : decode cL_law 2232 = .ok (.iconst 0, 1) := by decide +kernel
theorem dL_law_2233 : decode cL_law 2233 = .ok (.ireturn, 1) := by decide +kernel
theorem dL_law_2234 : decode cL_law 2234 = .ok (.iload 6, 2) := by decide +kernel
theorem dL_law_2236 : decode cL_law 2236 = .ok (.ifCond .ne 15, 3) := by decide +kernel
theorem dL_law_2239 : decode cL_law 2239 = .ok (.aload_n 3, 1) := by decide +kernel
theorem dL_law_2240 : decode cL_law 2240 = .ok (.iconst 0, 1) := by decide +kernel
theorem dL_law_2241 : decode cL_law 2241 = .ok (.laload, 1) := by decide +kernel
theorem dL_law_2242 : decode cL_law 2242 = .ok (.iload 7, 2) := by decide +kernel
theorem dL_law_2244 : decode cL_law 2244 = .ok (.i2l, 1) := by decide +kernel
theorem dL_law_2245 : decode cL_law 2245 = .ok (.lcmp, 1) := by decide +kernel
theorem dL_law_2246 : decode cL_law 2246 = .ok (.ifCond .eq 5, 3) := by decide +kernel
theorem dL_law_2249 : decode cL_law 2249 = .ok (.iconst 0, 1) := by decide +kernel
theorem dL_law_2250 : decode cL_law 2250 = .ok (.ireturn, 1) := by decide +kernel
theorem dL_law_2251 : decode cL_law 2251 = .ok (.goto 1024, 3) := by decide +kernel
theorem dL_law_2254 : decode cL_law 2254 = .ok (.aload_n 1, 1) := by decide +kernel
theorem dL_law_2255 : decode cL_law 2255 = .ok (.aload_n 0, 1) := by decide +kernel
theorem dL_law_2256 : decode cL_law 2256 = .ok (.iload 5, 2) := by decide +kernel
theorem dL_law_2258 : decode cL_law 2258 = .ok (.iconst 1, 1) := by decide +kernel
theorem dL_law_2259 : decode cL_law 2259 = .ok (.iadd, 1) := by decide +kernel
theorem dL_law_2260 : decode cL_law 2260 = .ok (.iaload, 1) := by decide +kernel
theorem dL_law_2261 : decode cL_law 2261 = .ok (.aload_n 0, 1) := by decide +kernel
theorem dL_law_2262 : decode cL_law 2262 = .ok (.iload 5, 2) := by decide +kernel
theorem dL_law_2264 : decode cL_law 2264 = .ok (.iconst 2, 1) := by decide +kernel
theorem dL_law_2265 : decode cL_law 2265 = .ok (.iadd, 1) := by decide +kernel
theorem dL_law_2266 : decode cL_law 2266 = .ok (.iaload, 1) := by decide +kernel
theorem dL_law_2267 : decode cL_law 2267 = .ok (.aload_n 0, 1) := by decide +kernel
theorem dL_law_2268 : decode cL_law 2268 = .ok (.iload 5, 2) := by decide +kernel
theorem dL_law_2270 : decode cL_law 2270 = .ok (.iconst 3, 1) := by decide +kernel
theorem dL_law_2271 : decode cL_law 2271 = .ok (.iadd, 1) := by decide +kernel
theorem dL_law_2272 : decode cL_law 2272 = .ok (.iaload, 1) := by decide +kernel
theorem dL_law_2273 : decode cL_law 2273 = .ok (.aload_n 0, 1) := by decide +kernel
theorem dL_law_2274 : decode cL_law 2274 = .ok (.iload 5, 2) := by decide +kernel
theorem dL_law_2276 : decode cL_law 2276 = .ok (.iconst 4, 1) := by decide +kernel
theorem dL_law_2277 : decode cL_law 2277 = .ok (.iadd, 1) := by decide +kernel
theorem dL_law_2278 : decode cL_law 2278 = .ok (.iaload, 1) := by decide +kernel
theorem dL_law_2279 : decode cL_law 2279 = .ok (.aload_n 0, 1) := by decide +kernel
theorem dL_law_2280 : decode cL_law 2280 = .ok (.iload 5, 2) := by decide +kernel
theorem dL_law_2282 : decode cL_law 2282 = .ok (.iconst 5, 1) := by decide +kernel
theorem dL_law_2283 : decode cL_law 2283 = .ok (.iadd, 1) := by decide +kernel
theorem dL_law_2284 : decode cL_law 2284 = .ok (.iaload, 1) := by decide +kernel
theorem dL_law_2285 : decode cL_law 2285 = .ok (.aload_n 3, 1) := by decide +kernel
theorem dL_law_2286 : decode cL_law 2286 = .ok (.invokestatic 280, 3) := by decide +kernel
theorem dL_law_2289 : decode cL_law 2289 = .ok (.istore 6, 2) := by decide +kernel
theorem dL_law_2291 : decode cL_law 2291 = .ok (.aload_n 2, 1) := by decide +kernel
theorem dL_law_2292 : decode cL_law 2292 = .ok (.aload_n 0, 1) := by decide +kernel
theorem dL_law_2293 : decode cL_law 2293 = .ok (.iload 5, 2) := by decide +kernel
theorem dL_law_2295 : decode cL_law 2295 = .ok (.iconst 1, 1) := by decide +kernel
theorem dL_law_2296 : decode cL_law 2296 = .ok (.iadd, 1) := by decide +kernel
theorem dL_law_2297 : decode cL_law 2297 = .ok (.iaload, 1) := by decide +kernel
theorem dL_law_2298 : decode cL_law 2298 = .ok (.aload_n 0, 1) := by decide +kernel
theorem dL_law_2299 : decode cL_law 2299 = .ok (.iload 5, 2) := by decide +kernel
theorem dL_law_2301 : decode cL_law 2301 = .ok (.iconst 2, 1) := by decide +kernel
theorem dL_law_2302 : decode cL_law 2302 = .ok (.iadd, 1) := by decide +kernel
theorem dL_law_2303 : decode cL_law 2303 = .ok (.iaload, 1) := by decide +kernel
theorem dL_law_2304 : decode cL_law 2304 = .ok (.aload_n 0, 1) := by decide +kernel
theorem dL_law_2305 : decode cL_law 2305 = .ok (.iload 5, 2) := by decide +kernel
theorem dL_law_2307 : decode cL_law 2307 = .ok (.iconst 3, 1) := by decide +kernel
theorem dL_law_2308 : decode cL_law 2308 = .ok (.iadd, 1) := by decide +kernel
theorem dL_law_2309 : decode cL_law 2309 = .ok (.iaload, 1) := by decide +kernel
theorem dL_law_2310 : decode cL_law 2310 = .ok (.aload_n 0, 1) := by decide +kernel
theorem dL_law_2311 : decode cL_law 2311 = .ok (.iload 5, 2) := by decide +kernel
theorem dL_law_2313 : decode cL_law 2313 = .ok (.iconst 4, 1) := by decide +kernel
theorem dL_law_2314 : decode cL_law 2314 = .ok (.iadd, 1) := by decide +kernel
theorem dL_law_2315 : decode cL_law 2315 = .ok (.iaload, 1) := by decide +kernel
theorem dL_law_2316 : decode cL_law 2316 = .ok (.aload_n 0, 1) := by decide +kernel
theorem dL_law_2317 : decode cL_law 2317 = .ok (.iload 5, 2) := by decide +kernel
theorem dL_law_2319 : decode cL_law 2319 = .ok (.iconst 5, 1) := by decide +kernel
theorem dL_law_2320 : decode cL_law 2320 = .ok (.iadd, 1) := by decide +kernel
theorem dL_law_2321 : decode cL_law 2321 = .ok (.iaload, 1) := by decide +kernel
theorem dL_law_2322 : decode cL_law 2322 = .ok (.invokevirtual 282, 3) := by decide +kernel
theorem dL_law_2325 : decode cL_law 2325 = .ok (.istore 7, 2) := by decide +kernel
theorem dL_law_2327 : decode cL_law 2327 = .ok (.aload_n 2, 1) := by decide +kernel
theorem dL_law_2328 : decode cL_law 2328 = .ok (.invokevirtual 167, 3) := by decide +kernel
theorem dL_law_2331 : decode cL_law 2331 = .ok (.iload 6, 2) := by decide +kernel
theorem dL_law_2333 : decode cL_law 2333 = .ok (.if_icmp .eq 5, 3) := by decide +kernel
theorem dL_law_2336 : decode cL_law 2336 = .ok (.iconst 0, 1) := by decide +kernel
theorem dL_law_2337 : decode cL_law 2337 = .ok (.ireturn, 1) := by decide +kernel
theorem dL_law_2338 : decode cL_law 2338 = .ok (.iload 6, 2) := by decide +kernel
theorem dL_law_2340 : decode cL_law 2340 = .ok (.ifCond .ne 15, 3) := by decide +kernel
theorem dL_law_2343 : decode cL_law 2343 = .ok (.aload_n 3, 1) := by decide +kernel
theorem dL_law_2344 : decode cL_law 2344 = .ok (.iconst 0, 1) := by decide +kernel
theorem dL_law_2345 : decode cL_law 2345 = .ok (.laload, 1) := by decide +kernel
theorem dL_law_2346 : decode cL_law 2346 = .ok (.iload 7, 2) := by decide +kernel
theorem dL_law_2348 : decode cL_law 2348 = .ok (.i2l, 1) := by decide +kernel
theorem dL_law_2349 : decode cL_law 2349 = .ok (.lcmp, 1) := by decide +kernel
theorem dL_law_2350 : decode cL_law 2350 = .ok (.ifCond .eq 5, 3) := by decide +kernel
theorem dL_law_2353 : decode cL_law 2353 = .ok (.iconst 0, 1) := by decide +kernel
theorem dL_law_2354 : decode cL_law 2354 = .ok (.ireturn, 1) := by decide +kernel
theorem dL_law_2355 : decode cL_law 2355 = .ok (.goto 920, 3) := by decide +kernel
theorem dL_law_2358 : decode cL_law 2358 = .ok (.aload_n 1, 1) := by decide +kernel
theorem dL_law_2359 : decode cL_law 2359 = .ok (.aload_n 0, 1) := by decide +kernel
theorem dL_law_2360 : decode cL_law 2360 = .ok (.iload 5, 2) := by decide +kernel
theorem dL_law_2362 : decode cL_law 2362 = .ok (.iconst 1, 1) := by decide +kernel
theorem dL_law_2363 : decode cL_law 2363 = .ok (.iadd, 1) := by decide +kernel
theorem dL_law_2364 : decode cL_law 2364 = .ok (.iaload, 1) := by decide +kernel
theorem dL_law_2365 : decode cL_law 2365 = .ok (.aload_n 3, 1) := by decide +kernel
theorem dL_law_2366 : decode cL_law 2366 = .ok (.invokestatic 283, 3) := by decide +kernel
theorem dL_law_2369 : decode cL_law 2369 = .ok (.istore 6, 2) := by decide +kernel
theorem dL_law_2371 : decode cL_law 2371 = .ok (.aload_n 2, 1) := by decide +kernel
theorem dL_law_2372 : decode cL_law 2372 = .ok (.aload_n 0, 1) := by decide +kernel
theorem dL_law_2373 : decode cL_law 2373 = .ok (.iload 5, 2) := by decide +kernel
theorem dL_law_2375 : decode cL_law 2375 = .ok (.iconst 1, 1) := by decide +kernel
theorem dL_law_2376 : decode cL_law 2376 = .ok (.iadd, 1) := by decide +kernel
theorem dL_law_2377 : decode cL_law 2377 = .ok (.iaload, 1) := by decide +kernel
theorem dL_law_2378 : decode cL_law 2378 = .ok (.invokevirtual 285, 3) := by decide +kernel
theorem dL_law_2381 : decode cL_law 2381 = .ok (.lstore 7, 2) := by decide +kernel
theorem dL_law_2383 : decode cL_law 2383 = .ok (.aload_n 2, 1) := by decide +kernel
theorem dL_law_2384 : decode cL_law 2384 = .ok (.invokevirtual 167, 3) := by decide +kernel
theorem dL_law_2387 : decode cL_law 2387 = .ok (.iload 6, 2) := by decide +kernel
theorem dL_law_2389 : decode cL_law 2389 = .ok (.if_icmp .eq 5, 3) := by decide +kernel
theorem dL_law_2392 : decode cL_law 2392 = .ok (.iconst 0, 1) := by decide +kernel
theorem dL_law_2393 : decode cL_law 2393 = .ok (.ireturn, 1) := by decide +kernel
theorem dL_law_2394 : decode cL_law 2394 = .ok (.iload 6, 2) := by decide +kernel
theorem dL_law_2396 : decode cL_law 2396 = .ok (.ifCond .ne 14, 3) := by decide +kernel
theorem dL_law_2399 : decode cL_law 2399 = .ok (.aload_n 3, 1) := by decide +kernel
theorem dL_law_2400 : decode cL_law 2400 = .ok (.iconst 0, 1) := by decide +kernel
theorem dL_law_2401 : decode cL_law 2401 = .ok (.laload, 1) := by decide +kernel
theorem dL_law_2402 : decode cL_law 2402 = .ok (.lload 7, 2) := by decide +kernel
theorem dL_law_2404 : decode cL_law 2404 = .ok (.lcmp, 1) := by decide +kernel
theorem dL_law_2405 : decode cL_law 2405 = .ok (.ifCond .eq 5, 3) := by decide +kernel
theorem dL_law_2408 : decode cL_law 2408 = .ok (.iconst 0, 1) := by decide +kernel
theorem dL_law_2409 : decode cL_law 2409 = .ok (.ireturn, 1) := by decide +kernel
theorem dL_law_2410 : decode cL_law 2410 = .ok (.goto 865, 3) := by decide +kernel
theorem dL_law_2413 : decode cL_law 2413 = .ok (.aload_n 1, 1) := by decide +kernel
theorem dL_law_2414 : decode cL_law 2414 = .ok (.aload_n 0, 1) := by decide +kernel
theorem dL_law_2415 : decode cL_law 2415 = .ok (.iload 5, 2) := by decide +kernel
theorem dL_law_2417 : decode cL_law 2417 = .ok (.iconst 1, 1) := by decide +kernel
theorem dL_law_2418 : decode cL_law 2418 = .ok (.iadd, 1) := by decide +kernel
theorem dL_law_2419 : decode cL_law 2419 = .ok (.iaload, 1) := by decide +kernel
theorem dL_law_2420 : decode cL_law 2420 = .ok (.aload_n 3, 1) := by decide +kernel
theorem dL_law_2421 : decode cL_law 2421 = .ok (.invokestatic 286, 3) := by decide +kernel
theorem dL_law_2424 : decode cL_law 2424 = .ok (.istore 6, 2) := by decide +kernel
theorem dL_law_2426 : decode cL_law 2426 = .ok (.aload_n 2, 1) := by decide +kernel
theorem dL_law_2427 : decode cL_law 2427 = .ok (.aload_n 0, 1) := by decide +kernel
theorem dL_law_2428 : decode cL_law 2428 = .ok (.iload 5, 2) := by decide +kernel
theorem dL_law_2430 : decode cL_law 2430 = .ok (.iconst 1, 1) := by decide +kernel
theorem dL_law_2431 : decode cL_law 2431 = .ok (.iadd, 1) := by decide +kernel
theorem dL_law_2432 : decode cL_law 2432 = .ok (.iaload, 1) := by decide +kernel
theorem dL_law_2433 : decode cL_law 2433 = .ok (.invokevirtual 288, 3) := by decide +kernel
theorem dL_law_2436 : decode cL_law 2436 = .ok (.istore 7, 2) := by decide +kernel
theorem dL_law_2438 : decode cL_law 2438 = .ok (.aload_n 2, 1) := by decide +kernel
theorem dL_law_2439 : decode cL_law 2439 = .ok (.invokevirtual 167, 3) := by decide +kernel
theorem dL_law_2442 : decode cL_law 2442 = .ok (.iload 6, 2) := by decide +kernel
theorem dL_law_2444 : decode cL_law 2444 = .ok (.if_icmp .eq 5, 3) := by decide +kernel
theorem dL_law_2447 : decode cL_law 2447 = .ok (.iconst 0, 1) := by decide +kernel
theorem dL_law_2448 : decode cL_law 2448 = .ok (.ireturn, 1) := by decide +kernel
theorem dL_law_2449 : decode cL_law 2449 = .ok (.iload 6, 2) := by decide +kernel
theorem dL_law_2451 : decode cL_law 2451 = .ok (.ifCond .ne 15, 3) := by decide +kernel
theorem dL_law_2454 : decode cL_law 2454 = .ok (.aload_n 3, 1) := by decide +kernel
theorem dL_law_2455 : decode cL_law 2455 = .ok (.iconst 0, 1) := by decide +kernel
theorem dL_law_2456 : decode cL_law 2456 = .ok (.laload, 1) := by decide +kernel
theorem dL_law_2457 : decode cL_law 2457 = .ok (.iload 7, 2) := by decide +kernel
theorem dL_law_2459 : decode cL_law 2459 = .ok (.i2l, 1) := by decide +kernel
theorem dL_law_2460 : decode cL_law 2460 = .ok (.lcmp, 1) := by decide +kernel
theorem dL_law_2461 : decode cL_law 2461 = .ok (.ifCond .eq 5, 3) := by decide +kernel
theorem dL_law_2464 : decode cL_law 2464 = .ok (.iconst 0, 1) := by decide +kernel
theorem dL_law_2465 : decode cL_law 2465 = .ok (.ireturn, 1) := by decide +kernel
theorem dL_law_2466 : decode cL_law 2466 = .ok (.goto 809, 3) := by decide +kernel
theorem dL_law_2469 : decode cL_law 2469 = .ok (.aload_n 1, 1) := by decide +kernel
theorem dL_law_2470 : decode cL_law 2470 = .ok (.aload_n 0, 1) := by decide +kernel
theorem dL_law_2471 : decode cL_law 2471 = .ok (.iload 5, 2) := by decide +kernel
theorem dL_law_2473 : decode cL_law 2473 = .ok (.iconst 1, 1) := by decide +kernel
theorem dL_law_2474 : decode cL_law 2474 = .ok (.iadd, 1) := by decide +kernel
theorem dL_law_2475 : decode cL_law 2475 = .ok (.iaload, 1) := by decide +kernel
theorem dL_law_2476 : decode cL_law 2476 = .ok (.aload_n 0, 1) := by decide +kernel
theorem dL_law_2477 : decode cL_law 2477 = .ok (.iload 5, 2) := by decide +kernel
theorem dL_law_2479 : decode cL_law 2479 = .ok (.iconst 2, 1) := by decide +kernel
theorem dL_law_2480 : decode cL_law 2480 = .ok (.iadd, 1) := by decide +kernel
theorem dL_law_2481 : decode cL_law 2481 = .ok (.iaload, 1) := by decide +kernel
theorem dL_law_2482 : decode cL_law 2482 = .ok (.aload_n 0, 1) := by decide +kernel
theorem dL_law_2483 : decode cL_law 2483 = .ok (.iload 5, 2) := by decide +kernel
theorem dL_law_2485 : decode cL_law 2485 = .ok (.iconst 3, 1) := by decide +kernel
theorem dL_law_2486 : decode cL_law 2486 = .ok (.iadd, 1) := by decide +kernel
theorem dL_law_2487 : decode cL_law 2487 = .ok (.iaload, 1) := by decide +kernel
theorem dL_law_2488 : decode cL_law 2488 = .ok (.aload_n 3, 1) := by decide +kernel
theorem dL_law_2489 : decode cL_law 2489 = .ok (.invokestatic 289, 3) := by decide +kernel
theorem dL_law_2492 : decode cL_law 2492 = .ok (.istore 6, 2) := by decide +kernel
theorem dL_law_2494 : decode cL_law 2494 = .ok (.aload_n 2, 1) := by decide +kernel
theorem dL_law_2495 : decode cL_law 2495 = .ok (.aload_n 0, 1) := by decide +kernel
theorem dL_law_2496 : decode cL_law 2496 = .ok (.iload 5, 2) := by decide +kernel
theorem dL_law_2498 : decode cL_law 2498 = .ok (.iconst 1, 1) := by decide +kernel
theorem dL_law_2499 : decode cL_law 2499 = .ok (.iadd, 1) := by decide +kernel
theorem dL_law_2500 : decode cL_law 2500 = .ok (.iaload, 1) := by decide +kernel
theorem dL_law_2501 : decode cL_law 2501 = .ok (.aload_n 0, 1) := by decide +kernel
theorem dL_law_2502 : decode cL_law 2502 = .ok (.iload 5, 2) := by decide +kernel
theorem dL_law_2504 : decode cL_law 2504 = .ok (.iconst 2, 1) := by decide +kernel
theorem dL_law_2505 : decode cL_law 2505 = .ok (.iadd, 1) := by decide +kernel
theorem dL_law_2506 : decode cL_law 2506 = .ok (.iaload, 1) := by decide +kernel
theorem dL_law_2507 : decode cL_law 2507 = .ok (.aload_n 0, 1) := by decide +kernel
theorem dL_law_2508 : decode cL_law 2508 = .ok (.iload 5, 2) := by decide +kernel
theorem dL_law_2510 : decode cL_law 2510 = .ok (.iconst 3, 1) := by decide +kernel
theorem dL_law_2511 : decode cL_law 2511 = .ok (.iadd, 1) := by decide +kernel
theorem dL_law_2512 : decode cL_law 2512 = .ok (.iaload, 1) := by decide +kernel
theorem dL_law_2513 : decode cL_law 2513 = .ok (.invokevirtual 291, 3) := by decide +kernel
theorem dL_law_2516 : decode cL_law 2516 = .ok (.istore 7, 2) := by decide +kernel
theorem dL_law_2518 : decode cL_law 2518 = .ok (.aload_n 2, 1) := by decide +kernel
theorem dL_law_2519 : decode cL_law 2519 = .ok (.invokevirtual 167, 3) := by decide +kernel
theorem dL_law_2522 : decode cL_law 2522 = .ok (.iload 6, 2) := by decide +kernel
theorem dL_law_2524 : decode cL_law 2524 = .ok (.if_icmp .eq 5, 3) := by decide +kernel
theorem dL_law_2527 : decode cL_law 2527 = .ok (.iconst 0, 1) := by decide +kernel
theorem dL_law_2528 : decode cL_law 2528 = .ok (.ireturn, 1) := by decide +kernel
theorem dL_law_2529 : decode cL_law 2529 = .ok (.iload 6, 2) := by decide +kernel
theorem dL_law_2531 : decode cL_law 2531 = .ok (.ifCond .ne 15, 3) := by decide +kernel
theorem dL_law_2534 : decode cL_law 2534 = .ok (.aload_n 3, 1) := by decide +kernel
theorem dL_law_2535 : decode cL_law 2535 = .ok (.iconst 0, 1) := by decide +kernel
theorem dL_law_2536 : decode cL_law 2536 = .ok (.laload, 1) := by decide +kernel
theorem dL_law_2537 : decode cL_law 2537 = .ok (.iload 7, 2) := by decide +kernel
theorem dL_law_2539 : decode cL_law 2539 = .ok (.i2l, 1) := by decide +kernel
theorem dL_law_2540 : decode cL_law 2540 = .ok (.lcmp, 1) := by decide +kernel
theorem dL_law_2541 : decode cL_law 2541 = .ok (.ifCond .eq 5, 3) := by decide +kernel
theorem dL_law_2544 : decode cL_law 2544 = .ok (.iconst 0, 1) := by decide +kernel
theorem dL_law_2545 : decode cL_law 2545 = .ok (.ireturn, 1) := by decide +kernel
theorem dL_law_2546 : decode cL_law 2546 = .ok (.goto 729, 3) := by decide +kernel
theorem dL_law_2549 : decode cL_law 2549 = .ok (.aload_n 1, 1) := by decide +kernel
theorem dL_law_2550 : decode cL_law 2550 = .ok (.aload_n 0, 1) := by decide +kernel
theorem dL_law_2551 : decode cL_law 2551 = .ok (.iload 5, 2) := by decide +kernel
theorem dL_law_2553 : decode cL_law 2553 = .ok (.iconst 1, 1) := by decide +kernel
theorem dL_law_2554 : decode cL_law 2554 = .ok (.iadd, 1) := by decide +kernel
theorem dL_law_2555 : decode cL_law 2555 = .ok (.iaload, 1) := by decide +kernel
theorem dL_law_2556 : decode cL_law 2556 = .ok (.aload_n 0, 1) := by decide +kernel
theorem dL_law_2557 : decode cL_law 2557 = .ok (.iload 5, 2) := by decide +kernel
theorem dL_law_2559 : decode cL_law 2559 = .ok (.iconst 2, 1) := by decide +kernel
theorem dL_law_2560 : decode cL_law 2560 = .ok (.iadd, 1) := by decide +kernel
theorem dL_law_2561 : decode cL_law 2561 = .ok (.iaload, 1) := by decide +kernel
theorem dL_law_2562 : decode cL_law 2562 = .ok (.aload_n 0, 1) := by decide +kernel
theorem dL_law_2563 : decode cL_law 2563 = .ok (.iload 5, 2) := by decide +kernel
theorem dL_law_2565 : decode cL_law 2565 = .ok (.iconst 3, 1) := by decide +kernel
theorem dL_law_2566 : decode cL_law 2566 = .ok (.iadd, 1) := by decide +kernel
theorem dL_law_2567 : decode cL_law 2567 = .ok (.iaload, 1) := by decide +kernel
theorem dL_law_2568 : decode cL_law 2568 = .ok (.aload_n 0, 1) := by decide +kernel
theorem dL_law_2569 : decode cL_law 2569 = .ok (.iload 5, 2) := by decide +kernel
theorem dL_law_2571 : decode cL_law 2571 = .ok (.iconst 4, 1) := by decide +kernel
theorem dL_law_2572 : decode cL_law 2572 = .ok (.iadd, 1) := by decide +kernel
theorem dL_law_2573 : decode cL_law 2573 = .ok (.iaload, 1) := by decide +kernel
theorem dL_law_2574 : decode cL_law 2574 = .ok (.aload_n 3, 1) := by decide +kernel
theorem dL_law_2575 : decode cL_law 2575 = .ok (.invokestatic 292, 3) := by decide +kernel
theorem dL_law_2578 : decode cL_law 2578 = .ok (.istore 6, 2) := by decide +kernel
theorem dL_law_2580 : decode cL_law 2580 = .ok (.aload_n 2, 1) := by decide +kernel
theorem dL_law_2581 : decode cL_law 2581 = .ok (.aload_n 0, 1) := by decide +kernel
theorem dL_law_2582 : decode cL_law 2582 = .ok (.iload 5, 2) := by decide +kernel
theorem dL_law_2584 : decode cL_law 2584 = .ok (.iconst 1, 1) := by decide +kernel
theorem dL_law_2585 : decode cL_law 2585 = .ok (.iadd, 1) := by decide +kernel
theorem dL_law_2586 : decode cL_law 2586 = .ok (.iaload, 1) := by decide +kernel
theorem dL_law_2587 : decode cL_law 2587 = .ok (.aload_n 0, 1) := by decide +kernel
theorem dL_law_2588 : decode cL_law 2588 = .ok (.iload 5, 2) := by decide +kernel
theorem dL_law_2590 : decode cL_law 2590 = .ok (.iconst 2, 1) := by decide +kernel
theorem dL_law_2591 : decode cL_law 2591 = .ok (.iadd, 1) := by decide +kernel
theorem dL_law_2592 : decode cL_law 2592 = .ok (.iaload, 1) := by decide +kernel
theorem dL_law_2593 : decode cL_law 2593 = .ok (.aload_n 0, 1) := by decide +kernel
theorem dL_law_2594 : decode cL_law 2594 = .ok (.iload 5, 2) := by decide +kernel
theorem dL_law_2596 : decode cL_law 2596 = .ok (.iconst 3, 1) := by decide +kernel
theorem dL_law_2597 : decode cL_law 2597 = .ok (.iadd, 1) := by decide +kernel
theorem dL_law_2598 : decode cL_law 2598 = .ok (.iaload, 1) := by decide +kernel
theorem dL_law_2599 : decode cL_law 2599 = .ok (.aload_n 0, 1) := by decide +kernel
theorem dL_law_2600 : decode cL_law 2600 = .ok (.iload 5, 2) := by decide +kernel
theorem dL_law_2602 : decode cL_law 2602 = .ok (.iconst 4, 1) := by decide +kernel
theorem dL_law_2603 : decode cL_law 2603 = .ok (.iadd, 1) := by decide +kernel
theorem dL_law_2604 : decode cL_law 2604 = .ok (.iaload, 1) := by decide +kernel
theorem dL_law_2605 : decode cL_law 2605 = .ok (.invokevirtual 295, 3) := by decide +kernel
theorem dL_law_2608 : decode cL_law 2608 = .ok (.istore 7, 2) := by decide +kernel
theorem dL_law_2610 : decode cL_law 2610 = .ok (.aload_n 2, 1) := by decide +kernel
theorem dL_law_2611 : decode cL_law 2611 = .ok (.invokevirtual 167, 3) := by decide +kernel
theorem dL_law_2614 : decode cL_law 2614 = .ok (.iload 6, 2) := by decide +kernel
theorem dL_law_2616 : decode cL_law 2616 = .ok (.if_icmp .eq 5, 3) := by decide +kernel
theorem dL_law_2619 : decode cL_law 2619 = .ok (.iconst 0, 1) := by decide +kernel
theorem dL_law_2620 : decode cL_law 2620 = .ok (.ireturn, 1) := by decide +kernel
theorem dL_law_2621 : decode cL_law 2621 = .ok (.iload 6, 2) := by decide +kernel
theorem dL_law_2623 : decode cL_law 2623 = .ok (.ifCond .ne 15, 3) := by decide +kernel
theorem dL_law_2626 : decode cL_law 2626 = .ok (.aload_n 3, 1) := by decide +kernel
theorem dL_law_2627 : decode cL_law 2627 = .ok (.iconst 0, 1) := by decide +kernel
theorem dL_law_2628 : decode cL_law 2628 = .ok (.laload, 1) := by decide +kernel
theorem dL_law_2629 : decode cL_law 2629 = .ok (.iload 7, 2) := by decide +kernel
theorem dL_law_2631 : decode cL_law 2631 = .ok (.i2l, 1) := by decide +kernel
theorem dL_law_2632 : decode cL_law 2632 = .ok (.lcmp, 1) := by decide +kernel
theorem dL_law_2633 : decode cL_law 2633 = .ok (.ifCond .eq 5, 3) := by decide +kernel
theorem dL_law_2636 : decode cL_law 2636 = .ok (.iconst 0, 1) := by decide +kernel
theorem dL_law_2637 : decode cL_law 2637 = .ok (.ireturn, 1) := by decide +kernel
theorem dL_law_2638 : decode cL_law 2638 = .ok (.goto 637, 3) := by decide +kernel
theorem dL_law_2641 : decode cL_law 2641 = .ok (.aload_n 1, 1) := by decide +kernel
theorem dL_law_2642 : decode cL_law 2642 = .ok (.aload_n 0, 1) := by decide +kernel
theorem dL_law_2643 : decode cL_law 2643 = .ok (.iload 5, 2) := by decide +kernel
theorem dL_law_2645 : decode cL_law 2645 = .ok (.iconst 1, 1) := by decide +kernel
theorem dL_law_2646 : decode cL_law 2646 = .ok (.iadd, 1) := by decide +kernel
theorem dL_law_2647 : decode cL_law 2647 = .ok (.iaload, 1) := by decide +kernel
theorem dL_law_2648 : decode cL_law 2648 = .ok (.aload_n 0, 1) := by decide +kernel
theorem dL_law_2649 : decode cL_law 2649 = .ok (.iload 5, 2) := by decide +kernel
theorem dL_law_2651 : decode cL_law 2651 = .ok (.iconst 2, 1) := by decide +kernel
theorem dL_law_2652 : decode cL_law 2652 = .ok (.iadd, 1) := by decide +kernel
theorem dL_law_2653 : decode cL_law 2653 = .ok (.iaload, 1) := by decide +kernel
theorem dL_law_2654 : decode cL_law 2654 = .ok (.aload_n 0, 1) := by decide +kernel
theorem dL_law_2655 : decode cL_law 2655 = .ok (.iload 5, 2) := by decide +kernel
theorem dL_law_2657 : decode cL_law 2657 = .ok (.iconst 3, 1) := by decide +kernel
theorem dL_law_2658 : decode cL_law 2658 = .ok (.iadd, 1) := by decide +kernel
theorem dL_law_2659 : decode cL_law 2659 = .ok (.iaload, 1) := by decide +kernel
theorem dL_law_2660 : decode cL_law 2660 = .ok (.aload_n 0, 1) := by decide +kernel
theorem dL_law_2661 : decode cL_law 2661 = .ok (.iload 5, 2) := by decide +kernel
theorem dL_law_2663 : decode cL_law 2663 = .ok (.iconst 4, 1) := by decide +kernel
theorem dL_law_2664 : decode cL_law 2664 = .ok (.iadd, 1) := by decide +kernel
theorem dL_law_2665 : decode cL_law 2665 = .ok (.iaload, 1) := by decide +kernel
theorem dL_law_2666 : decode cL_law 2666 = .ok (.aload_n 3, 1) := by decide +kernel
theorem dL_law_2667 : decode cL_law 2667 = .ok (.invokestatic 296, 3) := by decide +kernel
theorem dL_law_2670 : decode cL_law 2670 = .ok (.istore 6, 2) := by decide +kernel
theorem dL_law_2672 : decode cL_law 2672 = .ok (.aload_n 2, 1) := by decide +kernel
theorem dL_law_2673 : decode cL_law 2673 = .ok (.aload_n 0, 1) := by decide +kernel
theorem dL_law_2674 : decode cL_law 2674 = .ok (.iload 5, 2) := by decide +kernel
theorem dL_law_2676 : decode cL_law 2676 = .ok (.iconst 1, 1) := by decide +kernel
theorem dL_law_2677 : decode cL_law 2677 = .ok (.iadd, 1) := by decide +kernel
theorem dL_law_2678 : decode cL_law 2678 = .ok (.iaload, 1) := by decide +kernel
theorem dL_law_2679 : decode cL_law 2679 = .ok (.aload_n 0, 1) := by decide +kernel
theorem dL_law_2680 : decode cL_law 2680 = .ok (.iload 5, 2) := by decide +kernel
theorem dL_law_2682 : decode cL_law 2682 = .ok (.iconst 2, 1) := by decide +kernel
theorem dL_law_2683 : decode cL_law 2683 = .ok (.iadd, 1) := by decide +kernel
theorem dL_law_2684 : decode cL_law 2684 = .ok (.iaload, 1) := by decide +kernel
theorem dL_law_2685 : decode cL_law 2685 = .ok (.aload_n 0, 1) := by decide +kernel
theorem dL_law_2686 : decode cL_law 2686 = .ok (.iload 5, 2) := by decide +kernel
theorem dL_law_2688 : decode cL_law 2688 = .ok (.iconst 3, 1) := by decide +kernel
theorem dL_law_2689 : decode cL_law 2689 = .ok (.iadd, 1) := by decide +kernel
theorem dL_law_2690 : decode cL_law 2690 = .ok (.iaload, 1) := by decide +kernel
theorem dL_law_2691 : decode cL_law 2691 = .ok (.aload_n 0, 1) := by decide +kernel
theorem dL_law_2692 : decode cL_law 2692 = .ok (.iload 5, 2) := by decide +kernel
theorem dL_law_2694 : decode cL_law 2694 = .ok (.iconst 4, 1) := by decide +kernel
theorem dL_law_2695 : decode cL_law 2695 = .ok (.iadd, 1) := by decide +kernel
theorem dL_law_2696 : decode cL_law 2696 = .ok (.iaload, 1) := by decide +kernel
theorem dL_law_2697 : decode cL_law 2697 = .ok (.invokevirtual 298, 3) := by decide +kernel
theorem dL_law_2700 : decode cL_law 2700 = .ok (.istore 7, 2) := by decide +kernel
theorem dL_law_2702 : decode cL_law 2702 = .ok (.aload_n 2, 1) := by decide +kernel
theorem dL_law_2703 : decode cL_law 2703 = .ok (.invokevirtual 167, 3) := by decide +kernel
theorem dL_law_2706 : decode cL_law 2706 = .ok (.iload 6, 2) := by decide +kernel
theorem dL_law_2708 : decode cL_law 2708 = .ok (.if_icmp .eq 5, 3) := by decide +kernel
theorem dL_law_2711 : decode cL_law 2711 = .ok (.iconst 0, 1) := by decide +kernel
theorem dL_law_2712 : decode cL_law 2712 = .ok (.ireturn, 1) := by decide +kernel
theorem dL_law_2713 : decode cL_law 2713 = .ok (.iload 6, 2) := by decide +kernel
theorem dL_law_2715 : decode cL_law 2715 = .ok (.ifCond .ne 15, 3) := by decide +kernel
theorem dL_law_2718 : decode cL_law 2718 = .ok (.aload_n 3, 1) := by decide +kernel
theorem dL_law_2719 : decode cL_law 2719 = .ok (.iconst 0, 1) := by decide +kernel
theorem dL_law_2720 : decode cL_law 2720 = .ok (.laload, 1) := by decide +kernel
theorem dL_law_2721 : decode cL_law 2721 = .ok (.iload 7, 2) := by decide +kernel
theorem dL_law_2723 : decode cL_law 2723 = .ok (.i2l, 1) := by decide +kernel
theorem dL_law_2724 : decode cL_law 2724 = .ok (.lcmp, 1) := by decide +kernel
theorem dL_law_2725 : decode cL_law 2725 = .ok (.ifCond .eq 5, 3) := by decide +kernel
theorem dL_law_2728 : decode cL_law 2728 = .ok (.iconst 0, 1) := by decide +kernel
theorem dL_law_2729 : decode cL_law 2729 = .ok (.ireturn, 1) := by decide +kernel
theorem dL_law_2730 : decode cL_law 2730 = .ok (.goto 545, 3) := by decide +kernel
theorem dL_law_2733 : decode cL_law 2733 = .ok (.aload_n 1, 1) := by decide +kernel
theorem dL_law_2734 : decode cL_law 2734 = .ok (.aload_n 0, 1) := by decide +kernel
theorem dL_law_2735 : decode cL_law 2735 = .ok (.iload 5, 2) := by decide +kernel
theorem dL_law_2737 : decode cL_law 2737 = .ok (.iconst 1, 1) := by decide +kernel
theorem dL_law_2738 : decode cL_law 2738 = .ok (.iadd, 1) := by decide +kernel
theorem dL_law_2739 : decode cL_law 2739 = .ok (.iaload, 1) := by decide +kernel
theorem dL_law_2740 : decode cL_law 2740 = .ok (.aload_n 3, 1) := by decide +kernel
theorem dL_law_2741 : decode cL_law 2741 = .ok (.invokestatic 299, 3) := by decide +kernel
theorem dL_law_2744 : decode cL_law 2744 = .ok (.istore 6, 2) := by decide +kernel
theorem dL_law_2746 : decode cL_law 2746 = .ok (.aload_n 2, 1) := by decide +kernel
theorem dL_law_2747 : decode cL_law 2747 = .ok (.aload_n 0, 1) := by decide +kernel
theorem dL_law_2748 : decode cL_law 2748 = .ok (.iload 5, 2) := by decide +kernel
theorem dL_law_2750 : decode cL_law 2750 = .ok (.iconst 1, 1) := by decide +kernel
theorem dL_law_2751 : decode cL_law 2751 = .ok (.iadd, 1) := by decide +kernel
theorem dL_law_2752 : decode cL_law 2752 = .ok (.iaload, 1) := by decide +kernel
theorem dL_law_2753 : decode cL_law 2753 = .ok (.invokevirtual 301, 3) := by decide +kernel
theorem dL_law_2756 : decode cL_law 2756 = .ok (.istore 7, 2) := by decide +kernel
theorem dL_law_2758 : decode cL_law 2758 = .ok (.aload_n 2, 1) := by decide +kernel
theorem dL_law_2759 : decode cL_law 2759 = .ok (.invokevirtual 167, 3) := by decide +kernel
theorem dL_law_2762 : decode cL_law 2762 = .ok (.iload 6, 2) := by decide +kernel
theorem dL_law_2764 : decode cL_law 2764 = .ok (.if_icmp .eq 5, 3) := by decide +kernel
theorem dL_law_2767 : decode cL_law 2767 = .ok (.iconst 0, 1) := by decide +kernel
theorem dL_law_2768 : decode cL_law 2768 = .ok (.ireturn, 1) := by decide +kernel
theorem dL_law_2769 : decode cL_law 2769 = .ok (.iload 6, 2) := by decide +kernel
theorem dL_law_2771 : decode cL_law 2771 = .ok (.ifCond .ne 15, 3) := by decide +kernel
theorem dL_law_2774 : decode cL_law 2774 = .ok (.aload_n 3, 1) := by decide +kernel
theorem dL_law_2775 : decode cL_law 2775 = .ok (.iconst 0, 1) := by decide +kernel
theorem dL_law_2776 : decode cL_law 2776 = .ok (.laload, 1) := by decide +kernel
theorem dL_law_2777 : decode cL_law 2777 = .ok (.iload 7, 2) := by decide +kernel
theorem dL_law_2779 : decode cL_law 2779 = .ok (.i2l, 1) := by decide +kernel
theorem dL_law_2780 : decode cL_law 2780 = .ok (.lcmp, 1) := by decide +kernel
theorem dL_law_2781 : decode cL_law 2781 = .ok (.ifCond .eq 5, 3) := by decide +kernel
theorem dL_law_2784 : decode cL_law 2784 = .ok (.iconst 0, 1) := by decide +kernel
theorem dL_law_2785 : decode cL_law 2785 = .ok (.ireturn, 1) := by decide +kernel
theorem dL_law_2786 : decode cL_law 2786 = .ok (.goto 489, 3) := by decide +kernel
theorem dL_law_2789 : decode cL_law 2789 = .ok (.aload_n 1, 1) := by decide +kernel
theorem dL_law_2790 : decode cL_law 2790 = .ok (.aload_n 0, 1) := by decide +kernel
theorem dL_law_2791 : decode cL_law 2791 = .ok (.iload 5, 2) := by decide +kernel
theorem dL_law_2793 : decode cL_law 2793 = .ok (.iconst 1, 1) := by decide +kernel
theorem dL_law_2794 : decode cL_law 2794 = .ok (.iadd, 1) := by decide +kernel
theorem dL_law_2795 : decode cL_law 2795 = .ok (.iaload, 1) := by decide +kernel
theorem dL_law_2796 : decode cL_law 2796 = .ok (.aload_n 0, 1) := by decide +kernel
theorem dL_law_2797 : decode cL_law 2797 = .ok (.iload 5, 2) := by decide +kernel
theorem dL_law_2799 : decode cL_law 2799 = .ok (.iconst 2, 1) := by decide +kernel
theorem dL_law_2800 : decode cL_law 2800 = .ok (.iadd, 1) := by decide +kernel
theorem dL_law_2801 : decode cL_law 2801 = .ok (.iaload, 1) := by decide +kernel
theorem dL_law_2802 : decode cL_law 2802 = .ok (.aload_n 0, 1) := by decide +kernel
theorem dL_law_2803 : decode cL_law 2803 = .ok (.iload 5, 2) := by decide +kernel
theorem dL_law_2805 : decode cL_law 2805 = .ok (.iconst 3, 1) := by decide +kernel
theorem dL_law_2806 : decode cL_law 2806 = .ok (.iadd, 1) := by decide +kernel
theorem dL_law_2807 : decode cL_law 2807 = .ok (.iaload, 1) := by decide +kernel
theorem dL_law_2808 : decode cL_law 2808 = .ok (.aload_n 3, 1) := by decide +kernel
theorem dL_law_2809 : decode cL_law 2809 = .ok (.invokestatic 302, 3) := by decide +kernel
theorem dL_law_2812 : decode cL_law 2812 = .ok (.istore 6, 2) := by decide +kernel
theorem dL_law_2814 : decode cL_law 2814 = .ok (.aload_n 2, 1) := by decide +kernel
theorem dL_law_2815 : decode cL_law 2815 = .ok (.aload_n 0, 1) := by decide +kernel
theorem dL_law_2816 : decode cL_law 2816 = .ok (.iload 5, 2) := by decide +kernel
theorem dL_law_2818 : decode cL_law 2818 = .ok (.iconst 1, 1) := by decide +kernel
theorem dL_law_2819 : decode cL_law 2819 = .ok (.iadd, 1) := by decide +kernel
theorem dL_law_2820 : decode cL_law 2820 = .ok (.iaload, 1) := by decide +kernel
theorem dL_law_2821 : decode cL_law 2821 = .ok (.aload_n 0, 1) := by decide +kernel
theorem dL_law_2822 : decode cL_law 2822 = .ok (.iload 5, 2) := by decide +kernel
theorem dL_law_2824 : decode cL_law 2824 = .ok (.iconst 2, 1) := by decide +kernel
theorem dL_law_2825 : decode cL_law 2825 = .ok (.iadd, 1) := by decide +kernel
theorem dL_law_2826 : decode cL_law 2826 = .ok (.iaload, 1) := by decide +kernel
theorem dL_law_2827 : decode cL_law 2827 = .ok (.aload_n 0, 1) := by decide +kernel
theorem dL_law_2828 : decode cL_law 2828 = .ok (.iload 5, 2) := by decide +kernel
theorem dL_law_2830 : decode cL_law 2830 = .ok (.iconst 3, 1) := by decide +kernel
theorem dL_law_2831 : decode cL_law 2831 = .ok (.iadd, 1) := by decide +kernel
theorem dL_law_2832 : decode cL_law 2832 = .ok (.iaload, 1) := by decide +kernel
theorem dL_law_2833 : decode cL_law 2833 = .ok (.invokevirtual 304, 3) := by decide +kernel
theorem dL_law_2836 : decode cL_law 2836 = .ok (.istore 7, 2) := by decide +kernel
theorem dL_law_2838 : decode cL_law 2838 = .ok (.aload_n 2, 1) := by decide +kernel
theorem dL_law_2839 : decode cL_law 2839 = .ok (.invokevirtual 167, 3) := by decide +kernel
theorem dL_law_2842 : decode cL_law 2842 = .ok (.iload 6, 2) := by decide +kernel
theorem dL_law_2844 : decode cL_law 2844 = .ok (.if_icmp .eq 5, 3) := by decide +kernel
theorem dL_law_2847 : decode cL_law 2847 = .ok (.iconst 0, 1) := by decide +kernel
theorem dL_law_2848 : decode cL_law 2848 = .ok (.ireturn, 1) := by decide +kernel
theorem dL_law_2849 : decode cL_law 2849 = .ok (.iload 6, 2) := by decide +kernel
theorem dL_law_2851 : decode cL_law 2851 = .ok (.ifCond .ne 15, 3) := by decide +kernel
theorem dL_law_2854 : decode cL_law 2854 = .ok (.aload_n 3, 1) := by decide +kernel
theorem dL_law_2855 : decode cL_law 2855 = .ok (.iconst 0, 1) := by decide +kernel
theorem dL_law_2856 : decode cL_law 2856 = .ok (.laload, 1) := by decide +kernel
theorem dL_law_2857 : decode cL_law 2857 = .ok (.iload 7, 2) := by decide +kernel
theorem dL_law_2859 : decode cL_law 2859 = .ok (.i2l, 1) := by decide +kernel
theorem dL_law_2860 : decode cL_law 2860 = .ok (.lcmp, 1) := by decide +kernel
theorem dL_law_2861 : decode cL_law 2861 = .ok (.ifCond .eq 5, 3) := by decide +kernel
theorem dL_law_2864 : decode cL_law 2864 = .ok (.iconst 0, 1) := by decide +kernel
theorem dL_law_2865 : decode cL_law 2865 = .ok (.ireturn, 1) := by decide +kernel
theorem dL_law_2866 : decode cL_law 2866 = .ok (.goto 409, 3) := by decide +kernel
theorem dL_law_2869 : decode cL_law 2869 = .ok (.aload_n 1, 1) := by decide +kernel
theorem dL_law_2870 : decode cL_law 2870 = .ok (.aload_n 0, 1) := by decide +kernel
theorem dL_law_2871 : decode cL_law 2871 = .ok (.iload 5, 2) := by decide +kernel
theorem dL_law_2873 : decode cL_law 2873 = .ok (.iconst 1, 1) := by decide +kernel
theorem dL_law_2874 : decode cL_law 2874 = .ok (.iadd, 1) := by decide +kernel
theorem dL_law_2875 : decode cL_law 2875 = .ok (.iaload, 1) := by decide +kernel
theorem dL_law_2876 : decode cL_law 2876 = .ok (.aload_n 3, 1) := by decide +kernel
theorem dL_law_2877 : decode cL_law 2877 = .ok (.invokestatic 305, 3) := by decide +kernel
theorem dL_law_2880 : decode cL_law 2880 = .ok (.istore 6, 2) := by decide +kernel
theorem dL_law_2882 : decode cL_law 2882 = .ok (.aload_n 2, 1) := by decide +kernel
theorem dL_law_2883 : decode cL_law 2883 = .ok (.aload_n 0, 1) := by decide +kernel
theorem dL_law_2884 : decode cL_law 2884 = .ok (.iload 5, 2) := by decide +kernel
theorem dL_law_2886 : decode cL_law 2886 = .ok (.iconst 1, 1) := by decide +kernel
theorem dL_law_2887 : decode cL_law 2887 = .ok (.iadd, 1) := by decide +kernel
theorem dL_law_2888 : decode cL_law 2888 = .ok (.iaload, 1) := by decide +kernel
theorem dL_law_2889 : decode cL_law 2889 = .ok (.invokevirtual 307, 3) := by decide +kernel
theorem dL_law_2892 : decode cL_law 2892 = .ok (.istore 7, 2) := by decide +kernel
theorem dL_law_2894 : decode cL_law 2894 = .ok (.aload_n 2, 1) := by decide +kernel
theorem dL_law_2895 : decode cL_law 2895 = .ok (.invokevirtual 167, 3) := by decide +kernel
theorem dL_law_2898 : decode cL_law 2898 = .ok (.iload 6, 2) := by decide +kernel
theorem dL_law_2900 : decode cL_law 2900 = .ok (.if_icmp .eq 5, 3) := by decide +kernel
theorem dL_law_2903 : decode cL_law 2903 = .ok (.iconst 0, 1) := by decide +kernel
theorem dL_law_2904 : decode cL_law 2904 = .ok (.ireturn, 1) := by decide +kernel
theorem dL_law_2905 : decode cL_law 2905 = .ok (.iload 6, 2) := by decide +kernel
theorem dL_law_2907 : decode cL_law 2907 = .ok (.ifCond .ne 15, 3) := by decide +kernel
theorem dL_law_2910 : decode cL_law 2910 = .ok (.aload_n 3, 1) := by decide +kernel
theorem dL_law_2911 : decode cL_law 2911 = .ok (.iconst 0, 1) := by decide +kernel
theorem dL_law_2912 : decode cL_law 2912 = .ok (.laload, 1) := by decide +kernel
theorem dL_law_2913 : decode cL_law 2913 = .ok (.iload 7, 2) := by decide +kernel
theorem dL_law_2915 : decode cL_law 2915 = .ok (.i2l, 1) := by decide +kernel
theorem dL_law_2916 : decode cL_law 2916 = .ok (.lcmp, 1) := by decide +kernel
theorem dL_law_2917 : decode cL_law 2917 = .ok (.ifCond .eq 5, 3) := by decide +kernel
theorem dL_law_2920 : decode cL_law 2920 = .ok (.iconst 0, 1) := by decide +kernel
theorem dL_law_2921 : decode cL_law 2921 = .ok (.ireturn, 1) := by decide +kernel
theorem dL_law_2922 : decode cL_law 2922 = .ok (.goto 353, 3) := by decide +kernel
theorem dL_law_2925 : decode cL_law 2925 = .ok (.aload_n 1, 1) := by decide +kernel
theorem dL_law_2926 : decode cL_law 2926 = .ok (.aload_n 0, 1) := by decide +kernel
theorem dL_law_2927 : decode cL_law 2927 = .ok (.iload 5, 2) := by decide +kernel
theorem dL_law_2929 : decode cL_law 2929 = .ok (.iconst 1, 1) := by decide +kernel
theorem dL_law_2930 : decode cL_law 2930 = .ok (.iadd, 1) := by decide +kernel
theorem dL_law_2931 : decode cL_law 2931 = .ok (.iaload, 1) := by decide +kernel
theorem dL_law_2932 : decode cL_law 2932 = .ok (.aload_n 3, 1) := by decide +kernel
theorem dL_law_2933 : decode cL_law 2933 = .ok (.invokestatic 308, 3) := by decide +kernel
theorem dL_law_2936 : decode cL_law 2936 = .ok (.istore 6, 2) := by decide +kernel
theorem dL_law_2938 : decode cL_law 2938 = .ok (.aload_n 2, 1) := by decide +kernel
theorem dL_law_2939 : decode cL_law 2939 = .ok (.aload_n 0, 1) := by decide +kernel
theorem dL_law_2940 : decode cL_law 2940 = .ok (.iload 5, 2) := by decide +kernel
theorem dL_law_2942 : decode cL_law 2942 = .ok (.iconst 1, 1) := by decide +kernel
theorem dL_law_2943 : decode cL_law 2943 = .ok (.iadd, 1) := by decide +kernel
theorem dL_law_2944 : decode cL_law 2944 = .ok (.iaload, 1) := by decide +kernel
theorem dL_law_2945 : decode cL_law 2945 = .ok (.invokevirtual 310, 3) := by decide +kernel
theorem dL_law_2948 : decode cL_law 2948 = .ok (.istore 7, 2) := by decide +kernel
theorem dL_law_2950 : decode cL_law 2950 = .ok (.aload_n 2, 1) := by decide +kernel
theorem dL_law_2951 : decode cL_law 2951 = .ok (.invokevirtual 167, 3) := by decide +kernel
theorem dL_law_2954 : decode cL_law 2954 = .ok (.iload 6, 2) := by decide +kernel
theorem dL_law_2956 : decode cL_law 2956 = .ok (.if_icmp .eq 5, 3) := by decide +kernel
theorem dL_law_2959 : decode cL_law 2959 = .ok (.iconst 0, 1) := by decide +kernel
theorem dL_law_2960 : decode cL_law 2960 = .ok (.ireturn, 1) := by decide +kernel
theorem dL_law_2961 : decode cL_law 2961 = .ok (.iload 6, 2) := by decide +kernel
theorem dL_law_2963 : decode cL_law 2963 = .ok (.ifCond .ne 15, 3) := by decide +kernel
theorem dL_law_2966 : decode cL_law 2966 = .ok (.aload_n 3, 1) := by decide +kernel
theorem dL_law_2967 : decode cL_law 2967 = .ok (.iconst 0, 1) := by decide +kernel
theorem dL_law_2968 : decode cL_law 2968 = .ok (.laload, 1) := by decide +kernel
theorem dL_law_2969 : decode cL_law 2969 = .ok (.iload 7, 2) := by decide +kernel
theorem dL_law_2971 : decode cL_law 2971 = .ok (.i2l, 1) := by decide +kernel
theorem dL_law_2972 : decode cL_law 2972 = .ok (.lcmp, 1) := by decide +kernel
theorem dL_law_2973 : decode cL_law 2973 = .ok (.ifCond .eq 5, 3) := by decide +kernel
theorem dL_law_2976 : decode cL_law 2976 = .ok (.iconst 0, 1) := by decide +kernel
theorem dL_law_2977 : decode cL_law 2977 = .ok (.ireturn, 1) := by decide +kernel
theorem dL_law_2978 : decode cL_law 2978 = .ok (.goto 297, 3) := by decide +kernel
theorem dL_law_2981 : decode cL_law 2981 = .ok (.aload_n 1, 1) := by decide +kernel
theorem dL_law_2982 : decode cL_law 2982 = .ok (.aload_n 0, 1) := by decide +kernel
theorem dL_law_2983 : decode cL_law 2983 = .ok (.iload 5, 2) := by decide +kernel
theorem dL_law_2985 : decode cL_law 2985 = .ok (.iconst 1, 1) := by decide +kernel
theorem dL_law_2986 : decode cL_law 2986 = .ok (.iadd, 1) := by decide +kernel
theorem dL_law_2987 : decode cL_law 2987 = .ok (.iaload, 1) := by decide +kernel
theorem dL_law_2988 : decode cL_law 2988 = .ok (.aload_n 3, 1) := by decide +kernel
theorem dL_law_2989 : decode cL_law 2989 = .ok (.invokestatic 311, 3) := by decide +kernel
theorem dL_law_2992 : decode cL_law 2992 = .ok (.istore 6, 2) := by decide +kernel
theorem dL_law_2994 : decode cL_law 2994 = .ok (.aload_n 2, 1) := by decide +kernel
theorem dL_law_2995 : decode cL_law 2995 = .ok (.aload_n 0, 1) := by decide +kernel
theorem dL_law_2996 : decode cL_law 2996 = .ok (.iload 5, 2) := by decide +kernel
theorem dL_law_2998 : decode cL_law 2998 = .ok (.iconst 1, 1) := by decide +kernel
theorem dL_law_2999 : decode cL_law 2999 = .ok (.iadd, 1) := by decide +kernel
theorem dL_law_3000 : decode cL_law 3000 = .ok (.iaload, 1) := by decide +kernel
theorem dL_law_3001 : decode cL_law 3001 = .ok (.invokevirtual 313, 3) := by decide +kernel
theorem dL_law_3004 : decode cL_law 3004 = .ok (.istore 7, 2) := by decide +kernel
theorem dL_law_3006 : decode cL_law 3006 = .ok (.aload_n 2, 1) := by decide +kernel
theorem dL_law_3007 : decode cL_law 3007 = .ok (.invokevirtual 167, 3) := by decide +kernel
theorem dL_law_3010 : decode cL_law 3010 = .ok (.iload 6, 2) := by decide +kernel
theorem dL_law_3012 : decode cL_law 3012 = .ok (.if_icmp .eq 5, 3) := by decide +kernel
theorem dL_law_3015 : decode cL_law 3015 = .ok (.iconst 0, 1) := by decide +kernel
theorem dL_law_3016 : decode cL_law 3016 = .ok (.ireturn, 1) := by decide +kernel
theorem dL_law_3017 : decode cL_law 3017 = .ok (.iload 6, 2) := by decide +kernel
theorem dL_law_3019 : decode cL_law 3019 = .ok (.ifCond .ne 15, 3) := by decide +kernel
theorem dL_law_3022 : decode cL_law 3022 = .ok (.aload_n 3, 1) := by decide +kernel
theorem dL_law_3023 : decode cL_law 3023 = .ok (.iconst 0, 1) := by decide +kernel
theorem dL_law_3024 : decode cL_law 3024 = .ok (.laload, 1) := by decide +kernel
theorem dL_law_3025 : decode cL_law 3025 = .ok (.iload 7, 2) := by decide +kernel
theorem dL_law_3027 : decode cL_law 3027 = .ok (.i2l, 1) := by decide +kernel
theorem dL_law_3028 : decode cL_law 3028 = .ok (.lcmp, 1) := by decide +kernel
theorem dL_law_3029 : decode cL_law 3029 = .ok (.ifCond .eq 5, 3) := by decide +kernel
theorem dL_law_3032 : decode cL_law 3032 = .ok (.iconst 0, 1) := by decide +kernel
theorem dL_law_3033 : decode cL_law 3033 = .ok (.ireturn, 1) := by decide +kernel
theorem dL_law_3034 : decode cL_law 3034 = .ok (.goto 241, 3) := by decide +kernel
theorem dL_law_3037 : decode cL_law 3037 = .ok (.aload_n 1, 1) := by decide +kernel
theorem dL_law_3038 : decode cL_law 3038 = .ok (.aload_n 3, 1) := by decide +kernel
theorem dL_law_3039 : decode cL_law 3039 = .ok (.invokestatic 314, 3) := by decide +kernel
theorem dL_law_3042 : decode cL_law 3042 = .ok (.istore 6, 2) := by decide +kernel
theorem dL_law_3044 : decode cL_law 3044 = .ok (.aload_n 2, 1) := by decide +kernel
theorem dL_law_3045 : decode cL_law 3045 = .ok (.invokevirtual 317, 3) := by decide +kernel
theorem dL_law_3048 : decode cL_law 3048 = .ok (.istore 7, 2) := by decide +kernel
theorem dL_law_3050 : decode cL_law 3050 = .ok (.aload_n 2, 1) := by decide +kernel
theorem dL_law_3051 : decode cL_law 3051 = .ok (.invokevirtual 167, 3) := by decide +kernel
theorem dL_law_3054 : decode cL_law 3054 = .ok (.iload 6, 2) := by decide +kernel
theorem dL_law_3056 : decode cL_law 3056 = .ok (.if_icmp .eq 5, 3) := by decide +kernel
theorem dL_law_3059 : decode cL_law 3059 = .ok (.iconst 0, 1) := by decide +kernel
theorem dL_law_3060 : decode cL_law 3060 = .ok (.ireturn, 1) := by decide +kernel
theorem dL_law_3061 : decode cL_law 3061 = .ok (.iload 6, 2) := by decide +kernel
theorem dL_law_3063 : decode cL_law 3063 = .ok (.ifCond .ne 15, 3) := by decide +kernel
theorem dL_law_3066 : decode cL_law 3066 = .ok (.aload_n 3, 1) := by decide +kernel
theorem dL_law_3067 : decode cL_law 3067 = .ok (.iconst 0, 1) := by decide +kernel
theorem dL_law_3068 : decode cL_law 3068 = .ok (.laload, 1) := by decide +kernel
theorem dL_law_3069 : decode cL_law 3069 = .ok (.iload 7, 2) := by decide +kernel
theorem dL_law_3071 : decode cL_law 3071 = .ok (.i2l, 1) := by decide +kernel
theorem dL_law_3072 : decode cL_law 3072 = .ok (.lcmp, 1) := by decide +kernel
theorem dL_law_3073 : decode cL_law 3073 = .ok (.ifCond .eq 5, 3) := by decide +kernel
theorem dL_law_3076 : decode cL_law 3076 = .ok (.iconst 0, 1) := by decide +kernel
theorem dL_law_3077 : decode cL_law 3077 = .ok (.ireturn, 1) := by decide +kernel
theorem dL_law_3078 : decode cL_law 3078 = .ok (.goto 197, 3) := by decide +kernel
theorem dL_law_3081 : decode cL_law 3081 = .ok (.aload_n 1, 1) := by decide +kernel
theorem dL_law_3082 : decode cL_law 3082 = .ok (.invokevirtual 318, 3) := by decide +kernel
theorem dL_law_3085 : decode cL_law 3085 = .ok (.aload_n 2, 1) := by decide +kernel
theorem dL_law_3086 : decode cL_law 3086 = .ok (.invokevirtual 321, 3) := by decide +kernel
theorem dL_law_3089 : decode cL_law 3089 = .ok (.if_icmp .eq 186, 3) := by decide +kernel
theorem dL_law_3092 : decode cL_law 3092 = .ok (.iconst 0, 1) := by decide +kernel
theorem dL_law_3093 : decode cL_law 3093 = .ok (.ireturn, 1) := by decide +kernel
theorem dL_law_3094 : decode cL_law 3094 = .ok (.aload_n 1, 1) := by decide +kernel
theorem dL_law_3095 : decode cL_law 3095 = .ok (.aload_n 0, 1) := by decide +kernel
theorem dL_law_3096 : decode cL_law 3096 = .ok (.iload 5, 2) := by decide +kernel
theorem dL_law_3098 : decode cL_law 3098 = .ok (.iconst 1, 1) := by decide +kernel
theorem dL_law_3099 : decode cL_law 3099 = .ok (.iadd, 1) := by decide +kernel
theorem dL_law_3100 : decode cL_law 3100 = .ok (.iaload, 1) := by decide +kernel
theorem dL_law_3101 : decode cL_law 3101 = .ok (.aload_n 3, 1) := by decide +kernel
theorem dL_law_3102 : decode cL_law 3102 = .ok (.invokestatic 322, 3) := by decide +kernel
theorem dL_law_3105 : decode cL_law 3105 = .ok (.istore 6, 2) := by decide +kernel
theorem dL_law_3107 : decode cL_law 3107 = .ok (.aload_n 2, 1) := by decide +kernel
theorem dL_law_3108 : decode cL_law 3108 = .ok (.aload_n 0, 1) := by decide +kernel
theorem dL_law_3109 : decode cL_law 3109 = .ok (.iload 5, 2) := by decide +kernel
theorem dL_law_3111 : decode cL_law 3111 = .ok (.iconst 1, 1) := by decide +kernel
theorem dL_law_3112 : decode cL_law 3112 = .ok (.iadd, 1) := by decide +kernel
theorem dL_law_3113 : decode cL_law 3113 = .ok (.iaload, 1) := by decide +kernel
theorem dL_law_3114 : decode cL_law 3114 = .ok (.invokevirtual 324, 3) := by decide +kernel
theorem dL_law_3117 : decode cL_law 3117 = .ok (.istore 7, 2) := by decide +kernel
theorem dL_law_3119 : decode cL_law 3119 = .ok (.aload_n 2, 1) := by decide +kernel
theorem dL_law_3120 : decode cL_law 3120 = .ok (.invokevirtual 167, 3) := by decide +kernel
theorem dL_law_3123 : decode cL_law 3123 = .ok (.iload 6, 2) := by decide +kernel
theorem dL_law_3125 : decode cL_law 3125 = .ok (.if_icmp .eq 5, 3) := by decide +kernel
theorem dL_law_3128 : decode cL_law 3128 = .ok (.iconst 0, 1) := by decide +kernel
theorem dL_law_3129 : decode cL_law 3129 = .ok (.ireturn, 1) := by decide +kernel
theorem dL_law_3130 : decode cL_law 3130 = .ok (.iload 6, 2) := by decide +kernel
theorem dL_law_3132 : decode cL_law 3132 = .ok (.ifCond .ne 15, 3) := by decide +kernel
theorem dL_law_3135 : decode cL_law 3135 = .ok (.aload_n 3, 1) := by decide +kernel
theorem dL_law_3136 : decode cL_law 3136 = .ok (.iconst 0, 1) := by decide +kernel
theorem dL_law_3137 : decode cL_law 3137 = .ok (.laload, 1) := by decide +kernel
theorem dL_law_3138 : decode cL_law 3138 = .ok (.iload 7, 2) := by decide +kernel
theorem dL_law_3140 : decode cL_law 3140 = .ok (.i2l, 1) := by decide +kernel
theorem dL_law_3141 : decode cL_law 3141 = .ok (.lcmp, 1) := by decide +kernel
theorem dL_law_3142 : decode cL_law 3142 = .ok (.ifCond .eq 5, 3) := by decide +kernel
theorem dL_law_3145 : decode cL_law 3145 = .ok (.iconst 0, 1) := by decide +kernel
theorem dL_law_3146 : decode cL_law 3146 = .ok (.ireturn, 1) := by decide +kernel
theorem dL_law_3147 : decode cL_law 3147 = .ok (.goto 128, 3) := by decide +kernel
theorem dL_law_3150 : decode cL_law 3150 = .ok (.aload_n 1, 1) := by decide +kernel
theorem dL_law_3151 : decode cL_law 3151 = .ok (.aload_n 0, 1) := by decide +kernel
theorem dL_law_3152 : decode cL_law 3152 = .ok (.iload 5, 2) := by decide +kernel
theorem dL_law_3154 : decode cL_law 3154 = .ok (.iconst 1, 1) := by decide +kernel
theorem dL_law_3155 : decode cL_law 3155 = .ok (.iadd, 1) := by decide +kernel
theorem dL_law_3156 : decode cL_law 3156 = .ok (.iaload, 1) := by decide +kernel
theorem dL_law_3157 : decode cL_law 3157 = .ok (.aload_n 3, 1) := by decide +kernel
theorem dL_law_3158 : decode cL_law 3158 = .ok (.invokestatic 325, 3) := by decide +kernel
theorem dL_law_3161 : decode cL_law 3161 = .ok (.istore 6, 2) := by decide +kernel
theorem dL_law_3163 : decode cL_law 3163 = .ok (.aload_n 2, 1) := by decide +kernel
theorem dL_law_3164 : decode cL_law 3164 = .ok (.aload_n 0, 1) := by decide +kernel
theorem dL_law_3165 : decode cL_law 3165 = .ok (.iload 5, 2) := by decide +kernel
theorem dL_law_3167 : decode cL_law 3167 = .ok (.iconst 1, 1) := by decide +kernel
theorem dL_law_3168 : decode cL_law 3168 = .ok (.iadd, 1) := by decide +kernel
theorem dL_law_3169 : decode cL_law 3169 = .ok (.iaload, 1) := by decide +kernel
theorem dL_law_3170 : decode cL_law 3170 = .ok (.invokevirtual 327, 3) := by decide +kernel
theorem dL_law_3173 : decode cL_law 3173 = .ok (.istore 7, 2) := by decide +kernel
theorem dL_law_3175 : decode cL_law 3175 = .ok (.aload_n 2, 1) := by decide +kernel
theorem dL_law_3176 : decode cL_law 3176 = .ok (.invokevirtual 167, 3) := by decide +kernel
theorem dL_law_3179 : decode cL_law 3179 = .ok (.iload 6, 2) := by decide +kernel
theorem dL_law_3181 : decode cL_law 3181 = .ok (.if_icmp .eq 5, 3) := by decide +kernel
theorem dL_law_3184 : decode cL_law 3184 = .ok (.iconst 0, 1) := by decide +kernel
theorem dL_law_3185 : decode cL_law 3185 = .ok (.ireturn, 1) := by decide +kernel
theorem dL_law_3186 : decode cL_law 3186 = .ok (.iload 6, 2) := by decide +kernel
theorem dL_law_3188 : decode cL_law 3188 = .ok (.ifCond .ne 15, 3) := by decide +kernel
theorem dL_law_3191 : decode cL_law 3191 = .ok (.aload_n 3, 1) := by decide +kernel
theorem dL_law_3192 : decode cL_law 3192 = .ok (.iconst 0, 1) := by decide +kernel
theorem dL_law_3193 : decode cL_law 3193 = .ok (.laload, 1) := by decide +kernel
theorem dL_law_3194 : decode cL_law 3194 = .ok (.iload 7, 2) := by decide +kernel
theorem dL_law_3196 : decode cL_law 3196 = .ok (.i2l, 1) := by decide +kernel
theorem dL_law_3197 : decode cL_law 3197 = .ok (.lcmp, 1) := by decide +kernel
theorem dL_law_3198 : decode cL_law 3198 = .ok (.ifCond .eq 5, 3) := by decide +kernel
theorem dL_law_3201 : decode cL_law 3201 = .ok (.iconst 0, 1) := by decide +kernel
theorem dL_law_3202 : decode cL_law 3202 = .ok (.ireturn, 1) := by decide +kernel
theorem dL_law_3203 : decode cL_law 3203 = .ok (.goto 72, 3) := by decide +kernel
theorem dL_law_3206 : decode cL_law 3206 = .ok (.aload_n 1, 1) := by decide +kernel
theorem dL_law_3207 : decode cL_law 3207 = .ok (.invokevirtual 328, 3) := by decide +kernel
theorem dL_law_3210 : decode cL_law 3210 = .ok (.aload_n 2, 1) := by decide +kernel
theorem dL_law_3211 : decode cL_law 3211 = .ok (.invokevirtual 331, 3) := by decide +kernel
theorem dL_law_3214 : decode cL_law 3214 = .ok (.if_icmp .eq 61, 3) := by decide +kernel
theorem dL_law_3217 : decode cL_law 3217 = .ok (.iconst 0, 1) := by decide +kernel
theorem dL_law_3218 : decode cL_law 3218 = .ok (.ireturn, 1) := by decide +kernel
theorem dL_law_3219 : decode cL_law 3219 = .ok (.aload_n 1, 1) := by decide +kernel
theorem dL_law_3220 : decode cL_law 3220 = .ok (.aload_n 0, 1) := by decide +kernel
theorem dL_law_3221 : decode cL_law 3221 = .ok (.iload 5, 2) := by decide +kernel
theorem dL_law_3223 : decode cL_law 3223 = .ok (.iconst 1, 1) := by decide +kernel
theorem dL_law_3224 : decode cL_law 3224 = .ok (.iadd, 1) := by decide +kernel
theorem dL_law_3225 : decode cL_law 3225 = .ok (.iaload, 1) := by decide +kernel
theorem dL_law_3226 : decode cL_law 3226 = .ok (.aload_n 3, 1) := by decide +kernel
theorem dL_law_3227 : decode cL_law 3227 = .ok (.invokestatic 332, 3) := by decide +kernel
theorem dL_law_3230 : decode cL_law 3230 = .ok (.istore 6, 2) := by decide +kernel
theorem dL_law_3232 : decode cL_law 3232 = .ok (.aload_n 2, 1) := by decide +kernel
theorem dL_law_3233 : decode cL_law 3233 = .ok (.aload_n 0, 1) := by decide +kernel
theorem dL_law_3234 : decode cL_law 3234 = .ok (.iload 5, 2) := by decide +kernel
theorem dL_law_3236 : decode cL_law 3236 = .ok (.iconst 1, 1) := by decide +kernel
theorem dL_law_3237 : decode cL_law 3237 = .ok (.iadd, 1) := by decide +kernel
theorem dL_law_3238 : decode cL_law 3238 = .ok (.iaload, 1) := by decide +kernel
theorem dL_law_3239 : decode cL_law 3239 = .ok (.invokevirtual 334, 3) := by decide +kernel
theorem dL_law_3242 : decode cL_law 3242 = .ok (.istore 7, 2) := by decide +kernel
theorem dL_law_3244 : decode cL_law 3244 = .ok (.aload_n 2, 1) := by decide +kernel
theorem dL_law_3245 : decode cL_law 3245 = .ok (.invokevirtual 167, 3) := by decide +kernel
theorem dL_law_3248 : decode cL_law 3248 = .ok (.iload 6, 2) := by decide +kernel
theorem dL_law_3250 : decode cL_law 3250 = .ok (.if_icmp .eq 5, 3) := by decide +kernel
theorem dL_law_3253 : decode cL_law 3253 = .ok (.iconst 0, 1) := by decide +kernel
theorem dL_law_3254 : decode cL_law 3254 = .ok (.ireturn, 1) := by decide +kernel
theorem dL_law_3255 : decode cL_law 3255 = .ok (.iload 6, 2) := by decide +kernel
theorem dL_law_3257 : decode cL_law 3257 = .ok (.ifCond .ne 15, 3) := by decide +kernel
theorem dL_law_3260 : decode cL_law 3260 = .ok (.aload_n 3, 1) := by decide +kernel
theorem dL_law_3261 : decode cL_law 3261 = .ok (.iconst 0, 1) := by decide +kernel
theorem dL_law_3262 : decode cL_law 3262 = .ok (.laload, 1) := by decide +kernel
theorem dL_law_3263 : decode cL_law 3263 = .ok (.iload 7, 2) := by decide +kernel
theorem dL_law_3265 : decode cL_law 3265 = .ok (.i2l, 1) := by decide +kernel
theorem dL_law_3266 : decode cL_law 3266 = .ok (.lcmp, 1) := by decide +kernel
theorem dL_law_3267 : decode cL_law 3267 = .ok (.ifCond .eq 5, 3) := by decide +kernel
theorem dL_law_3270 : decode cL_law 3270 = .ok (.iconst 0, 1) := by decide +kernel
theorem dL_law_3271 : decode cL_law 3271 = .ok (.ireturn, 1) := by decide +kernel
theorem dL_law_3272 : decode cL_law 3272 = .ok (.goto 3, 3) := by decide +kernel
theorem dL_law_3275 : decode cL_law 3275 = .ok (.iinc 5 7, 3) := by decide +kernel
theorem dL_law_3278 : decode cL_law 3278 = .ok (.goto (-3250), 3) := by decide +kernel
theorem dL_law_3281 : decode cL_law 3281 = .ok (.iconst 1, 1) := by decide +kernel
theorem dL_law_3282 : decode cL_law 3282 = .ok (.ireturn, 1) := by decide +kernel
def mi_L_law : MI := (RL, yL_law, cL_law, 9, some .boolean, lawH, room_1)
