def f_X1_init_700 (this : Nat) (M : Mem) : Option Mem :=
  ob M 1 this (
    (alc M).bind fun r1 =>
    (pV (mnew M (.inl (2, (700, .inl (fun _ => 0))))) 1 0 this (.ref r1)).bind fun M2 =>
    (pV M2 1 1 this (.int 0)).bind fun M3 =>
    some M3
  )
def f_X1_init_4096 (this : Nat) (M : Mem) : Option Mem :=
  ob M 1 this (
    (alc M).bind fun r1 =>
    (pV (mnew M (.inl (2, (4096, .inl (fun _ => 0))))) 1 0 this (.ref r1)).bind fun M2 =>
    (pV M2 1 1 this (.int 0)).bind fun M3 =>
    some M3
  )
def f_X11_init_92 (this : Nat) (M : Mem) : Option Mem :=
  (alc M).bind fun r21 =>
  (pV (mnew M (.inl (3, (2, .inl (fun _ => 0))))) 10 5 this (.ref r21)).bind fun M22 =>
  (alc M22).bind fun r23 =>
  (f_X2_init r23 (mnew M22 (.inr (2, [.null, .int 0, .int 0])))).bind fun M25 =>
  (pV M25 10 6 this (.ref r23)).bind fun M26 =>
  (alc M26).bind fun r27 =>
  (f_X4_init r27 (mnew M26 (.inr (3, [.null, .null, .null, .null])))).bind fun M29 =>
  (pV M29 10 7 this (.ref r27)).bind fun M30 =>
  (alc M30).bind fun r31 =>
  (gR (mnew M30 (.inr (9, [.null, .null, .null, .null, .null, .null, .int 0, .int 0, .int 0, .int 0, .int 0, .long 0, .null, .int 0, .int 0]))) 10 0 this).bind fun x32 =>
  (f_X10_init r31 x32 (mnew M30 (.inr (9, [.null, .null, .null, .null, .null, .null, .int 0, .int 0, .int 0, .int 0, .int 0, .long 0, .null, .int 0, .int 0])))).bind fun M34 =>
  (pV M34 10 8 this (.ref r31)).bind fun M35 =>
  (alc M35).bind fun r36 =>
  (gR (mnew M35 (.inr (8, [.null, .int 0, .int 0]))) 10 8 this).bind fun x37 =>
  (f_X9_init r36 x37 (mnew M35 (.inr (8, [.null, .int 0, .int 0])))).bind fun M39 =>
  (pV M39 10 9 this (.ref r36)).bind fun M40 =>
  (alc M40).bind fun r41 =>
  (gR (mnew M40 (.inr (5, [.null]))) 10 8 this).bind fun x42 =>
  (f_X6_init r41 x42 (mnew M40 (.inr (5, [.null])))).bind fun M44 =>
  (pV M44 10 10 this (.ref r41)).bind fun M45 =>
  (pV M45 10 11 this (.int 0)).bind fun M46 =>
  (pV M46 10 12 this (.int (-1))).bind fun M47 =>
  some M47
def f_X11_init (this : Nat) (M : Mem) : Option Mem :=
  ob M 10 this (
    (alc M).bind fun r1 =>
    (f_X1_init_700 r1 (mnew M (.inr (1, [.null, .int 0])))).bind fun M3 =>
    (pV M3 10 0 this (.ref r1)).bind fun M4 =>
    (alc M4).bind fun r5 =>
    (f_X1_init_4096 r5 (mnew M4 (.inr (1, [.null, .int 0])))).bind fun M7 =>
    (pV M7 10 1 this (.ref r5)).bind fun M8 =>
    (alc M8).bind fun r9 =>
    (f_X8_init r9 (mnew M8 (.inr (7, [.int 0, .int 0, .int 0, .null, .null, .null])))).bind fun M11 =>
    (pV M11 10 2 this (.ref r9)).bind fun M12 =>
    (alc M12).bind fun r13 =>
    (f_X8_init r13 (mnew M12 (.inr (7, [.int 0, .int 0, .int 0, .null, .null, .null])))).bind fun M15 =>
    (pV M15 10 3 this (.ref r13)).bind fun M16 =>
    (alc M16).bind fun r17 =>
    (pV (mnew M16 (.inl (7, (2, .inr (.inr (.inr (.inr (fun _ => none)))))))) 10 4 this (.ref r17)).bind fun M18 =>
    (gR M18 10 4 this).bind fun x19 =>
    (aL M18 x19).bind fun x20 =>
    if x20 ≤ 0 then (
      f_X11_init_92 this M18
    ) else (
      (gR M18 10 4 this).bind fun x48 =>
      (alc M18).bind fun r49 =>
      (f_X8_init r49 (mnew M18 (.inr (7, [.int 0, .int 0, .int 0, .null, .null, .null])))).bind fun M51 =>
      ob M51 7 r49 ((sQ M51 7 x48 0 (some r49)).bind fun M52 =>
      (gR M52 10 4 this).bind fun x53 =>
      (aL M52 x53).bind fun x54 =>
      if x54 ≤ (0 + 1) then (
        f_X11_init_92 this M52
      ) else (
        (gR M52 10 4 this).bind fun x55 =>
        (alc M52).bind fun r56 =>
        (f_X8_init r56 (mnew M52 (.inr (7, [.int 0, .int 0, .int 0, .null, .null, .null])))).bind fun M58 =>
        ob M58 7 r56 ((sQ M58 7 x55 (0 + 1) (some r56)).bind fun M59 =>
        (gR M59 10 4 this).bind fun x60 =>
        (aL M59 x60).bind fun x61 =>
        if x61 ≤ ((0 + 1) + 1) then (
          f_X11_init_92 this M59
        ) else (
          (gR M59 10 4 this).bind fun x62 =>
          (alc M59).bind fun r63 =>
          (f_X8_init r63 (mnew M59 (.inr (7, [.int 0, .int 0, .int 0, .null, .null, .null])))).bind fun M65 =>
          ob M65 7 r63 ((sQ M65 7 x62 ((0 + 1) + 1) (some r63)).bind fun M66 =>
          none
          )
        )
        )
      )
      )
    )
  )
def f_X11_append (this : Nat) (a1 : Int32) (a2 : Int32) (a3 : Int32) (a4 : Int32) (a5 : Int32) (M : Mem) : Option ((Int32 ⊕ String) × Mem) :=
  ob M 10 this (
    (gR M 10 0 this).bind fun x1 =>
    (f_X1_size x1 M).bind fun x2 =>
    if (x2 + 20) ≤ 700 then (
      (gR M 10 0 this).bind fun x3 =>
      (f_X1_addFour x3 a1 M).bind fun M5 =>
      (gR M5 10 0 this).bind fun x6 =>
      (f_X1_addFour x6 a2 M5).bind fun M8 =>
      (gR M8 10 0 this).bind fun x9 =>
      (f_X1_addFour x9 a3 M8).bind fun M11 =>
      (gR M11 10 0 this).bind fun x12 =>
      (f_X1_addFour x12 a4 M11).bind fun M14 =>
      (gR M14 10 0 this).bind fun x15 =>
      (f_X1_addFour x15 a5 M14).bind fun M17 =>
      (gR M17 10 0 this).bind fun x18 =>
      (f_X1_size x18 M17).bind fun x19 =>
      some (.inl x19, M17)
    ) else (
      some (.inr "java/lang/IllegalStateException", mskip M)
    )
  )
def f_X11_truncate_15 (M : Mem) : Option ((Unit ⊕ String) × Mem) :=
  some (.inr "java/lang/IllegalArgumentException", mskip M)
def f_X11_truncate (this : Nat) (a1 : Int32) (M : Mem) : Option ((Unit ⊕ String) × Mem) :=
  ob M 10 this (
    if a1 < 0 then (
      f_X11_truncate_15 M
    ) else (
      (gR M 10 0 this).bind fun x1 =>
      (f_X1_size x1 M).bind fun x2 =>
      if a1 ≤ x2 then (
        (gR M 10 0 this).bind fun x3 =>
        (f_X1_cutTo x3 a1 M).bind fun M5 =>
        some (.inl (), M5)
      ) else (
        f_X11_truncate_15 M
      )
    )
  )
def f_X11_finishReading (this : Nat) (M : Mem) : Option Mem :=
  ob M 10 this (
    (gR M 10 8 this).bind fun x1 =>
    (gI M 9 13 x1).bind fun x2 =>
    (pV M 10 11 this (.int x2)).bind fun M3 =>
    (gR M3 10 8 this).bind fun x4 =>
    (gI M3 9 14 x4).bind fun x5 =>
    (pV M3 10 12 this (.int x5)).bind fun M6 =>
    (gR M6 10 0 this).bind fun x7 =>
    (f_X1_cutTo x7 0 M6).bind fun M9 =>
    some M9
  )
def f_X11_beginAct (this : Nat) (M : Mem) : Option Mem :=
  ob M 10 this (
    (gR M 10 6 this).bind fun x1 =>
    (gR M 10 2 this).bind fun x2 =>
    (f_X2_remember x1 x2 M).bind fun M4 =>
    (gR M4 10 7 this).bind fun x5 =>
    (f_X4_clear x5 M4).bind fun M7 =>
    some M7
  )
def f_X11_load (this : Nat) (M : Mem) : Option (Int32 × Mem) :=
  ob M 10 this (
    (gR M 10 9 this).bind fun x1 =>
    (gR M 10 3 this).bind fun x2 =>
    (f_X9_parseInto x1 x2 M).bind fun M4 =>
    (f_X11_finishReading this M4).bind fun M6 =>
    (gI M6 10 11 this).bind fun x7 =>
    if (x7 : Int32) = 0 then (
      (f_X11_beginAct this M6).bind fun M9 =>
      (gR M9 10 2 this).bind fun x10 =>
      (gR M9 10 3 this).bind fun x11 =>
      (f_X8_takeFrom x10 x11 M9).bind fun M13 =>
      (gR M13 10 2 this).bind fun x14 =>
      (f_X8_countMessages x14 M13).bind fun x15 =>
      some (x15, M13)
    ) else (
      some ((-4), M6)
    )
  )
def f_X11_errorCode (this : Nat) (M : Mem) : Option Int32 :=
  ob M 10 this (
    (gI M 10 11 this).bind fun x1 =>
    some x1
  )
def f_X11_errorPosition (this : Nat) (M : Mem) : Option Int32 :=
  ob M 10 this (
    (gI M 10 12 this).bind fun x1 =>
    some x1
  )
def f_X11_property (this : Nat) (a1 : Int32) (M : Mem) : Option ((Int32 ⊕ String) × Mem) :=
  ob M 10 this (
    if a1 = 0 then (
      (gR M 10 2 this).bind fun x1 =>
      (gI M 7 1 x1).bind fun x2 =>
      some (.inl x2, M)
    ) else
    if a1 = 1 then (
      (gR M 10 2 this).bind fun x3 =>
      (gI M 7 2 x3).bind fun x4 =>
      some (.inl x4, M)
    ) else
    if a1 = 2 then (
      (gR M 10 2 this).bind fun x5 =>
      (gI M 7 0 x5).bind fun x6 =>
      some (.inl x6, M)
    ) else
    if a1 = 3 then (
      (gR M 10 2 this).bind fun x7 =>
      (f_X8_countMessages x7 M).bind fun x8 =>
      some (.inl x8, M)
    ) else
    if a1 = 4 then (
      (gR M 10 7 this).bind fun x9 =>
      (f_X4_size x9 M).bind fun x10 =>
      some (.inl x10, M)
    ) else
    (
      some (.inr "java/lang/IllegalArgumentException", mskip M)
    )
  )
def f_X11_requireBox (this : Nat) (a1 : Int32) (M : Mem) : Option ((Nat ⊕ String) × Mem) :=
  ob M 10 this (
    (gR M 10 2 this).bind fun x1 =>
    (f_X8_boxAt x1 a1 M).bind fun x2 =>
    match x2 with
    | none => (
      some (.inr "java/lang/IndexOutOfBoundsException", mskip M)
    )
    | some r3 => (
      some (.inl r3, M)
    )
  )
def f_X11_box (this : Nat) (a1 : Int32) (a2 : Int32) (M : Mem) : Option ((Int32 ⊕ String) × Mem) :=
  ob M 10 this (
    bX (f_X11_requireBox this a1 M) fun x1 M2 =>
    if a2 = 0 then (
      (f_X0_size x1 M2).bind fun x3 =>
      some (.inl x3, M2)
    ) else
    if a2 = 1 then (
      (gI M2 0 1 x1).bind fun x4 =>
      some (.inl x4, M2)
    ) else
    if a2 = 2 then (
      (f_X0_sumOfSizes x1 M2).bind fun x5 =>
      some (.inl x5, M2)
    ) else
    if a2 = 3 then (
      (f_X0_size x1 M2).bind fun x6 =>
      (f_X0_withFlag x1 1 M2).bind fun x7 =>
      some (.inl (x6 - (bitc x7)), M2)
    ) else
    if a2 = 4 then (
      (f_X0_withFlag x1 8 M2).bind fun x8 =>
      some (.inl (bitc x8), M2)
    ) else
    if a2 = 5 then (
      (gR M2 10 2 this).bind fun x9 =>
      (f_X8_sessionsOf x9 a1 M2).bind fun x10 =>
      some (.inl x10, M2)
    ) else
    (
      some (.inr "java/lang/IllegalArgumentException", mskip M2)
    )
  )
def f_X11_message_20 (M : Mem) : Option ((Int32 ⊕ String) × Mem) :=
  some (.inr "java/lang/IndexOutOfBoundsException", mskip M)
def f_X11_message (this : Nat) (a1 : Int32) (a2 : Int32) (a3 : Int32) (M : Mem) : Option ((Int32 ⊕ String) × Mem) :=
  ob M 10 this (
    bX (f_X11_requireBox this a1 M) fun x1 M2 =>
    if a2 < 0 then (
      f_X11_message_20 M2
    ) else (
      (f_X0_size x1 M2).bind fun x3 =>
      if a2 < x3 then (
        if a3 = 0 then (
          (gR M2 0 2 x1).bind fun x4 =>
          (f_X5_get x4 a2 M2).bind fun x5 =>
          some (.inl x5, M2)
        ) else
        if a3 = 1 then (
          (gR M2 0 3 x1).bind fun x6 =>
          (f_X5_get x6 a2 M2).bind fun x7 =>
          some (.inl x7, M2)
        ) else
        if a3 = 2 then (
          (gR M2 0 4 x1).bind fun x8 =>
          (f_X5_get x8 a2 M2).bind fun x9 =>
          some (.inl x9, M2)
        ) else
        (
          some (.inr "java/lang/IllegalArgumentException", mskip M2)
        )
      ) else (
        f_X11_message_20 M2
      )
    )
  )
def f_X11_indexOf (this : Nat) (a1 : Int32) (a2 : Int32) (M : Mem) : Option ((Int32 ⊕ String) × Mem) :=
  ob M 10 this (
    bX (f_X11_requireBox this a1 M) fun x1 M2 =>
    (f_X0_indexOfUid x1 a2 M2).bind fun x3 =>
    some (.inl x3, M2)
  )
def f_X11_requireSession (this : Nat) (a1 : Int32) (M : Mem) : Option ((Nat ⊕ String) × Mem) :=
  ob M 10 this (
    (gR M 10 2 this).bind fun x1 =>
    (f_X8_sessionAt x1 a1 M).bind fun x2 =>
    match x2 with
    | none => (
      some (.inr "java/lang/IndexOutOfBoundsException", mskip M)
    )
    | some r3 => (
      some (.inl r3, M)
    )
  )
def f_X11_session (this : Nat) (a1 : Int32) (a2 : Int32) (M : Mem) : Option ((Int32 ⊕ String) × Mem) :=
  ob M 10 this (
    bX (f_X11_requireSession this a1 M) fun x1 M2 =>
    (gR M2 10 2 this).bind fun x3 =>
    (f_X8_boxOf x3 x1 M2).bind fun x4 =>
    if a2 = 0 then (
      (gI M2 6 1 x1).bind fun x5 =>
      some (.inl x5, M2)
    ) else
    if a2 = 1 then (
      (gZ M2 6 2 x1).bind fun x6 =>
      bif x6 then (
        some (.inl 1, M2)
      ) else (
        some (.inl 0, M2)
      )
    ) else
    if a2 = 2 then (
      (gZ M2 6 3 x1).bind fun x7 =>
      bif x7 then (
        some (.inl 1, M2)
      ) else (
        some (.inl 0, M2)
      )
    ) else
    if a2 = 3 then (
      (f_X7_size x1 M2).bind fun x8 =>
      some (.inl x8, M2)
    ) else
    if a2 = 4 then (
      (f_X7_countGone x1 x4 M2).bind fun x9 =>
      some (.inl x9, M2)
    ) else
    if a2 = 5 then (
      (f_X7_countChanged x1 x4 M2).bind fun x10 =>
      some (.inl x10, M2)
    ) else
    if a2 = 6 then (
      (f_X7_countNew x1 x4 M2).bind fun x11 =>
      some (.inl x11, M2)
    ) else
    (
      some (.inr "java/lang/IllegalArgumentException", mskip M2)
    )
  )
def f_X11_requireEntry_13 (M : Mem) : Option ((Unit ⊕ String) × Mem) :=
  some (.inr "java/lang/IndexOutOfBoundsException", mskip M)
def f_X11_requireEntry (a0 : Nat) (a1 : Int32) (M : Mem) : Option ((Unit ⊕ String) × Mem) :=
  if a1 < 1 then (
    f_X11_requireEntry_13 M
  ) else (
    (f_X7_size a0 M).bind fun x1 =>
    if a1 ≤ x1 then (
      some (.inl (), M)
    ) else (
      f_X11_requireEntry_13 M
    )
  )
def f_X11_entry (this : Nat) (a1 : Int32) (a2 : Int32) (a3 : Int32) (M : Mem) : Option ((Int32 ⊕ String) × Mem) :=
  ob M 10 this (
    bX (f_X11_requireSession this a1 M) fun x1 M2 =>
    bX (f_X11_requireEntry x1 a2 M2) fun _ M4 =>
    (gR M4 10 2 this).bind fun x5 =>
    (f_X8_boxOf x5 x1 M4).bind fun x6 =>
    (f_X7_uidOf x1 a2 M4).bind fun x7 =>
    (f_X0_indexOfUid x6 x7 M4).bind fun x8 =>
    if a3 = 0 then (
      (f_X7_uidOf x1 a2 M4).bind fun x9 =>
      some (.inl x9, M4)
    ) else
    if a3 = 1 then (
      (f_X7_toldOf x1 a2 M4).bind fun x10 =>
      some (.inl x10, M4)
    ) else
    if a3 = 2 then (
      if x8 = (-1) then (
        some (.inl 1, M4)
      ) else (
        some (.inl 0, M4)
      )
    ) else
    if a3 = 3 then (
      (gR M4 0 3 x6).bind fun x11 =>
      (f_X5_get x11 x8 M4).bind fun x12 =>
      some (.inl x12, M4)
    ) else
    if a3 = 4 then (
      (gR M4 0 4 x6).bind fun x13 =>
      (f_X5_get x13 x8 M4).bind fun x14 =>
      some (.inl x14, M4)
    ) else
    (
      some (.inr "java/lang/IllegalArgumentException", mskip M4)
    )
  )
def f_X11_numberOf (this : Nat) (a1 : Int32) (a2 : Int32) (M : Mem) : Option ((Int32 ⊕ String) × Mem) :=
  ob M 10 this (
    bX (f_X11_requireSession this a1 M) fun x1 M2 =>
    (f_X7_numberOfUid x1 a2 M2).bind fun x3 =>
    some (.inl x3, M2)
  )
def f_X11_numberThen (this : Nat) (a1 : Int32) (a2 : Int32) (M : Mem) : Option ((Int32 ⊕ String) × Mem) :=
  ob M 10 this (
    bX (f_X11_requireSession this a1 M) fun x1 M2 =>
    bX (f_X11_requireEntry x1 a2 M2) fun _ M4 =>
    (gR M4 10 2 this).bind fun x5 =>
    (f_X8_boxOf x5 x1 M4).bind fun x6 =>
    (f_X7_isGone x1 x6 a2 M4).bind fun x7 =>
    bif x7 then (
      some (.inl (-1), M4)
    ) else (
      (f_X7_countGoneBefore x1 x6 a2 M4).bind fun x8 =>
      some (.inl (a2 - x8), M4)
    )
  )
def f_X11_pending (this : Nat) (a1 : Int32) (M : Mem) : Option ((Int32 ⊕ String) × Mem) :=
  ob M 10 this (
    bX (f_X11_requireSession this a1 M) fun x1 M2 =>
    (gR M2 10 2 this).bind fun x3 =>
    (f_X8_boxOf x3 x1 M2).bind fun x4 =>
    (f_X7_countPending x1 x4 M2).bind fun x5 =>
    some (.inl x5, M2)
  )
def f_X11_isCurrent (this : Nat) (a1 : Int32) (M : Mem) : Option ((Bool ⊕ String) × Mem) :=
  ob M 10 this (
    bX (f_X11_requireSession this a1 M) fun x1 M2 =>
    (f_X7_hasBox x1 M2).bind fun x3 =>
    bif x3 then (
      (gR M2 10 2 this).bind fun x4 =>
      (f_X8_boxOf x4 x1 M2).bind fun x5 =>
      (f_X7_countPending x1 x5 M2).bind fun x6 =>
      if x6 = 0 then (
        some (.inl true, M2)
      ) else (
        some (.inl false, M2)
      )
    ) else (
      some (.inl false, M2)
    )
  )
def f_X11_firstUnseen (this : Nat) (a1 : Int32) (M : Mem) : Option ((Int32 ⊕ String) × Mem) :=
  ob M 10 this (
    bX (f_X11_requireSession this a1 M) fun x1 M2 =>
    (f_X7_firstNotToldSeen x1 M2).bind fun x3 =>
    some (.inl x3, M2)
  )
def f_X11_largest (this : Nat) (a1 : Int32) (M : Mem) : Option ((Int32 ⊕ String) × Mem) :=
  ob M 10 this (
    bX (f_X11_requireSession this a1 M) fun x1 M2 =>
    (gR M2 10 2 this).bind fun x3 =>
    (f_X8_boxOf x3 x1 M2).bind fun x4 =>
    (f_X7_largestIn x1 x4 M2).bind fun x5 =>
    some (.inl x5, M2)
  )
def f_X11_stale (this : Nat) (M : Mem) : Option Int32 :=
  ob M 10 this (
    (gR M 10 2 this).bind fun x1 =>
    (f_X8_sessionsToTell x1 M).bind fun x2 =>
    some x2
  )
def f_X11_account_15 (M : Mem) : Option ((Int32 ⊕ String) × Mem) :=
  some (.inr "java/lang/IllegalArgumentException", mskip M)
def f_X11_account (this : Nat) (a1 : Int32) (a2 : Int32) (M : Mem) : Option ((Int32 ⊕ String) × Mem) :=
  ob M 10 this (
    bX (f_X11_requireSession this a1 M) fun x1 M2 =>
    if a2 < 0 then (
      f_X11_account_15 M2
    ) else (
      if a2 < 5 then (
        (gR M2 6 7 x1).bind fun x3 =>
        (f_X5_get x3 a2 M2).bind fun x4 =>
        some (.inl x4, M2)
      ) else (
        f_X11_account_15 M2
      )
    )
  )
def f_X11_notice_9 (M : Mem) : Option ((Int32 ⊕ String) × Mem) :=
  some (.inr "java/lang/IllegalArgumentException", mskip M)
def f_X11_notice_35 (M : Mem) : Option ((Int32 ⊕ String) × Mem) :=
  some (.inr "java/util/NoSuchElementException", mskip M)
def f_X11_notice (this : Nat) (a1 : Int32) (a2 : Int32) (M : Mem) : Option ((Int32 ⊕ String) × Mem) :=
  ob M 10 this (
    if a2 < 0 then (
      f_X11_notice_9 M
    ) else (
      if a2 ≤ 3 then (
        if a1 < 0 then (
          f_X11_notice_35 M
        ) else (
          (gR M 10 7 this).bind fun x1 =>
          (f_X4_size x1 M).bind fun x2 =>
          if a1 < x2 then (
            if a2 = 0 then (
              (gR M 10 7 this).bind fun x3 =>
              (gR M 3 0 x3).bind fun x4 =>
              (f_X5_get x4 a1 M).bind fun x5 =>
              some (.inl x5, M)
            ) else
            if a2 = 1 then (
              (gR M 10 7 this).bind fun x6 =>
              (gR M 3 1 x6).bind fun x7 =>
              (f_X5_get x7 a1 M).bind fun x8 =>
              some (.inl x8, M)
            ) else
            if a2 = 2 then (
              (gR M 10 7 this).bind fun x9 =>
              (gR M 3 2 x9).bind fun x10 =>
              (f_X5_get x10 a1 M).bind fun x11 =>
              some (.inl x11, M)
            ) else
            (
              (gR M 10 7 this).bind fun x12 =>
              (gR M 3 3 x12).bind fun x13 =>
              (f_X5_get x13 a1 M).bind fun x14 =>
              some (.inl x14, M)
            )
          ) else (
            f_X11_notice_35 M
          )
        )
      ) else (
        f_X11_notice_9 M
      )
    )
  )
def f_X11_beginCommand (this : Nat) (a1 : Nat) (M : Mem) : Option Mem :=
  ob M 10 this (
    (f_X11_beginAct this M).bind fun M2 =>
    (gR M2 6 7 a1).bind fun x3 =>
    (f_X5_increase x3 0 1 M2).bind fun M5 =>
    some M5
  )
def f_X11_select (this : Nat) (a1 : Int32) (a2 : Int32) (a3 : Bool) (M : Mem) : Option ((Int32 ⊕ String) × Mem) :=
  ob M 10 this (
    bX (f_X11_requireSession this a1 M) fun x1 M2 =>
    bX (f_X11_requireBox this a2 M2) fun x3 M4 =>
    (gZ M4 6 3 x1).bind fun x5 =>
    bif x5 then (
      some (.inr "java/lang/IllegalStateException", mskip M4)
    ) else (
      (f_X11_beginCommand this x1 M4).bind fun M7 =>
      (f_X7_enter x1 a2 x3 a3 M7).bind fun M9 =>
      (gR M9 10 2 this).bind fun x10 =>
      (gR M9 10 7 this).bind fun x11 =>
      (f_X8_tellIdle x10 x11 M9).bind fun M13 =>
      (f_X7_size x1 M13).bind fun x14 =>
      some (.inl x14, M13)
    )
  )
def f_X11_requireAwake_14 (M : Mem) : Option ((Nat ⊕ String) × Mem) :=
  some (.inr "java/lang/IllegalStateException", mskip M)
def f_X11_requireAwake (this : Nat) (a1 : Nat) (M : Mem) : Option ((Nat ⊕ String) × Mem) :=
  ob M 10 this (
    (f_X7_hasBox a1 M).bind fun x1 =>
    bif x1 then (
      (gZ M 6 3 a1).bind fun x2 =>
      bif x2 then (
        f_X11_requireAwake_14 M
      ) else (
        (gR M 10 2 this).bind fun x3 =>
        (f_X8_boxOf x3 a1 M).bind fun x4 =>
        some (.inl x4, M)
      )
    ) else (
      f_X11_requireAwake_14 M
    )
  )
def f_X11_endCommand (this : Nat) (a1 : Int32) (a2 : Bool) (M : Mem) : Option (Int32 × Mem) :=
  ob M 10 this (
    (gR M 10 2 this).bind fun x1 =>
    (gR M 10 7 this).bind fun x2 =>
    (f_X8_tell x1 a1 a2 x2 M).bind fun (x3, M4) =>
    (gR M4 10 2 this).bind fun x5 =>
    (gR M4 10 7 this).bind fun x6 =>
    (f_X8_tellIdle x5 x6 M4).bind fun M8 =>
    some (x3, M8)
  )
def f_X11_noop (this : Nat) (a1 : Int32) (M : Mem) : Option ((Int32 ⊕ String) × Mem) :=
  ob M 10 this (
    bX (f_X11_requireSession this a1 M) fun x1 M2 =>
    bX (f_X11_requireAwake this x1 M2) fun x3 M4 =>
    (f_X11_beginCommand this x1 M4).bind fun M6 =>
    (f_X11_endCommand this a1 true M6).bind fun (x7, M8) =>
    some (.inl x7, M8)
  )
def f_X11_startIdle (this : Nat) (a1 : Int32) (M : Mem) : Option ((Int32 ⊕ String) × Mem) :=
  ob M 10 this (
    bX (f_X11_requireSession this a1 M) fun x1 M2 =>
    bX (f_X11_requireAwake this x1 M2) fun x3 M4 =>
    (f_X11_beginCommand this x1 M4).bind fun M6 =>
    (pV M6 6 3 x1 (.int (b2i true))).bind fun M7 =>
    (f_X11_endCommand this a1 true M7).bind fun (x8, M9) =>
    some (.inl x8, M9)
  )
def f_X11_stopIdle (this : Nat) (a1 : Int32) (M : Mem) : Option ((Int32 ⊕ String) × Mem) :=
  ob M 10 this (
    bX (f_X11_requireSession this a1 M) fun x1 M2 =>
    (gZ M2 6 3 x1).bind fun x3 =>
    bif x3 then (
      (f_X11_beginCommand this x1 M2).bind fun M5 =>
      (pV M5 6 3 x1 (.int (b2i false))).bind fun M6 =>
      (f_X11_endCommand this a1 true M6).bind fun (x7, M8) =>
      some (.inl x7, M8)
    ) else (
      some (.inr "java/lang/IllegalStateException", mskip M2)
    )
  )
def f_X11_requireOrder (a0 : Int32) (a1 : Int32) (M : Mem) : Option ((Unit ⊕ String) × Mem) :=
  if a0 ≤ a1 then (
    some (.inl (), M)
  ) else (
    some (.inr "java/lang/IllegalArgumentException", mskip M)
  )
def f_X11_fetch_115 (this : Nat) (l1 : Int32) (l5 : Nat) (l7 : Int32) (M : Mem) : Option ((Int32 ⊕ String) × Mem) :=
  (gR M 6 7 l5).bind fun x13 =>
  (f_X5_increase x13 4 l7 M).bind fun M15 =>
  (f_X11_endCommand this l1 false M15).bind fun (x16, M17) =>
  some (.inl l7, M17)
def f_X11_fetch_109 (rc44 : Nat → Int32 → Int32 → Bool → Nat → Nat → Int32 → Int32 → Mem → Option ((Int32 ⊕ String) × Mem)) (this : Nat) (l1 : Int32) (l3 : Int32) (l4 : Bool) (l5 : Nat) (l6 : Nat) (l7 : Int32) (l8 : Int32) (M : Mem) : Option ((Int32 ⊕ String) × Mem) :=
  rc44 this l1 l3 l4 l5 l6 l7 (l8 + 1) M
def f_X11_fetch_44 : Nat → Nat → Int32 → Int32 → Bool → Nat → Nat → Int32 → Int32 → Mem → Option ((Int32 ⊕ String) × Mem)
  | 0 => fun _ _ _ _ _ _ _ _ _ => none
  | fu + 1 => fun this l1 l3 l4 l5 l6 l7 l8 M =>
    if l3 < l8 then (
      f_X11_fetch_115 this l1 l5 l7 M
    ) else (
      if 60 < l8 then (
        f_X11_fetch_115 this l1 l5 l7 M
      ) else (
        (f_X7_uidOf l5 l8 M).bind fun x18 =>
        (f_X0_indexOfUid l6 x18 M).bind fun x19 =>
        (gR M 0 3 l6).bind fun x20 =>
        (f_X5_get x20 x19 M).bind fun x21 =>
        bif l4 then (
          f_X11_fetch_109 (f_X11_fetch_44 fu) this l1 l3 l4 l5 l6 (l7 + x21) l8 M
        ) else (
          (gZ M 6 2 l5).bind fun x22 =>
          bif x22 then (
            f_X11_fetch_109 (f_X11_fetch_44 fu) this l1 l3 l4 l5 l6 (l7 + x21) l8 M
          ) else (
            (f_X0_changeFlags l6 x19 1 1 M).bind fun (x23, M24) =>
            f_X11_fetch_109 (f_X11_fetch_44 fu) this l1 l3 l4 l5 l6 (l7 + x21) l8 M24
          )
        )
      )
    )
def f_X11_fetch (this : Nat) (a1 : Int32) (a2 : Int32) (a3 : Int32) (a4 : Bool) (M : Mem) : Option ((Int32 ⊕ String) × Mem) :=
  ob M 10 this (
    bX (f_X11_requireSession this a1 M) fun x1 M2 =>
    bX (f_X11_requireEntry x1 a2 M2) fun _ M4 =>
    bX (f_X11_requireEntry x1 a3 M4) fun _ M6 =>
    bX (f_X11_requireOrder a2 a3 M6) fun _ M8 =>
    bX (f_X11_requireAwake this x1 M8) fun x9 M10 =>
    (f_X11_beginCommand this x1 M10).bind fun M12 =>
    f_X11_fetch_44 FU this a1 a3 a4 x1 x9 0 a2 M12
  )
def f_X11_requireModeAndFlags_19 (M : Mem) : Option ((Unit ⊕ String) × Mem) :=
  some (.inr "java/lang/IllegalArgumentException", mskip M)
def f_X11_requireModeAndFlags (a0 : Int32) (a1 : Int32) (M : Mem) : Option ((Unit ⊕ String) × Mem) :=
  if a0 < 0 then (
    f_X11_requireModeAndFlags_19 M
  ) else (
    if 2 < a0 then (
      f_X11_requireModeAndFlags_19 M
    ) else (
      if a1 < 0 then (
        f_X11_requireModeAndFlags_19 M
      ) else (
        if a1 ≤ 31 then (
          some (.inl (), M)
        ) else (
          f_X11_requireModeAndFlags_19 M
        )
      )
    )
  )
def f_X11_requireWriting (this : Nat) (a1 : Nat) (M : Mem) : Option ((Nat ⊕ String) × Mem) :=
  ob M 10 this (
    bX (f_X11_requireAwake this a1 M) fun x1 M2 =>
    (gZ M2 6 2 a1).bind fun x3 =>
    bif x3 then (
      some (.inr "java/lang/IllegalStateException", mskip M2)
    ) else (
      some (.inl x1, M2)
    )
  )
def f_X11_store_134 (this : Nat) (l1 : Int32) (l9 : Int32) (M : Mem) : Option ((Int32 ⊕ String) × Mem) :=
  (f_X11_endCommand this l1 false M).bind fun (x15, M16) =>
  some (.inl l9, M16)
def f_X11_store_128 (rc51 : Nat → Int32 → Int32 → Int32 → Int32 → Bool → Nat → Nat → Int32 → Int32 → Mem → Option ((Int32 ⊕ String) × Mem)) (this : Nat) (l1 : Int32) (l3 : Int32) (l4 : Int32) (l5 : Int32) (l6 : Bool) (l7 : Nat) (l8 : Nat) (l9 : Int32) (l10 : Int32) (M : Mem) : Option ((Int32 ⊕ String) × Mem) :=
  rc51 this l1 l3 l4 l5 l6 l7 l8 l9 (l10 + 1) M
def f_X11_store_95 (rc51 : Nat → Int32 → Int32 → Int32 → Int32 → Bool → Nat → Nat → Int32 → Int32 → Mem → Option ((Int32 ⊕ String) × Mem)) (this : Nat) (l1 : Int32) (l3 : Int32) (l4 : Int32) (l5 : Int32) (l6 : Bool) (l7 : Nat) (l8 : Nat) (l9 : Int32) (l10 : Int32) (l11 : Int32) (M : Mem) : Option ((Int32 ⊕ String) × Mem) :=
  bif l6 then (
    if l11 = (-1) then (
      f_X11_store_128 rc51 this l1 l3 l4 l5 l6 l7 l8 l9 l10 M
    ) else (
      (gR M 6 6 l7).bind fun x21 =>
      (gR M 0 4 l8).bind fun x22 =>
      (f_X5_get x22 l11 M).bind fun x23 =>
      (f_X5_set x21 (l10 - 1) x23 M).bind fun M25 =>
      f_X11_store_128 rc51 this l1 l3 l4 l5 l6 l7 l8 l9 l10 M25
    )
  ) else (
    f_X11_store_128 rc51 this l1 l3 l4 l5 l6 l7 l8 l9 l10 M
  )
def f_X11_store_51 : Nat → Nat → Int32 → Int32 → Int32 → Int32 → Bool → Nat → Nat → Int32 → Int32 → Mem → Option ((Int32 ⊕ String) × Mem)
  | 0 => fun _ _ _ _ _ _ _ _ _ _ _ => none
  | fu + 1 => fun this l1 l3 l4 l5 l6 l7 l8 l9 l10 M =>
    if l3 < l10 then (
      f_X11_store_134 this l1 l9 M
    ) else (
      if 60 < l10 then (
        f_X11_store_134 this l1 l9 M
      ) else (
        (f_X7_uidOf l7 l10 M).bind fun x17 =>
        (f_X0_indexOfUid l8 x17 M).bind fun x18 =>
        (f_X0_changeFlags l8 x18 l4 l5 M).bind fun (x19, M20) =>
        bif x19 then (
          f_X11_store_95 (f_X11_store_51 fu) this l1 l3 l4 l5 l6 l7 l8 (l9 + 1) l10 x18 M20
        ) else (
          f_X11_store_95 (f_X11_store_51 fu) this l1 l3 l4 l5 l6 l7 l8 l9 l10 x18 M20
        )
      )
    )
def f_X11_store (this : Nat) (a1 : Int32) (a2 : Int32) (a3 : Int32) (a4 : Int32) (a5 : Int32) (a6 : Bool) (M : Mem) : Option ((Int32 ⊕ String) × Mem) :=
  ob M 10 this (
    bX (f_X11_requireSession this a1 M) fun x1 M2 =>
    bX (f_X11_requireEntry x1 a2 M2) fun _ M4 =>
    bX (f_X11_requireEntry x1 a3 M4) fun _ M6 =>
    bX (f_X11_requireOrder a2 a3 M6) fun _ M8 =>
    bX (f_X11_requireModeAndFlags a4 a5 M8) fun _ M10 =>
    bX (f_X11_requireWriting this x1 M10) fun x11 M12 =>
    (f_X11_beginCommand this x1 M12).bind fun M14 =>
    f_X11_store_51 FU this a1 a3 a4 a5 a6 x1 x11 0 a2 M14
  )
def f_X11_uidStore_85 (rc34 : Nat → Int32 → Int32 → Int32 → Int32 → Int32 → Nat → Int32 → Int32 → Mem → Option ((Int32 ⊕ String) × Mem)) (this : Nat) (l1 : Int32) (l2 : Int32) (l3 : Int32) (l4 : Int32) (l5 : Int32) (l7 : Nat) (l8 : Int32) (l9 : Int32) (M : Mem) : Option ((Int32 ⊕ String) × Mem) :=
  rc34 this l1 l2 l3 l4 l5 l7 l8 (l9 + 1) M
def f_X11_uidStore_34 : Nat → Nat → Int32 → Int32 → Int32 → Int32 → Int32 → Nat → Int32 → Int32 → Mem → Option ((Int32 ⊕ String) × Mem)
  | 0 => fun _ _ _ _ _ _ _ _ _ _ => none
  | fu + 1 => fun this l1 l2 l3 l4 l5 l7 l8 l9 M =>
    (f_X0_size l7 M).bind fun x9 =>
    if x9 ≤ l9 then (
      (f_X11_endCommand this l1 true M).bind fun (x10, M11) =>
      some (.inl l8, M11)
    ) else (
      (gR M 0 2 l7).bind fun x12 =>
      (f_X5_get x12 l9 M).bind fun x13 =>
      if x13 < l2 then (
        f_X11_uidStore_85 (f_X11_uidStore_34 fu) this l1 l2 l3 l4 l5 l7 l8 l9 M
      ) else (
        if l3 < x13 then (
          f_X11_uidStore_85 (f_X11_uidStore_34 fu) this l1 l2 l3 l4 l5 l7 l8 l9 M
        ) else (
          (f_X0_changeFlags l7 l9 l4 l5 M).bind fun (x14, M15) =>
          bif x14 then (
            f_X11_uidStore_85 (f_X11_uidStore_34 fu) this l1 l2 l3 l4 l5 l7 (l8 + 1) l9 M15
          ) else (
            f_X11_uidStore_85 (f_X11_uidStore_34 fu) this l1 l2 l3 l4 l5 l7 l8 l9 M15
          )
        )
      )
    )
def f_X11_uidStore (this : Nat) (a1 : Int32) (a2 : Int32) (a3 : Int32) (a4 : Int32) (a5 : Int32) (M : Mem) : Option ((Int32 ⊕ String) × Mem) :=
  ob M 10 this (
    bX (f_X11_requireSession this a1 M) fun x1 M2 =>
    bX (f_X11_requireModeAndFlags a4 a5 M2) fun _ M4 =>
    bX (f_X11_requireWriting this x1 M4) fun x5 M6 =>
    (f_X11_beginCommand this x1 M6).bind fun M8 =>
    f_X11_uidStore_34 FU this a1 a2 a3 a4 a5 x5 0 0 M8
  )
def f_X11_expunge (this : Nat) (a1 : Int32) (M : Mem) : Option ((Int32 ⊕ String) × Mem) :=
  ob M 10 this (
    bX (f_X11_requireSession this a1 M) fun x1 M2 =>
    bX (f_X11_requireWriting this x1 M2) fun x3 M4 =>
    (f_X11_beginCommand this x1 M4).bind fun M6 =>
    (gI M6 0 1 x3).bind fun x7 =>
    (f_X0_removeDeleted x3 1 x7 M6).bind fun (x8, M9) =>
    (f_X11_endCommand this a1 true M9).bind fun (x10, M11) =>
    some (.inl x8, M11)
  )
def f_X11_requireRoom (this : Nat) (a1 : Nat) (a2 : Int32) (M : Mem) : Option ((Unit ⊕ String) × Mem) :=
  ob M 10 this (
    if a2 ≤ 0 then (
      some (.inl (), M)
    ) else (
      (f_X0_size a1 M).bind fun x1 =>
      (gR M 10 2 this).bind fun x2 =>
      (gI M 7 0 x2).bind fun x3 =>
      if (x1 + a2) ≤ x3 then (
        some (.inl (), M)
      ) else (
        some (.inr "java/lang/IllegalStateException", mskip M)
      )
    )
  )
def f_X11_copy (this : Nat) (a1 : Int32) (a2 : Int32) (a3 : Int32) (a4 : Int32) (M : Mem) : Option ((Int32 ⊕ String) × Mem) :=
  ob M 10 this (
    bX (f_X11_requireSession this a1 M) fun x1 M2 =>
    bX (f_X11_requireEntry x1 a2 M2) fun _ M4 =>
    bX (f_X11_requireEntry x1 a3 M4) fun _ M6 =>
    bX (f_X11_requireBox this a4 M6) fun x7 M8 =>
    bX (f_X11_requireOrder a2 a3 M8) fun _ M10 =>
    bX (f_X11_requireAwake this x1 M10) fun x11 M12 =>
    (f_X7_countThere x1 x11 a2 a3 M12).bind fun x13 =>
    bX (f_X11_requireRoom this x7 x13 M12) fun _ M15 =>
    (f_X11_beginCommand this x1 M15).bind fun M17 =>
    (f_X7_copyRange x1 x11 a2 a3 x7 M17).bind fun (x18, M19) =>
    (f_X11_endCommand this a1 true M19).bind fun (x20, M21) =>
    some (.inl x18, M21)
  )
def f_X11_move (this : Nat) (a1 : Int32) (a2 : Int32) (a3 : Int32) (a4 : Int32) (M : Mem) : Option ((Int32 ⊕ String) × Mem) :=
  ob M 10 this (
    bX (f_X11_requireSession this a1 M) fun x1 M2 =>
    bX (f_X11_requireEntry x1 a2 M2) fun _ M4 =>
    bX (f_X11_requireEntry x1 a3 M4) fun _ M6 =>
    bX (f_X11_requireBox this a4 M6) fun x7 M8 =>
    bX (f_X11_requireOrder a2 a3 M8) fun _ M10 =>
    bX (f_X11_requireWriting this x1 M10) fun x11 M12 =>
    (f_X7_countThere x1 x11 a2 a3 M12).bind fun x13 =>
    bX (f_X11_requireRoom this x7 x13 M12) fun _ M15 =>
    (f_X11_beginCommand this x1 M15).bind fun M17 =>
    (f_X7_copyRange x1 x11 a2 a3 x7 M17).bind fun (x18, M19) =>
    (f_X7_removeRange x1 x11 a2 a3 M19).bind fun M21 =>
    (f_X11_endCommand this a1 true M21).bind fun (x22, M23) =>
    some (.inl x18, M23)
  )
def f_X11_close_38 (this : Nat) (l2 : Nat) (l4 : Int32) (M : Mem) : Option ((Int32 ⊕ String) × Mem) :=
  (f_X7_leave l2 M).bind fun M9 =>
  (gR M9 10 2 this).bind fun x10 =>
  (gR M9 10 7 this).bind fun x11 =>
  (f_X8_tellIdle x10 x11 M9).bind fun M13 =>
  some (.inl l4, M13)
def f_X11_close (this : Nat) (a1 : Int32) (M : Mem) : Option ((Int32 ⊕ String) × Mem) :=
  ob M 10 this (
    bX (f_X11_requireSession this a1 M) fun x1 M2 =>
    bX (f_X11_requireAwake this x1 M2) fun x3 M4 =>
    (f_X11_beginCommand this x1 M4).bind fun M6 =>
    (gZ M6 6 2 x1).bind fun x7 =>
    bif x7 then (
      f_X11_close_38 this x1 0 M6
    ) else (
      (gI M6 0 1 x3).bind fun x14 =>
      (f_X0_removeDeleted x3 1 x14 M6).bind fun (x15, M16) =>
      f_X11_close_38 this x1 x15 M16
    )
  )
def f_X11_deliver_29 (M : Mem) : Option ((Int32 ⊕ String) × Mem) :=
  some (.inr "java/lang/IllegalArgumentException", mskip M)
def f_X11_deliver (this : Nat) (a1 : Int32) (a2 : Int32) (a3 : Int32) (M : Mem) : Option ((Int32 ⊕ String) × Mem) :=
  ob M 10 this (
    bX (f_X11_requireBox this a1 M) fun x1 M2 =>
    if a2 < 1 then (
      f_X11_deliver_29 M2
    ) else (
      if 9999 < a2 then (
        f_X11_deliver_29 M2
      ) else (
        if a3 < 0 then (
          f_X11_deliver_29 M2
        ) else (
          if a3 ≤ 31 then (
            bX (f_X11_requireRoom this x1 1 M2) fun _ M4 =>
            (f_X11_beginAct this M4).bind fun M6 =>
            (gI M6 0 1 x1).bind fun x7 =>
            (f_X0_addMessage x1 a2 a3 M6).bind fun M9 =>
            (gR M9 10 2 this).bind fun x10 =>
            (gR M9 10 7 this).bind fun x11 =>
            (f_X8_tellIdle x10 x11 M9).bind fun M13 =>
            some (.inl x7, M13)
          ) else (
            f_X11_deliver_29 M2
          )
        )
      )
    )
  )
theorem ar_2 : (Cond.arrayClass (newarray.typeOf .byte)) ∈ cr_U := mem_U (i := 79) (by decide +kernel) rfl
theorem ml_X1_3 : (Cond.methodLink RX1 3 Lib.objectInit) ∈ cr_U := mem_U (i := 71) (by decide +kernel) rfl
theorem cw_X1_init : (Cond.code yX1_init cX1_init 2 (none)) ∈ cr_U := mem_U (i := 70) (by decide +kernel) rfl
theorem ml_X11_11 : (Cond.methodLink RX11 11 yX1_init) ∈ cr_U := mem_U (i := 68) (by decide +kernel) rfl
theorem im_X1_init : (Cond.instanceMethod yX1_init) ∈ cr_U := mem_U (i := 69) (by decide +kernel) rfl
theorem fl_X11_14_w : (Cond.fieldLink RX11 14 (TX11 0).1 (TX11 0).2.1 (TX11 0).2.2.1) ∈ cr_U := mem_U (i := 327) (by decide +kernel) rfl
theorem fl_X11_14 : flk RX11 14 (TX11 0) := Or.inl fl_X11_14_w
theorem fl_X11_18_w : (Cond.fieldLink RX11 18 (TX11 1).1 (TX11 1).2.1 (TX11 1).2.2.1) ∈ cr_U := mem_U (i := 328) (by decide +kernel) rfl
theorem fl_X11_18 : flk RX11 18 (TX11 1) := Or.inl fl_X11_18_w
theorem ml_X11_23 : (Cond.methodLink RX11 23 yX8_init) ∈ cr_U := mem_U (i := 82) (by decide +kernel) rfl
theorem fl_X11_24_w : (Cond.fieldLink RX11 24 (TX11 2).1 (TX11 2).2.1 (TX11 2).2.2.1) ∈ cr_U := mem_U (i := 329) (by decide +kernel) rfl
theorem fl_X11_24 : flk RX11 24 (TX11 2) := Or.inl fl_X11_24_w
theorem fl_X11_28_w : (Cond.fieldLink RX11 28 (TX11 3).1 (TX11 3).2.1 (TX11 3).2.2.1) ∈ cr_U := mem_U (i := 330) (by decide +kernel) rfl
theorem fl_X11_28 : flk RX11 28 (TX11 3) := Or.inl fl_X11_28_w
theorem fl_X11_31_w : (Cond.fieldLink RX11 31 (TX11 4).1 (TX11 4).2.1 (TX11 4).2.2.1) ∈ cr_U := mem_U (i := 331) (by decide +kernel) rfl
theorem fl_X11_31 : flk RX11 31 (TX11 4) := Or.inl fl_X11_31_w
theorem fl_X11_35_w : (Cond.fieldLink RX11 35 (TX11 5).1 (TX11 5).2.1 (TX11 5).2.2.1) ∈ cr_U := mem_U (i := 332) (by decide +kernel) rfl
theorem fl_X11_35 : flk RX11 35 (TX11 5) := Or.inl fl_X11_35_w
theorem ml_X11_41 : (Cond.methodLink RX11 41 yX2_init) ∈ cr_U := mem_U (i := 202) (by decide +kernel) rfl
theorem im_X2_init : (Cond.instanceMethod yX2_init) ∈ cr_U := mem_U (i := 203) (by decide +kernel) rfl
theorem fl_X11_42_w : (Cond.fieldLink RX11 42 (TX11 6).1 (TX11 6).2.1 (TX11 6).2.2.1) ∈ cr_U := mem_U (i := 333) (by decide +kernel) rfl
theorem fl_X11_42 : flk RX11 42 (TX11 6) := Or.inl fl_X11_42_w
theorem ml_X11_48 : (Cond.methodLink RX11 48 yX4_init) ∈ cr_U := mem_U (i := 221) (by decide +kernel) rfl
theorem im_X4_init : (Cond.instanceMethod yX4_init) ∈ cr_U := mem_U (i := 222) (by decide +kernel) rfl
theorem fl_X11_49_w : (Cond.fieldLink RX11 49 (TX11 7).1 (TX11 7).2.1 (TX11 7).2.2.1) ∈ cr_U := mem_U (i := 334) (by decide +kernel) rfl
theorem fl_X11_49 : flk RX11 49 (TX11 7) := Or.inl fl_X11_49_w
theorem ml_X11_55 : (Cond.methodLink RX11 55 yX10_init) ∈ cr_U := mem_U (i := 246) (by decide +kernel) rfl
theorem im_X10_init : (Cond.instanceMethod yX10_init) ∈ cr_U := mem_U (i := 247) (by decide +kernel) rfl
theorem fl_X11_58_w : (Cond.fieldLink RX11 58 (TX11 8).1 (TX11 8).2.1 (TX11 8).2.2.1) ∈ cr_U := mem_U (i := 335) (by decide +kernel) rfl
theorem fl_X11_58 : flk RX11 58 (TX11 8) := Or.inl fl_X11_58_w
theorem ml_X11_64 : (Cond.methodLink RX11 64 yX9_init) ∈ cr_U := mem_U (i := 303) (by decide +kernel) rfl
theorem im_X9_init : (Cond.instanceMethod yX9_init) ∈ cr_U := mem_U (i := 304) (by decide +kernel) rfl
theorem fl_X11_67_w : (Cond.fieldLink RX11 67 (TX11 9).1 (TX11 9).2.1 (TX11 9).2.2.1) ∈ cr_U := mem_U (i := 336) (by decide +kernel) rfl
theorem fl_X11_67 : flk RX11 67 (TX11 9) := Or.inl fl_X11_67_w
theorem ml_X11_73 : (Cond.methodLink RX11 73 yX6_init) ∈ cr_U := mem_U (i := 319) (by decide +kernel) rfl
theorem im_X6_init : (Cond.instanceMethod yX6_init) ∈ cr_U := mem_U (i := 320) (by decide +kernel) rfl
theorem fl_X11_74_w : (Cond.fieldLink RX11 74 (TX11 10).1 (TX11 10).2.1 (TX11 10).2.2.1) ∈ cr_U := mem_U (i := 337) (by decide +kernel) rfl
theorem fl_X11_74 : flk RX11 74 (TX11 10) := Or.inl fl_X11_74_w
theorem fl_X11_78_w : (Cond.fieldLink RX11 78 (TX11 11).1 (TX11 11).2.1 (TX11 11).2.2.1) ∈ cr_U := mem_U (i := 338) (by decide +kernel) rfl
theorem fl_X11_78 : flk RX11 78 (TX11 11) := Or.inl fl_X11_78_w
theorem fl_X11_82_w : (Cond.fieldLink RX11 82 (TX11 12).1 (TX11 12).2.1 (TX11 12).2.2.1) ∈ cr_U := mem_U (i := 339) (by decide +kernel) rfl
theorem fl_X11_82 : flk RX11 82 (TX11 12) := Or.inl fl_X11_82_w
theorem cl_X11_71 : (Cond.classLink RX11 71 RX6) ∈ cr_U := mem_U (i := 317) (by decide +kernel) rfl
theorem ins_X6 : (Cond.instantiable RX6 1) ∈ cr_U := mem_U (i := 318) (by decide +kernel) rfl
theorem cl_X11_62 : (Cond.classLink RX11 62 RX9) ∈ cr_U := mem_U (i := 301) (by decide +kernel) rfl
theorem ins_X9 : (Cond.instantiable RX9 3) ∈ cr_U := mem_U (i := 302) (by decide +kernel) rfl
theorem cl_X11_53 : (Cond.classLink RX11 53 RX10) ∈ cr_U := mem_U (i := 244) (by decide +kernel) rfl
theorem ins_X10 : (Cond.instantiable RX10 15) ∈ cr_U := mem_U (i := 245) (by decide +kernel) rfl
theorem cl_X11_46 : (Cond.classLink RX11 46 RX4) ∈ cr_U := mem_U (i := 219) (by decide +kernel) rfl
theorem ins_X4 : (Cond.instantiable RX4 4) ∈ cr_U := mem_U (i := 220) (by decide +kernel) rfl
theorem cl_X11_39 : (Cond.classLink RX11 39 RX2) ∈ cr_U := mem_U (i := 200) (by decide +kernel) rfl
theorem ins_X2 : (Cond.instantiable RX2 3) ∈ cr_U := mem_U (i := 201) (by decide +kernel) rfl
theorem ar_3 : (Cond.arrayClass (newarray.typeOf .boolean)) ∈ cr_U := mem_U (i := 218) (by decide +kernel) rfl
theorem cl_X11_21 : (Cond.classLink RX11 21 RX8) ∈ cr_U := mem_U (i := 80) (by decide +kernel) rfl
theorem cl_X11_9 : (Cond.classLink RX11 9 RX1) ∈ cr_U := mem_U (i := 66) (by decide +kernel) rfl
theorem ins_X1 : (Cond.instantiable RX1 2) ∈ cr_U := mem_U (i := 67) (by decide +kernel) rfl
theorem ml_X11_3 : (Cond.methodLink RX11 3 Lib.objectInit) ∈ cr_U := mem_U (i := 63) (by decide +kernel) rfl
theorem cw_X11_init : (Cond.code yX11_init cX11_init 2 (none)) ∈ cr_U := mem_U (i := 62) (by decide +kernel) rfl
theorem ini_X11 : (Cond.initialized RX11) ∈ cr_U := mem_U (i := 26) (by decide +kernel) rfl
theorem ml_X11_85 : (Cond.methodLink RX11 85 yX1_size) ∈ cr_U := mem_U (i := 885) (by decide +kernel) rfl
theorem ml_X11_96 : (Cond.methodLink RX11 96 yX1_addFour) ∈ cr_U := mem_U (i := 933) (by decide +kernel) rfl
theorem im_X1_addFour : (Cond.instanceMethod yX1_addFour) ∈ cr_U := mem_U (i := 934) (by decide +kernel) rfl
theorem se_X1_addFour : (Cond.selects RX1 yX1_addFour yX1_addFour) ∈ cr_U := mem_U (i := 935) (by decide +kernel) rfl
set_option maxRecDepth 100000 in
theorem th_X11_89_93 : thr_chk RX11 "java/lang/IllegalStateException" 89 93 ["java/lang/RuntimeException", "java/lang/Exception"] = true := by decide +kernel
theorem sr_X11_91 : (Cond.stringRef RX11 91 "the input buffer has no room") ∈ lw_tbl := List.mem_of_getElem? (i := 926) (by decide +kernel)
theorem cw_X11_append : (Cond.code yX11_append cX11_append 6 (some .int)) ∈ cr_U := mem_U (i := 916) (by decide +kernel) rfl
set_option maxRecDepth 100000 in
theorem th_X11_99_103 : thr_chk RX11 "java/lang/IllegalArgumentException" 99 103 ["java/lang/RuntimeException", "java/lang/Exception"] = true := by decide +kernel
theorem sr_X11_101 : (Cond.stringRef RX11 101 "the length is out of range") ∈ lw_tbl := List.mem_of_getElem? (i := 889) (by decide +kernel)
theorem ml_X11_104 : (Cond.methodLink RX11 104 yX1_cutTo) ∈ cr_U := mem_U (i := 890) (by decide +kernel) rfl
theorem im_X1_cutTo : (Cond.instanceMethod yX1_cutTo) ∈ cr_U := mem_U (i := 891) (by decide +kernel) rfl
theorem se_X1_cutTo : (Cond.selects RX1 yX1_cutTo yX1_cutTo) ∈ cr_U := mem_U (i := 892) (by decide +kernel) rfl
theorem cw_X11_truncate : (Cond.code yX11_truncate cX11_truncate 2 (none)) ∈ cr_U := mem_U (i := 884) (by decide +kernel) rfl
theorem fl_X11_445_w : (Cond.fieldLinkNest RX11 445 (TX10 13).1 (TX10 13).2.1 (TX10 13).2.2.1 RX11) ∈ lw_tbl := List.mem_of_getElem? (i := 266) (by decide +kernel)
theorem fl_X11_445 : flk RX11 445 (TX10 13) := Or.inr ⟨_, fl_X11_445_w⟩
theorem fl_X11_448_w : (Cond.fieldLinkNest RX11 448 (TX10 14).1 (TX10 14).2.1 (TX10 14).2.2.1 RX11) ∈ lw_tbl := List.mem_of_getElem? (i := 268) (by decide +kernel)
theorem fl_X11_448 : flk RX11 448 (TX10 14) := Or.inr ⟨_, fl_X11_448_w⟩
theorem cw_X11_finishReading : (Cond.code yX11_finishReading cX11_finishReading 1 (none)) ∈ cr_U := mem_U (i := 1166) (by decide +kernel) rfl
theorem ml_X11_451 : (Cond.methodLink RX11 451 yX2_remember) ∈ cr_U := mem_U (i := 1171) (by decide +kernel) rfl
theorem im_X2_remember : (Cond.instanceMethod yX2_remember) ∈ cr_U := mem_U (i := 1172) (by decide +kernel) rfl
theorem se_X2_remember : (Cond.selects RX2 yX2_remember yX2_remember) ∈ cr_U := mem_U (i := 1173) (by decide +kernel) rfl
theorem ml_X11_403 : (Cond.methodLink RX11 403 yX4_clear) ∈ cr_U := mem_U (i := 1199) (by decide +kernel) rfl
theorem im_X4_clear : (Cond.instanceMethod yX4_clear) ∈ cr_U := mem_U (i := 1200) (by decide +kernel) rfl
theorem se_X4_clear : (Cond.selects RX4 yX4_clear yX4_clear) ∈ cr_U := mem_U (i := 1201) (by decide +kernel) rfl
theorem cw_X11_beginAct : (Cond.code yX11_beginAct cX11_beginAct 1 (none)) ∈ cr_U := mem_U (i := 1170) (by decide +kernel) rfl
theorem ml_X11_107 : (Cond.methodLink RX11 107 yX9_parseInto) ∈ cr_U := mem_U (i := 946) (by decide +kernel) rfl
theorem im_X9_parseInto : (Cond.instanceMethod yX9_parseInto) ∈ cr_U := mem_U (i := 947) (by decide +kernel) rfl
theorem se_X9_parseInto : (Cond.selects RX9 yX9_parseInto yX9_parseInto) ∈ cr_U := mem_U (i := 948) (by decide +kernel) rfl
theorem ml_X11_111 : (Cond.methodLink RX11 111 yX11_finishReading) ∈ cr_U := mem_U (i := 1163) (by decide +kernel) rfl
theorem im_X11_finishReading : (Cond.instanceMethod yX11_finishReading) ∈ cr_U := mem_U (i := 1165) (by decide +kernel) rfl
theorem se_X11_finishReading : (Cond.selects RX11 yX11_finishReading yX11_finishReading) ∈ cr_U := mem_U (i := 16) (by decide +kernel) rfl
theorem ml_X11_114 : (Cond.methodLink RX11 114 yX11_beginAct) ∈ cr_U := mem_U (i := 1167) (by decide +kernel) rfl
theorem im_X11_beginAct : (Cond.instanceMethod yX11_beginAct) ∈ cr_U := mem_U (i := 1169) (by decide +kernel) rfl
theorem se_X11_beginAct : (Cond.selects RX11 yX11_beginAct yX11_beginAct) ∈ cr_U := mem_U (i := 17) (by decide +kernel) rfl
theorem ml_X11_117 : (Cond.methodLink RX11 117 yX8_takeFrom) ∈ cr_U := mem_U (i := 1204) (by decide +kernel) rfl
theorem ml_X11_120 : (Cond.methodLink RX11 120 yX8_countMessages) ∈ cr_U := mem_U (i := 371) (by decide +kernel) rfl
theorem im_X8_countMessages : (Cond.instanceMethod yX8_countMessages) ∈ cr_U := mem_U (i := 372) (by decide +kernel) rfl
theorem se_X8_countMessages : (Cond.selects RX8 yX8_countMessages yX8_countMessages) ∈ cr_U := mem_U (i := 373) (by decide +kernel) rfl
theorem cw_X11_load : (Cond.code yX11_load cX11_load 1 (some .int)) ∈ cr_U := mem_U (i := 945) (by decide +kernel) rfl
theorem cw_X11_errorCode : (Cond.code yX11_errorCode cX11_errorCode 1 (some .int)) ∈ cr_U := mem_U (i := 1208) (by decide +kernel) rfl
theorem cw_X11_errorPosition : (Cond.code yX11_errorPosition cX11_errorPosition 1 (some .int)) ∈ cr_U := mem_U (i := 1212) (by decide +kernel) rfl
theorem fl_X11_134_w : (Cond.fieldLinkNest RX11 134 (TX8 1).1 (TX8 1).2.1 (TX8 1).2.2.1 RX11) ∈ lw_tbl := List.mem_of_getElem? (i := 179) (by decide +kernel)
theorem fl_X11_134 : flk RX11 134 (TX8 1) := Or.inr ⟨_, fl_X11_134_w⟩
theorem fl_X11_137_w : (Cond.fieldLinkNest RX11 137 (TX8 2).1 (TX8 2).2.1 (TX8 2).2.2.1 RX11) ∈ lw_tbl := List.mem_of_getElem? (i := 182) (by decide +kernel)
theorem fl_X11_137 : flk RX11 137 (TX8 2) := Or.inr ⟨_, fl_X11_137_w⟩
theorem fl_X11_140_w : (Cond.fieldLinkNest RX11 140 (TX8 0).1 (TX8 0).2.1 (TX8 0).2.2.1 RX11) ∈ lw_tbl := List.mem_of_getElem? (i := 176) (by decide +kernel)
theorem fl_X11_140 : flk RX11 140 (TX8 0) := Or.inr ⟨_, fl_X11_140_w⟩
theorem ml_X11_143 : (Cond.methodLink RX11 143 yX4_size) ∈ cr_U := mem_U (i := 387) (by decide +kernel) rfl
theorem im_X4_size : (Cond.instanceMethod yX4_size) ∈ cr_U := mem_U (i := 388) (by decide +kernel) rfl
theorem se_X4_size : (Cond.selects RX4 yX4_size yX4_size) ∈ cr_U := mem_U (i := 389) (by decide +kernel) rfl
theorem sr_X11_144 : (Cond.stringRef RX11 144 "no such property") ∈ lw_tbl := List.mem_of_getElem? (i := 434) (by decide +kernel)
theorem cw_X11_property : (Cond.code yX11_property cX11_property 2 (some .int)) ∈ cr_U := mem_U (i := 370) (by decide +kernel) rfl
theorem ml_X11_421 : (Cond.methodLink RX11 421 yX8_boxAt) ∈ cr_U := mem_U (i := 1221) (by decide +kernel) rfl
set_option maxRecDepth 100000 in
theorem th_X11_173_177 : thr_chk RX11 "java/lang/IndexOutOfBoundsException" 173 177 ["java/lang/RuntimeException", "java/lang/Exception"] = true := by decide +kernel
theorem sr_X11_424 : (Cond.stringRef RX11 424 "no such box") ∈ lw_tbl := List.mem_of_getElem? (i := 1222) (by decide +kernel)
theorem cw_X11_requireBox : (Cond.code yX11_requireBox cX11_requireBox 3 (some (.object "MailSessions$Box"))) ∈ cr_U := mem_U (i := 1220) (by decide +kernel) rfl
theorem ml_X11_146 : (Cond.methodLink RX11 146 yX11_requireBox) ∈ cr_U := mem_U (i := 1217) (by decide +kernel) rfl
theorem im_X11_requireBox : (Cond.instanceMethod yX11_requireBox) ∈ cr_U := mem_U (i := 1219) (by decide +kernel) rfl
theorem se_X11_requireBox : (Cond.selects RX11 yX11_requireBox yX11_requireBox) ∈ cr_U := mem_U (i := 19) (by decide +kernel) rfl
theorem ml_X11_150 : (Cond.methodLink RX11 150 yX0_size) ∈ cr_U := mem_U (i := 1223) (by decide +kernel) rfl
theorem fl_X11_153_w : (Cond.fieldLinkNest RX11 153 (TX0 1).1 (TX0 1).2.1 (TX0 1).2.2.1 RX11) ∈ lw_tbl := List.mem_of_getElem? (i := 110) (by decide +kernel)
theorem fl_X11_153 : flk RX11 153 (TX0 1) := Or.inr ⟨_, fl_X11_153_w⟩
theorem ml_X11_156 : (Cond.methodLink RX11 156 yX0_sumOfSizes) ∈ cr_U := mem_U (i := 1224) (by decide +kernel) rfl
theorem im_X0_sumOfSizes : (Cond.instanceMethod yX0_sumOfSizes) ∈ cr_U := mem_U (i := 1225) (by decide +kernel) rfl
theorem se_X0_sumOfSizes : (Cond.selects RX0 yX0_sumOfSizes yX0_sumOfSizes) ∈ cr_U := mem_U (i := 1226) (by decide +kernel) rfl
theorem ml_X11_159 : (Cond.methodLink RX11 159 yX0_withFlag) ∈ cr_U := mem_U (i := 1230) (by decide +kernel) rfl
theorem im_X0_withFlag : (Cond.instanceMethod yX0_withFlag) ∈ cr_U := mem_U (i := 1231) (by decide +kernel) rfl
theorem se_X0_withFlag : (Cond.selects RX0 yX0_withFlag yX0_withFlag) ∈ cr_U := mem_U (i := 1232) (by decide +kernel) rfl
theorem ml_X11_168 : (Cond.methodLink RX11 168 yX8_sessionsOf) ∈ cr_U := mem_U (i := 1240) (by decide +kernel) rfl
theorem im_X8_sessionsOf : (Cond.instanceMethod yX8_sessionsOf) ∈ cr_U := mem_U (i := 1241) (by decide +kernel) rfl
theorem se_X8_sessionsOf : (Cond.selects RX8 yX8_sessionsOf yX8_sessionsOf) ∈ cr_U := mem_U (i := 1242) (by decide +kernel) rfl
theorem sr_X11_171 : (Cond.stringRef RX11 171 "no such property of a box") ∈ lw_tbl := List.mem_of_getElem? (i := 1244) (by decide +kernel)
theorem cw_X11_box : (Cond.code yX11_box cX11_box 4 (some .int)) ∈ cr_U := mem_U (i := 1216) (by decide +kernel) rfl
theorem sr_X11_175 : (Cond.stringRef RX11 175 "no such message") ∈ lw_tbl := List.mem_of_getElem? (i := 1257) (by decide +kernel)
theorem fl_X11_178_w : (Cond.fieldLinkNest RX11 178 (TX0 2).1 (TX0 2).2.1 (TX0 2).2.2.1 RX11) ∈ lw_tbl := List.mem_of_getElem? (i := 112) (by decide +kernel)
theorem fl_X11_178 : flk RX11 178 (TX0 2) := Or.inr ⟨_, fl_X11_178_w⟩
theorem ml_X11_182 : (Cond.methodLink RX11 182 yX5_get) ∈ cr_U := mem_U (i := 580) (by decide +kernel) rfl
theorem fl_X11_187_w : (Cond.fieldLinkNest RX11 187 (TX0 3).1 (TX0 3).2.1 (TX0 3).2.2.1 RX11) ∈ lw_tbl := List.mem_of_getElem? (i := 115) (by decide +kernel)
theorem fl_X11_187 : flk RX11 187 (TX0 3) := Or.inr ⟨_, fl_X11_187_w⟩
theorem fl_X11_190_w : (Cond.fieldLinkNest RX11 190 (TX0 4).1 (TX0 4).2.1 (TX0 4).2.2.1 RX11) ∈ lw_tbl := List.mem_of_getElem? (i := 118) (by decide +kernel)
theorem fl_X11_190 : flk RX11 190 (TX0 4) := Or.inr ⟨_, fl_X11_190_w⟩
theorem sr_X11_193 : (Cond.stringRef RX11 193 "no such property of a message") ∈ lw_tbl := List.mem_of_getElem? (i := 1258) (by decide +kernel)
theorem cw_X11_message : (Cond.code yX11_message cX11_message 5 (some .int)) ∈ cr_U := mem_U (i := 1256) (by decide +kernel) rfl
theorem ml_X11_195 : (Cond.methodLink RX11 195 yX0_indexOfUid) ∈ cr_U := mem_U (i := 1271) (by decide +kernel) rfl
theorem cw_X11_indexOf : (Cond.code yX11_indexOf cX11_indexOf 3 (some .int)) ∈ cr_U := mem_U (i := 1495) (by decide +kernel) rfl
theorem ml_X11_426 : (Cond.methodLink RX11 426 yX8_sessionAt) ∈ cr_U := mem_U (i := 468) (by decide +kernel) rfl
theorem sr_X11_429 : (Cond.stringRef RX11 429 "no such session") ∈ lw_tbl := List.mem_of_getElem? (i := 481) (by decide +kernel)
theorem cw_X11_requireSession : (Cond.code yX11_requireSession cX11_requireSession 3 (some (.object "MailSessions$Session"))) ∈ cr_U := mem_U (i := 467) (by decide +kernel) rfl
theorem ml_X11_198 : (Cond.methodLink RX11 198 yX11_requireSession) ∈ cr_U := mem_U (i := 464) (by decide +kernel) rfl
theorem im_X11_requireSession : (Cond.instanceMethod yX11_requireSession) ∈ cr_U := mem_U (i := 466) (by decide +kernel) rfl
theorem se_X11_requireSession : (Cond.selects RX11 yX11_requireSession yX11_requireSession) ∈ cr_U := mem_U (i := 1) (by decide +kernel) rfl
theorem ml_X11_202 : (Cond.methodLink RX11 202 yX8_boxOf) ∈ cr_U := mem_U (i := 488) (by decide +kernel) rfl
theorem fl_X11_206_w : (Cond.fieldLinkNest RX11 206 (TX7 1).1 (TX7 1).2.1 (TX7 1).2.2.1 RX11) ∈ lw_tbl := List.mem_of_getElem? (i := 144) (by decide +kernel)
theorem fl_X11_206 : flk RX11 206 (TX7 1) := Or.inr ⟨_, fl_X11_206_w⟩
theorem fl_X11_211_w : (Cond.fieldLinkNest RX11 211 (TX7 2).1 (TX7 2).2.1 (TX7 2).2.2.1 RX11) ∈ lw_tbl := List.mem_of_getElem? (i := 146) (by decide +kernel)
theorem fl_X11_211 : flk RX11 211 (TX7 2) := Or.inr ⟨_, fl_X11_211_w⟩
theorem fl_X11_215_w : (Cond.fieldLinkNest RX11 215 (TX7 3).1 (TX7 3).2.1 (TX7 3).2.2.1 RX11) ∈ lw_tbl := List.mem_of_getElem? (i := 149) (by decide +kernel)
theorem fl_X11_215 : flk RX11 215 (TX7 3) := Or.inr ⟨_, fl_X11_215_w⟩
theorem ml_X11_218 : (Cond.methodLink RX11 218 yX7_size) ∈ cr_U := mem_U (i := 492) (by decide +kernel) rfl
theorem ml_X11_219 : (Cond.methodLink RX11 219 yX7_countGone) ∈ cr_U := mem_U (i := 497) (by decide +kernel) rfl
theorem ml_X11_223 : (Cond.methodLink RX11 223 yX7_countChanged) ∈ cr_U := mem_U (i := 526) (by decide +kernel) rfl
theorem ml_X11_226 : (Cond.methodLink RX11 226 yX7_countNew) ∈ cr_U := mem_U (i := 538) (by decide +kernel) rfl
theorem sr_X11_229 : (Cond.stringRef RX11 229 "no such property of a session") ∈ lw_tbl := List.mem_of_getElem? (i := 543) (by decide +kernel)
theorem cw_X11_session : (Cond.code yX11_session cX11_session 5 (some .int)) ∈ cr_U := mem_U (i := 463) (by decide +kernel) rfl
theorem sr_X11_431 : (Cond.stringRef RX11 431 "no such entry") ∈ lw_tbl := List.mem_of_getElem? (i := 1269) (by decide +kernel)
theorem cw_X11_requireEntry : (Cond.code yX11_requireEntry cX11_requireEntry 2 (none)) ∈ cr_U := mem_U (i := 1268) (by decide +kernel) rfl
theorem ml_X11_231 : (Cond.methodLink RX11 231 yX11_requireEntry) ∈ cr_U := mem_U (i := 1266) (by decide +kernel) rfl
theorem sm_X11_requireEntry : (Cond.static yX11_requireEntry) ∈ cr_U := mem_U (i := 1267) (by decide +kernel) rfl
theorem ml_X11_235 : (Cond.methodLink RX11 235 yX7_uidOf) ∈ cr_U := mem_U (i := 1270) (by decide +kernel) rfl
theorem ml_X11_238 : (Cond.methodLink RX11 238 yX7_toldOf) ∈ cr_U := mem_U (i := 1272) (by decide +kernel) rfl
theorem sr_X11_241 : (Cond.stringRef RX11 241 "no such property of an entry") ∈ lw_tbl := List.mem_of_getElem? (i := 1273) (by decide +kernel)
theorem cw_X11_entry : (Cond.code yX11_entry cX11_entry 7 (some .int)) ∈ cr_U := mem_U (i := 1265) (by decide +kernel) rfl
theorem ml_X11_243 : (Cond.methodLink RX11 243 yX7_numberOfUid) ∈ cr_U := mem_U (i := 1500) (by decide +kernel) rfl
theorem im_X7_numberOfUid : (Cond.instanceMethod yX7_numberOfUid) ∈ cr_U := mem_U (i := 1501) (by decide +kernel) rfl
theorem se_X7_numberOfUid : (Cond.selects RX7 yX7_numberOfUid yX7_numberOfUid) ∈ cr_U := mem_U (i := 1502) (by decide +kernel) rfl
theorem cw_X11_numberOf : (Cond.code yX11_numberOf cX11_numberOf 3 (some .int)) ∈ cr_U := mem_U (i := 1499) (by decide +kernel) rfl
theorem ml_X11_246 : (Cond.methodLink RX11 246 yX7_isGone) ∈ cr_U := mem_U (i := 1509) (by decide +kernel) rfl
theorem ml_X11_250 : (Cond.methodLink RX11 250 yX7_countGoneBefore) ∈ cr_U := mem_U (i := 1510) (by decide +kernel) rfl
theorem cw_X11_numberThen : (Cond.code yX11_numberThen cX11_numberThen 5 (some .int)) ∈ cr_U := mem_U (i := 1508) (by decide +kernel) rfl
theorem ml_X11_254 : (Cond.methodLink RX11 254 yX7_countPending) ∈ cr_U := mem_U (i := 552) (by decide +kernel) rfl
theorem cw_X11_pending : (Cond.code yX11_pending cX11_pending 3 (some .int)) ∈ cr_U := mem_U (i := 1530) (by decide +kernel) rfl
theorem ml_X11_257 : (Cond.methodLink RX11 257 yX7_hasBox) ∈ cr_U := mem_U (i := 548) (by decide +kernel) rfl
theorem cw_X11_isCurrent : (Cond.code yX11_isCurrent cX11_isCurrent 3 (some .boolean)) ∈ cr_U := mem_U (i := 547) (by decide +kernel) rfl
theorem ml_X11_261 : (Cond.methodLink RX11 261 yX7_firstNotToldSeen) ∈ cr_U := mem_U (i := 1515) (by decide +kernel) rfl
theorem im_X7_firstNotToldSeen : (Cond.instanceMethod yX7_firstNotToldSeen) ∈ cr_U := mem_U (i := 1516) (by decide +kernel) rfl
theorem se_X7_firstNotToldSeen : (Cond.selects RX7 yX7_firstNotToldSeen yX7_firstNotToldSeen) ∈ cr_U := mem_U (i := 1517) (by decide +kernel) rfl
theorem cw_X11_firstUnseen : (Cond.code yX11_firstUnseen cX11_firstUnseen 2 (some .int)) ∈ cr_U := mem_U (i := 1514) (by decide +kernel) rfl
theorem ml_X11_264 : (Cond.methodLink RX11 264 yX7_largestIn) ∈ cr_U := mem_U (i := 1523) (by decide +kernel) rfl
theorem im_X7_largestIn : (Cond.instanceMethod yX7_largestIn) ∈ cr_U := mem_U (i := 1524) (by decide +kernel) rfl
theorem se_X7_largestIn : (Cond.selects RX7 yX7_largestIn yX7_largestIn) ∈ cr_U := mem_U (i := 1525) (by decide +kernel) rfl
theorem cw_X11_largest : (Cond.code yX11_largest cX11_largest 3 (some .int)) ∈ cr_U := mem_U (i := 1522) (by decide +kernel) rfl
theorem ml_X11_275 : (Cond.methodLink RX11 275 yX8_sessionsToTell) ∈ cr_U := mem_U (i := 1535) (by decide +kernel) rfl
theorem im_X8_sessionsToTell : (Cond.instanceMethod yX8_sessionsToTell) ∈ cr_U := mem_U (i := 1536) (by decide +kernel) rfl
theorem se_X8_sessionsToTell : (Cond.selects RX8 yX8_sessionsToTell yX8_sessionsToTell) ∈ cr_U := mem_U (i := 1537) (by decide +kernel) rfl
theorem cw_X11_stale : (Cond.code yX11_stale cX11_stale 1 (some .int)) ∈ cr_U := mem_U (i := 1534) (by decide +kernel) rfl
theorem sr_X11_278 : (Cond.stringRef RX11 278 "no such count of a session") ∈ lw_tbl := List.mem_of_getElem? (i := 1278) (by decide +kernel)
theorem fl_X11_280_w : (Cond.fieldLinkNest RX11 280 (TX7 7).1 (TX7 7).2.1 (TX7 7).2.2.1 RX11) ∈ lw_tbl := List.mem_of_getElem? (i := 156) (by decide +kernel)
theorem fl_X11_280 : flk RX11 280 (TX7 7) := Or.inr ⟨_, fl_X11_280_w⟩
theorem cw_X11_account : (Cond.code yX11_account cX11_account 4 (some .int)) ∈ cr_U := mem_U (i := 1277) (by decide +kernel) rfl
theorem sr_X11_283 : (Cond.stringRef RX11 283 "no such property of a notice") ∈ lw_tbl := List.mem_of_getElem? (i := 563) (by decide +kernel)
theorem sr_X11_287 : (Cond.stringRef RX11 287 "no such notice") ∈ lw_tbl := List.mem_of_getElem? (i := 573) (by decide +kernel)
theorem fl_X11_290_w : (Cond.fieldLinkNest RX11 290 (TX4 0).1 (TX4 0).2.1 (TX4 0).2.2.1 RX11) ∈ lw_tbl := List.mem_of_getElem? (i := 228) (by decide +kernel)
theorem fl_X11_290 : flk RX11 290 (TX4 0) := Or.inr ⟨_, fl_X11_290_w⟩
theorem fl_X11_293_w : (Cond.fieldLinkNest RX11 293 (TX4 1).1 (TX4 1).2.1 (TX4 1).2.2.1 RX11) ∈ lw_tbl := List.mem_of_getElem? (i := 230) (by decide +kernel)
theorem fl_X11_293 : flk RX11 293 (TX4 1) := Or.inr ⟨_, fl_X11_293_w⟩
theorem fl_X11_296_w : (Cond.fieldLinkNest RX11 296 (TX4 2).1 (TX4 2).2.1 (TX4 2).2.2.1 RX11) ∈ lw_tbl := List.mem_of_getElem? (i := 232) (by decide +kernel)
theorem fl_X11_296 : flk RX11 296 (TX4 2) := Or.inr ⟨_, fl_X11_296_w⟩
theorem fl_X11_299_w : (Cond.fieldLinkNest RX11 299 (TX4 3).1 (TX4 3).2.1 (TX4 3).2.2.1 RX11) ∈ lw_tbl := List.mem_of_getElem? (i := 234) (by decide +kernel)
theorem fl_X11_299 : flk RX11 299 (TX4 3) := Or.inr ⟨_, fl_X11_299_w⟩
theorem cw_X11_notice : (Cond.code yX11_notice cX11_notice 3 (some .int)) ∈ cr_U := mem_U (i := 562) (by decide +kernel) rfl
theorem ml_X11_334 : (Cond.methodLink RX11 334 yX5_increase) ∈ cr_U := mem_U (i := 1295) (by decide +kernel) rfl
theorem cw_X11_beginCommand : (Cond.code yX11_beginCommand cX11_beginCommand 2 (none)) ∈ cr_U := mem_U (i := 1294) (by decide +kernel) rfl
theorem ml_X11_305 : (Cond.methodLink RX11 305 yX11_beginCommand) ∈ cr_U := mem_U (i := 1291) (by decide +kernel) rfl
theorem im_X11_beginCommand : (Cond.instanceMethod yX11_beginCommand) ∈ cr_U := mem_U (i := 1293) (by decide +kernel) rfl
theorem se_X11_beginCommand : (Cond.selects RX11 yX11_beginCommand yX11_beginCommand) ∈ cr_U := mem_U (i := 20) (by decide +kernel) rfl
theorem ml_X11_309 : (Cond.methodLink RX11 309 yX7_enter) ∈ cr_U := mem_U (i := 1304) (by decide +kernel) rfl
theorem ml_X11_313 : (Cond.methodLink RX11 313 yX8_tellIdle) ∈ cr_U := mem_U (i := 1305) (by decide +kernel) rfl
theorem im_X8_tellIdle : (Cond.instanceMethod yX8_tellIdle) ∈ cr_U := mem_U (i := 1306) (by decide +kernel) rfl
theorem se_X8_tellIdle : (Cond.selects RX8 yX8_tellIdle yX8_tellIdle) ∈ cr_U := mem_U (i := 1307) (by decide +kernel) rfl
theorem sr_X11_303 : (Cond.stringRef RX11 303 "an idle session selects no box") ∈ lw_tbl := List.mem_of_getElem? (i := 1290) (by decide +kernel)
theorem cw_X11_select : (Cond.code yX11_select cX11_select 6 (some .int)) ∈ cr_U := mem_U (i := 1289) (by decide +kernel) rfl
theorem sr_X11_437 : (Cond.stringRef RX11 437 "the session has no box, or is idle") ∈ lw_tbl := List.mem_of_getElem? (i := 1348) (by decide +kernel)
theorem cw_X11_requireAwake : (Cond.code yX11_requireAwake cX11_requireAwake 2 (some (.object "MailSessions$Box"))) ∈ cr_U := mem_U (i := 1347) (by decide +kernel) rfl
theorem ml_X11_454 : (Cond.methodLink RX11 454 yX8_tell) ∈ cr_U := mem_U (i := 1353) (by decide +kernel) rfl
theorem cw_X11_endCommand : (Cond.code yX11_endCommand cX11_endCommand 4 (some .int)) ∈ cr_U := mem_U (i := 1352) (by decide +kernel) rfl
theorem ml_X11_317 : (Cond.methodLink RX11 317 yX11_requireAwake) ∈ cr_U := mem_U (i := 1344) (by decide +kernel) rfl
theorem im_X11_requireAwake : (Cond.instanceMethod yX11_requireAwake) ∈ cr_U := mem_U (i := 1346) (by decide +kernel) rfl
theorem se_X11_requireAwake : (Cond.selects RX11 yX11_requireAwake yX11_requireAwake) ∈ cr_U := mem_U (i := 21) (by decide +kernel) rfl
theorem ml_X11_320 : (Cond.methodLink RX11 320 yX11_endCommand) ∈ cr_U := mem_U (i := 1349) (by decide +kernel) rfl
theorem im_X11_endCommand : (Cond.instanceMethod yX11_endCommand) ∈ cr_U := mem_U (i := 1351) (by decide +kernel) rfl
theorem se_X11_endCommand : (Cond.selects RX11 yX11_endCommand yX11_endCommand) ∈ cr_U := mem_U (i := 22) (by decide +kernel) rfl
theorem cw_X11_noop : (Cond.code yX11_noop cX11_noop 3 (some .int)) ∈ cr_U := mem_U (i := 1343) (by decide +kernel) rfl
theorem cw_X11_startIdle : (Cond.code yX11_startIdle cX11_startIdle 3 (some .int)) ∈ cr_U := mem_U (i := 1360) (by decide +kernel) rfl
theorem sr_X11_324 : (Cond.stringRef RX11 324 "the session is not idle") ∈ lw_tbl := List.mem_of_getElem? (i := 1368) (by decide +kernel)
theorem cw_X11_stopIdle : (Cond.code yX11_stopIdle cX11_stopIdle 3 (some .int)) ∈ cr_U := mem_U (i := 1367) (by decide +kernel) rfl
theorem sr_X11_433 : (Cond.stringRef RX11 433 "the range ends ahead of its start") ∈ lw_tbl := List.mem_of_getElem? (i := 1379) (by decide +kernel)
theorem cw_X11_requireOrder : (Cond.code yX11_requireOrder cX11_requireOrder 2 (none)) ∈ cr_U := mem_U (i := 1378) (by decide +kernel) rfl
theorem ml_X11_326 : (Cond.methodLink RX11 326 yX11_requireOrder) ∈ cr_U := mem_U (i := 1376) (by decide +kernel) rfl
theorem sm_X11_requireOrder : (Cond.static yX11_requireOrder) ∈ cr_U := mem_U (i := 1377) (by decide +kernel) rfl
theorem ml_X11_330 : (Cond.methodLink RX11 330 yX0_changeFlags) ∈ cr_U := mem_U (i := 1380) (by decide +kernel) rfl
theorem im_X0_changeFlags : (Cond.instanceMethod yX0_changeFlags) ∈ cr_U := mem_U (i := 1381) (by decide +kernel) rfl
theorem se_X0_changeFlags : (Cond.selects RX0 yX0_changeFlags yX0_changeFlags) ∈ cr_U := mem_U (i := 1382) (by decide +kernel) rfl
theorem cw_X11_fetch : (Cond.code yX11_fetch cX11_fetch 10 (some .int)) ∈ cr_U := mem_U (i := 1375) (by decide +kernel) rfl
theorem sr_X11_435 : (Cond.stringRef RX11 435 "the mode or the flags are out of range") ∈ lw_tbl := List.mem_of_getElem? (i := 1395) (by decide +kernel)
theorem cw_X11_requireModeAndFlags : (Cond.code yX11_requireModeAndFlags cX11_requireModeAndFlags 2 (none)) ∈ cr_U := mem_U (i := 1394) (by decide +kernel) rfl
theorem sr_X11_439 : (Cond.stringRef RX11 439 "the session only reads") ∈ lw_tbl := List.mem_of_getElem? (i := 1400) (by decide +kernel)
theorem cw_X11_requireWriting : (Cond.code yX11_requireWriting cX11_requireWriting 3 (some (.object "MailSessions$Box"))) ∈ cr_U := mem_U (i := 1399) (by decide +kernel) rfl
theorem ml_X11_337 : (Cond.methodLink RX11 337 yX11_requireModeAndFlags) ∈ cr_U := mem_U (i := 1392) (by decide +kernel) rfl
theorem sm_X11_requireModeAndFlags : (Cond.static yX11_requireModeAndFlags) ∈ cr_U := mem_U (i := 1393) (by decide +kernel) rfl
theorem ml_X11_340 : (Cond.methodLink RX11 340 yX11_requireWriting) ∈ cr_U := mem_U (i := 1396) (by decide +kernel) rfl
theorem im_X11_requireWriting : (Cond.instanceMethod yX11_requireWriting) ∈ cr_U := mem_U (i := 1398) (by decide +kernel) rfl
theorem se_X11_requireWriting : (Cond.selects RX11 yX11_requireWriting yX11_requireWriting) ∈ cr_U := mem_U (i := 23) (by decide +kernel) rfl
theorem fl_X11_343_w : (Cond.fieldLinkNest RX11 343 (TX7 6).1 (TX7 6).2.1 (TX7 6).2.2.1 RX11) ∈ lw_tbl := List.mem_of_getElem? (i := 154) (by decide +kernel)
theorem fl_X11_343 : flk RX11 343 (TX7 6) := Or.inr ⟨_, fl_X11_343_w⟩
theorem ml_X11_346 : (Cond.methodLink RX11 346 yX5_set) ∈ cr_U := mem_U (i := 1401) (by decide +kernel) rfl
theorem cw_X11_store : (Cond.code yX11_store cX11_store 12 (some .int)) ∈ cr_U := mem_U (i := 1391) (by decide +kernel) rfl
theorem cw_X11_uidStore : (Cond.code yX11_uidStore cX11_uidStore 11 (some .int)) ∈ cr_U := mem_U (i := 1408) (by decide +kernel) rfl
theorem ml_X11_355 : (Cond.methodLink RX11 355 yX0_removeDeleted) ∈ cr_U := mem_U (i := 1416) (by decide +kernel) rfl
theorem im_X0_removeDeleted : (Cond.instanceMethod yX0_removeDeleted) ∈ cr_U := mem_U (i := 1417) (by decide +kernel) rfl
theorem se_X0_removeDeleted : (Cond.selects RX0 yX0_removeDeleted yX0_removeDeleted) ∈ cr_U := mem_U (i := 1418) (by decide +kernel) rfl
theorem cw_X11_expunge : (Cond.code yX11_expunge cX11_expunge 5 (some .int)) ∈ cr_U := mem_U (i := 1415) (by decide +kernel) rfl
theorem sr_X11_441 : (Cond.stringRef RX11 441 "the box has no room") ∈ lw_tbl := List.mem_of_getElem? (i := 1440) (by decide +kernel)
theorem cw_X11_requireRoom : (Cond.code yX11_requireRoom cX11_requireRoom 3 (none)) ∈ cr_U := mem_U (i := 1439) (by decide +kernel) rfl
theorem ml_X11_358 : (Cond.methodLink RX11 358 yX7_countThere) ∈ cr_U := mem_U (i := 1432) (by decide +kernel) rfl
theorem im_X7_countThere : (Cond.instanceMethod yX7_countThere) ∈ cr_U := mem_U (i := 1433) (by decide +kernel) rfl
theorem se_X7_countThere : (Cond.selects RX7 yX7_countThere yX7_countThere) ∈ cr_U := mem_U (i := 1434) (by decide +kernel) rfl
theorem ml_X11_362 : (Cond.methodLink RX11 362 yX11_requireRoom) ∈ cr_U := mem_U (i := 1436) (by decide +kernel) rfl
theorem im_X11_requireRoom : (Cond.instanceMethod yX11_requireRoom) ∈ cr_U := mem_U (i := 1438) (by decide +kernel) rfl
theorem se_X11_requireRoom : (Cond.selects RX11 yX11_requireRoom yX11_requireRoom) ∈ cr_U := mem_U (i := 24) (by decide +kernel) rfl
theorem ml_X11_366 : (Cond.methodLink RX11 366 yX7_copyRange) ∈ cr_U := mem_U (i := 1441) (by decide +kernel) rfl
theorem im_X7_copyRange : (Cond.instanceMethod yX7_copyRange) ∈ cr_U := mem_U (i := 1442) (by decide +kernel) rfl
theorem se_X7_copyRange : (Cond.selects RX7 yX7_copyRange yX7_copyRange) ∈ cr_U := mem_U (i := 1443) (by decide +kernel) rfl
theorem cw_X11_copy : (Cond.code yX11_copy cX11_copy 9 (some .int)) ∈ cr_U := mem_U (i := 1431) (by decide +kernel) rfl
theorem ml_X11_370 : (Cond.methodLink RX11 370 yX7_removeRange) ∈ cr_U := mem_U (i := 1453) (by decide +kernel) rfl
theorem im_X7_removeRange : (Cond.instanceMethod yX7_removeRange) ∈ cr_U := mem_U (i := 1454) (by decide +kernel) rfl
theorem se_X7_removeRange : (Cond.selects RX7 yX7_removeRange yX7_removeRange) ∈ cr_U := mem_U (i := 1455) (by decide +kernel) rfl
theorem cw_X11_move : (Cond.code yX11_move cX11_move 9 (some .int)) ∈ cr_U := mem_U (i := 1452) (by decide +kernel) rfl
theorem ml_X11_374 : (Cond.methodLink RX11 374 yX7_leave) ∈ cr_U := mem_U (i := 1465) (by decide +kernel) rfl
theorem cw_X11_close : (Cond.code yX11_close cX11_close 5 (some .int)) ∈ cr_U := mem_U (i := 1464) (by decide +kernel) rfl
theorem sr_X11_377 : (Cond.stringRef RX11 377 "the size or the flags are out of range") ∈ lw_tbl := List.mem_of_getElem? (i := 1473) (by decide +kernel)
theorem ml_X11_379 : (Cond.methodLink RX11 379 yX0_addMessage) ∈ cr_U := mem_U (i := 1474) (by decide +kernel) rfl
theorem cw_X11_deliver : (Cond.code yX11_deliver cX11_deliver 6 (some .int)) ∈ cr_U := mem_U (i := 1472) (by decide +kernel) rfl
theorem dX1_init_0 : decode cX1_init 0 = .ok (.aload_n 0, 1) := by decide +kernel
theorem dX1_init_1 : decode cX1_init 1 = .ok (.invokespecial 3, 3) := by decide +kernel
theorem dX1_init_4 : decode cX1_init 4 = .ok (.aload_n 0, 1) := by decide +kernel
theorem dX1_init_5 : decode cX1_init 5 = .ok (.iload_n 1, 1) := by decide +kernel
theorem dX1_init_6 : decode cX1_init 6 = .ok (.ifCond .ge 7, 3) := by decide +kernel
theorem dX1_init_9 : decode cX1_init 9 = .ok (.iconst 0, 1) := by decide +kernel
theorem dX1_init_10 : decode cX1_init 10 = .ok (.goto 4, 3) := by decide +kernel
theorem dX1_init_13 : decode cX1_init 13 = .ok (.iload_n 1, 1) := by decide +kernel
theorem dX1_init_14 : decode cX1_init 14 = .ok (.newarray .byte, 2) := by decide +kernel
theorem dX1_init_16 : decode cX1_init 16 = .ok (.putfield 9, 3) := by decide +kernel
theorem dX1_init_19 : decode cX1_init 19 = .ok (.aload_n 0, 1) := by decide +kernel
theorem dX1_init_20 : decode cX1_init 20 = .ok (.iconst 0, 1) := by decide +kernel
theorem dX1_init_21 : decode cX1_init 21 = .ok (.putfield 15, 3) := by decide +kernel
theorem dX1_init_24 : decode cX1_init 24 = .ok (.return_, 1) := by decide +kernel
def mi_X1_init_700 : MI := (RX1, yX1_init, cX1_init, 2, none, [], { frames := 1, cells := 1, slots := 700, locals := 12 })
theorem ok_X1_init_700 : mOK mi_X1_init_700 1 := ⟨rfl, cw_X1_init, ini_X1, ⟨rfl, by decide⟩, by decide, by decide, rfl⟩
theorem v_X1_init_700 (this : Nat) (M : Mem) : V mi_X1_init_700 0 [(0, .ref this), (1, .int 700)] [] M 0 0 (f_X1_init_700 this M) wV := by
  unfold f_X1_init_700
  refine V_ob fun _ _ => ?_
  refine V_aload_n dX1_init_0 rfl 0 rfl ?_
  refine V_objInit ml_X1_3 dX1_init_1 rfl ⟨(Nat.le_of_ble_eq_true rfl), (Nat.le_of_ble_eq_true rfl)⟩ ?_
  refine V_aload_n dX1_init_4 rfl 0 rfl ?_
  refine V_iload_n dX1_init_5 rfl 1 rfl ?_
  refine V_if_ge_t (q := 13) (q2 := 9) dX1_init_6 (by decide) rfl (by decide) ?_
  refine V_iload_n dX1_init_13 rfl 1 rfl ?_
  refine V_newarray dX1_init_14 rfl (t := 2) (N := 700) (x := (700, .inl (fun _ => 0))) rfl ar_2 (by decide) rfl (Nat.le_of_ble_eq_true rfl) (fun _ _ => rfl) (fun _ _ h => h) ⟨(Nat.le_of_ble_eq_true rfl), (Nat.le_of_ble_eq_true rfl)⟩ (fun r1 => ?_)
  refine V_putFR dX1_init_16 rfl (ci := 1) (T := TX1) rfl (by decide) fl_X1_9_w rfl rfl rfl rfl (fun _ => rfl) (fun _ => rfl) (fun M2 => ?_)
  refine V_aload_n dX1_init_19 rfl 0 rfl ?_
  refine V_iconst (x := 0) dX1_init_20 rfl rfl ?_
  refine V_putI dX1_init_21 rfl (ci := 1) (T := TX1) rfl (by decide) fl_X1_15 rfl rfl (fun M3 => ?_)
  exact V_vret dX1_init_24 rfl rfl ⟨(Nat.le_of_ble_eq_true rfl), (Nat.le_of_ble_eq_true rfl)⟩
theorem k_X1_init_700 (this : Nat) (M : Mem) : K mi_X1_init_700 [.ref this, .int 700] M (f_X1_init_700 this M) wV := K_of_V ok_X1_init_700 (Nat.le_of_ble_eq_true rfl) (v_X1_init_700 this M)
theorem o_X1_init_700 {this : Nat} {M : Mem} {x} (h : f_X1_init_700 this M = some x) : isO M 1 this = true := (ob_of h).1
def mi_X1_init_4096 : MI := (RX1, yX1_init, cX1_init, 2, none, [], { frames := 1, cells := 1, slots := 4096, locals := 12 })
theorem ok_X1_init_4096 : mOK mi_X1_init_4096 1 := ⟨rfl, cw_X1_init, ini_X1, ⟨rfl, by decide⟩, by decide, by decide, rfl⟩
theorem v_X1_init_4096 (this : Nat) (M : Mem) : V mi_X1_init_4096 0 [(0, .ref this), (1, .int 4096)] [] M 0 0 (f_X1_init_4096 this M) wV := by
  unfold f_X1_init_4096
  refine V_ob fun _ _ => ?_
  refine V_aload_n dX1_init_0 rfl 0 rfl ?_
  refine V_objInit ml_X1_3 dX1_init_1 rfl ⟨(Nat.le_of_ble_eq_true rfl), (Nat.le_of_ble_eq_true rfl)⟩ ?_
  refine V_aload_n dX1_init_4 rfl 0 rfl ?_
  refine V_iload_n dX1_init_5 rfl 1 rfl ?_
  refine V_if_ge_t (q := 13) (q2 := 9) dX1_init_6 (by decide) rfl (by decide) ?_
  refine V_iload_n dX1_init_13 rfl 1 rfl ?_
  refine V_newarray dX1_init_14 rfl (t := 2) (N := 4096) (x := (4096, .inl (fun _ => 0))) rfl ar_2 (by decide) rfl (Nat.le_of_ble_eq_true rfl) (fun _ _ => rfl) (fun _ _ h => h) ⟨(Nat.le_of_ble_eq_true rfl), (Nat.le_of_ble_eq_true rfl)⟩ (fun r1 => ?_)
  refine V_putFR dX1_init_16 rfl (ci := 1) (T := TX1) rfl (by decide) fl_X1_9_w rfl rfl rfl rfl (fun _ => rfl) (fun _ => rfl) (fun M2 => ?_)
  refine V_aload_n dX1_init_19 rfl 0 rfl ?_
  refine V_iconst (x := 0) dX1_init_20 rfl rfl ?_
  refine V_putI dX1_init_21 rfl (ci := 1) (T := TX1) rfl (by decide) fl_X1_15 rfl rfl (fun M3 => ?_)
  exact V_vret dX1_init_24 rfl rfl ⟨(Nat.le_of_ble_eq_true rfl), (Nat.le_of_ble_eq_true rfl)⟩
theorem k_X1_init_4096 (this : Nat) (M : Mem) : K mi_X1_init_4096 [.ref this, .int 4096] M (f_X1_init_4096 this M) wV := K_of_V ok_X1_init_4096 (Nat.le_of_ble_eq_true rfl) (v_X1_init_4096 this M)
theorem o_X1_init_4096 {this : Nat} {M : Mem} {x} (h : f_X1_init_4096 this M = some x) : isO M 1 this = true := (ob_of h).1
theorem dX11_init_0 : decode cX11_init 0 = .ok (.aload_n 0, 1) := by decide +kernel
theorem dX11_init_1 : decode cX11_init 1 = .ok (.invokespecial 3, 3) := by decide +kernel
theorem dX11_init_4 : decode cX11_init 4 = .ok (.aload_n 0, 1) := by decide +kernel
theorem dX11_init_5 : decode cX11_init 5 = .ok (.new 9, 3) := by decide +kernel
theorem dX11_init_8 : decode cX11_init 8 = .ok (.dup, 1) := by decide +kernel
theorem dX11_init_9 : decode cX11_init 9 = .ok (.sipush 700, 3) := by decide +kernel
theorem dX11_init_12 : decode cX11_init 12 = .ok (.invokespecial 11, 3) := by decide +kernel
theorem dX11_init_15 : decode cX11_init 15 = .ok (.putfield 14, 3) := by decide +kernel
theorem dX11_init_18 : decode cX11_init 18 = .ok (.aload_n 0, 1) := by decide +kernel
theorem dX11_init_19 : decode cX11_init 19 = .ok (.new 9, 3) := by decide +kernel
theorem dX11_init_22 : decode cX11_init 22 = .ok (.dup, 1) := by decide +kernel
theorem dX11_init_23 : decode cX11_init 23 = .ok (.sipush 4096, 3) := by decide +kernel
theorem dX11_init_26 : decode cX11_init 26 = .ok (.invokespecial 11, 3) := by decide +kernel
theorem dX11_init_29 : decode cX11_init 29 = .ok (.putfield 18, 3) := by decide +kernel
theorem dX11_init_32 : decode cX11_init 32 = .ok (.aload_n 0, 1) := by decide +kernel
theorem dX11_init_33 : decode cX11_init 33 = .ok (.new 21, 3) := by decide +kernel
theorem dX11_init_36 : decode cX11_init 36 = .ok (.dup, 1) := by decide +kernel
theorem dX11_init_37 : decode cX11_init 37 = .ok (.invokespecial 23, 3) := by decide +kernel
theorem dX11_init_40 : decode cX11_init 40 = .ok (.putfield 24, 3) := by decide +kernel
theorem dX11_init_43 : decode cX11_init 43 = .ok (.aload_n 0, 1) := by decide +kernel
theorem dX11_init_44 : decode cX11_init 44 = .ok (.new 21, 3) := by decide +kernel
theorem dX11_init_47 : decode cX11_init 47 = .ok (.dup, 1) := by decide +kernel
theorem dX11_init_48 : decode cX11_init 48 = .ok (.invokespecial 23, 3) := by decide +kernel
theorem dX11_init_51 : decode cX11_init 51 = .ok (.putfield 28, 3) := by decide +kernel
theorem dX11_init_54 : decode cX11_init 54 = .ok (.aload_n 0, 1) := by decide +kernel
theorem dX11_init_55 : decode cX11_init 55 = .ok (.iconst 2, 1) := by decide +kernel
theorem dX11_init_56 : decode cX11_init 56 = .ok (.anewarray 21, 3) := by decide +kernel
theorem dX11_init_59 : decode cX11_init 59 = .ok (.putfield 31, 3) := by decide +kernel
theorem dX11_init_62 : decode cX11_init 62 = .ok (.iconst 0, 1) := by decide +kernel
theorem dX11_init_63 : decode cX11_init 63 = .ok (.istore_n 1, 1) := by decide +kernel
theorem dX11_init_64 : decode cX11_init 64 = .ok (.iload_n 1, 1) := by decide +kernel
theorem dX11_init_65 : decode cX11_init 65 = .ok (.aload_n 0, 1) := by decide +kernel
theorem dX11_init_66 : decode cX11_init 66 = .ok (.getfield 31, 3) := by decide +kernel
theorem dX11_init_69 : decode cX11_init 69 = .ok (.arraylength, 1) := by decide +kernel
theorem dX11_init_70 : decode cX11_init 70 = .ok (.if_icmp .ge 22, 3) := by decide +kernel
theorem dX11_init_73 : decode cX11_init 73 = .ok (.aload_n 0, 1) := by decide +kernel
theorem dX11_init_74 : decode cX11_init 74 = .ok (.getfield 31, 3) := by decide +kernel
theorem dX11_init_77 : decode cX11_init 77 = .ok (.iload_n 1, 1) := by decide +kernel
theorem dX11_init_78 : decode cX11_init 78 = .ok (.new 21, 3) := by decide +kernel
theorem dX11_init_81 : decode cX11_init 81 = .ok (.dup, 1) := by decide +kernel
theorem dX11_init_82 : decode cX11_init 82 = .ok (.invokespecial 23, 3) := by decide +kernel
theorem dX11_init_85 : decode cX11_init 85 = .ok (.aastore, 1) := by decide +kernel
theorem dX11_init_86 : decode cX11_init 86 = .ok (.iinc 1 1, 3) := by decide +kernel
theorem dX11_init_89 : decode cX11_init 89 = .ok (.goto (-25), 3) := by decide +kernel
theorem dX11_init_92 : decode cX11_init 92 = .ok (.aload_n 0, 1) := by decide +kernel
theorem dX11_init_93 : decode cX11_init 93 = .ok (.iconst 2, 1) := by decide +kernel
theorem dX11_init_94 : decode cX11_init 94 = .ok (.newarray .boolean, 2) := by decide +kernel
theorem dX11_init_96 : decode cX11_init 96 = .ok (.putfield 35, 3) := by decide +kernel
theorem dX11_init_99 : decode cX11_init 99 = .ok (.aload_n 0, 1) := by decide +kernel
theorem dX11_init_100 : decode cX11_init 100 = .ok (.new 39, 3) := by decide +kernel
theorem dX11_init_103 : decode cX11_init 103 = .ok (.dup, 1) := by decide +kernel
theorem dX11_init_104 : decode cX11_init 104 = .ok (.invokespecial 41, 3) := by decide +kernel
theorem dX11_init_107 : decode cX11_init 107 = .ok (.putfield 42, 3) := by decide +kernel
theorem dX11_init_110 : decode cX11_init 110 = .ok (.aload_n 0, 1) := by decide +kernel
theorem dX11_init_111 : decode cX11_init 111 = .ok (.new 46, 3) := by decide +kernel
theorem dX11_init_114 : decode cX11_init 114 = .ok (.dup, 1) := by decide +kernel
theorem dX11_init_115 : decode cX11_init 115 = .ok (.invokespecial 48, 3) := by decide +kernel
theorem dX11_init_118 : decode cX11_init 118 = .ok (.putfield 49, 3) := by decide +kernel
theorem dX11_init_121 : decode cX11_init 121 = .ok (.aload_n 0, 1) := by decide +kernel
theorem dX11_init_122 : decode cX11_init 122 = .ok (.new 53, 3) := by decide +kernel
theorem dX11_init_125 : decode cX11_init 125 = .ok (.dup, 1) := by decide +kernel
theorem dX11_init_126 : decode cX11_init 126 = .ok (.aload_n 0, 1) := by decide +kernel
theorem dX11_init_127 : decode cX11_init 127 = .ok (.getfield 14, 3) := by decide +kernel
theorem dX11_init_130 : decode cX11_init 130 = .ok (.invokespecial 55, 3) := by decide +kernel
theorem dX11_init_133 : decode cX11_init 133 = .ok (.putfield 58, 3) := by decide +kernel
theorem dX11_init_136 : decode cX11_init 136 = .ok (.aload_n 0, 1) := by decide +kernel
theorem dX11_init_137 : decode cX11_init 137 = .ok (.new 62, 3) := by decide +kernel
theorem dX11_init_140 : decode cX11_init 140 = .ok (.dup, 1) := by decide +kernel
theorem dX11_init_141 : decode cX11_init 141 = .ok (.aload_n 0, 1) := by decide +kernel
theorem dX11_init_142 : decode cX11_init 142 = .ok (.getfield 58, 3) := by decide +kernel
theorem dX11_init_145 : decode cX11_init 145 = .ok (.invokespecial 64, 3) := by decide +kernel
theorem dX11_init_148 : decode cX11_init 148 = .ok (.putfield 67, 3) := by decide +kernel
theorem dX11_init_151 : decode cX11_init 151 = .ok (.aload_n 0, 1) := by decide +kernel
theorem dX11_init_152 : decode cX11_init 152 = .ok (.new 71, 3) := by decide +kernel
theorem dX11_init_155 : decode cX11_init 155 = .ok (.dup, 1) := by decide +kernel
theorem dX11_init_156 : decode cX11_init 156 = .ok (.aload_n 0, 1) := by decide +kernel
theorem dX11_init_157 : decode cX11_init 157 = .ok (.getfield 58, 3) := by decide +kernel
theorem dX11_init_160 : decode cX11_init 160 = .ok (.invokespecial 73, 3) := by decide +kernel
theorem dX11_init_163 : decode cX11_init 163 = .ok (.putfield 74, 3) := by decide +kernel
theorem dX11_init_166 : decode cX11_init 166 = .ok (.aload_n 0, 1) := by decide +kernel
theorem dX11_init_167 : decode cX11_init 167 = .ok (.iconst 0, 1) := by decide +kernel
theorem dX11_init_168 : decode cX11_init 168 = .ok (.putfield 78, 3) := by decide +kernel
theorem dX11_init_171 : decode cX11_init 171 = .ok (.aload_n 0, 1) := by decide +kernel
theorem dX11_init_172 : decode cX11_init 172 = .ok (.iconst (-1), 1) := by decide +kernel
theorem dX11_init_173 : decode cX11_init 173 = .ok (.putfield 82, 3) := by decide +kernel
theorem dX11_init_176 : decode cX11_init 176 = .ok (.return_, 1) := by decide +kernel
def mi_X11_init : MI := (RX11, yX11_init, cX11_init, 2, none, [], { frames := 6, cells := 901, slots := 23881, locals := 122 })
theorem ok_X11_init : mOK mi_X11_init 0 := ⟨rfl, cw_X11_init, ini_X11, ⟨rfl, by decide⟩, by decide, by decide, rfl⟩
theorem v_X11_init_92 (this : Nat) (M : Mem) : V mi_X11_init 92 [(0, .ref this)] [] M 370 10867 (f_X11_init_92 this M) wV := by
  unfold f_X11_init_92
  refine V_aload_n dX11_init_92 rfl 0 rfl ?_
  refine V_iconst (x := 2) dX11_init_93 rfl rfl ?_
  refine V_newarray dX11_init_94 rfl (t := 3) (N := 2) (x := (2, .inl (fun _ => 0))) rfl ar_3 (by decide) rfl (Nat.le_of_ble_eq_true rfl) (fun _ _ => rfl) (fun _ _ h => h) ⟨(Nat.le_of_ble_eq_true rfl), (Nat.le_of_ble_eq_true rfl)⟩ (fun r21 => ?_)
  refine V_putFR dX11_init_96 rfl (ci := 10) (T := TX11) rfl (by decide) fl_X11_35_w rfl rfl rfl rfl (fun _ => rfl) (fun _ => rfl) (fun M22 => ?_)
  refine V_aload_n dX11_init_99 rfl 0 rfl ?_
  refine V_new dX11_init_100 rfl (ci := 2) (T := TX2) (N := 3) (fs := [.null, .int 0, .int 0]) (ty := tyX2) rfl cl_X11_39 ins_X2 ini_X2 tyX2_ok (fun _ j hj => match j, hj with | 0, _ => rfl | 1, _ => rfl | 2, _ => rfl | j + 3, h => absurd h (by omega)) ⟨(Nat.le_of_ble_eq_true rfl), (Nat.le_of_ble_eq_true rfl)⟩ (fun r23 => ?_)
  refine V_dup dX11_init_103 rfl rfl ?_
  refine V_cIwV (As := []) (k_X2_init r23 (mnew M22 (.inr (2, [.null, .int 0, .int 0])))) ok_X2_init im_X2_init ml_X11_41 ⟨⟨(Nat.le_of_ble_eq_true rfl), (Nat.le_of_ble_eq_true rfl)⟩, (Nat.le_of_ble_eq_true rfl), (Nat.le_of_ble_eq_true rfl)⟩ rfl rfl dX11_init_104 rfl rfl rfl (Nat.le_of_ble_eq_true rfl) rfl rfl (fun M25 => ?_)
  refine V_putFR dX11_init_107 rfl (ci := 10) (T := TX11) rfl (by decide) fl_X11_42_w rfl rfl rfl rfl (fun _ => rfl) (fun _ => rfl) (fun M26 => ?_)
  refine V_aload_n dX11_init_110 rfl 0 rfl ?_
  refine V_new dX11_init_111 rfl (ci := 3) (T := TX4) (N := 4) (fs := [.null, .null, .null, .null]) (ty := tyX4) rfl cl_X11_46 ins_X4 ini_X4 tyX4_ok (fun _ j hj => match j, hj with | 0, _ => rfl | 1, _ => rfl | 2, _ => rfl | 3, _ => rfl | j + 4, h => absurd h (by omega)) ⟨(Nat.le_of_ble_eq_true rfl), (Nat.le_of_ble_eq_true rfl)⟩ (fun r27 => ?_)
  refine V_dup dX11_init_114 rfl rfl ?_
  refine V_cIwV (As := []) (k_X4_init r27 (mnew M26 (.inr (3, [.null, .null, .null, .null])))) ok_X4_init im_X4_init ml_X11_48 ⟨⟨(Nat.le_of_ble_eq_true rfl), (Nat.le_of_ble_eq_true rfl)⟩, (Nat.le_of_ble_eq_true rfl), (Nat.le_of_ble_eq_true rfl)⟩ rfl rfl dX11_init_115 rfl rfl rfl (Nat.le_of_ble_eq_true rfl) rfl rfl (fun M29 => ?_)
  refine V_putFR dX11_init_118 rfl (ci := 10) (T := TX11) rfl (by decide) fl_X11_49_w rfl rfl rfl rfl (fun _ => rfl) (fun _ => rfl) (fun M30 => ?_)
  refine V_aload_n dX11_init_121 rfl 0 rfl ?_
  refine V_new dX11_init_122 rfl (ci := 9) (T := TX10) (N := 15) (fs := [.null, .null, .null, .null, .null, .null, .int 0, .int 0, .int 0, .int 0, .int 0, .long 0, .null, .int 0, .int 0]) (ty := tyX10) rfl cl_X11_53 ins_X10 ini_X10 tyX10_ok (fun _ j hj => match j, hj with | 0, _ => rfl | 1, _ => rfl | 2, _ => rfl | 3, _ => rfl | 4, _ => rfl | 5, _ => rfl | 6, _ => rfl | 7, _ => rfl | 8, _ => rfl | 9, _ => rfl | 10, _ => rfl | 11, _ => rfl | 12, _ => rfl | 13, _ => rfl | 14, _ => rfl | j + 15, h => absurd h (by omega)) ⟨(Nat.le_of_ble_eq_true rfl), (Nat.le_of_ble_eq_true rfl)⟩ (fun r31 => ?_)
  refine V_dup dX11_init_125 rfl rfl ?_
  refine V_aload_n dX11_init_126 rfl 0 rfl ?_
  refine V_getR dX11_init_127 rfl (ci := 10) (T := TX11) rfl (by decide) fl_X11_14 (fun x32 => ?_)
  refine V_cIwV (As := [.ref x32]) (k_X10_init r31 x32 (mnew M30 (.inr (9, [.null, .null, .null, .null, .null, .null, .int 0, .int 0, .int 0, .int 0, .int 0, .long 0, .null, .int 0, .int 0])))) ok_X10_init im_X10_init ml_X11_55 ⟨⟨(Nat.le_of_ble_eq_true rfl), (Nat.le_of_ble_eq_true rfl)⟩, (Nat.le_of_ble_eq_true rfl), (Nat.le_of_ble_eq_true rfl)⟩ rfl rfl dX11_init_130 rfl rfl rfl (Nat.le_of_ble_eq_true rfl) rfl rfl (fun M34 => ?_)
  refine V_putFR dX11_init_133 rfl (ci := 10) (T := TX11) rfl (by decide) fl_X11_58_w rfl rfl rfl rfl (fun _ => rfl) (fun _ => rfl) (fun M35 => ?_)
  refine V_aload_n dX11_init_136 rfl 0 rfl ?_
  refine V_new dX11_init_137 rfl (ci := 8) (T := TX9) (N := 3) (fs := [.null, .int 0, .int 0]) (ty := tyX9) rfl cl_X11_62 ins_X9 ini_X9 tyX9_ok (fun _ j hj => match j, hj with | 0, _ => rfl | 1, _ => rfl | 2, _ => rfl | j + 3, h => absurd h (by omega)) ⟨(Nat.le_of_ble_eq_true rfl), (Nat.le_of_ble_eq_true rfl)⟩ (fun r36 => ?_)
  refine V_dup dX11_init_140 rfl rfl ?_
  refine V_aload_n dX11_init_141 rfl 0 rfl ?_
  refine V_getR dX11_init_142 rfl (ci := 10) (T := TX11) rfl (by decide) fl_X11_58 (fun x37 => ?_)
  refine V_cIwV (As := [.ref x37]) (k_X9_init r36 x37 (mnew M35 (.inr (8, [.null, .int 0, .int 0])))) ok_X9_init im_X9_init ml_X11_64 ⟨⟨(Nat.le_of_ble_eq_true rfl), (Nat.le_of_ble_eq_true rfl)⟩, (Nat.le_of_ble_eq_true rfl), (Nat.le_of_ble_eq_true rfl)⟩ rfl rfl dX11_init_145 rfl rfl rfl (Nat.le_of_ble_eq_true rfl) rfl rfl (fun M39 => ?_)
  refine V_putFR dX11_init_148 rfl (ci := 10) (T := TX11) rfl (by decide) fl_X11_67_w rfl rfl rfl rfl (fun _ => rfl) (fun _ => rfl) (fun M40 => ?_)
  refine V_aload_n dX11_init_151 rfl 0 rfl ?_
  refine V_new dX11_init_152 rfl (ci := 5) (T := TX6) (N := 1) (fs := [.null]) (ty := tyX6) rfl cl_X11_71 ins_X6 ini_X6 tyX6_ok (fun _ j hj => match j, hj with | 0, _ => rfl | j + 1, h => absurd h (by omega)) ⟨(Nat.le_of_ble_eq_true rfl), (Nat.le_of_ble_eq_true rfl)⟩ (fun r41 => ?_)
  refine V_dup dX11_init_155 rfl rfl ?_
  refine V_aload_n dX11_init_156 rfl 0 rfl ?_
  refine V_getR dX11_init_157 rfl (ci := 10) (T := TX11) rfl (by decide) fl_X11_58 (fun x42 => ?_)
  refine V_cIwV (As := [.ref x42]) (k_X6_init r41 x42 (mnew M40 (.inr (5, [.null])))) ok_X6_init im_X6_init ml_X11_73 ⟨⟨(Nat.le_of_ble_eq_true rfl), (Nat.le_of_ble_eq_true rfl)⟩, (Nat.le_of_ble_eq_true rfl), (Nat.le_of_ble_eq_true rfl)⟩ rfl rfl dX11_init_160 rfl rfl rfl (Nat.le_of_ble_eq_true rfl) rfl rfl (fun M44 => ?_)
  refine V_putFR dX11_init_163 rfl (ci := 10) (T := TX11) rfl (by decide) fl_X11_74_w rfl rfl rfl rfl (fun _ => rfl) (fun _ => rfl) (fun M45 => ?_)
  refine V_aload_n dX11_init_166 rfl 0 rfl ?_
  refine V_iconst (x := 0) dX11_init_167 rfl rfl ?_
  refine V_putI dX11_init_168 rfl (ci := 10) (T := TX11) rfl (by decide) fl_X11_78 rfl rfl (fun M46 => ?_)
  refine V_aload_n dX11_init_171 rfl 0 rfl ?_
  refine V_iconst (x := (-1)) dX11_init_172 rfl rfl ?_
  refine V_putI dX11_init_173 rfl (ci := 10) (T := TX11) rfl (by decide) fl_X11_82 rfl rfl (fun M47 => ?_)
  exact V_vret dX11_init_176 rfl rfl ⟨(Nat.le_of_ble_eq_true rfl), (Nat.le_of_ble_eq_true rfl)⟩
theorem v_X11_init (this : Nat) (M : Mem) : V mi_X11_init 0 [(0, .ref this)] [] M 0 0 (f_X11_init this M) wV := by
  unfold f_X11_init
  refine V_ob fun _ _ => ?_
  refine V_aload_n dX11_init_0 rfl 0 rfl ?_
  refine V_objInit ml_X11_3 dX11_init_1 rfl ⟨(Nat.le_of_ble_eq_true rfl), (Nat.le_of_ble_eq_true rfl)⟩ ?_
  refine V_aload_n dX11_init_4 rfl 0 rfl ?_
  refine V_new dX11_init_5 rfl (ci := 1) (T := TX1) (N := 2) (fs := [.null, .int 0]) (ty := tyX1) rfl cl_X11_9 ins_X1 ini_X1 tyX1_ok (fun _ j hj => match j, hj with | 0, _ => rfl | 1, _ => rfl | j + 2, h => absurd h (by omega)) ⟨(Nat.le_of_ble_eq_true rfl), (Nat.le_of_ble_eq_true rfl)⟩ (fun r1 => ?_)
  refine V_dup dX11_init_8 rfl rfl ?_
  refine V_sipush (x := 700) dX11_init_9 rfl rfl ?_
  refine V_cIwV (As := [.int 700]) (k_X1_init_700 r1 (mnew M (.inr (1, [.null, .int 0])))) ok_X1_init_700 im_X1_init ml_X11_11 ⟨⟨(Nat.le_of_ble_eq_true rfl), (Nat.le_of_ble_eq_true rfl)⟩, (Nat.le_of_ble_eq_true rfl), (Nat.le_of_ble_eq_true rfl)⟩ rfl rfl dX11_init_12 rfl rfl rfl (Nat.le_of_ble_eq_true rfl) rfl rfl (fun M3 => ?_)
  refine V_putFR dX11_init_15 rfl (ci := 10) (T := TX11) rfl (by decide) fl_X11_14_w rfl rfl rfl rfl (fun _ => rfl) (fun _ => rfl) (fun M4 => ?_)
  refine V_aload_n dX11_init_18 rfl 0 rfl ?_
  refine V_new dX11_init_19 rfl (ci := 1) (T := TX1) (N := 2) (fs := [.null, .int 0]) (ty := tyX1) rfl cl_X11_9 ins_X1 ini_X1 tyX1_ok (fun _ j hj => match j, hj with | 0, _ => rfl | 1, _ => rfl | j + 2, h => absurd h (by omega)) ⟨(Nat.le_of_ble_eq_true rfl), (Nat.le_of_ble_eq_true rfl)⟩ (fun r5 => ?_)
  refine V_dup dX11_init_22 rfl rfl ?_
  refine V_sipush (x := 4096) dX11_init_23 rfl rfl ?_
  refine V_cIwV (As := [.int 4096]) (k_X1_init_4096 r5 (mnew M4 (.inr (1, [.null, .int 0])))) ok_X1_init_4096 im_X1_init ml_X11_11 ⟨⟨(Nat.le_of_ble_eq_true rfl), (Nat.le_of_ble_eq_true rfl)⟩, (Nat.le_of_ble_eq_true rfl), (Nat.le_of_ble_eq_true rfl)⟩ rfl rfl dX11_init_26 rfl rfl rfl (Nat.le_of_ble_eq_true rfl) rfl rfl (fun M7 => ?_)
  refine V_putFR dX11_init_29 rfl (ci := 10) (T := TX11) rfl (by decide) fl_X11_18_w rfl rfl rfl rfl (fun _ => rfl) (fun _ => rfl) (fun M8 => ?_)
  refine V_aload_n dX11_init_32 rfl 0 rfl ?_
  refine V_new dX11_init_33 rfl (ci := 7) (T := TX8) (N := 6) (fs := [.int 0, .int 0, .int 0, .null, .null, .null]) (ty := tyX8) rfl cl_X11_21 ins_X8 ini_X8 tyX8_ok (fun _ j hj => match j, hj with | 0, _ => rfl | 1, _ => rfl | 2, _ => rfl | 3, _ => rfl | 4, _ => rfl | 5, _ => rfl | j + 6, h => absurd h (by omega)) ⟨(Nat.le_of_ble_eq_true rfl), (Nat.le_of_ble_eq_true rfl)⟩ (fun r9 => ?_)
  refine V_dup dX11_init_36 rfl rfl ?_
  refine V_cIwV (As := []) (k_X8_init r9 (mnew M8 (.inr (7, [.int 0, .int 0, .int 0, .null, .null, .null])))) ok_X8_init im_X8_init ml_X11_23 ⟨⟨(Nat.le_of_ble_eq_true rfl), (Nat.le_of_ble_eq_true rfl)⟩, (Nat.le_of_ble_eq_true rfl), (Nat.le_of_ble_eq_true rfl)⟩ rfl rfl dX11_init_37 rfl rfl rfl (Nat.le_of_ble_eq_true rfl) rfl rfl (fun M11 => ?_)
  refine V_putFR dX11_init_40 rfl (ci := 10) (T := TX11) rfl (by decide) fl_X11_24_w rfl rfl rfl rfl (fun _ => rfl) (fun _ => rfl) (fun M12 => ?_)
  refine V_aload_n dX11_init_43 rfl 0 rfl ?_
  refine V_new dX11_init_44 rfl (ci := 7) (T := TX8) (N := 6) (fs := [.int 0, .int 0, .int 0, .null, .null, .null]) (ty := tyX8) rfl cl_X11_21 ins_X8 ini_X8 tyX8_ok (fun _ j hj => match j, hj with | 0, _ => rfl | 1, _ => rfl | 2, _ => rfl | 3, _ => rfl | 4, _ => rfl | 5, _ => rfl | j + 6, h => absurd h (by omega)) ⟨(Nat.le_of_ble_eq_true rfl), (Nat.le_of_ble_eq_true rfl)⟩ (fun r13 => ?_)
  refine V_dup dX11_init_47 rfl rfl ?_
  refine V_cIwV (As := []) (k_X8_init r13 (mnew M12 (.inr (7, [.int 0, .int 0, .int 0, .null, .null, .null])))) ok_X8_init im_X8_init ml_X11_23 ⟨⟨(Nat.le_of_ble_eq_true rfl), (Nat.le_of_ble_eq_true rfl)⟩, (Nat.le_of_ble_eq_true rfl), (Nat.le_of_ble_eq_true rfl)⟩ rfl rfl dX11_init_48 rfl rfl rfl (Nat.le_of_ble_eq_true rfl) rfl rfl (fun M15 => ?_)
  refine V_putFR dX11_init_51 rfl (ci := 10) (T := TX11) rfl (by decide) fl_X11_28_w rfl rfl rfl rfl (fun _ => rfl) (fun _ => rfl) (fun M16 => ?_)
  refine V_aload_n dX11_init_54 rfl 0 rfl ?_
  refine V_iconst (x := 2) dX11_init_55 rfl rfl ?_
  refine V_anewarray dX11_init_56 rfl (t := 7) (N := 2) rfl cl_X11_21 ao_7 (by decide) rfl (Nat.le_of_ble_eq_true rfl) ⟨(Nat.le_of_ble_eq_true rfl), (Nat.le_of_ble_eq_true rfl)⟩ (fun r17 => ?_)
  refine V_putFR dX11_init_59 rfl (ci := 10) (T := TX11) rfl (by decide) fl_X11_31_w rfl rfl rfl rfl (fun _ => rfl) (fun _ => rfl) (fun M18 => ?_)
  refine V_iconst (x := 0) dX11_init_62 rfl rfl ?_
  refine V_istore_n (L' := [(0, .ref this), (1, .int 0)]) dX11_init_63 rfl (by decide) rfl ?_
  refine V_iload_n dX11_init_64 rfl 1 rfl ?_
  refine V_aload_n dX11_init_65 rfl 0 rfl ?_
  refine V_getR dX11_init_66 rfl (ci := 10) (T := TX11) rfl (by decide) fl_X11_31 (fun x19 => ?_)
  refine V_arraylength dX11_init_69 rfl (fun x20 => ?_)
  refine V_icmp_ge (q := 92) (q2 := 73) dX11_init_70 (by decide) rfl ?_ ?_
  · exact V_sub [0] rfl (V_w (Nat.le_of_ble_eq_true rfl) (Nat.le_of_ble_eq_true rfl) (v_X11_init_92 this M18))
  · refine V_aload_n dX11_init_73 rfl 0 rfl ?_
    refine V_getR dX11_init_74 rfl (ci := 10) (T := TX11) rfl (by decide) fl_X11_31 (fun x48 => ?_)
    refine V_iload_n dX11_init_77 rfl 1 rfl ?_
    refine V_new dX11_init_78 rfl (ci := 7) (T := TX8) (N := 6) (fs := [.int 0, .int 0, .int 0, .null, .null, .null]) (ty := tyX8) rfl cl_X11_21 ins_X8 ini_X8 tyX8_ok (fun _ j hj => match j, hj with | 0, _ => rfl | 1, _ => rfl | 2, _ => rfl | 3, _ => rfl | 4, _ => rfl | 5, _ => rfl | j + 6, h => absurd h (by omega)) ⟨(Nat.le_of_ble_eq_true rfl), (Nat.le_of_ble_eq_true rfl)⟩ (fun r49 => ?_)
    refine V_dup dX11_init_81 rfl rfl ?_
    refine V_cIwV (As := []) (k_X8_init r49 (mnew M18 (.inr (7, [.int 0, .int 0, .int 0, .null, .null, .null])))) ok_X8_init im_X8_init ml_X11_23 ⟨⟨(Nat.le_of_ble_eq_true rfl), (Nat.le_of_ble_eq_true rfl)⟩, (Nat.le_of_ble_eq_true rfl), (Nat.le_of_ble_eq_true rfl)⟩ rfl rfl dX11_init_82 rfl rfl rfl (Nat.le_of_ble_eq_true rfl) rfl rfl (fun M51 => ?_)
    refine V_aastore dX11_init_85 rfl rfl (ci := 7) rfl (fun M52 => ?_)
    refine V_iinc (y := (0 + 1)) (L' := [(0, .ref this), (1, .int (0 + 1))]) dX11_init_86 rfl 1 rfl rfl (by decide) rfl ?_
    refine V_goto (q := 64) dX11_init_89 (by decide) ?_
    refine V_iload_n dX11_init_64 rfl 1 rfl ?_
    refine V_aload_n dX11_init_65 rfl 0 rfl ?_
    refine V_getR dX11_init_66 rfl (ci := 10) (T := TX11) rfl (by decide) fl_X11_31 (fun x53 => ?_)
    refine V_arraylength dX11_init_69 rfl (fun x54 => ?_)
    refine V_icmp_ge (q := 92) (q2 := 73) dX11_init_70 (by decide) rfl ?_ ?_
    · exact V_sub [0] rfl (V_w (Nat.le_of_ble_eq_true rfl) (Nat.le_of_ble_eq_true rfl) (v_X11_init_92 this M52))
    · refine V_aload_n dX11_init_73 rfl 0 rfl ?_
      refine V_getR dX11_init_74 rfl (ci := 10) (T := TX11) rfl (by decide) fl_X11_31 (fun x55 => ?_)
      refine V_iload_n dX11_init_77 rfl 1 rfl ?_
      refine V_new dX11_init_78 rfl (ci := 7) (T := TX8) (N := 6) (fs := [.int 0, .int 0, .int 0, .null, .null, .null]) (ty := tyX8) rfl cl_X11_21 ins_X8 ini_X8 tyX8_ok (fun _ j hj => match j, hj with | 0, _ => rfl | 1, _ => rfl | 2, _ => rfl | 3, _ => rfl | 4, _ => rfl | 5, _ => rfl | j + 6, h => absurd h (by omega)) ⟨(Nat.le_of_ble_eq_true rfl), (Nat.le_of_ble_eq_true rfl)⟩ (fun r56 => ?_)
      refine V_dup dX11_init_81 rfl rfl ?_
      refine V_cIwV (As := []) (k_X8_init r56 (mnew M52 (.inr (7, [.int 0, .int 0, .int 0, .null, .null, .null])))) ok_X8_init im_X8_init ml_X11_23 ⟨⟨(Nat.le_of_ble_eq_true rfl), (Nat.le_of_ble_eq_true rfl)⟩, (Nat.le_of_ble_eq_true rfl), (Nat.le_of_ble_eq_true rfl)⟩ rfl rfl dX11_init_82 rfl rfl rfl (Nat.le_of_ble_eq_true rfl) rfl rfl (fun M58 => ?_)
      refine V_aastore dX11_init_85 rfl rfl (ci := 7) rfl (fun M59 => ?_)
      refine V_iinc (y := ((0 + 1) + 1)) (L' := [(0, .ref this), (1, .int ((0 + 1) + 1))]) dX11_init_86 rfl 1 rfl rfl (by decide) rfl ?_
      refine V_goto (q := 64) dX11_init_89 (by decide) ?_
      refine V_iload_n dX11_init_64 rfl 1 rfl ?_
      refine V_aload_n dX11_init_65 rfl 0 rfl ?_
      refine V_getR dX11_init_66 rfl (ci := 10) (T := TX11) rfl (by decide) fl_X11_31 (fun x60 => ?_)
      refine V_arraylength dX11_init_69 rfl (fun x61 => ?_)
      refine V_icmp_ge (q := 92) (q2 := 73) dX11_init_70 (by decide) rfl ?_ ?_
      · exact V_sub [0] rfl (V_w (Nat.le_of_ble_eq_true rfl) (Nat.le_of_ble_eq_true rfl) (v_X11_init_92 this M59))
      · refine V_aload_n dX11_init_73 rfl 0 rfl ?_
        refine V_getR dX11_init_74 rfl (ci := 10) (T := TX11) rfl (by decide) fl_X11_31 (fun x62 => ?_)
        refine V_iload_n dX11_init_77 rfl 1 rfl ?_
        refine V_new dX11_init_78 rfl (ci := 7) (T := TX8) (N := 6) (fs := [.int 0, .int 0, .int 0, .null, .null, .null]) (ty := tyX8) rfl cl_X11_21 ins_X8 ini_X8 tyX8_ok (fun _ j hj => match j, hj with | 0, _ => rfl | 1, _ => rfl | 2, _ => rfl | 3, _ => rfl | 4, _ => rfl | 5, _ => rfl | j + 6, h => absurd h (by omega)) ⟨(Nat.le_of_ble_eq_true rfl), (Nat.le_of_ble_eq_true rfl)⟩ (fun r63 => ?_)
        refine V_dup dX11_init_81 rfl rfl ?_
        refine V_cIwV (As := []) (k_X8_init r63 (mnew M59 (.inr (7, [.int 0, .int 0, .int 0, .null, .null, .null])))) ok_X8_init im_X8_init ml_X11_23 ⟨⟨(Nat.le_of_ble_eq_true rfl), (Nat.le_of_ble_eq_true rfl)⟩, (Nat.le_of_ble_eq_true rfl), (Nat.le_of_ble_eq_true rfl)⟩ rfl rfl dX11_init_82 rfl rfl rfl (Nat.le_of_ble_eq_true rfl) rfl rfl (fun M65 => ?_)
        refine V_aastore dX11_init_85 rfl rfl (ci := 7) rfl (fun M66 => ?_)
        refine V_iinc (y := (((0 + 1) + 1) + 1)) (L' := [(0, .ref this), (1, .int (((0 + 1) + 1) + 1))]) dX11_init_86 rfl 1 rfl rfl (by decide) rfl ?_
        refine V_goto (q := 64) dX11_init_89 (by decide) ?_
        exact V_none
theorem k_X11_init (this : Nat) (M : Mem) : K mi_X11_init [.ref this] M (f_X11_init this M) wV := K_of_V ok_X11_init (Nat.le_of_ble_eq_true rfl) (v_X11_init this M)
theorem o_X11_init {this : Nat} {M : Mem} {x} (h : f_X11_init this M = some x) : isO M 10 this = true := (ob_of h).1
theorem dX11_append_0 : decode cX11_append 0 = .ok (.aload_n 0, 1) := by decide +kernel
theorem dX11_append_1 : decode cX11_append 1 = .ok (.getfield 14, 3) := by decide +kernel
theorem dX11_append_4 : decode cX11_append 4 = .ok (.invokevirtual 85, 3) := by decide +kernel
theorem dX11_append_7 : decode cX11_append 7 = .ok (.bipush 20, 2) := by decide +kernel
theorem dX11_append_9 : decode cX11_append 9 = .ok (.iadd, 1) := by decide +kernel
theorem dX11_append_10 : decode cX11_append 10 = .ok (.sipush 700, 3) := by decide +kernel
theorem dX11_append_13 : decode cX11_append 13 = .ok (.if_icmp .le 13, 3) := by decide +kernel
theorem dX11_append_16 : decode cX11_append 16 = .ok (.new 89, 3) := by decide +kernel
theorem dX11_append_19 : decode cX11_append 19 = .ok (.dup, 1) := by decide +kernel
theorem dX11_append_20 : decode cX11_append 20 = .ok (.ldc 91, 2) := by decide +kernel
theorem dX11_append_22 : decode cX11_append 22 = .ok (.invokespecial 93, 3) := by decide +kernel
theorem dX11_append_25 : decode cX11_append 25 = .ok (.athrow, 1) := by decide +kernel
theorem dX11_append_26 : decode cX11_append 26 = .ok (.aload_n 0, 1) := by decide +kernel
theorem dX11_append_27 : decode cX11_append 27 = .ok (.getfield 14, 3) := by decide +kernel
theorem dX11_append_30 : decode cX11_append 30 = .ok (.iload_n 1, 1) := by decide +kernel
theorem dX11_append_31 : decode cX11_append 31 = .ok (.invokevirtual 96, 3) := by decide +kernel
theorem dX11_append_34 : decode cX11_append 34 = .ok (.aload_n 0, 1) := by decide +kernel
theorem dX11_append_35 : decode cX11_append 35 = .ok (.getfield 14, 3) := by decide +kernel
theorem dX11_append_38 : decode cX11_append 38 = .ok (.iload_n 2, 1) := by decide +kernel
theorem dX11_append_39 : decode cX11_append 39 = .ok (.invokevirtual 96, 3) := by decide +kernel
theorem dX11_append_42 : decode cX11_append 42 = .ok (.aload_n 0, 1) := by decide +kernel
theorem dX11_append_43 : decode cX11_append 43 = .ok (.getfield 14, 3) := by decide +kernel
theorem dX11_append_46 : decode cX11_append 46 = .ok (.iload_n 3, 1) := by decide +kernel
theorem dX11_append_47 : decode cX11_append 47 = .ok (.invokevirtual 96, 3) := by decide +kernel
theorem dX11_append_50 : decode cX11_append 50 = .ok (.aload_n 0, 1) := by decide +kernel
theorem dX11_append_51 : decode cX11_append 51 = .ok (.getfield 14, 3) := by decide +kernel
theorem dX11_append_54 : decode cX11_append 54 = .ok (.iload 4, 2) := by decide +kernel
theorem dX11_append_56 : decode cX11_append 56 = .ok (.invokevirtual 96, 3) := by decide +kernel
theorem dX11_append_59 : decode cX11_append 59 = .ok (.aload_n 0, 1) := by decide +kernel
theorem dX11_append_60 : decode cX11_append 60 = .ok (.getfield 14, 3) := by decide +kernel
theorem dX11_append_63 : decode cX11_append 63 = .ok (.iload 5, 2) := by decide +kernel
theorem dX11_append_65 : decode cX11_append 65 = .ok (.invokevirtual 96, 3) := by decide +kernel
theorem dX11_append_68 : decode cX11_append 68 = .ok (.aload_n 0, 1) := by decide +kernel
theorem dX11_append_69 : decode cX11_append 69 = .ok (.getfield 14, 3) := by decide +kernel
theorem dX11_append_72 : decode cX11_append 72 = .ok (.invokevirtual 85, 3) := by decide +kernel
theorem dX11_append_75 : decode cX11_append 75 = .ok (.ireturn, 1) := by decide +kernel
def mi_X11_append : MI := (RX11, yX11_append, cX11_append, 6, some .int, [], { frames := 8, cells := 1, slots := 6, locals := 120 })
theorem ok_X11_append : mOK mi_X11_append 5 := ⟨rfl, cw_X11_append, ini_X11, ⟨rfl, by decide⟩, by decide, by decide, rfl⟩
theorem v_X11_append (this : Nat) (a1 : Int32) (a2 : Int32) (a3 : Int32) (a4 : Int32) (a5 : Int32) (M : Mem) : V mi_X11_append 0 [(0, .ref this), (1, .int a1), (2, .int a2), (3, .int a3), (4, .int a4), (5, .int a5)] [] M 0 0 (f_X11_append this a1 a2 a3 a4 a5 M) tI := by
  unfold f_X11_append
  refine V_ob fun _ _ => ?_
  refine V_aload_n dX11_append_0 rfl 0 rfl ?_
  refine V_getR dX11_append_1 rfl (ci := 10) (T := TX11) rfl (by decide) fl_X11_14 (fun x1 => ?_)
  refine V_cVeI (As := []) (k_X1_size x1 M) (fun _ h => o_X1_size h) ok_X1_size im_X1_size se_X1_size rfl (ci := 1) rfl ml_X11_85 ⟨⟨(Nat.le_of_ble_eq_true rfl), (Nat.le_of_ble_eq_true rfl)⟩, (Nat.le_of_ble_eq_true rfl), (Nat.le_of_ble_eq_true rfl)⟩ dX11_append_4 rfl rfl rfl (Nat.le_of_ble_eq_true rfl) rfl rfl (fun x2 => ?_)
  refine V_bipush (x := 20) dX11_append_7 rfl rfl ?_
  refine V_iadd dX11_append_9 rfl ?_
  refine V_sipush (x := 700) dX11_append_10 rfl rfl ?_
  refine V_icmp_le (q := 26) (q2 := 16) dX11_append_13 (by decide) rfl ?_ ?_
  · refine V_aload_n dX11_append_26 rfl 0 rfl ?_
    refine V_getR dX11_append_27 rfl (ci := 10) (T := TX11) rfl (by decide) fl_X11_14 (fun x3 => ?_)
    refine V_iload_n dX11_append_30 rfl 1 rfl ?_
    refine V_cVwV (As := [.int a1]) (k_X1_addFour x3 a1 M) (fun _ h => o_X1_addFour h) ok_X1_addFour im_X1_addFour se_X1_addFour rfl (ci := 1) rfl ml_X11_96 ⟨⟨(Nat.le_of_ble_eq_true rfl), (Nat.le_of_ble_eq_true rfl)⟩, (Nat.le_of_ble_eq_true rfl), (Nat.le_of_ble_eq_true rfl)⟩ dX11_append_31 rfl rfl rfl (Nat.le_of_ble_eq_true rfl) rfl rfl (fun M5 => ?_)
    refine V_aload_n dX11_append_34 rfl 0 rfl ?_
    refine V_getR dX11_append_35 rfl (ci := 10) (T := TX11) rfl (by decide) fl_X11_14 (fun x6 => ?_)
    refine V_iload_n dX11_append_38 rfl 2 rfl ?_
    refine V_cVwV (As := [.int a2]) (k_X1_addFour x6 a2 M5) (fun _ h => o_X1_addFour h) ok_X1_addFour im_X1_addFour se_X1_addFour rfl (ci := 1) rfl ml_X11_96 ⟨⟨(Nat.le_of_ble_eq_true rfl), (Nat.le_of_ble_eq_true rfl)⟩, (Nat.le_of_ble_eq_true rfl), (Nat.le_of_ble_eq_true rfl)⟩ dX11_append_39 rfl rfl rfl (Nat.le_of_ble_eq_true rfl) rfl rfl (fun M8 => ?_)
    refine V_aload_n dX11_append_42 rfl 0 rfl ?_
    refine V_getR dX11_append_43 rfl (ci := 10) (T := TX11) rfl (by decide) fl_X11_14 (fun x9 => ?_)
    refine V_iload_n dX11_append_46 rfl 3 rfl ?_
    refine V_cVwV (As := [.int a3]) (k_X1_addFour x9 a3 M8) (fun _ h => o_X1_addFour h) ok_X1_addFour im_X1_addFour se_X1_addFour rfl (ci := 1) rfl ml_X11_96 ⟨⟨(Nat.le_of_ble_eq_true rfl), (Nat.le_of_ble_eq_true rfl)⟩, (Nat.le_of_ble_eq_true rfl), (Nat.le_of_ble_eq_true rfl)⟩ dX11_append_47 rfl rfl rfl (Nat.le_of_ble_eq_true rfl) rfl rfl (fun M11 => ?_)
    refine V_aload_n dX11_append_50 rfl 0 rfl ?_
    refine V_getR dX11_append_51 rfl (ci := 10) (T := TX11) rfl (by decide) fl_X11_14 (fun x12 => ?_)
    refine V_iload dX11_append_54 rfl 4 rfl ?_
    refine V_cVwV (As := [.int a4]) (k_X1_addFour x12 a4 M11) (fun _ h => o_X1_addFour h) ok_X1_addFour im_X1_addFour se_X1_addFour rfl (ci := 1) rfl ml_X11_96 ⟨⟨(Nat.le_of_ble_eq_true rfl), (Nat.le_of_ble_eq_true rfl)⟩, (Nat.le_of_ble_eq_true rfl), (Nat.le_of_ble_eq_true rfl)⟩ dX11_append_56 rfl rfl rfl (Nat.le_of_ble_eq_true rfl) rfl rfl (fun M14 => ?_)
    refine V_aload_n dX11_append_59 rfl 0 rfl ?_
    refine V_getR dX11_append_60 rfl (ci := 10) (T := TX11) rfl (by decide) fl_X11_14 (fun x15 => ?_)
    refine V_iload dX11_append_63 rfl 5 rfl ?_
    refine V_cVwV (As := [.int a5]) (k_X1_addFour x15 a5 M14) (fun _ h => o_X1_addFour h) ok_X1_addFour im_X1_addFour se_X1_addFour rfl (ci := 1) rfl ml_X11_96 ⟨⟨(Nat.le_of_ble_eq_true rfl), (Nat.le_of_ble_eq_true rfl)⟩, (Nat.le_of_ble_eq_true rfl), (Nat.le_of_ble_eq_true rfl)⟩ dX11_append_65 rfl rfl rfl (Nat.le_of_ble_eq_true rfl) rfl rfl (fun M17 => ?_)
    refine V_aload_n dX11_append_68 rfl 0 rfl ?_
    refine V_getR dX11_append_69 rfl (ci := 10) (T := TX11) rfl (by decide) fl_X11_14 (fun x18 => ?_)
    refine V_cVeI (As := []) (k_X1_size x18 M17) (fun _ h => o_X1_size h) ok_X1_size im_X1_size se_X1_size rfl (ci := 1) rfl ml_X11_85 ⟨⟨(Nat.le_of_ble_eq_true rfl), (Nat.le_of_ble_eq_true rfl)⟩, (Nat.le_of_ble_eq_true rfl), (Nat.le_of_ble_eq_true rfl)⟩ dX11_append_72 rfl rfl rfl (Nat.le_of_ble_eq_true rfl) rfl rfl (fun x19 => ?_)
    exact V_iret dX11_append_75 rfl rfl ⟨(Nat.le_of_ble_eq_true rfl), (Nat.le_of_ble_eq_true rfl)⟩
  · exact V_throw th_X11_89_93 sr_X11_91 rfl dX11_append_16 dX11_append_19 dX11_append_20 dX11_append_22 dX11_append_25 ⟨(Nat.le_of_ble_eq_true rfl), (Nat.le_of_ble_eq_true rfl)⟩ ⟨(Nat.le_of_ble_eq_true rfl), (Nat.le_of_ble_eq_true rfl)⟩ rfl
theorem k_X11_append (this : Nat) (a1 : Int32) (a2 : Int32) (a3 : Int32) (a4 : Int32) (a5 : Int32) (M : Mem) : K mi_X11_append [.ref this, .int a1, .int a2, .int a3, .int a4, .int a5] M (f_X11_append this a1 a2 a3 a4 a5 M) tI := K_of_V ok_X11_append (Nat.le_of_ble_eq_true rfl) (v_X11_append this a1 a2 a3 a4 a5 M)
theorem o_X11_append {this : Nat} {a1 : Int32} {a2 : Int32} {a3 : Int32} {a4 : Int32} {a5 : Int32} {M : Mem} {x} (h : f_X11_append this a1 a2 a3 a4 a5 M = some x) : isO M 10 this = true := (ob_of h).1
theorem dX11_truncate_0 : decode cX11_truncate 0 = .ok (.iload_n 1, 1) := by decide +kernel
theorem dX11_truncate_1 : decode cX11_truncate 1 = .ok (.ifCond .lt 14, 3) := by decide +kernel
theorem dX11_truncate_4 : decode cX11_truncate 4 = .ok (.iload_n 1, 1) := by decide +kernel
theorem dX11_truncate_5 : decode cX11_truncate 5 = .ok (.aload_n 0, 1) := by decide +kernel
theorem dX11_truncate_6 : decode cX11_truncate 6 = .ok (.getfield 14, 3) := by decide +kernel
theorem dX11_truncate_9 : decode cX11_truncate 9 = .ok (.invokevirtual 85, 3) := by decide +kernel
theorem dX11_truncate_12 : decode cX11_truncate 12 = .ok (.if_icmp .le 13, 3) := by decide +kernel
theorem dX11_truncate_15 : decode cX11_truncate 15 = .ok (.new 99, 3) := by decide +kernel
theorem dX11_truncate_18 : decode cX11_truncate 18 = .ok (.dup, 1) := by decide +kernel
theorem dX11_truncate_19 : decode cX11_truncate 19 = .ok (.ldc 101, 2) := by decide +kernel
theorem dX11_truncate_21 : decode cX11_truncate 21 = .ok (.invokespecial 103, 3) := by decide +kernel
theorem dX11_truncate_24 : decode cX11_truncate 24 = .ok (.athrow, 1) := by decide +kernel
theorem dX11_truncate_25 : decode cX11_truncate 25 = .ok (.aload_n 0, 1) := by decide +kernel
theorem dX11_truncate_26 : decode cX11_truncate 26 = .ok (.getfield 14, 3) := by decide +kernel
theorem dX11_truncate_29 : decode cX11_truncate 29 = .ok (.iload_n 1, 1) := by decide +kernel
theorem dX11_truncate_30 : decode cX11_truncate 30 = .ok (.invokevirtual 104, 3) := by decide +kernel
theorem dX11_truncate_33 : decode cX11_truncate 33 = .ok (.return_, 1) := by decide +kernel
def mi_X11_truncate : MI := (RX11, yX11_truncate, cX11_truncate, 2, none, [], { frames := 8, cells := 1, slots := 6, locals := 120 })
theorem ok_X11_truncate : mOK mi_X11_truncate 1 := ⟨rfl, cw_X11_truncate, ini_X11, ⟨rfl, by decide⟩, by decide, by decide, rfl⟩
theorem v_X11_truncate_15 (M : Mem) : V mi_X11_truncate 15 [] [] M 0 0 (f_X11_truncate_15 M) tV := by
  unfold f_X11_truncate_15
  exact V_throw th_X11_99_103 sr_X11_101 rfl dX11_truncate_15 dX11_truncate_18 dX11_truncate_19 dX11_truncate_21 dX11_truncate_24 ⟨(Nat.le_of_ble_eq_true rfl), (Nat.le_of_ble_eq_true rfl)⟩ ⟨(Nat.le_of_ble_eq_true rfl), (Nat.le_of_ble_eq_true rfl)⟩ rfl
theorem v_X11_truncate (this : Nat) (a1 : Int32) (M : Mem) : V mi_X11_truncate 0 [(0, .ref this), (1, .int a1)] [] M 0 0 (f_X11_truncate this a1 M) tV := by
  unfold f_X11_truncate
  refine V_ob fun _ _ => ?_
  refine V_iload_n dX11_truncate_0 rfl 1 rfl ?_
  refine V_if_lt (q := 15) (q2 := 4) dX11_truncate_1 (by decide) rfl ?_ ?_
  · exact V_sub [] rfl (v_X11_truncate_15 M)
  · refine V_iload_n dX11_truncate_4 rfl 1 rfl ?_
    refine V_aload_n dX11_truncate_5 rfl 0 rfl ?_
    refine V_getR dX11_truncate_6 rfl (ci := 10) (T := TX11) rfl (by decide) fl_X11_14 (fun x1 => ?_)
    refine V_cVeI (As := []) (k_X1_size x1 M) (fun _ h => o_X1_size h) ok_X1_size im_X1_size se_X1_size rfl (ci := 1) rfl ml_X11_85 ⟨⟨(Nat.le_of_ble_eq_true rfl), (Nat.le_of_ble_eq_true rfl)⟩, (Nat.le_of_ble_eq_true rfl), (Nat.le_of_ble_eq_true rfl)⟩ dX11_truncate_9 rfl rfl rfl (Nat.le_of_ble_eq_true rfl) rfl rfl (fun x2 => ?_)
    refine V_icmp_le (q := 25) (q2 := 15) dX11_truncate_12 (by decide) rfl ?_ ?_
    · refine V_aload_n dX11_truncate_25 rfl 0 rfl ?_
      refine V_getR dX11_truncate_26 rfl (ci := 10) (T := TX11) rfl (by decide) fl_X11_14 (fun x3 => ?_)
      refine V_iload_n dX11_truncate_29 rfl 1 rfl ?_
      refine V_cVwV (As := [.int a1]) (k_X1_cutTo x3 a1 M) (fun _ h => o_X1_cutTo h) ok_X1_cutTo im_X1_cutTo se_X1_cutTo rfl (ci := 1) rfl ml_X11_104 ⟨⟨(Nat.le_of_ble_eq_true rfl), (Nat.le_of_ble_eq_true rfl)⟩, (Nat.le_of_ble_eq_true rfl), (Nat.le_of_ble_eq_true rfl)⟩ dX11_truncate_30 rfl rfl rfl (Nat.le_of_ble_eq_true rfl) rfl rfl (fun M5 => ?_)
      exact V_vret dX11_truncate_33 rfl rfl ⟨(Nat.le_of_ble_eq_true rfl), (Nat.le_of_ble_eq_true rfl)⟩
    · exact V_sub [] rfl (v_X11_truncate_15 M)
theorem k_X11_truncate (this : Nat) (a1 : Int32) (M : Mem) : K mi_X11_truncate [.ref this, .int a1] M (f_X11_truncate this a1 M) tV := K_of_V ok_X11_truncate (Nat.le_of_ble_eq_true rfl) (v_X11_truncate this a1 M)
theorem o_X11_truncate {this : Nat} {a1 : Int32} {M : Mem} {x} (h : f_X11_truncate this a1 M = some x) : isO M 10 this = true := (ob_of h).1
theorem dX11_finishReading_0 : decode cX11_finishReading 0 = .ok (.aload_n 0, 1) := by decide +kernel
theorem dX11_finishReading_1 : decode cX11_finishReading 1 = .ok (.aload_n 0, 1) := by decide +kernel
theorem dX11_finishReading_2 : decode cX11_finishReading 2 = .ok (.getfield 58, 3) := by decide +kernel
theorem dX11_finishReading_5 : decode cX11_finishReading 5 = .ok (.getfield 445, 3) := by decide +kernel
theorem dX11_finishReading_8 : decode cX11_finishReading 8 = .ok (.putfield 78, 3) := by decide +kernel
theorem dX11_finishReading_11 : decode cX11_finishReading 11 = .ok (.aload_n 0, 1) := by decide +kernel
theorem dX11_finishReading_12 : decode cX11_finishReading 12 = .ok (.aload_n 0, 1) := by decide +kernel
theorem dX11_finishReading_13 : decode cX11_finishReading 13 = .ok (.getfield 58, 3) := by decide +kernel
theorem dX11_finishReading_16 : decode cX11_finishReading 16 = .ok (.getfield 448, 3) := by decide +kernel
theorem dX11_finishReading_19 : decode cX11_finishReading 19 = .ok (.putfield 82, 3) := by decide +kernel
theorem dX11_finishReading_22 : decode cX11_finishReading 22 = .ok (.aload_n 0, 1) := by decide +kernel
theorem dX11_finishReading_23 : decode cX11_finishReading 23 = .ok (.getfield 14, 3) := by decide +kernel
theorem dX11_finishReading_26 : decode cX11_finishReading 26 = .ok (.iconst 0, 1) := by decide +kernel
theorem dX11_finishReading_27 : decode cX11_finishReading 27 = .ok (.invokevirtual 104, 3) := by decide +kernel
theorem dX11_finishReading_30 : decode cX11_finishReading 30 = .ok (.return_, 1) := by decide +kernel
def mi_X11_finishReading : MI := (RX11, yX11_finishReading, cX11_finishReading, 1, none, [], { frames := 2, cells := 0, slots := 0, locals := 33 })
theorem ok_X11_finishReading : mOK mi_X11_finishReading 0 := ⟨rfl, cw_X11_finishReading, ini_X11, ⟨rfl, by decide⟩, by decide, by decide, rfl⟩
theorem v_X11_finishReading (this : Nat) (M : Mem) : V mi_X11_finishReading 0 [(0, .ref this)] [] M 0 0 (f_X11_finishReading this M) wV := by
  unfold f_X11_finishReading
  refine V_ob fun _ _ => ?_
  refine V_aload_n dX11_finishReading_0 rfl 0 rfl ?_
  refine V_aload_n dX11_finishReading_1 rfl 0 rfl ?_
  refine V_getR dX11_finishReading_2 rfl (ci := 10) (T := TX11) rfl (by decide) fl_X11_58 (fun x1 => ?_)
  refine V_getI dX11_finishReading_5 rfl (ci := 9) (T := TX10) rfl (by decide) fl_X11_445 (fun x2 => ?_)
  refine V_putI dX11_finishReading_8 rfl (ci := 10) (T := TX11) rfl (by decide) fl_X11_78 rfl rfl (fun M3 => ?_)
  refine V_aload_n dX11_finishReading_11 rfl 0 rfl ?_
  refine V_aload_n dX11_finishReading_12 rfl 0 rfl ?_
  refine V_getR dX11_finishReading_13 rfl (ci := 10) (T := TX11) rfl (by decide) fl_X11_58 (fun x4 => ?_)
  refine V_getI dX11_finishReading_16 rfl (ci := 9) (T := TX10) rfl (by decide) fl_X11_448 (fun x5 => ?_)
  refine V_putI dX11_finishReading_19 rfl (ci := 10) (T := TX11) rfl (by decide) fl_X11_82 rfl rfl (fun M6 => ?_)
  refine V_aload_n dX11_finishReading_22 rfl 0 rfl ?_
  refine V_getR dX11_finishReading_23 rfl (ci := 10) (T := TX11) rfl (by decide) fl_X11_14 (fun x7 => ?_)
  refine V_iconst (x := 0) dX11_finishReading_26 rfl rfl ?_
  refine V_cVwV (As := [.int 0]) (k_X1_cutTo x7 0 M6) (fun _ h => o_X1_cutTo h) ok_X1_cutTo im_X1_cutTo se_X1_cutTo rfl (ci := 1) rfl ml_X11_104 ⟨⟨(Nat.le_of_ble_eq_true rfl), (Nat.le_of_ble_eq_true rfl)⟩, (Nat.le_of_ble_eq_true rfl), (Nat.le_of_ble_eq_true rfl)⟩ dX11_finishReading_27 rfl rfl rfl (Nat.le_of_ble_eq_true rfl) rfl rfl (fun M9 => ?_)
  exact V_vret dX11_finishReading_30 rfl rfl ⟨(Nat.le_of_ble_eq_true rfl), (Nat.le_of_ble_eq_true rfl)⟩
theorem k_X11_finishReading (this : Nat) (M : Mem) : K mi_X11_finishReading [.ref this] M (f_X11_finishReading this M) wV := K_of_V ok_X11_finishReading (Nat.le_of_ble_eq_true rfl) (v_X11_finishReading this M)
theorem o_X11_finishReading {this : Nat} {M : Mem} {x} (h : f_X11_finishReading this M = some x) : isO M 10 this = true := (ob_of h).1
theorem dX11_beginAct_0 : decode cX11_beginAct 0 = .ok (.aload_n 0, 1) := by decide +kernel
theorem dX11_beginAct_1 : decode cX11_beginAct 1 = .ok (.getfield 42, 3) := by decide +kernel
theorem dX11_beginAct_4 : decode cX11_beginAct 4 = .ok (.aload_n 0, 1) := by decide +kernel
theorem dX11_beginAct_5 : decode cX11_beginAct 5 = .ok (.getfield 24, 3) := by decide +kernel
theorem dX11_beginAct_8 : decode cX11_beginAct 8 = .ok (.invokevirtual 451, 3) := by decide +kernel
theorem dX11_beginAct_11 : decode cX11_beginAct 11 = .ok (.aload_n 0, 1) := by decide +kernel
theorem dX11_beginAct_12 : decode cX11_beginAct 12 = .ok (.getfield 49, 3) := by decide +kernel
theorem dX11_beginAct_15 : decode cX11_beginAct 15 = .ok (.invokevirtual 403, 3) := by decide +kernel
theorem dX11_beginAct_18 : decode cX11_beginAct 18 = .ok (.return_, 1) := by decide +kernel
def mi_X11_beginAct : MI := (RX11, yX11_beginAct, cX11_beginAct, 1, none, [], { frames := 5, cells := 0, slots := 0, locals := 101 })
theorem ok_X11_beginAct : mOK mi_X11_beginAct 0 := ⟨rfl, cw_X11_beginAct, ini_X11, ⟨rfl, by decide⟩, by decide, by decide, rfl⟩
theorem v_X11_beginAct (this : Nat) (M : Mem) : V mi_X11_beginAct 0 [(0, .ref this)] [] M 0 0 (f_X11_beginAct this M) wV := by
  unfold f_X11_beginAct
  refine V_ob fun _ _ => ?_
  refine V_aload_n dX11_beginAct_0 rfl 0 rfl ?_
  refine V_getR dX11_beginAct_1 rfl (ci := 10) (T := TX11) rfl (by decide) fl_X11_42 (fun x1 => ?_)
  refine V_aload_n dX11_beginAct_4 rfl 0 rfl ?_
  refine V_getR dX11_beginAct_5 rfl (ci := 10) (T := TX11) rfl (by decide) fl_X11_24 (fun x2 => ?_)
  refine V_cVwV (As := [.ref x2]) (k_X2_remember x1 x2 M) (fun _ h => o_X2_remember h) ok_X2_remember im_X2_remember se_X2_remember rfl (ci := 2) rfl ml_X11_451 ⟨⟨(Nat.le_of_ble_eq_true rfl), (Nat.le_of_ble_eq_true rfl)⟩, (Nat.le_of_ble_eq_true rfl), (Nat.le_of_ble_eq_true rfl)⟩ dX11_beginAct_8 rfl rfl rfl (Nat.le_of_ble_eq_true rfl) rfl rfl (fun M4 => ?_)
  refine V_aload_n dX11_beginAct_11 rfl 0 rfl ?_
  refine V_getR dX11_beginAct_12 rfl (ci := 10) (T := TX11) rfl (by decide) fl_X11_49 (fun x5 => ?_)
  refine V_cVwV (As := []) (k_X4_clear x5 M4) (fun _ h => o_X4_clear h) ok_X4_clear im_X4_clear se_X4_clear rfl (ci := 3) rfl ml_X11_403 ⟨⟨(Nat.le_of_ble_eq_true rfl), (Nat.le_of_ble_eq_true rfl)⟩, (Nat.le_of_ble_eq_true rfl), (Nat.le_of_ble_eq_true rfl)⟩ dX11_beginAct_15 rfl rfl rfl (Nat.le_of_ble_eq_true rfl) rfl rfl (fun M7 => ?_)
  exact V_vret dX11_beginAct_18 rfl rfl ⟨(Nat.le_of_ble_eq_true rfl), (Nat.le_of_ble_eq_true rfl)⟩
theorem k_X11_beginAct (this : Nat) (M : Mem) : K mi_X11_beginAct [.ref this] M (f_X11_beginAct this M) wV := K_of_V ok_X11_beginAct (Nat.le_of_ble_eq_true rfl) (v_X11_beginAct this M)
theorem o_X11_beginAct {this : Nat} {M : Mem} {x} (h : f_X11_beginAct this M = some x) : isO M 10 this = true := (ob_of h).1
theorem dX11_load_0 : decode cX11_load 0 = .ok (.aload_n 0, 1) := by decide +kernel
theorem dX11_load_1 : decode cX11_load 1 = .ok (.getfield 67, 3) := by decide +kernel
theorem dX11_load_4 : decode cX11_load 4 = .ok (.aload_n 0, 1) := by decide +kernel
theorem dX11_load_5 : decode cX11_load 5 = .ok (.getfield 28, 3) := by decide +kernel
theorem dX11_load_8 : decode cX11_load 8 = .ok (.invokevirtual 107, 3) := by decide +kernel
theorem dX11_load_11 : decode cX11_load 11 = .ok (.aload_n 0, 1) := by decide +kernel
theorem dX11_load_12 : decode cX11_load 12 = .ok (.invokevirtual 111, 3) := by decide +kernel
theorem dX11_load_15 : decode cX11_load 15 = .ok (.aload_n 0, 1) := by decide +kernel
theorem dX11_load_16 : decode cX11_load 16 = .ok (.getfield 78, 3) := by decide +kernel
theorem dX11_load_19 : decode cX11_load 19 = .ok (.ifCond .eq 6, 3) := by decide +kernel
theorem dX11_load_22 : decode cX11_load 22 = .ok (.bipush (-4), 2) := by decide +kernel
theorem dX11_load_24 : decode cX11_load 24 = .ok (.ireturn, 1) := by decide +kernel
theorem dX11_load_25 : decode cX11_load 25 = .ok (.aload_n 0, 1) := by decide +kernel
theorem dX11_load_26 : decode cX11_load 26 = .ok (.invokevirtual 114, 3) := by decide +kernel
theorem dX11_load_29 : decode cX11_load 29 = .ok (.aload_n 0, 1) := by decide +kernel
theorem dX11_load_30 : decode cX11_load 30 = .ok (.getfield 24, 3) := by decide +kernel
theorem dX11_load_33 : decode cX11_load 33 = .ok (.aload_n 0, 1) := by decide +kernel
theorem dX11_load_34 : decode cX11_load 34 = .ok (.getfield 28, 3) := by decide +kernel
theorem dX11_load_37 : decode cX11_load 37 = .ok (.invokevirtual 117, 3) := by decide +kernel
theorem dX11_load_40 : decode cX11_load 40 = .ok (.aload_n 0, 1) := by decide +kernel
theorem dX11_load_41 : decode cX11_load 41 = .ok (.getfield 24, 3) := by decide +kernel
theorem dX11_load_44 : decode cX11_load 44 = .ok (.invokevirtual 120, 3) := by decide +kernel
theorem dX11_load_47 : decode cX11_load 47 = .ok (.ireturn, 1) := by decide +kernel
def mi_X11_load : MI := (RX11, yX11_load, cX11_load, 1, some .int, [], { frames := 10, cells := 0, slots := 0, locals := 235 })
theorem ok_X11_load : mOK mi_X11_load 0 := ⟨rfl, cw_X11_load, ini_X11, ⟨rfl, by decide⟩, by decide, by decide, rfl⟩
theorem v_X11_load (this : Nat) (M : Mem) : V mi_X11_load 0 [(0, .ref this)] [] M 0 0 (f_X11_load this M) wI := by
  unfold f_X11_load
  refine V_ob fun _ _ => ?_
  refine V_aload_n dX11_load_0 rfl 0 rfl ?_
  refine V_getR dX11_load_1 rfl (ci := 10) (T := TX11) rfl (by decide) fl_X11_67 (fun x1 => ?_)
  refine V_aload_n dX11_load_4 rfl 0 rfl ?_
  refine V_getR dX11_load_5 rfl (ci := 10) (T := TX11) rfl (by decide) fl_X11_28 (fun x2 => ?_)
  refine V_cVwV (As := [.ref x2]) (k_X9_parseInto x1 x2 M) (fun _ h => o_X9_parseInto h) ok_X9_parseInto im_X9_parseInto se_X9_parseInto rfl (ci := 8) rfl ml_X11_107 ⟨⟨(Nat.le_of_ble_eq_true rfl), (Nat.le_of_ble_eq_true rfl)⟩, (Nat.le_of_ble_eq_true rfl), (Nat.le_of_ble_eq_true rfl)⟩ dX11_load_8 rfl rfl rfl (Nat.le_of_ble_eq_true rfl) rfl rfl (fun M4 => ?_)
  refine V_aload_n dX11_load_11 rfl 0 rfl ?_
  refine V_cVwV (As := []) (k_X11_finishReading this M4) (fun _ h => o_X11_finishReading h) ok_X11_finishReading im_X11_finishReading se_X11_finishReading rfl (ci := 10) rfl ml_X11_111 ⟨⟨(Nat.le_of_ble_eq_true rfl), (Nat.le_of_ble_eq_true rfl)⟩, (Nat.le_of_ble_eq_true rfl), (Nat.le_of_ble_eq_true rfl)⟩ dX11_load_12 rfl rfl rfl (Nat.le_of_ble_eq_true rfl) rfl rfl (fun M6 => ?_)
  refine V_aload_n dX11_load_15 rfl 0 rfl ?_
  refine V_getI dX11_load_16 rfl (ci := 10) (T := TX11) rfl (by decide) fl_X11_78 (fun x7 => ?_)
  refine V_if_eq (q := 25) (q2 := 22) dX11_load_19 (by decide) rfl ?_ ?_
  · refine V_aload_n dX11_load_25 rfl 0 rfl ?_
    refine V_cVwV (As := []) (k_X11_beginAct this M6) (fun _ h => o_X11_beginAct h) ok_X11_beginAct im_X11_beginAct se_X11_beginAct rfl (ci := 10) rfl ml_X11_114 ⟨⟨(Nat.le_of_ble_eq_true rfl), (Nat.le_of_ble_eq_true rfl)⟩, (Nat.le_of_ble_eq_true rfl), (Nat.le_of_ble_eq_true rfl)⟩ dX11_load_26 rfl rfl rfl (Nat.le_of_ble_eq_true rfl) rfl rfl (fun M9 => ?_)
    refine V_aload_n dX11_load_29 rfl 0 rfl ?_
    refine V_getR dX11_load_30 rfl (ci := 10) (T := TX11) rfl (by decide) fl_X11_24 (fun x10 => ?_)
    refine V_aload_n dX11_load_33 rfl 0 rfl ?_
    refine V_getR dX11_load_34 rfl (ci := 10) (T := TX11) rfl (by decide) fl_X11_28 (fun x11 => ?_)
    refine V_cVwV (As := [.ref x11]) (k_X8_takeFrom x10 x11 M9) (fun _ h => o_X8_takeFrom h) ok_X8_takeFrom im_X8_takeFrom se_X8_takeFrom rfl (ci := 7) rfl ml_X11_117 ⟨⟨(Nat.le_of_ble_eq_true rfl), (Nat.le_of_ble_eq_true rfl)⟩, (Nat.le_of_ble_eq_true rfl), (Nat.le_of_ble_eq_true rfl)⟩ dX11_load_37 rfl rfl rfl (Nat.le_of_ble_eq_true rfl) rfl rfl (fun M13 => ?_)
    refine V_aload_n dX11_load_40 rfl 0 rfl ?_
    refine V_getR dX11_load_41 rfl (ci := 10) (T := TX11) rfl (by decide) fl_X11_24 (fun x14 => ?_)
    refine V_cVeI (As := []) (k_X8_countMessages x14 M13) (fun _ h => o_X8_countMessages h) ok_X8_countMessages im_X8_countMessages se_X8_countMessages rfl (ci := 7) rfl ml_X11_120 ⟨⟨(Nat.le_of_ble_eq_true rfl), (Nat.le_of_ble_eq_true rfl)⟩, (Nat.le_of_ble_eq_true rfl), (Nat.le_of_ble_eq_true rfl)⟩ dX11_load_44 rfl rfl rfl (Nat.le_of_ble_eq_true rfl) rfl rfl (fun x15 => ?_)
    exact V_iret dX11_load_47 rfl rfl ⟨(Nat.le_of_ble_eq_true rfl), (Nat.le_of_ble_eq_true rfl)⟩
  · refine V_bipush (x := (-4)) dX11_load_22 rfl rfl ?_
    exact V_iret dX11_load_24 rfl rfl ⟨(Nat.le_of_ble_eq_true rfl), (Nat.le_of_ble_eq_true rfl)⟩
theorem k_X11_load (this : Nat) (M : Mem) : K mi_X11_load [.ref this] M (f_X11_load this M) wI := K_of_V ok_X11_load (Nat.le_of_ble_eq_true rfl) (v_X11_load this M)
theorem o_X11_load {this : Nat} {M : Mem} {x} (h : f_X11_load this M = some x) : isO M 10 this = true := (ob_of h).1
theorem dX11_errorCode_0 : decode cX11_errorCode 0 = .ok (.aload_n 0, 1) := by decide +kernel
theorem dX11_errorCode_1 : decode cX11_errorCode 1 = .ok (.getfield 78, 3) := by decide +kernel
theorem dX11_errorCode_4 : decode cX11_errorCode 4 = .ok (.ireturn, 1) := by decide +kernel
def mi_X11_errorCode : MI := (RX11, yX11_errorCode, cX11_errorCode, 1, some .int, [], { frames := 1, cells := 0, slots := 0, locals := 12 })
theorem ok_X11_errorCode : mOK mi_X11_errorCode 0 := ⟨rfl, cw_X11_errorCode, ini_X11, ⟨rfl, by decide⟩, by decide, by decide, rfl⟩
theorem v_X11_errorCode (this : Nat) (M : Mem) : V mi_X11_errorCode 0 [(0, .ref this)] [] M 0 0 (f_X11_errorCode this M) (eI M) := by
  unfold f_X11_errorCode
  refine V_ob fun _ _ => ?_
  refine V_aload_n dX11_errorCode_0 rfl 0 rfl ?_
  refine V_getI dX11_errorCode_1 rfl (ci := 10) (T := TX11) rfl (by decide) fl_X11_78 (fun x1 => ?_)
  exact V_iret dX11_errorCode_4 rfl rfl ⟨(Nat.le_of_ble_eq_true rfl), (Nat.le_of_ble_eq_true rfl)⟩
theorem k_X11_errorCode (this : Nat) (M : Mem) : K mi_X11_errorCode [.ref this] M (f_X11_errorCode this M) (eI M) := K_of_V ok_X11_errorCode (Nat.le_of_ble_eq_true rfl) (v_X11_errorCode this M)
theorem o_X11_errorCode {this : Nat} {M : Mem} {x} (h : f_X11_errorCode this M = some x) : isO M 10 this = true := (ob_of h).1
theorem dX11_errorPosition_0 : decode cX11_errorPosition 0 = .ok (.aload_n 0, 1) := by decide +kernel
theorem dX11_errorPosition_1 : decode cX11_errorPosition 1 = .ok (.getfield 82, 3) := by decide +kernel
theorem dX11_errorPosition_4 : decode cX11_errorPosition 4 = .ok (.ireturn, 1) := by decide +kernel
def mi_X11_errorPosition : MI := (RX11, yX11_errorPosition, cX11_errorPosition, 1, some .int, [], { frames := 1, cells := 0, slots := 0, locals := 12 })
theorem ok_X11_errorPosition : mOK mi_X11_errorPosition 0 := ⟨rfl, cw_X11_errorPosition, ini_X11, ⟨rfl, by decide⟩, by decide, by decide, rfl⟩
theorem v_X11_errorPosition (this : Nat) (M : Mem) : V mi_X11_errorPosition 0 [(0, .ref this)] [] M 0 0 (f_X11_errorPosition this M) (eI M) := by
  unfold f_X11_errorPosition
  refine V_ob fun _ _ => ?_
  refine V_aload_n dX11_errorPosition_0 rfl 0 rfl ?_
  refine V_getI dX11_errorPosition_1 rfl (ci := 10) (T := TX11) rfl (by decide) fl_X11_82 (fun x1 => ?_)
  exact V_iret dX11_errorPosition_4 rfl rfl ⟨(Nat.le_of_ble_eq_true rfl), (Nat.le_of_ble_eq_true rfl)⟩
theorem k_X11_errorPosition (this : Nat) (M : Mem) : K mi_X11_errorPosition [.ref this] M (f_X11_errorPosition this M) (eI M) := K_of_V ok_X11_errorPosition (Nat.le_of_ble_eq_true rfl) (v_X11_errorPosition this M)
theorem o_X11_errorPosition {this : Nat} {M : Mem} {x} (h : f_X11_errorPosition this M = some x) : isO M 10 this = true := (ob_of h).1
theorem dX11_property_0 : decode cX11_property 0 = .ok (.iload_n 1, 1) := by decide +kernel
theorem dX11_property_1 : decode cX11_property 1 = .ok (.tableswitch 75 0 4 #[35, 43, 51, 59, 67], 35) := by decide +kernel
theorem dX11_property_36 : decode cX11_property 36 = .ok (.aload_n 0, 1) := by decide +kernel
theorem dX11_property_37 : decode cX11_property 37 = .ok (.getfield 24, 3) := by decide +kernel
theorem dX11_property_40 : decode cX11_property 40 = .ok (.getfield 134, 3) := by decide +kernel
theorem dX11_property_43 : decode cX11_property 43 = .ok (.ireturn, 1) := by decide +kernel
theorem dX11_property_44 : decode cX11_property 44 = .ok (.aload_n 0, 1) := by decide +kernel
theorem dX11_property_45 : decode cX11_property 45 = .ok (.getfield 24, 3) := by decide +kernel
theorem dX11_property_48 : decode cX11_property 48 = .ok (.getfield 137, 3) := by decide +kernel
theorem dX11_property_51 : decode cX11_property 51 = .ok (.ireturn, 1) := by decide +kernel
theorem dX11_property_52 : decode cX11_property 52 = .ok (.aload_n 0, 1) := by decide +kernel
theorem dX11_property_53 : decode cX11_property 53 = .ok (.getfield 24, 3) := by decide +kernel
theorem dX11_property_56 : decode cX11_property 56 = .ok (.getfield 140, 3) := by decide +kernel
theorem dX11_property_59 : decode cX11_property 59 = .ok (.ireturn, 1) := by decide +kernel
theorem dX11_property_60 : decode cX11_property 60 = .ok (.aload_n 0, 1) := by decide +kernel
theorem dX11_property_61 : decode cX11_property 61 = .ok (.getfield 24, 3) := by decide +kernel
theorem dX11_property_64 : decode cX11_property 64 = .ok (.invokevirtual 120, 3) := by decide +kernel
theorem dX11_property_67 : decode cX11_property 67 = .ok (.ireturn, 1) := by decide +kernel
theorem dX11_property_68 : decode cX11_property 68 = .ok (.aload_n 0, 1) := by decide +kernel
theorem dX11_property_69 : decode cX11_property 69 = .ok (.getfield 49, 3) := by decide +kernel
theorem dX11_property_72 : decode cX11_property 72 = .ok (.invokevirtual 143, 3) := by decide +kernel
theorem dX11_property_75 : decode cX11_property 75 = .ok (.ireturn, 1) := by decide +kernel
theorem dX11_property_76 : decode cX11_property 76 = .ok (.new 99, 3) := by decide +kernel
theorem dX11_property_79 : decode cX11_property 79 = .ok (.dup, 1) := by decide +kernel
theorem dX11_property_80 : decode cX11_property 80 = .ok (.ldc 144, 2) := by decide +kernel
theorem dX11_property_82 : decode cX11_property 82 = .ok (.invokespecial 103, 3) := by decide +kernel
theorem dX11_property_85 : decode cX11_property 85 = .ok (.athrow, 1) := by decide +kernel
def mi_X11_property : MI := (RX11, yX11_property, cX11_property, 2, some .int, [], { frames := 8, cells := 1, slots := 6, locals := 120 })
theorem ok_X11_property : mOK mi_X11_property 1 := ⟨rfl, cw_X11_property, ini_X11, ⟨rfl, by decide⟩, by decide, by decide, rfl⟩
theorem v_X11_property (this : Nat) (a1 : Int32) (M : Mem) : V mi_X11_property 0 [(0, .ref this), (1, .int a1)] [] M 0 0 (f_X11_property this a1 M) tI := by
  unfold f_X11_property
  refine V_ob fun _ _ => ?_
  refine V_iload_n dX11_property_0 rfl 1 rfl ?_
  refine V_if (fun ht1_0 => ?_) (fun ht1_0 => ?_)
  · refine V_tsIn ht1_0 dX11_property_1 (by decide) (by decide) (off := 35) (q := 36) rfl (by decide) ?_
    refine V_aload_n dX11_property_36 rfl 0 rfl ?_
    refine V_getR dX11_property_37 rfl (ci := 10) (T := TX11) rfl (by decide) fl_X11_24 (fun x1 => ?_)
    refine V_getI dX11_property_40 rfl (ci := 7) (T := TX8) rfl (by decide) fl_X11_134 (fun x2 => ?_)
    exact V_iret dX11_property_43 rfl rfl ⟨(Nat.le_of_ble_eq_true rfl), (Nat.le_of_ble_eq_true rfl)⟩
  refine V_if (fun ht1_1 => ?_) (fun ht1_1 => ?_)
  · refine V_tsIn ht1_1 dX11_property_1 (by decide) (by decide) (off := 43) (q := 44) rfl (by decide) ?_
    refine V_aload_n dX11_property_44 rfl 0 rfl ?_
    refine V_getR dX11_property_45 rfl (ci := 10) (T := TX11) rfl (by decide) fl_X11_24 (fun x3 => ?_)
    refine V_getI dX11_property_48 rfl (ci := 7) (T := TX8) rfl (by decide) fl_X11_137 (fun x4 => ?_)
    exact V_iret dX11_property_51 rfl rfl ⟨(Nat.le_of_ble_eq_true rfl), (Nat.le_of_ble_eq_true rfl)⟩
  refine V_if (fun ht1_2 => ?_) (fun ht1_2 => ?_)
  · refine V_tsIn ht1_2 dX11_property_1 (by decide) (by decide) (off := 51) (q := 52) rfl (by decide) ?_
    refine V_aload_n dX11_property_52 rfl 0 rfl ?_
    refine V_getR dX11_property_53 rfl (ci := 10) (T := TX11) rfl (by decide) fl_X11_24 (fun x5 => ?_)
    refine V_getI dX11_property_56 rfl (ci := 7) (T := TX8) rfl (by decide) fl_X11_140 (fun x6 => ?_)
    exact V_iret dX11_property_59 rfl rfl ⟨(Nat.le_of_ble_eq_true rfl), (Nat.le_of_ble_eq_true rfl)⟩
  refine V_if (fun ht1_3 => ?_) (fun ht1_3 => ?_)
  · refine V_tsIn ht1_3 dX11_property_1 (by decide) (by decide) (off := 59) (q := 60) rfl (by decide) ?_
    refine V_aload_n dX11_property_60 rfl 0 rfl ?_
    refine V_getR dX11_property_61 rfl (ci := 10) (T := TX11) rfl (by decide) fl_X11_24 (fun x7 => ?_)
    refine V_cVeI (As := []) (k_X8_countMessages x7 M) (fun _ h => o_X8_countMessages h) ok_X8_countMessages im_X8_countMessages se_X8_countMessages rfl (ci := 7) rfl ml_X11_120 ⟨⟨(Nat.le_of_ble_eq_true rfl), (Nat.le_of_ble_eq_true rfl)⟩, (Nat.le_of_ble_eq_true rfl), (Nat.le_of_ble_eq_true rfl)⟩ dX11_property_64 rfl rfl rfl (Nat.le_of_ble_eq_true rfl) rfl rfl (fun x8 => ?_)
    exact V_iret dX11_property_67 rfl rfl ⟨(Nat.le_of_ble_eq_true rfl), (Nat.le_of_ble_eq_true rfl)⟩
  refine V_if (fun ht1_4 => ?_) (fun ht1_4 => ?_)
  · refine V_tsIn ht1_4 dX11_property_1 (by decide) (by decide) (off := 67) (q := 68) rfl (by decide) ?_
    refine V_aload_n dX11_property_68 rfl 0 rfl ?_
    refine V_getR dX11_property_69 rfl (ci := 10) (T := TX11) rfl (by decide) fl_X11_49 (fun x9 => ?_)
    refine V_cVeI (As := []) (k_X4_size x9 M) (fun _ h => o_X4_size h) ok_X4_size im_X4_size se_X4_size rfl (ci := 3) rfl ml_X11_143 ⟨⟨(Nat.le_of_ble_eq_true rfl), (Nat.le_of_ble_eq_true rfl)⟩, (Nat.le_of_ble_eq_true rfl), (Nat.le_of_ble_eq_true rfl)⟩ dX11_property_72 rfl rfl rfl (Nat.le_of_ble_eq_true rfl) rfl rfl (fun x10 => ?_)
    exact V_iret dX11_property_75 rfl rfl ⟨(Nat.le_of_ble_eq_true rfl), (Nat.le_of_ble_eq_true rfl)⟩
  refine V_tsOut (q := 76) (ts_5 ht1_0 ht1_1 ht1_2 ht1_3 ht1_4) dX11_property_1 (by decide) ?_
  exact V_throw th_X11_99_103 sr_X11_144 rfl dX11_property_76 dX11_property_79 dX11_property_80 dX11_property_82 dX11_property_85 ⟨(Nat.le_of_ble_eq_true rfl), (Nat.le_of_ble_eq_true rfl)⟩ ⟨(Nat.le_of_ble_eq_true rfl), (Nat.le_of_ble_eq_true rfl)⟩ rfl
theorem k_X11_property (this : Nat) (a1 : Int32) (M : Mem) : K mi_X11_property [.ref this, .int a1] M (f_X11_property this a1 M) tI := K_of_V ok_X11_property (Nat.le_of_ble_eq_true rfl) (v_X11_property this a1 M)
theorem o_X11_property {this : Nat} {a1 : Int32} {M : Mem} {x} (h : f_X11_property this a1 M = some x) : isO M 10 this = true := (ob_of h).1
theorem dX11_requireBox_0 : decode cX11_requireBox 0 = .ok (.aload_n 0, 1) := by decide +kernel
theorem dX11_requireBox_1 : decode cX11_requireBox 1 = .ok (.getfield 24, 3) := by decide +kernel
theorem dX11_requireBox_4 : decode cX11_requireBox 4 = .ok (.iload_n 1, 1) := by decide +kernel
theorem dX11_requireBox_5 : decode cX11_requireBox 5 = .ok (.invokevirtual 421, 3) := by decide +kernel
theorem dX11_requireBox_8 : decode cX11_requireBox 8 = .ok (.astore_n 2, 1) := by decide +kernel
theorem dX11_requireBox_9 : decode cX11_requireBox 9 = .ok (.aload_n 2, 1) := by decide +kernel
theorem dX11_requireBox_10 : decode cX11_requireBox 10 = .ok (.ifnonnull 14, 3) := by decide +kernel
theorem dX11_requireBox_13 : decode cX11_requireBox 13 = .ok (.new 173, 3) := by decide +kernel
theorem dX11_requireBox_16 : decode cX11_requireBox 16 = .ok (.dup, 1) := by decide +kernel
theorem dX11_requireBox_17 : decode cX11_requireBox 17 = .ok (.ldc_w 424, 3) := by decide +kernel
theorem dX11_requireBox_20 : decode cX11_requireBox 20 = .ok (.invokespecial 177, 3) := by decide +kernel
theorem dX11_requireBox_23 : decode cX11_requireBox 23 = .ok (.athrow, 1) := by decide +kernel
theorem dX11_requireBox_24 : decode cX11_requireBox 24 = .ok (.aload_n 2, 1) := by decide +kernel
theorem dX11_requireBox_25 : decode cX11_requireBox 25 = .ok (.areturn, 1) := by decide +kernel
def mi_X11_requireBox : MI := (RX11, yX11_requireBox, cX11_requireBox, 3, some (.object "MailSessions$Box"), [], { frames := 8, cells := 1, slots := 6, locals := 120 })
theorem ok_X11_requireBox : mOK mi_X11_requireBox 1 := ⟨rfl, cw_X11_requireBox, ini_X11, ⟨rfl, by decide⟩, by decide, by decide, rfl⟩
theorem v_X11_requireBox (this : Nat) (a1 : Int32) (M : Mem) : V mi_X11_requireBox 0 [(0, .ref this), (1, .int a1)] [] M 0 0 (f_X11_requireBox this a1 M) tR := by
  unfold f_X11_requireBox
  refine V_ob fun _ _ => ?_
  refine V_aload_n dX11_requireBox_0 rfl 0 rfl ?_
  refine V_getR dX11_requireBox_1 rfl (ci := 10) (T := TX11) rfl (by decide) fl_X11_24 (fun x1 => ?_)
  refine V_iload_n dX11_requireBox_4 rfl 1 rfl ?_
  refine V_cVeQ (As := [.int a1]) (k_X8_boxAt x1 a1 M) (fun _ h => o_X8_boxAt h) ok_X8_boxAt im_X8_boxAt se_X8_boxAt rfl (ci := 7) rfl ml_X11_421 ⟨⟨(Nat.le_of_ble_eq_true rfl), (Nat.le_of_ble_eq_true rfl)⟩, (Nat.le_of_ble_eq_true rfl), (Nat.le_of_ble_eq_true rfl)⟩ dX11_requireBox_5 rfl rfl rfl (Nat.le_of_ble_eq_true rfl) rfl rfl (fun x2 => ?_)
  refine V_astore_nQ (L' := [(0, .ref this), (1, .int a1), (2, va_rf x2)]) dX11_requireBox_8 rfl (by decide) (by rcases (x2 : Option Nat) with _ | _ <;> rfl) ?_
  refine V_aload_nQ dX11_requireBox_9 rfl 2 rfl ?_
  rcases x2 with _ | r3
  · refine V_ifnonnull_n dX11_requireBox_10 rfl ?_
    exact V_throwW th_X11_173_177 sr_X11_424 rfl dX11_requireBox_13 dX11_requireBox_16 dX11_requireBox_17 dX11_requireBox_20 dX11_requireBox_23 ⟨(Nat.le_of_ble_eq_true rfl), (Nat.le_of_ble_eq_true rfl)⟩ ⟨(Nat.le_of_ble_eq_true rfl), (Nat.le_of_ble_eq_true rfl)⟩ rfl
  · refine V_ifnonnull_r (q := 24) dX11_requireBox_10 (by decide) ?_
    refine V_aload_n dX11_requireBox_24 rfl 2 rfl ?_
    exact V_aret (v := some r3) dX11_requireBox_25 rfl (Or.inl ⟨_, rfl⟩) rfl ⟨(Nat.le_of_ble_eq_true rfl), (Nat.le_of_ble_eq_true rfl)⟩
theorem k_X11_requireBox (this : Nat) (a1 : Int32) (M : Mem) : K mi_X11_requireBox [.ref this, .int a1] M (f_X11_requireBox this a1 M) tR := K_of_V ok_X11_requireBox (Nat.le_of_ble_eq_true rfl) (v_X11_requireBox this a1 M)
theorem o_X11_requireBox {this : Nat} {a1 : Int32} {M : Mem} {x} (h : f_X11_requireBox this a1 M = some x) : isO M 10 this = true := (ob_of h).1
theorem dX11_box_0 : decode cX11_box 0 = .ok (.aload_n 0, 1) := by decide +kernel
theorem dX11_box_1 : decode cX11_box 1 = .ok (.iload_n 1, 1) := by decide +kernel
theorem dX11_box_2 : decode cX11_box 2 = .ok (.invokevirtual 146, 3) := by decide +kernel
theorem dX11_box_5 : decode cX11_box 5 = .ok (.astore_n 3, 1) := by decide +kernel
theorem dX11_box_6 : decode cX11_box 6 = .ok (.iload_n 2, 1) := by decide +kernel
theorem dX11_box_7 : decode cX11_box 7 = .ok (.tableswitch 85 0 5 #[37, 42, 47, 52, 66, 76], 37) := by decide +kernel
theorem dX11_box_44 : decode cX11_box 44 = .ok (.aload_n 3, 1) := by decide +kernel
theorem dX11_box_45 : decode cX11_box 45 = .ok (.invokevirtual 150, 3) := by decide +kernel
theorem dX11_box_48 : decode cX11_box 48 = .ok (.ireturn, 1) := by decide +kernel
theorem dX11_box_49 : decode cX11_box 49 = .ok (.aload_n 3, 1) := by decide +kernel
theorem dX11_box_50 : decode cX11_box 50 = .ok (.getfield 153, 3) := by decide +kernel
theorem dX11_box_53 : decode cX11_box 53 = .ok (.ireturn, 1) := by decide +kernel
theorem dX11_box_54 : decode cX11_box 54 = .ok (.aload_n 3, 1) := by decide +kernel
theorem dX11_box_55 : decode cX11_box 55 = .ok (.invokevirtual 156, 3) := by decide +kernel
theorem dX11_box_58 : decode cX11_box 58 = .ok (.ireturn, 1) := by decide +kernel
theorem dX11_box_59 : decode cX11_box 59 = .ok (.aload_n 3, 1) := by decide +kernel
theorem dX11_box_60 : decode cX11_box 60 = .ok (.invokevirtual 150, 3) := by decide +kernel
theorem dX11_box_63 : decode cX11_box 63 = .ok (.aload_n 3, 1) := by decide +kernel
theorem dX11_box_64 : decode cX11_box 64 = .ok (.iconst 1, 1) := by decide +kernel
theorem dX11_box_65 : decode cX11_box 65 = .ok (.invokevirtual 159, 3) := by decide +kernel
theorem dX11_box_68 : decode cX11_box 68 = .ok (.invokestatic 163, 3) := by decide +kernel
theorem dX11_box_71 : decode cX11_box 71 = .ok (.isub, 1) := by decide +kernel
theorem dX11_box_72 : decode cX11_box 72 = .ok (.ireturn, 1) := by decide +kernel
theorem dX11_box_73 : decode cX11_box 73 = .ok (.aload_n 3, 1) := by decide +kernel
theorem dX11_box_74 : decode cX11_box 74 = .ok (.bipush 8, 2) := by decide +kernel
theorem dX11_box_76 : decode cX11_box 76 = .ok (.invokevirtual 159, 3) := by decide +kernel
theorem dX11_box_79 : decode cX11_box 79 = .ok (.invokestatic 163, 3) := by decide +kernel
theorem dX11_box_82 : decode cX11_box 82 = .ok (.ireturn, 1) := by decide +kernel
theorem dX11_box_83 : decode cX11_box 83 = .ok (.aload_n 0, 1) := by decide +kernel
theorem dX11_box_84 : decode cX11_box 84 = .ok (.getfield 24, 3) := by decide +kernel
theorem dX11_box_87 : decode cX11_box 87 = .ok (.iload_n 1, 1) := by decide +kernel
theorem dX11_box_88 : decode cX11_box 88 = .ok (.invokevirtual 168, 3) := by decide +kernel
theorem dX11_box_91 : decode cX11_box 91 = .ok (.ireturn, 1) := by decide +kernel
theorem dX11_box_92 : decode cX11_box 92 = .ok (.new 99, 3) := by decide +kernel
theorem dX11_box_95 : decode cX11_box 95 = .ok (.dup, 1) := by decide +kernel
theorem dX11_box_96 : decode cX11_box 96 = .ok (.ldc 171, 2) := by decide +kernel
theorem dX11_box_98 : decode cX11_box 98 = .ok (.invokespecial 103, 3) := by decide +kernel
theorem dX11_box_101 : decode cX11_box 101 = .ok (.athrow, 1) := by decide +kernel
def mi_X11_box : MI := (RX11, yX11_box, cX11_box, 4, some .int, [], { frames := 9, cells := 2, slots := 12, locals := 142 })
theorem ok_X11_box : mOK mi_X11_box 2 := ⟨rfl, cw_X11_box, ini_X11, ⟨rfl, by decide⟩, by decide, by decide, rfl⟩
theorem v_X11_box (this : Nat) (a1 : Int32) (a2 : Int32) (M : Mem) : V mi_X11_box 0 [(0, .ref this), (1, .int a1), (2, .int a2)] [] M 0 0 (f_X11_box this a1 a2 M) tI := by
  unfold f_X11_box
  refine V_ob fun _ _ => ?_
  refine V_aload_n dX11_box_0 rfl 0 rfl ?_
  refine V_iload_n dX11_box_1 rfl 1 rfl ?_
  refine V_cVtR (As := [.int a1]) (k_X11_requireBox this a1 M) rfl (fun _ _ => rfl) (fun _ h => o_X11_requireBox h) ok_X11_requireBox im_X11_requireBox se_X11_requireBox rfl (ci := 10) rfl ml_X11_146 ⟨⟨(Nat.le_of_ble_eq_true rfl), (Nat.le_of_ble_eq_true rfl)⟩, (Nat.le_of_ble_eq_true rfl), (Nat.le_of_ble_eq_true rfl)⟩ dX11_box_2 rfl rfl rfl (Nat.le_of_ble_eq_true rfl) rfl rfl (fun x1 M2 => ?_)
  refine V_astore_n (L' := [(0, .ref this), (1, .int a1), (2, .int a2), (3, .ref x1)]) dX11_box_5 rfl (by decide) rfl ?_
  refine V_iload_n dX11_box_6 rfl 2 rfl ?_
  refine V_if (fun ht7_0 => ?_) (fun ht7_0 => ?_)
  · refine V_tsIn ht7_0 dX11_box_7 (by decide) (by decide) (off := 37) (q := 44) rfl (by decide) ?_
    refine V_aload_n dX11_box_44 rfl 3 rfl ?_
    refine V_cVeI (As := []) (k_X0_size x1 M2) (fun _ h => o_X0_size h) ok_X0_size im_X0_size se_X0_size rfl (ci := 0) rfl ml_X11_150 ⟨⟨(Nat.le_of_ble_eq_true rfl), (Nat.le_of_ble_eq_true rfl)⟩, (Nat.le_of_ble_eq_true rfl), (Nat.le_of_ble_eq_true rfl)⟩ dX11_box_45 rfl rfl rfl (Nat.le_of_ble_eq_true rfl) rfl rfl (fun x3 => ?_)
    exact V_iret dX11_box_48 rfl rfl ⟨(Nat.le_of_ble_eq_true rfl), (Nat.le_of_ble_eq_true rfl)⟩
  refine V_if (fun ht7_1 => ?_) (fun ht7_1 => ?_)
  · refine V_tsIn ht7_1 dX11_box_7 (by decide) (by decide) (off := 42) (q := 49) rfl (by decide) ?_
    refine V_aload_n dX11_box_49 rfl 3 rfl ?_
    refine V_getI dX11_box_50 rfl (ci := 0) (T := TX0) rfl (by decide) fl_X11_153 (fun x4 => ?_)
    exact V_iret dX11_box_53 rfl rfl ⟨(Nat.le_of_ble_eq_true rfl), (Nat.le_of_ble_eq_true rfl)⟩
  refine V_if (fun ht7_2 => ?_) (fun ht7_2 => ?_)
  · refine V_tsIn ht7_2 dX11_box_7 (by decide) (by decide) (off := 47) (q := 54) rfl (by decide) ?_
    refine V_aload_n dX11_box_54 rfl 3 rfl ?_
    refine V_cVeI (As := []) (k_X0_sumOfSizes x1 M2) (fun _ h => o_X0_sumOfSizes h) ok_X0_sumOfSizes im_X0_sumOfSizes se_X0_sumOfSizes rfl (ci := 0) rfl ml_X11_156 ⟨⟨(Nat.le_of_ble_eq_true rfl), (Nat.le_of_ble_eq_true rfl)⟩, (Nat.le_of_ble_eq_true rfl), (Nat.le_of_ble_eq_true rfl)⟩ dX11_box_55 rfl rfl rfl (Nat.le_of_ble_eq_true rfl) rfl rfl (fun x5 => ?_)
    exact V_iret dX11_box_58 rfl rfl ⟨(Nat.le_of_ble_eq_true rfl), (Nat.le_of_ble_eq_true rfl)⟩
  refine V_if (fun ht7_3 => ?_) (fun ht7_3 => ?_)
  · refine V_tsIn ht7_3 dX11_box_7 (by decide) (by decide) (off := 52) (q := 59) rfl (by decide) ?_
    refine V_aload_n dX11_box_59 rfl 3 rfl ?_
    refine V_cVeI (As := []) (k_X0_size x1 M2) (fun _ h => o_X0_size h) ok_X0_size im_X0_size se_X0_size rfl (ci := 0) rfl ml_X11_150 ⟨⟨(Nat.le_of_ble_eq_true rfl), (Nat.le_of_ble_eq_true rfl)⟩, (Nat.le_of_ble_eq_true rfl), (Nat.le_of_ble_eq_true rfl)⟩ dX11_box_60 rfl rfl rfl (Nat.le_of_ble_eq_true rfl) rfl rfl (fun x6 => ?_)
    refine V_aload_n dX11_box_63 rfl 3 rfl ?_
    refine V_iconst (x := 1) dX11_box_64 rfl rfl ?_
    refine V_cVeI (As := [.int 1]) (k_X0_withFlag x1 1 M2) (fun _ h => o_X0_withFlag h) ok_X0_withFlag im_X0_withFlag se_X0_withFlag rfl (ci := 0) rfl ml_X11_159 ⟨⟨(Nat.le_of_ble_eq_true rfl), (Nat.le_of_ble_eq_true rfl)⟩, (Nat.le_of_ble_eq_true rfl), (Nat.le_of_ble_eq_true rfl)⟩ dX11_box_65 rfl rfl rfl (Nat.le_of_ble_eq_true rfl) rfl rfl (fun x7 => ?_)
    refine V_bitc ml_X11_163 dX11_box_68 rfl ⟨⟨(Nat.le_of_ble_eq_true rfl), (Nat.le_of_ble_eq_true rfl)⟩, (Nat.le_of_ble_eq_true rfl), (Nat.le_of_ble_eq_true rfl)⟩ (Nat.le_of_ble_eq_true rfl) ?_
    refine V_isub dX11_box_71 rfl ?_
    exact V_iret dX11_box_72 rfl rfl ⟨(Nat.le_of_ble_eq_true rfl), (Nat.le_of_ble_eq_true rfl)⟩
  refine V_if (fun ht7_4 => ?_) (fun ht7_4 => ?_)
  · refine V_tsIn ht7_4 dX11_box_7 (by decide) (by decide) (off := 66) (q := 73) rfl (by decide) ?_
    refine V_aload_n dX11_box_73 rfl 3 rfl ?_
    refine V_bipush (x := 8) dX11_box_74 rfl rfl ?_
    refine V_cVeI (As := [.int 8]) (k_X0_withFlag x1 8 M2) (fun _ h => o_X0_withFlag h) ok_X0_withFlag im_X0_withFlag se_X0_withFlag rfl (ci := 0) rfl ml_X11_159 ⟨⟨(Nat.le_of_ble_eq_true rfl), (Nat.le_of_ble_eq_true rfl)⟩, (Nat.le_of_ble_eq_true rfl), (Nat.le_of_ble_eq_true rfl)⟩ dX11_box_76 rfl rfl rfl (Nat.le_of_ble_eq_true rfl) rfl rfl (fun x8 => ?_)
    refine V_bitc ml_X11_163 dX11_box_79 rfl ⟨⟨(Nat.le_of_ble_eq_true rfl), (Nat.le_of_ble_eq_true rfl)⟩, (Nat.le_of_ble_eq_true rfl), (Nat.le_of_ble_eq_true rfl)⟩ (Nat.le_of_ble_eq_true rfl) ?_
    exact V_iret dX11_box_82 rfl rfl ⟨(Nat.le_of_ble_eq_true rfl), (Nat.le_of_ble_eq_true rfl)⟩
  refine V_if (fun ht7_5 => ?_) (fun ht7_5 => ?_)
  · refine V_tsIn ht7_5 dX11_box_7 (by decide) (by decide) (off := 76) (q := 83) rfl (by decide) ?_
    refine V_aload_n dX11_box_83 rfl 0 rfl ?_
    refine V_getR dX11_box_84 rfl (ci := 10) (T := TX11) rfl (by decide) fl_X11_24 (fun x9 => ?_)
    refine V_iload_n dX11_box_87 rfl 1 rfl ?_
    refine V_cVeI (As := [.int a1]) (k_X8_sessionsOf x9 a1 M2) (fun _ h => o_X8_sessionsOf h) ok_X8_sessionsOf im_X8_sessionsOf se_X8_sessionsOf rfl (ci := 7) rfl ml_X11_168 ⟨⟨(Nat.le_of_ble_eq_true rfl), (Nat.le_of_ble_eq_true rfl)⟩, (Nat.le_of_ble_eq_true rfl), (Nat.le_of_ble_eq_true rfl)⟩ dX11_box_88 rfl rfl rfl (Nat.le_of_ble_eq_true rfl) rfl rfl (fun x10 => ?_)
    exact V_iret dX11_box_91 rfl rfl ⟨(Nat.le_of_ble_eq_true rfl), (Nat.le_of_ble_eq_true rfl)⟩
  refine V_tsOut (q := 92) (ts_6 ht7_0 ht7_1 ht7_2 ht7_3 ht7_4 ht7_5) dX11_box_7 (by decide) ?_
  exact V_throw th_X11_99_103 sr_X11_171 rfl dX11_box_92 dX11_box_95 dX11_box_96 dX11_box_98 dX11_box_101 ⟨(Nat.le_of_ble_eq_true rfl), (Nat.le_of_ble_eq_true rfl)⟩ ⟨(Nat.le_of_ble_eq_true rfl), (Nat.le_of_ble_eq_true rfl)⟩ rfl
theorem k_X11_box (this : Nat) (a1 : Int32) (a2 : Int32) (M : Mem) : K mi_X11_box [.ref this, .int a1, .int a2] M (f_X11_box this a1 a2 M) tI := K_of_V ok_X11_box (Nat.le_of_ble_eq_true rfl) (v_X11_box this a1 a2 M)
theorem o_X11_box {this : Nat} {a1 : Int32} {a2 : Int32} {M : Mem} {x} (h : f_X11_box this a1 a2 M = some x) : isO M 10 this = true := (ob_of h).1
theorem dX11_message_0 : decode cX11_message 0 = .ok (.aload_n 0, 1) := by decide +kernel
theorem dX11_message_1 : decode cX11_message 1 = .ok (.iload_n 1, 1) := by decide +kernel
theorem dX11_message_2 : decode cX11_message 2 = .ok (.invokevirtual 146, 3) := by decide +kernel
theorem dX11_message_5 : decode cX11_message 5 = .ok (.astore 4, 2) := by decide +kernel
theorem dX11_message_7 : decode cX11_message 7 = .ok (.iload_n 2, 1) := by decide +kernel
theorem dX11_message_8 : decode cX11_message 8 = .ok (.ifCond .lt 12, 3) := by decide +kernel
theorem dX11_message_11 : decode cX11_message 11 = .ok (.iload_n 2, 1) := by decide +kernel
theorem dX11_message_12 : decode cX11_message 12 = .ok (.aload 4, 2) := by decide +kernel
theorem dX11_message_14 : decode cX11_message 14 = .ok (.invokevirtual 150, 3) := by decide +kernel
theorem dX11_message_17 : decode cX11_message 17 = .ok (.if_icmp .lt 13, 3) := by decide +kernel
theorem dX11_message_20 : decode cX11_message 20 = .ok (.new 173, 3) := by decide +kernel
theorem dX11_message_23 : decode cX11_message 23 = .ok (.dup, 1) := by decide +kernel
theorem dX11_message_24 : decode cX11_message 24 = .ok (.ldc 175, 2) := by decide +kernel
theorem dX11_message_26 : decode cX11_message 26 = .ok (.invokespecial 177, 3) := by decide +kernel
theorem dX11_message_29 : decode cX11_message 29 = .ok (.athrow, 1) := by decide +kernel
theorem dX11_message_30 : decode cX11_message 30 = .ok (.iload_n 3, 1) := by decide +kernel
theorem dX11_message_31 : decode cX11_message 31 = .ok (.tableswitch 55 0 2 #[25, 35, 45], 25) := by decide +kernel
theorem dX11_message_56 : decode cX11_message 56 = .ok (.aload 4, 2) := by decide +kernel
theorem dX11_message_58 : decode cX11_message 58 = .ok (.getfield 178, 3) := by decide +kernel
theorem dX11_message_61 : decode cX11_message 61 = .ok (.iload_n 2, 1) := by decide +kernel
theorem dX11_message_62 : decode cX11_message 62 = .ok (.invokevirtual 182, 3) := by decide +kernel
theorem dX11_message_65 : decode cX11_message 65 = .ok (.ireturn, 1) := by decide +kernel
theorem dX11_message_66 : decode cX11_message 66 = .ok (.aload 4, 2) := by decide +kernel
theorem dX11_message_68 : decode cX11_message 68 = .ok (.getfield 187, 3) := by decide +kernel
theorem dX11_message_71 : decode cX11_message 71 = .ok (.iload_n 2, 1) := by decide +kernel
theorem dX11_message_72 : decode cX11_message 72 = .ok (.invokevirtual 182, 3) := by decide +kernel
theorem dX11_message_75 : decode cX11_message 75 = .ok (.ireturn, 1) := by decide +kernel
theorem dX11_message_76 : decode cX11_message 76 = .ok (.aload 4, 2) := by decide +kernel
theorem dX11_message_78 : decode cX11_message 78 = .ok (.getfield 190, 3) := by decide +kernel
theorem dX11_message_81 : decode cX11_message 81 = .ok (.iload_n 2, 1) := by decide +kernel
theorem dX11_message_82 : decode cX11_message 82 = .ok (.invokevirtual 182, 3) := by decide +kernel
theorem dX11_message_85 : decode cX11_message 85 = .ok (.ireturn, 1) := by decide +kernel
theorem dX11_message_86 : decode cX11_message 86 = .ok (.new 99, 3) := by decide +kernel
theorem dX11_message_89 : decode cX11_message 89 = .ok (.dup, 1) := by decide +kernel
theorem dX11_message_90 : decode cX11_message 90 = .ok (.ldc 193, 2) := by decide +kernel
theorem dX11_message_92 : decode cX11_message 92 = .ok (.invokespecial 103, 3) := by decide +kernel
theorem dX11_message_95 : decode cX11_message 95 = .ok (.athrow, 1) := by decide +kernel
def mi_X11_message : MI := (RX11, yX11_message, cX11_message, 5, some .int, [], { frames := 9, cells := 2, slots := 12, locals := 142 })
theorem ok_X11_message : mOK mi_X11_message 3 := ⟨rfl, cw_X11_message, ini_X11, ⟨rfl, by decide⟩, by decide, by decide, rfl⟩
theorem v_X11_message_20 (M : Mem) : V mi_X11_message 20 [] [] M 1 6 (f_X11_message_20 M) tI := by
  unfold f_X11_message_20
  exact V_throw th_X11_173_177 sr_X11_175 rfl dX11_message_20 dX11_message_23 dX11_message_24 dX11_message_26 dX11_message_29 ⟨(Nat.le_of_ble_eq_true rfl), (Nat.le_of_ble_eq_true rfl)⟩ ⟨(Nat.le_of_ble_eq_true rfl), (Nat.le_of_ble_eq_true rfl)⟩ rfl
theorem v_X11_message (this : Nat) (a1 : Int32) (a2 : Int32) (a3 : Int32) (M : Mem) : V mi_X11_message 0 [(0, .ref this), (1, .int a1), (2, .int a2), (3, .int a3)] [] M 0 0 (f_X11_message this a1 a2 a3 M) tI := by
  unfold f_X11_message
  refine V_ob fun _ _ => ?_
  refine V_aload_n dX11_message_0 rfl 0 rfl ?_
  refine V_iload_n dX11_message_1 rfl 1 rfl ?_
  refine V_cVtR (As := [.int a1]) (k_X11_requireBox this a1 M) rfl (fun _ _ => rfl) (fun _ h => o_X11_requireBox h) ok_X11_requireBox im_X11_requireBox se_X11_requireBox rfl (ci := 10) rfl ml_X11_146 ⟨⟨(Nat.le_of_ble_eq_true rfl), (Nat.le_of_ble_eq_true rfl)⟩, (Nat.le_of_ble_eq_true rfl), (Nat.le_of_ble_eq_true rfl)⟩ dX11_message_2 rfl rfl rfl (Nat.le_of_ble_eq_true rfl) rfl rfl (fun x1 M2 => ?_)
  refine V_astore (L' := [(0, .ref this), (1, .int a1), (2, .int a2), (3, .int a3), (4, .ref x1)]) dX11_message_5 rfl (by decide) rfl ?_
  refine V_iload_n dX11_message_7 rfl 2 rfl ?_
  refine V_if_lt (q := 20) (q2 := 11) dX11_message_8 (by decide) rfl ?_ ?_
  · exact V_sub [] rfl (v_X11_message_20 M2)
  · refine V_iload_n dX11_message_11 rfl 2 rfl ?_
    refine V_aload dX11_message_12 rfl 4 rfl ?_
    refine V_cVeI (As := []) (k_X0_size x1 M2) (fun _ h => o_X0_size h) ok_X0_size im_X0_size se_X0_size rfl (ci := 0) rfl ml_X11_150 ⟨⟨(Nat.le_of_ble_eq_true rfl), (Nat.le_of_ble_eq_true rfl)⟩, (Nat.le_of_ble_eq_true rfl), (Nat.le_of_ble_eq_true rfl)⟩ dX11_message_14 rfl rfl rfl (Nat.le_of_ble_eq_true rfl) rfl rfl (fun x3 => ?_)
    refine V_icmp_lt (q := 30) (q2 := 20) dX11_message_17 (by decide) rfl ?_ ?_
    · refine V_iload_n dX11_message_30 rfl 3 rfl ?_
      refine V_if (fun ht31_0 => ?_) (fun ht31_0 => ?_)
      · refine V_tsIn ht31_0 dX11_message_31 (by decide) (by decide) (off := 25) (q := 56) rfl (by decide) ?_
        refine V_aload dX11_message_56 rfl 4 rfl ?_
        refine V_getR dX11_message_58 rfl (ci := 0) (T := TX0) rfl (by decide) fl_X11_178 (fun x4 => ?_)
        refine V_iload_n dX11_message_61 rfl 2 rfl ?_
        refine V_cVeI (As := [.int a2]) (k_X5_get x4 a2 M2) (fun _ h => o_X5_get h) ok_X5_get im_X5_get se_X5_get rfl (ci := 4) rfl ml_X11_182 ⟨⟨(Nat.le_of_ble_eq_true rfl), (Nat.le_of_ble_eq_true rfl)⟩, (Nat.le_of_ble_eq_true rfl), (Nat.le_of_ble_eq_true rfl)⟩ dX11_message_62 rfl rfl rfl (Nat.le_of_ble_eq_true rfl) rfl rfl (fun x5 => ?_)
        exact V_iret dX11_message_65 rfl rfl ⟨(Nat.le_of_ble_eq_true rfl), (Nat.le_of_ble_eq_true rfl)⟩
      refine V_if (fun ht31_1 => ?_) (fun ht31_1 => ?_)
      · refine V_tsIn ht31_1 dX11_message_31 (by decide) (by decide) (off := 35) (q := 66) rfl (by decide) ?_
        refine V_aload dX11_message_66 rfl 4 rfl ?_
        refine V_getR dX11_message_68 rfl (ci := 0) (T := TX0) rfl (by decide) fl_X11_187 (fun x6 => ?_)
        refine V_iload_n dX11_message_71 rfl 2 rfl ?_
        refine V_cVeI (As := [.int a2]) (k_X5_get x6 a2 M2) (fun _ h => o_X5_get h) ok_X5_get im_X5_get se_X5_get rfl (ci := 4) rfl ml_X11_182 ⟨⟨(Nat.le_of_ble_eq_true rfl), (Nat.le_of_ble_eq_true rfl)⟩, (Nat.le_of_ble_eq_true rfl), (Nat.le_of_ble_eq_true rfl)⟩ dX11_message_72 rfl rfl rfl (Nat.le_of_ble_eq_true rfl) rfl rfl (fun x7 => ?_)
        exact V_iret dX11_message_75 rfl rfl ⟨(Nat.le_of_ble_eq_true rfl), (Nat.le_of_ble_eq_true rfl)⟩
      refine V_if (fun ht31_2 => ?_) (fun ht31_2 => ?_)
      · refine V_tsIn ht31_2 dX11_message_31 (by decide) (by decide) (off := 45) (q := 76) rfl (by decide) ?_
        refine V_aload dX11_message_76 rfl 4 rfl ?_
        refine V_getR dX11_message_78 rfl (ci := 0) (T := TX0) rfl (by decide) fl_X11_190 (fun x8 => ?_)
        refine V_iload_n dX11_message_81 rfl 2 rfl ?_
        refine V_cVeI (As := [.int a2]) (k_X5_get x8 a2 M2) (fun _ h => o_X5_get h) ok_X5_get im_X5_get se_X5_get rfl (ci := 4) rfl ml_X11_182 ⟨⟨(Nat.le_of_ble_eq_true rfl), (Nat.le_of_ble_eq_true rfl)⟩, (Nat.le_of_ble_eq_true rfl), (Nat.le_of_ble_eq_true rfl)⟩ dX11_message_82 rfl rfl rfl (Nat.le_of_ble_eq_true rfl) rfl rfl (fun x9 => ?_)
        exact V_iret dX11_message_85 rfl rfl ⟨(Nat.le_of_ble_eq_true rfl), (Nat.le_of_ble_eq_true rfl)⟩
      refine V_tsOut (q := 86) (ts_3 ht31_0 ht31_1 ht31_2) dX11_message_31 (by decide) ?_
      exact V_throw th_X11_99_103 sr_X11_193 rfl dX11_message_86 dX11_message_89 dX11_message_90 dX11_message_92 dX11_message_95 ⟨(Nat.le_of_ble_eq_true rfl), (Nat.le_of_ble_eq_true rfl)⟩ ⟨(Nat.le_of_ble_eq_true rfl), (Nat.le_of_ble_eq_true rfl)⟩ rfl
    · exact V_sub [] rfl (v_X11_message_20 M2)
theorem k_X11_message (this : Nat) (a1 : Int32) (a2 : Int32) (a3 : Int32) (M : Mem) : K mi_X11_message [.ref this, .int a1, .int a2, .int a3] M (f_X11_message this a1 a2 a3 M) tI := K_of_V ok_X11_message (Nat.le_of_ble_eq_true rfl) (v_X11_message this a1 a2 a3 M)
theorem o_X11_message {this : Nat} {a1 : Int32} {a2 : Int32} {a3 : Int32} {M : Mem} {x} (h : f_X11_message this a1 a2 a3 M = some x) : isO M 10 this = true := (ob_of h).1
theorem dX11_indexOf_0 : decode cX11_indexOf 0 = .ok (.aload_n 0, 1) := by decide +kernel
theorem dX11_indexOf_1 : decode cX11_indexOf 1 = .ok (.iload_n 1, 1) := by decide +kernel
theorem dX11_indexOf_2 : decode cX11_indexOf 2 = .ok (.invokevirtual 146, 3) := by decide +kernel
theorem dX11_indexOf_5 : decode cX11_indexOf 5 = .ok (.iload_n 2, 1) := by decide +kernel
theorem dX11_indexOf_6 : decode cX11_indexOf 6 = .ok (.invokevirtual 195, 3) := by decide +kernel
theorem dX11_indexOf_9 : decode cX11_indexOf 9 = .ok (.ireturn, 1) := by decide +kernel
def mi_X11_indexOf : MI := (RX11, yX11_indexOf, cX11_indexOf, 3, some .int, [], { frames := 9, cells := 1, slots := 6, locals := 142 })
theorem ok_X11_indexOf : mOK mi_X11_indexOf 2 := ⟨rfl, cw_X11_indexOf, ini_X11, ⟨rfl, by decide⟩, by decide, by decide, rfl⟩
theorem v_X11_indexOf (this : Nat) (a1 : Int32) (a2 : Int32) (M : Mem) : V mi_X11_indexOf 0 [(0, .ref this), (1, .int a1), (2, .int a2)] [] M 0 0 (f_X11_indexOf this a1 a2 M) tI := by
  unfold f_X11_indexOf
  refine V_ob fun _ _ => ?_
  refine V_aload_n dX11_indexOf_0 rfl 0 rfl ?_
  refine V_iload_n dX11_indexOf_1 rfl 1 rfl ?_
  refine V_cVtR (As := [.int a1]) (k_X11_requireBox this a1 M) rfl (fun _ _ => rfl) (fun _ h => o_X11_requireBox h) ok_X11_requireBox im_X11_requireBox se_X11_requireBox rfl (ci := 10) rfl ml_X11_146 ⟨⟨(Nat.le_of_ble_eq_true rfl), (Nat.le_of_ble_eq_true rfl)⟩, (Nat.le_of_ble_eq_true rfl), (Nat.le_of_ble_eq_true rfl)⟩ dX11_indexOf_2 rfl rfl rfl (Nat.le_of_ble_eq_true rfl) rfl rfl (fun x1 M2 => ?_)
  refine V_iload_n dX11_indexOf_5 rfl 2 rfl ?_
  refine V_cVeI (As := [.int a2]) (k_X0_indexOfUid x1 a2 M2) (fun _ h => o_X0_indexOfUid h) ok_X0_indexOfUid im_X0_indexOfUid se_X0_indexOfUid rfl (ci := 0) rfl ml_X11_195 ⟨⟨(Nat.le_of_ble_eq_true rfl), (Nat.le_of_ble_eq_true rfl)⟩, (Nat.le_of_ble_eq_true rfl), (Nat.le_of_ble_eq_true rfl)⟩ dX11_indexOf_6 rfl rfl rfl (Nat.le_of_ble_eq_true rfl) rfl rfl (fun x3 => ?_)
  exact V_iret dX11_indexOf_9 rfl rfl ⟨(Nat.le_of_ble_eq_true rfl), (Nat.le_of_ble_eq_true rfl)⟩
theorem k_X11_indexOf (this : Nat) (a1 : Int32) (a2 : Int32) (M : Mem) : K mi_X11_indexOf [.ref this, .int a1, .int a2] M (f_X11_indexOf this a1 a2 M) tI := K_of_V ok_X11_indexOf (Nat.le_of_ble_eq_true rfl) (v_X11_indexOf this a1 a2 M)
theorem o_X11_indexOf {this : Nat} {a1 : Int32} {a2 : Int32} {M : Mem} {x} (h : f_X11_indexOf this a1 a2 M = some x) : isO M 10 this = true := (ob_of h).1
theorem dX11_requireSession_0 : decode cX11_requireSession 0 = .ok (.aload_n 0, 1) := by decide +kernel
theorem dX11_requireSession_1 : decode cX11_requireSession 1 = .ok (.getfield 24, 3) := by decide +kernel
theorem dX11_requireSession_4 : decode cX11_requireSession 4 = .ok (.iload_n 1, 1) := by decide +kernel
theorem dX11_requireSession_5 : decode cX11_requireSession 5 = .ok (.invokevirtual 426, 3) := by decide +kernel
theorem dX11_requireSession_8 : decode cX11_requireSession 8 = .ok (.astore_n 2, 1) := by decide +kernel
theorem dX11_requireSession_9 : decode cX11_requireSession 9 = .ok (.aload_n 2, 1) := by decide +kernel
theorem dX11_requireSession_10 : decode cX11_requireSession 10 = .ok (.ifnonnull 14, 3) := by decide +kernel
theorem dX11_requireSession_13 : decode cX11_requireSession 13 = .ok (.new 173, 3) := by decide +kernel
theorem dX11_requireSession_16 : decode cX11_requireSession 16 = .ok (.dup, 1) := by decide +kernel
theorem dX11_requireSession_17 : decode cX11_requireSession 17 = .ok (.ldc_w 429, 3) := by decide +kernel
theorem dX11_requireSession_20 : decode cX11_requireSession 20 = .ok (.invokespecial 177, 3) := by decide +kernel
theorem dX11_requireSession_23 : decode cX11_requireSession 23 = .ok (.athrow, 1) := by decide +kernel
theorem dX11_requireSession_24 : decode cX11_requireSession 24 = .ok (.aload_n 2, 1) := by decide +kernel
theorem dX11_requireSession_25 : decode cX11_requireSession 25 = .ok (.areturn, 1) := by decide +kernel
def mi_X11_requireSession : MI := (RX11, yX11_requireSession, cX11_requireSession, 3, some (.object "MailSessions$Session"), [], { frames := 8, cells := 1, slots := 6, locals := 120 })
theorem ok_X11_requireSession : mOK mi_X11_requireSession 1 := ⟨rfl, cw_X11_requireSession, ini_X11, ⟨rfl, by decide⟩, by decide, by decide, rfl⟩
theorem v_X11_requireSession (this : Nat) (a1 : Int32) (M : Mem) : V mi_X11_requireSession 0 [(0, .ref this), (1, .int a1)] [] M 0 0 (f_X11_requireSession this a1 M) tR := by
  unfold f_X11_requireSession
  refine V_ob fun _ _ => ?_
  refine V_aload_n dX11_requireSession_0 rfl 0 rfl ?_
  refine V_getR dX11_requireSession_1 rfl (ci := 10) (T := TX11) rfl (by decide) fl_X11_24 (fun x1 => ?_)
  refine V_iload_n dX11_requireSession_4 rfl 1 rfl ?_
  refine V_cVeQ (As := [.int a1]) (k_X8_sessionAt x1 a1 M) (fun _ h => o_X8_sessionAt h) ok_X8_sessionAt im_X8_sessionAt se_X8_sessionAt rfl (ci := 7) rfl ml_X11_426 ⟨⟨(Nat.le_of_ble_eq_true rfl), (Nat.le_of_ble_eq_true rfl)⟩, (Nat.le_of_ble_eq_true rfl), (Nat.le_of_ble_eq_true rfl)⟩ dX11_requireSession_5 rfl rfl rfl (Nat.le_of_ble_eq_true rfl) rfl rfl (fun x2 => ?_)
  refine V_astore_nQ (L' := [(0, .ref this), (1, .int a1), (2, va_rf x2)]) dX11_requireSession_8 rfl (by decide) (by rcases (x2 : Option Nat) with _ | _ <;> rfl) ?_
  refine V_aload_nQ dX11_requireSession_9 rfl 2 rfl ?_
  rcases x2 with _ | r3
  · refine V_ifnonnull_n dX11_requireSession_10 rfl ?_
    exact V_throwW th_X11_173_177 sr_X11_429 rfl dX11_requireSession_13 dX11_requireSession_16 dX11_requireSession_17 dX11_requireSession_20 dX11_requireSession_23 ⟨(Nat.le_of_ble_eq_true rfl), (Nat.le_of_ble_eq_true rfl)⟩ ⟨(Nat.le_of_ble_eq_true rfl), (Nat.le_of_ble_eq_true rfl)⟩ rfl
  · refine V_ifnonnull_r (q := 24) dX11_requireSession_10 (by decide) ?_
    refine V_aload_n dX11_requireSession_24 rfl 2 rfl ?_
    exact V_aret (v := some r3) dX11_requireSession_25 rfl (Or.inl ⟨_, rfl⟩) rfl ⟨(Nat.le_of_ble_eq_true rfl), (Nat.le_of_ble_eq_true rfl)⟩
theorem k_X11_requireSession (this : Nat) (a1 : Int32) (M : Mem) : K mi_X11_requireSession [.ref this, .int a1] M (f_X11_requireSession this a1 M) tR := K_of_V ok_X11_requireSession (Nat.le_of_ble_eq_true rfl) (v_X11_requireSession this a1 M)
theorem o_X11_requireSession {this : Nat} {a1 : Int32} {M : Mem} {x} (h : f_X11_requireSession this a1 M = some x) : isO M 10 this = true := (ob_of h).1
theorem dX11_session_0 : decode cX11_session 0 = .ok (.aload_n 0, 1) := by decide +kernel
theorem dX11_session_1 : decode cX11_session 1 = .ok (.iload_n 1, 1) := by decide +kernel
theorem dX11_session_2 : decode cX11_session 2 = .ok (.invokevirtual 198, 3) := by decide +kernel
theorem dX11_session_5 : decode cX11_session 5 = .ok (.astore_n 3, 1) := by decide +kernel
theorem dX11_session_6 : decode cX11_session 6 = .ok (.aload_n 0, 1) := by decide +kernel
theorem dX11_session_7 : decode cX11_session 7 = .ok (.getfield 24, 3) := by decide +kernel
theorem dX11_session_10 : decode cX11_session 10 = .ok (.aload_n 3, 1) := by decide +kernel
theorem dX11_session_11 : decode cX11_session 11 = .ok (.invokevirtual 202, 3) := by decide +kernel
theorem dX11_session_14 : decode cX11_session 14 = .ok (.astore 4, 2) := by decide +kernel
theorem dX11_session_16 : decode cX11_session 16 = .ok (.iload_n 2, 1) := by decide +kernel
theorem dX11_session_17 : decode cX11_session 17 = .ok (.tableswitch 100 0 6 #[43, 48, 61, 74, 79, 86, 93], 43) := by decide +kernel
theorem dX11_session_60 : decode cX11_session 60 = .ok (.aload_n 3, 1) := by decide +kernel
theorem dX11_session_61 : decode cX11_session 61 = .ok (.getfield 206, 3) := by decide +kernel
theorem dX11_session_64 : decode cX11_session 64 = .ok (.ireturn, 1) := by decide +kernel
theorem dX11_session_65 : decode cX11_session 65 = .ok (.aload_n 3, 1) := by decide +kernel
theorem dX11_session_66 : decode cX11_session 66 = .ok (.getfield 211, 3) := by decide +kernel
theorem dX11_session_69 : decode cX11_session 69 = .ok (.ifCond .eq 7, 3) := by decide +kernel
theorem dX11_session_72 : decode cX11_session 72 = .ok (.iconst 1, 1) := by decide +kernel
theorem dX11_session_73 : decode cX11_session 73 = .ok (.goto 4, 3) := by decide +kernel
theorem dX11_session_76 : decode cX11_session 76 = .ok (.iconst 0, 1) := by decide +kernel
theorem dX11_session_77 : decode cX11_session 77 = .ok (.ireturn, 1) := by decide +kernel
theorem dX11_session_78 : decode cX11_session 78 = .ok (.aload_n 3, 1) := by decide +kernel
theorem dX11_session_79 : decode cX11_session 79 = .ok (.getfield 215, 3) := by decide +kernel
theorem dX11_session_82 : decode cX11_session 82 = .ok (.ifCond .eq 7, 3) := by decide +kernel
theorem dX11_session_85 : decode cX11_session 85 = .ok (.iconst 1, 1) := by decide +kernel
theorem dX11_session_86 : decode cX11_session 86 = .ok (.goto 4, 3) := by decide +kernel
theorem dX11_session_89 : decode cX11_session 89 = .ok (.iconst 0, 1) := by decide +kernel
theorem dX11_session_90 : decode cX11_session 90 = .ok (.ireturn, 1) := by decide +kernel
theorem dX11_session_91 : decode cX11_session 91 = .ok (.aload_n 3, 1) := by decide +kernel
theorem dX11_session_92 : decode cX11_session 92 = .ok (.invokevirtual 218, 3) := by decide +kernel
theorem dX11_session_95 : decode cX11_session 95 = .ok (.ireturn, 1) := by decide +kernel
theorem dX11_session_96 : decode cX11_session 96 = .ok (.aload_n 3, 1) := by decide +kernel
theorem dX11_session_97 : decode cX11_session 97 = .ok (.aload 4, 2) := by decide +kernel
theorem dX11_session_99 : decode cX11_session 99 = .ok (.invokevirtual 219, 3) := by decide +kernel
theorem dX11_session_102 : decode cX11_session 102 = .ok (.ireturn, 1) := by decide +kernel
theorem dX11_session_103 : decode cX11_session 103 = .ok (.aload_n 3, 1) := by decide +kernel
theorem dX11_session_104 : decode cX11_session 104 = .ok (.aload 4, 2) := by decide +kernel
theorem dX11_session_106 : decode cX11_session 106 = .ok (.invokevirtual 223, 3) := by decide +kernel
theorem dX11_session_109 : decode cX11_session 109 = .ok (.ireturn, 1) := by decide +kernel
theorem dX11_session_110 : decode cX11_session 110 = .ok (.aload_n 3, 1) := by decide +kernel
theorem dX11_session_111 : decode cX11_session 111 = .ok (.aload 4, 2) := by decide +kernel
theorem dX11_session_113 : decode cX11_session 113 = .ok (.invokevirtual 226, 3) := by decide +kernel
theorem dX11_session_116 : decode cX11_session 116 = .ok (.ireturn, 1) := by decide +kernel
theorem dX11_session_117 : decode cX11_session 117 = .ok (.new 99, 3) := by decide +kernel
theorem dX11_session_120 : decode cX11_session 120 = .ok (.dup, 1) := by decide +kernel
theorem dX11_session_121 : decode cX11_session 121 = .ok (.ldc 229, 2) := by decide +kernel
theorem dX11_session_123 : decode cX11_session 123 = .ok (.invokespecial 103, 3) := by decide +kernel
theorem dX11_session_126 : decode cX11_session 126 = .ok (.athrow, 1) := by decide +kernel
def mi_X11_session : MI := (RX11, yX11_session, cX11_session, 5, some .int, [], { frames := 9, cells := 2, slots := 12, locals := 142 })
theorem ok_X11_session : mOK mi_X11_session 2 := ⟨rfl, cw_X11_session, ini_X11, ⟨rfl, by decide⟩, by decide, by decide, rfl⟩
theorem v_X11_session (this : Nat) (a1 : Int32) (a2 : Int32) (M : Mem) : V mi_X11_session 0 [(0, .ref this), (1, .int a1), (2, .int a2)] [] M 0 0 (f_X11_session this a1 a2 M) tI := by
  unfold f_X11_session
  refine V_ob fun _ _ => ?_
  refine V_aload_n dX11_session_0 rfl 0 rfl ?_
  refine V_iload_n dX11_session_1 rfl 1 rfl ?_
  refine V_cVtR (As := [.int a1]) (k_X11_requireSession this a1 M) rfl (fun _ _ => rfl) (fun _ h => o_X11_requireSession h) ok_X11_requireSession im_X11_requireSession se_X11_requireSession rfl (ci := 10) rfl ml_X11_198 ⟨⟨(Nat.le_of_ble_eq_true rfl), (Nat.le_of_ble_eq_true rfl)⟩, (Nat.le_of_ble_eq_true rfl), (Nat.le_of_ble_eq_true rfl)⟩ dX11_session_2 rfl rfl rfl (Nat.le_of_ble_eq_true rfl) rfl rfl (fun x1 M2 => ?_)
  refine V_astore_n (L' := [(0, .ref this), (1, .int a1), (2, .int a2), (3, .ref x1)]) dX11_session_5 rfl (by decide) rfl ?_
  refine V_aload_n dX11_session_6 rfl 0 rfl ?_
  refine V_getR dX11_session_7 rfl (ci := 10) (T := TX11) rfl (by decide) fl_X11_24 (fun x3 => ?_)
  refine V_aload_n dX11_session_10 rfl 3 rfl ?_
  refine V_cVeR (As := [.ref x1]) (k_X8_boxOf x3 x1 M2) (fun _ h => o_X8_boxOf h) ok_X8_boxOf im_X8_boxOf se_X8_boxOf rfl (ci := 7) rfl ml_X11_202 ⟨⟨(Nat.le_of_ble_eq_true rfl), (Nat.le_of_ble_eq_true rfl)⟩, (Nat.le_of_ble_eq_true rfl), (Nat.le_of_ble_eq_true rfl)⟩ dX11_session_11 rfl rfl rfl (Nat.le_of_ble_eq_true rfl) rfl rfl (fun x4 => ?_)
  refine V_astore (L' := [(0, .ref this), (1, .int a1), (2, .int a2), (3, .ref x1), (4, .ref x4)]) dX11_session_14 rfl (by decide) rfl ?_
  refine V_iload_n dX11_session_16 rfl 2 rfl ?_
  refine V_if (fun ht17_0 => ?_) (fun ht17_0 => ?_)
  · refine V_tsIn ht17_0 dX11_session_17 (by decide) (by decide) (off := 43) (q := 60) rfl (by decide) ?_
    refine V_aload_n dX11_session_60 rfl 3 rfl ?_
    refine V_getI dX11_session_61 rfl (ci := 6) (T := TX7) rfl (by decide) fl_X11_206 (fun x5 => ?_)
    exact V_iret dX11_session_64 rfl rfl ⟨(Nat.le_of_ble_eq_true rfl), (Nat.le_of_ble_eq_true rfl)⟩
  refine V_if (fun ht17_1 => ?_) (fun ht17_1 => ?_)
  · refine V_tsIn ht17_1 dX11_session_17 (by decide) (by decide) (off := 48) (q := 65) rfl (by decide) ?_
    refine V_aload_n dX11_session_65 rfl 3 rfl ?_
    refine V_getZ dX11_session_66 rfl (ci := 6) (T := TX7) rfl (by decide) fl_X11_211 (fun x6 => ?_)
    refine V_ifz_eq (q := 76) (q2 := 72) dX11_session_69 (by decide) rfl ?_ ?_
    · refine V_iconst (x := 0) dX11_session_76 rfl rfl ?_
      exact V_iret dX11_session_77 rfl rfl ⟨(Nat.le_of_ble_eq_true rfl), (Nat.le_of_ble_eq_true rfl)⟩
    · refine V_iconst (x := 1) dX11_session_72 rfl rfl ?_
      refine V_goto (q := 77) dX11_session_73 (by decide) ?_
      exact V_iret dX11_session_77 rfl rfl ⟨(Nat.le_of_ble_eq_true rfl), (Nat.le_of_ble_eq_true rfl)⟩
  refine V_if (fun ht17_2 => ?_) (fun ht17_2 => ?_)
  · refine V_tsIn ht17_2 dX11_session_17 (by decide) (by decide) (off := 61) (q := 78) rfl (by decide) ?_
    refine V_aload_n dX11_session_78 rfl 3 rfl ?_
    refine V_getZ dX11_session_79 rfl (ci := 6) (T := TX7) rfl (by decide) fl_X11_215 (fun x7 => ?_)
    refine V_ifz_eq (q := 89) (q2 := 85) dX11_session_82 (by decide) rfl ?_ ?_
    · refine V_iconst (x := 0) dX11_session_89 rfl rfl ?_
      exact V_iret dX11_session_90 rfl rfl ⟨(Nat.le_of_ble_eq_true rfl), (Nat.le_of_ble_eq_true rfl)⟩
    · refine V_iconst (x := 1) dX11_session_85 rfl rfl ?_
      refine V_goto (q := 90) dX11_session_86 (by decide) ?_
      exact V_iret dX11_session_90 rfl rfl ⟨(Nat.le_of_ble_eq_true rfl), (Nat.le_of_ble_eq_true rfl)⟩
  refine V_if (fun ht17_3 => ?_) (fun ht17_3 => ?_)
  · refine V_tsIn ht17_3 dX11_session_17 (by decide) (by decide) (off := 74) (q := 91) rfl (by decide) ?_
    refine V_aload_n dX11_session_91 rfl 3 rfl ?_
    refine V_cVeI (As := []) (k_X7_size x1 M2) (fun _ h => o_X7_size h) ok_X7_size im_X7_size se_X7_size rfl (ci := 6) rfl ml_X11_218 ⟨⟨(Nat.le_of_ble_eq_true rfl), (Nat.le_of_ble_eq_true rfl)⟩, (Nat.le_of_ble_eq_true rfl), (Nat.le_of_ble_eq_true rfl)⟩ dX11_session_92 rfl rfl rfl (Nat.le_of_ble_eq_true rfl) rfl rfl (fun x8 => ?_)
    exact V_iret dX11_session_95 rfl rfl ⟨(Nat.le_of_ble_eq_true rfl), (Nat.le_of_ble_eq_true rfl)⟩
  refine V_if (fun ht17_4 => ?_) (fun ht17_4 => ?_)
  · refine V_tsIn ht17_4 dX11_session_17 (by decide) (by decide) (off := 79) (q := 96) rfl (by decide) ?_
    refine V_aload_n dX11_session_96 rfl 3 rfl ?_
    refine V_aload dX11_session_97 rfl 4 rfl ?_
    refine V_cVeI (As := [.ref x4]) (k_X7_countGone x1 x4 M2) (fun _ h => o_X7_countGone h) ok_X7_countGone im_X7_countGone se_X7_countGone rfl (ci := 6) rfl ml_X11_219 ⟨⟨(Nat.le_of_ble_eq_true rfl), (Nat.le_of_ble_eq_true rfl)⟩, (Nat.le_of_ble_eq_true rfl), (Nat.le_of_ble_eq_true rfl)⟩ dX11_session_99 rfl rfl rfl (Nat.le_of_ble_eq_true rfl) rfl rfl (fun x9 => ?_)
    exact V_iret dX11_session_102 rfl rfl ⟨(Nat.le_of_ble_eq_true rfl), (Nat.le_of_ble_eq_true rfl)⟩
  refine V_if (fun ht17_5 => ?_) (fun ht17_5 => ?_)
  · refine V_tsIn ht17_5 dX11_session_17 (by decide) (by decide) (off := 86) (q := 103) rfl (by decide) ?_
    refine V_aload_n dX11_session_103 rfl 3 rfl ?_
    refine V_aload dX11_session_104 rfl 4 rfl ?_
    refine V_cVeI (As := [.ref x4]) (k_X7_countChanged x1 x4 M2) (fun _ h => o_X7_countChanged h) ok_X7_countChanged im_X7_countChanged se_X7_countChanged rfl (ci := 6) rfl ml_X11_223 ⟨⟨(Nat.le_of_ble_eq_true rfl), (Nat.le_of_ble_eq_true rfl)⟩, (Nat.le_of_ble_eq_true rfl), (Nat.le_of_ble_eq_true rfl)⟩ dX11_session_106 rfl rfl rfl (Nat.le_of_ble_eq_true rfl) rfl rfl (fun x10 => ?_)
    exact V_iret dX11_session_109 rfl rfl ⟨(Nat.le_of_ble_eq_true rfl), (Nat.le_of_ble_eq_true rfl)⟩
  refine V_if (fun ht17_6 => ?_) (fun ht17_6 => ?_)
  · refine V_tsIn ht17_6 dX11_session_17 (by decide) (by decide) (off := 93) (q := 110) rfl (by decide) ?_
    refine V_aload_n dX11_session_110 rfl 3 rfl ?_
    refine V_aload dX11_session_111 rfl 4 rfl ?_
    refine V_cVeI (As := [.ref x4]) (k_X7_countNew x1 x4 M2) (fun _ h => o_X7_countNew h) ok_X7_countNew im_X7_countNew se_X7_countNew rfl (ci := 6) rfl ml_X11_226 ⟨⟨(Nat.le_of_ble_eq_true rfl), (Nat.le_of_ble_eq_true rfl)⟩, (Nat.le_of_ble_eq_true rfl), (Nat.le_of_ble_eq_true rfl)⟩ dX11_session_113 rfl rfl rfl (Nat.le_of_ble_eq_true rfl) rfl rfl (fun x11 => ?_)
    exact V_iret dX11_session_116 rfl rfl ⟨(Nat.le_of_ble_eq_true rfl), (Nat.le_of_ble_eq_true rfl)⟩
  refine V_tsOut (q := 117) (ts_7 ht17_0 ht17_1 ht17_2 ht17_3 ht17_4 ht17_5 ht17_6) dX11_session_17 (by decide) ?_
  exact V_throw th_X11_99_103 sr_X11_229 rfl dX11_session_117 dX11_session_120 dX11_session_121 dX11_session_123 dX11_session_126 ⟨(Nat.le_of_ble_eq_true rfl), (Nat.le_of_ble_eq_true rfl)⟩ ⟨(Nat.le_of_ble_eq_true rfl), (Nat.le_of_ble_eq_true rfl)⟩ rfl
theorem k_X11_session (this : Nat) (a1 : Int32) (a2 : Int32) (M : Mem) : K mi_X11_session [.ref this, .int a1, .int a2] M (f_X11_session this a1 a2 M) tI := K_of_V ok_X11_session (Nat.le_of_ble_eq_true rfl) (v_X11_session this a1 a2 M)
theorem o_X11_session {this : Nat} {a1 : Int32} {a2 : Int32} {M : Mem} {x} (h : f_X11_session this a1 a2 M = some x) : isO M 10 this = true := (ob_of h).1
theorem dX11_requireEntry_0 : decode cX11_requireEntry 0 = .ok (.iload_n 1, 1) := by decide +kernel
theorem dX11_requireEntry_1 : decode cX11_requireEntry 1 = .ok (.iconst 1, 1) := by decide +kernel
theorem dX11_requireEntry_2 : decode cX11_requireEntry 2 = .ok (.if_icmp .lt 11, 3) := by decide +kernel
theorem dX11_requireEntry_5 : decode cX11_requireEntry 5 = .ok (.iload_n 1, 1) := by decide +kernel
theorem dX11_requireEntry_6 : decode cX11_requireEntry 6 = .ok (.aload_n 0, 1) := by decide +kernel
theorem dX11_requireEntry_7 : decode cX11_requireEntry 7 = .ok (.invokevirtual 218, 3) := by decide +kernel
theorem dX11_requireEntry_10 : decode cX11_requireEntry 10 = .ok (.if_icmp .le 14, 3) := by decide +kernel
theorem dX11_requireEntry_13 : decode cX11_requireEntry 13 = .ok (.new 173, 3) := by decide +kernel
theorem dX11_requireEntry_16 : decode cX11_requireEntry 16 = .ok (.dup, 1) := by decide +kernel
theorem dX11_requireEntry_17 : decode cX11_requireEntry 17 = .ok (.ldc_w 431, 3) := by decide +kernel
theorem dX11_requireEntry_20 : decode cX11_requireEntry 20 = .ok (.invokespecial 177, 3) := by decide +kernel
theorem dX11_requireEntry_23 : decode cX11_requireEntry 23 = .ok (.athrow, 1) := by decide +kernel
theorem dX11_requireEntry_24 : decode cX11_requireEntry 24 = .ok (.return_, 1) := by decide +kernel
def mi_X11_requireEntry : MI := (RX11, yX11_requireEntry, cX11_requireEntry, 2, none, [], { frames := 8, cells := 1, slots := 6, locals := 120 })
theorem ok_X11_requireEntry : mOK mi_X11_requireEntry 2 := ⟨rfl, cw_X11_requireEntry, ini_X11, ⟨rfl, by decide⟩, by decide, by decide, rfl⟩
theorem v_X11_requireEntry_13 (M : Mem) : V mi_X11_requireEntry 13 [] [] M 0 0 (f_X11_requireEntry_13 M) tV := by
  unfold f_X11_requireEntry_13
  exact V_throwW th_X11_173_177 sr_X11_431 rfl dX11_requireEntry_13 dX11_requireEntry_16 dX11_requireEntry_17 dX11_requireEntry_20 dX11_requireEntry_23 ⟨(Nat.le_of_ble_eq_true rfl), (Nat.le_of_ble_eq_true rfl)⟩ ⟨(Nat.le_of_ble_eq_true rfl), (Nat.le_of_ble_eq_true rfl)⟩ rfl
theorem v_X11_requireEntry (a0 : Nat) (a1 : Int32) (M : Mem) : V mi_X11_requireEntry 0 [(0, .ref a0), (1, .int a1)] [] M 0 0 (f_X11_requireEntry a0 a1 M) tV := by
  unfold f_X11_requireEntry
  refine V_iload_n dX11_requireEntry_0 rfl 1 rfl ?_
  refine V_iconst (x := 1) dX11_requireEntry_1 rfl rfl ?_
  refine V_icmp_lt (q := 13) (q2 := 5) dX11_requireEntry_2 (by decide) rfl ?_ ?_
  · exact V_sub [] rfl (v_X11_requireEntry_13 M)
  · refine V_iload_n dX11_requireEntry_5 rfl 1 rfl ?_
    refine V_aload_n dX11_requireEntry_6 rfl 0 rfl ?_
    refine V_cVeI (As := []) (k_X7_size a0 M) (fun _ h => o_X7_size h) ok_X7_size im_X7_size se_X7_size rfl (ci := 6) rfl ml_X11_218 ⟨⟨(Nat.le_of_ble_eq_true rfl), (Nat.le_of_ble_eq_true rfl)⟩, (Nat.le_of_ble_eq_true rfl), (Nat.le_of_ble_eq_true rfl)⟩ dX11_requireEntry_7 rfl rfl rfl (Nat.le_of_ble_eq_true rfl) rfl rfl (fun x1 => ?_)
    refine V_icmp_le (q := 24) (q2 := 13) dX11_requireEntry_10 (by decide) rfl ?_ ?_
    · exact V_vret dX11_requireEntry_24 rfl rfl ⟨(Nat.le_of_ble_eq_true rfl), (Nat.le_of_ble_eq_true rfl)⟩
    · exact V_sub [] rfl (v_X11_requireEntry_13 M)
theorem k_X11_requireEntry (a0 : Nat) (a1 : Int32) (M : Mem) : K mi_X11_requireEntry [.ref a0, .int a1] M (f_X11_requireEntry a0 a1 M) tV := K_of_V ok_X11_requireEntry (Nat.le_of_ble_eq_true rfl) (v_X11_requireEntry a0 a1 M)
theorem dX11_entry_0 : decode cX11_entry 0 = .ok (.aload_n 0, 1) := by decide +kernel
theorem dX11_entry_1 : decode cX11_entry 1 = .ok (.iload_n 1, 1) := by decide +kernel
theorem dX11_entry_2 : decode cX11_entry 2 = .ok (.invokevirtual 198, 3) := by decide +kernel
theorem dX11_entry_5 : decode cX11_entry 5 = .ok (.astore 4, 2) := by decide +kernel
theorem dX11_entry_7 : decode cX11_entry 7 = .ok (.aload 4, 2) := by decide +kernel
theorem dX11_entry_9 : decode cX11_entry 9 = .ok (.iload_n 2, 1) := by decide +kernel
theorem dX11_entry_10 : decode cX11_entry 10 = .ok (.invokestatic 231, 3) := by decide +kernel
theorem dX11_entry_13 : decode cX11_entry 13 = .ok (.aload_n 0, 1) := by decide +kernel
theorem dX11_entry_14 : decode cX11_entry 14 = .ok (.getfield 24, 3) := by decide +kernel
theorem dX11_entry_17 : decode cX11_entry 17 = .ok (.aload 4, 2) := by decide +kernel
theorem dX11_entry_19 : decode cX11_entry 19 = .ok (.invokevirtual 202, 3) := by decide +kernel
theorem dX11_entry_22 : decode cX11_entry 22 = .ok (.astore 5, 2) := by decide +kernel
theorem dX11_entry_24 : decode cX11_entry 24 = .ok (.aload 5, 2) := by decide +kernel
theorem dX11_entry_26 : decode cX11_entry 26 = .ok (.aload 4, 2) := by decide +kernel
theorem dX11_entry_28 : decode cX11_entry 28 = .ok (.iload_n 2, 1) := by decide +kernel
theorem dX11_entry_29 : decode cX11_entry 29 = .ok (.invokevirtual 235, 3) := by decide +kernel
theorem dX11_entry_32 : decode cX11_entry 32 = .ok (.invokevirtual 195, 3) := by decide +kernel
theorem dX11_entry_35 : decode cX11_entry 35 = .ok (.istore 6, 2) := by decide +kernel
theorem dX11_entry_37 : decode cX11_entry 37 = .ok (.iload_n 3, 1) := by decide +kernel
theorem dX11_entry_38 : decode cX11_entry 38 = .ok (.tableswitch 82 0 4 #[34, 41, 48, 60, 71], 34) := by decide +kernel
theorem dX11_entry_72 : decode cX11_entry 72 = .ok (.aload 4, 2) := by decide +kernel
theorem dX11_entry_74 : decode cX11_entry 74 = .ok (.iload_n 2, 1) := by decide +kernel
theorem dX11_entry_75 : decode cX11_entry 75 = .ok (.invokevirtual 235, 3) := by decide +kernel
theorem dX11_entry_78 : decode cX11_entry 78 = .ok (.ireturn, 1) := by decide +kernel
theorem dX11_entry_79 : decode cX11_entry 79 = .ok (.aload 4, 2) := by decide +kernel
theorem dX11_entry_81 : decode cX11_entry 81 = .ok (.iload_n 2, 1) := by decide +kernel
theorem dX11_entry_82 : decode cX11_entry 82 = .ok (.invokevirtual 238, 3) := by decide +kernel
theorem dX11_entry_85 : decode cX11_entry 85 = .ok (.ireturn, 1) := by decide +kernel
theorem dX11_entry_86 : decode cX11_entry 86 = .ok (.iload 6, 2) := by decide +kernel
theorem dX11_entry_88 : decode cX11_entry 88 = .ok (.iconst (-1), 1) := by decide +kernel
theorem dX11_entry_89 : decode cX11_entry 89 = .ok (.if_icmp .ne 7, 3) := by decide +kernel
theorem dX11_entry_92 : decode cX11_entry 92 = .ok (.iconst 1, 1) := by decide +kernel
theorem dX11_entry_93 : decode cX11_entry 93 = .ok (.goto 4, 3) := by decide +kernel
theorem dX11_entry_96 : decode cX11_entry 96 = .ok (.iconst 0, 1) := by decide +kernel
theorem dX11_entry_97 : decode cX11_entry 97 = .ok (.ireturn, 1) := by decide +kernel
theorem dX11_entry_98 : decode cX11_entry 98 = .ok (.aload 5, 2) := by decide +kernel
theorem dX11_entry_100 : decode cX11_entry 100 = .ok (.getfield 187, 3) := by decide +kernel
theorem dX11_entry_103 : decode cX11_entry 103 = .ok (.iload 6, 2) := by decide +kernel
theorem dX11_entry_105 : decode cX11_entry 105 = .ok (.invokevirtual 182, 3) := by decide +kernel
theorem dX11_entry_108 : decode cX11_entry 108 = .ok (.ireturn, 1) := by decide +kernel
theorem dX11_entry_109 : decode cX11_entry 109 = .ok (.aload 5, 2) := by decide +kernel
theorem dX11_entry_111 : decode cX11_entry 111 = .ok (.getfield 190, 3) := by decide +kernel
theorem dX11_entry_114 : decode cX11_entry 114 = .ok (.iload 6, 2) := by decide +kernel
theorem dX11_entry_116 : decode cX11_entry 116 = .ok (.invokevirtual 182, 3) := by decide +kernel
theorem dX11_entry_119 : decode cX11_entry 119 = .ok (.ireturn, 1) := by decide +kernel
theorem dX11_entry_120 : decode cX11_entry 120 = .ok (.new 99, 3) := by decide +kernel
theorem dX11_entry_123 : decode cX11_entry 123 = .ok (.dup, 1) := by decide +kernel
theorem dX11_entry_124 : decode cX11_entry 124 = .ok (.ldc 241, 2) := by decide +kernel
theorem dX11_entry_126 : decode cX11_entry 126 = .ok (.invokespecial 103, 3) := by decide +kernel
theorem dX11_entry_129 : decode cX11_entry 129 = .ok (.athrow, 1) := by decide +kernel
def mi_X11_entry : MI := (RX11, yX11_entry, cX11_entry, 7, some .int, [], { frames := 9, cells := 3, slots := 18, locals := 142 })
theorem ok_X11_entry : mOK mi_X11_entry 3 := ⟨rfl, cw_X11_entry, ini_X11, ⟨rfl, by decide⟩, by decide, by decide, rfl⟩
theorem v_X11_entry (this : Nat) (a1 : Int32) (a2 : Int32) (a3 : Int32) (M : Mem) : V mi_X11_entry 0 [(0, .ref this), (1, .int a1), (2, .int a2), (3, .int a3)] [] M 0 0 (f_X11_entry this a1 a2 a3 M) tI := by
  unfold f_X11_entry
  refine V_ob fun _ _ => ?_
  refine V_aload_n dX11_entry_0 rfl 0 rfl ?_
  refine V_iload_n dX11_entry_1 rfl 1 rfl ?_
  refine V_cVtR (As := [.int a1]) (k_X11_requireSession this a1 M) rfl (fun _ _ => rfl) (fun _ h => o_X11_requireSession h) ok_X11_requireSession im_X11_requireSession se_X11_requireSession rfl (ci := 10) rfl ml_X11_198 ⟨⟨(Nat.le_of_ble_eq_true rfl), (Nat.le_of_ble_eq_true rfl)⟩, (Nat.le_of_ble_eq_true rfl), (Nat.le_of_ble_eq_true rfl)⟩ dX11_entry_2 rfl rfl rfl (Nat.le_of_ble_eq_true rfl) rfl rfl (fun x1 M2 => ?_)
  refine V_astore (L' := [(0, .ref this), (1, .int a1), (2, .int a2), (3, .int a3), (4, .ref x1)]) dX11_entry_5 rfl (by decide) rfl ?_
  refine V_aload dX11_entry_7 rfl 4 rfl ?_
  refine V_iload_n dX11_entry_9 rfl 2 rfl ?_
  refine V_cStV (As := [.ref x1, .int a2]) (k_X11_requireEntry x1 a2 M2) rfl (fun _ _ => rfl) ok_X11_requireEntry sm_X11_requireEntry ml_X11_231 ⟨⟨(Nat.le_of_ble_eq_true rfl), (Nat.le_of_ble_eq_true rfl)⟩, (Nat.le_of_ble_eq_true rfl), (Nat.le_of_ble_eq_true rfl)⟩ dX11_entry_10 rfl rfl rfl (Nat.le_of_ble_eq_true rfl) rfl rfl (fun M4 => ?_)
  refine V_aload_n dX11_entry_13 rfl 0 rfl ?_
  refine V_getR dX11_entry_14 rfl (ci := 10) (T := TX11) rfl (by decide) fl_X11_24 (fun x5 => ?_)
  refine V_aload dX11_entry_17 rfl 4 rfl ?_
  refine V_cVeR (As := [.ref x1]) (k_X8_boxOf x5 x1 M4) (fun _ h => o_X8_boxOf h) ok_X8_boxOf im_X8_boxOf se_X8_boxOf rfl (ci := 7) rfl ml_X11_202 ⟨⟨(Nat.le_of_ble_eq_true rfl), (Nat.le_of_ble_eq_true rfl)⟩, (Nat.le_of_ble_eq_true rfl), (Nat.le_of_ble_eq_true rfl)⟩ dX11_entry_19 rfl rfl rfl (Nat.le_of_ble_eq_true rfl) rfl rfl (fun x6 => ?_)
  refine V_astore (L' := [(0, .ref this), (1, .int a1), (2, .int a2), (3, .int a3), (4, .ref x1), (5, .ref x6)]) dX11_entry_22 rfl (by decide) rfl ?_
  refine V_aload dX11_entry_24 rfl 5 rfl ?_
  refine V_aload dX11_entry_26 rfl 4 rfl ?_
  refine V_iload_n dX11_entry_28 rfl 2 rfl ?_
  refine V_cVeI (As := [.int a2]) (k_X7_uidOf x1 a2 M4) (fun _ h => o_X7_uidOf h) ok_X7_uidOf im_X7_uidOf se_X7_uidOf rfl (ci := 6) rfl ml_X11_235 ⟨⟨(Nat.le_of_ble_eq_true rfl), (Nat.le_of_ble_eq_true rfl)⟩, (Nat.le_of_ble_eq_true rfl), (Nat.le_of_ble_eq_true rfl)⟩ dX11_entry_29 rfl rfl rfl (Nat.le_of_ble_eq_true rfl) rfl rfl (fun x7 => ?_)
  refine V_cVeI (As := [.int x7]) (k_X0_indexOfUid x6 x7 M4) (fun _ h => o_X0_indexOfUid h) ok_X0_indexOfUid im_X0_indexOfUid se_X0_indexOfUid rfl (ci := 0) rfl ml_X11_195 ⟨⟨(Nat.le_of_ble_eq_true rfl), (Nat.le_of_ble_eq_true rfl)⟩, (Nat.le_of_ble_eq_true rfl), (Nat.le_of_ble_eq_true rfl)⟩ dX11_entry_32 rfl rfl rfl (Nat.le_of_ble_eq_true rfl) rfl rfl (fun x8 => ?_)
  refine V_istore (L' := [(0, .ref this), (1, .int a1), (2, .int a2), (3, .int a3), (4, .ref x1), (5, .ref x6), (6, .int x8)]) dX11_entry_35 rfl (by decide) rfl ?_
  refine V_iload_n dX11_entry_37 rfl 3 rfl ?_
  refine V_if (fun ht38_0 => ?_) (fun ht38_0 => ?_)
  · refine V_tsIn ht38_0 dX11_entry_38 (by decide) (by decide) (off := 34) (q := 72) rfl (by decide) ?_
    refine V_aload dX11_entry_72 rfl 4 rfl ?_
    refine V_iload_n dX11_entry_74 rfl 2 rfl ?_
    refine V_cVeI (As := [.int a2]) (k_X7_uidOf x1 a2 M4) (fun _ h => o_X7_uidOf h) ok_X7_uidOf im_X7_uidOf se_X7_uidOf rfl (ci := 6) rfl ml_X11_235 ⟨⟨(Nat.le_of_ble_eq_true rfl), (Nat.le_of_ble_eq_true rfl)⟩, (Nat.le_of_ble_eq_true rfl), (Nat.le_of_ble_eq_true rfl)⟩ dX11_entry_75 rfl rfl rfl (Nat.le_of_ble_eq_true rfl) rfl rfl (fun x9 => ?_)
    exact V_iret dX11_entry_78 rfl rfl ⟨(Nat.le_of_ble_eq_true rfl), (Nat.le_of_ble_eq_true rfl)⟩
  refine V_if (fun ht38_1 => ?_) (fun ht38_1 => ?_)
  · refine V_tsIn ht38_1 dX11_entry_38 (by decide) (by decide) (off := 41) (q := 79) rfl (by decide) ?_
    refine V_aload dX11_entry_79 rfl 4 rfl ?_
    refine V_iload_n dX11_entry_81 rfl 2 rfl ?_
    refine V_cVeI (As := [.int a2]) (k_X7_toldOf x1 a2 M4) (fun _ h => o_X7_toldOf h) ok_X7_toldOf im_X7_toldOf se_X7_toldOf rfl (ci := 6) rfl ml_X11_238 ⟨⟨(Nat.le_of_ble_eq_true rfl), (Nat.le_of_ble_eq_true rfl)⟩, (Nat.le_of_ble_eq_true rfl), (Nat.le_of_ble_eq_true rfl)⟩ dX11_entry_82 rfl rfl rfl (Nat.le_of_ble_eq_true rfl) rfl rfl (fun x10 => ?_)
    exact V_iret dX11_entry_85 rfl rfl ⟨(Nat.le_of_ble_eq_true rfl), (Nat.le_of_ble_eq_true rfl)⟩
  refine V_if (fun ht38_2 => ?_) (fun ht38_2 => ?_)
  · refine V_tsIn ht38_2 dX11_entry_38 (by decide) (by decide) (off := 48) (q := 86) rfl (by decide) ?_
    refine V_iload dX11_entry_86 rfl 6 rfl ?_
    refine V_iconst (x := (-1)) dX11_entry_88 rfl rfl ?_
    refine V_icmp_ne (q := 96) (q2 := 92) dX11_entry_89 (by decide) rfl ?_ ?_
    · refine V_iconst (x := 0) dX11_entry_96 rfl rfl ?_
      exact V_iret dX11_entry_97 rfl rfl ⟨(Nat.le_of_ble_eq_true rfl), (Nat.le_of_ble_eq_true rfl)⟩
    · refine V_iconst (x := 1) dX11_entry_92 rfl rfl ?_
      refine V_goto (q := 97) dX11_entry_93 (by decide) ?_
      exact V_iret dX11_entry_97 rfl rfl ⟨(Nat.le_of_ble_eq_true rfl), (Nat.le_of_ble_eq_true rfl)⟩
  refine V_if (fun ht38_3 => ?_) (fun ht38_3 => ?_)
  · refine V_tsIn ht38_3 dX11_entry_38 (by decide) (by decide) (off := 60) (q := 98) rfl (by decide) ?_
    refine V_aload dX11_entry_98 rfl 5 rfl ?_
    refine V_getR dX11_entry_100 rfl (ci := 0) (T := TX0) rfl (by decide) fl_X11_187 (fun x11 => ?_)
    refine V_iload dX11_entry_103 rfl 6 rfl ?_
    refine V_cVeI (As := [.int x8]) (k_X5_get x11 x8 M4) (fun _ h => o_X5_get h) ok_X5_get im_X5_get se_X5_get rfl (ci := 4) rfl ml_X11_182 ⟨⟨(Nat.le_of_ble_eq_true rfl), (Nat.le_of_ble_eq_true rfl)⟩, (Nat.le_of_ble_eq_true rfl), (Nat.le_of_ble_eq_true rfl)⟩ dX11_entry_105 rfl rfl rfl (Nat.le_of_ble_eq_true rfl) rfl rfl (fun x12 => ?_)
    exact V_iret dX11_entry_108 rfl rfl ⟨(Nat.le_of_ble_eq_true rfl), (Nat.le_of_ble_eq_true rfl)⟩
  refine V_if (fun ht38_4 => ?_) (fun ht38_4 => ?_)
  · refine V_tsIn ht38_4 dX11_entry_38 (by decide) (by decide) (off := 71) (q := 109) rfl (by decide) ?_
    refine V_aload dX11_entry_109 rfl 5 rfl ?_
    refine V_getR dX11_entry_111 rfl (ci := 0) (T := TX0) rfl (by decide) fl_X11_190 (fun x13 => ?_)
    refine V_iload dX11_entry_114 rfl 6 rfl ?_
    refine V_cVeI (As := [.int x8]) (k_X5_get x13 x8 M4) (fun _ h => o_X5_get h) ok_X5_get im_X5_get se_X5_get rfl (ci := 4) rfl ml_X11_182 ⟨⟨(Nat.le_of_ble_eq_true rfl), (Nat.le_of_ble_eq_true rfl)⟩, (Nat.le_of_ble_eq_true rfl), (Nat.le_of_ble_eq_true rfl)⟩ dX11_entry_116 rfl rfl rfl (Nat.le_of_ble_eq_true rfl) rfl rfl (fun x14 => ?_)
    exact V_iret dX11_entry_119 rfl rfl ⟨(Nat.le_of_ble_eq_true rfl), (Nat.le_of_ble_eq_true rfl)⟩
  refine V_tsOut (q := 120) (ts_5 ht38_0 ht38_1 ht38_2 ht38_3 ht38_4) dX11_entry_38 (by decide) ?_
  exact V_throw th_X11_99_103 sr_X11_241 rfl dX11_entry_120 dX11_entry_123 dX11_entry_124 dX11_entry_126 dX11_entry_129 ⟨(Nat.le_of_ble_eq_true rfl), (Nat.le_of_ble_eq_true rfl)⟩ ⟨(Nat.le_of_ble_eq_true rfl), (Nat.le_of_ble_eq_true rfl)⟩ rfl
theorem k_X11_entry (this : Nat) (a1 : Int32) (a2 : Int32) (a3 : Int32) (M : Mem) : K mi_X11_entry [.ref this, .int a1, .int a2, .int a3] M (f_X11_entry this a1 a2 a3 M) tI := K_of_V ok_X11_entry (Nat.le_of_ble_eq_true rfl) (v_X11_entry this a1 a2 a3 M)
theorem o_X11_entry {this : Nat} {a1 : Int32} {a2 : Int32} {a3 : Int32} {M : Mem} {x} (h : f_X11_entry this a1 a2 a3 M = some x) : isO M 10 this = true := (ob_of h).1
theorem dX11_numberOf_0 : decode cX11_numberOf 0 = .ok (.aload_n 0, 1) := by decide +kernel
theorem dX11_numberOf_1 : decode cX11_numberOf 1 = .ok (.iload_n 1, 1) := by decide +kernel
theorem dX11_numberOf_2 : decode cX11_numberOf 2 = .ok (.invokevirtual 198, 3) := by decide +kernel
theorem dX11_numberOf_5 : decode cX11_numberOf 5 = .ok (.iload_n 2, 1) := by decide +kernel
theorem dX11_numberOf_6 : decode cX11_numberOf 6 = .ok (.invokevirtual 243, 3) := by decide +kernel
theorem dX11_numberOf_9 : decode cX11_numberOf 9 = .ok (.ireturn, 1) := by decide +kernel
def mi_X11_numberOf : MI := (RX11, yX11_numberOf, cX11_numberOf, 3, some .int, [], { frames := 9, cells := 1, slots := 6, locals := 142 })
theorem ok_X11_numberOf : mOK mi_X11_numberOf 2 := ⟨rfl, cw_X11_numberOf, ini_X11, ⟨rfl, by decide⟩, by decide, by decide, rfl⟩
theorem v_X11_numberOf (this : Nat) (a1 : Int32) (a2 : Int32) (M : Mem) : V mi_X11_numberOf 0 [(0, .ref this), (1, .int a1), (2, .int a2)] [] M 0 0 (f_X11_numberOf this a1 a2 M) tI := by
  unfold f_X11_numberOf
  refine V_ob fun _ _ => ?_
  refine V_aload_n dX11_numberOf_0 rfl 0 rfl ?_
  refine V_iload_n dX11_numberOf_1 rfl 1 rfl ?_
  refine V_cVtR (As := [.int a1]) (k_X11_requireSession this a1 M) rfl (fun _ _ => rfl) (fun _ h => o_X11_requireSession h) ok_X11_requireSession im_X11_requireSession se_X11_requireSession rfl (ci := 10) rfl ml_X11_198 ⟨⟨(Nat.le_of_ble_eq_true rfl), (Nat.le_of_ble_eq_true rfl)⟩, (Nat.le_of_ble_eq_true rfl), (Nat.le_of_ble_eq_true rfl)⟩ dX11_numberOf_2 rfl rfl rfl (Nat.le_of_ble_eq_true rfl) rfl rfl (fun x1 M2 => ?_)
  refine V_iload_n dX11_numberOf_5 rfl 2 rfl ?_
  refine V_cVeI (As := [.int a2]) (k_X7_numberOfUid x1 a2 M2) (fun _ h => o_X7_numberOfUid h) ok_X7_numberOfUid im_X7_numberOfUid se_X7_numberOfUid rfl (ci := 6) rfl ml_X11_243 ⟨⟨(Nat.le_of_ble_eq_true rfl), (Nat.le_of_ble_eq_true rfl)⟩, (Nat.le_of_ble_eq_true rfl), (Nat.le_of_ble_eq_true rfl)⟩ dX11_numberOf_6 rfl rfl rfl (Nat.le_of_ble_eq_true rfl) rfl rfl (fun x3 => ?_)
  exact V_iret dX11_numberOf_9 rfl rfl ⟨(Nat.le_of_ble_eq_true rfl), (Nat.le_of_ble_eq_true rfl)⟩
theorem k_X11_numberOf (this : Nat) (a1 : Int32) (a2 : Int32) (M : Mem) : K mi_X11_numberOf [.ref this, .int a1, .int a2] M (f_X11_numberOf this a1 a2 M) tI := K_of_V ok_X11_numberOf (Nat.le_of_ble_eq_true rfl) (v_X11_numberOf this a1 a2 M)
theorem o_X11_numberOf {this : Nat} {a1 : Int32} {a2 : Int32} {M : Mem} {x} (h : f_X11_numberOf this a1 a2 M = some x) : isO M 10 this = true := (ob_of h).1
theorem dX11_numberThen_0 : decode cX11_numberThen 0 = .ok (.aload_n 0, 1) := by decide +kernel
theorem dX11_numberThen_1 : decode cX11_numberThen 1 = .ok (.iload_n 1, 1) := by decide +kernel
theorem dX11_numberThen_2 : decode cX11_numberThen 2 = .ok (.invokevirtual 198, 3) := by decide +kernel
theorem dX11_numberThen_5 : decode cX11_numberThen 5 = .ok (.astore_n 3, 1) := by decide +kernel
theorem dX11_numberThen_6 : decode cX11_numberThen 6 = .ok (.aload_n 3, 1) := by decide +kernel
theorem dX11_numberThen_7 : decode cX11_numberThen 7 = .ok (.iload_n 2, 1) := by decide +kernel
theorem dX11_numberThen_8 : decode cX11_numberThen 8 = .ok (.invokestatic 231, 3) := by decide +kernel
theorem dX11_numberThen_11 : decode cX11_numberThen 11 = .ok (.aload_n 0, 1) := by decide +kernel
theorem dX11_numberThen_12 : decode cX11_numberThen 12 = .ok (.getfield 24, 3) := by decide +kernel
theorem dX11_numberThen_15 : decode cX11_numberThen 15 = .ok (.aload_n 3, 1) := by decide +kernel
theorem dX11_numberThen_16 : decode cX11_numberThen 16 = .ok (.invokevirtual 202, 3) := by decide +kernel
theorem dX11_numberThen_19 : decode cX11_numberThen 19 = .ok (.astore 4, 2) := by decide +kernel
theorem dX11_numberThen_21 : decode cX11_numberThen 21 = .ok (.aload_n 3, 1) := by decide +kernel
theorem dX11_numberThen_22 : decode cX11_numberThen 22 = .ok (.aload 4, 2) := by decide +kernel
theorem dX11_numberThen_24 : decode cX11_numberThen 24 = .ok (.iload_n 2, 1) := by decide +kernel
theorem dX11_numberThen_25 : decode cX11_numberThen 25 = .ok (.invokevirtual 246, 3) := by decide +kernel
theorem dX11_numberThen_28 : decode cX11_numberThen 28 = .ok (.ifCond .eq 5, 3) := by decide +kernel
theorem dX11_numberThen_31 : decode cX11_numberThen 31 = .ok (.iconst (-1), 1) := by decide +kernel
theorem dX11_numberThen_32 : decode cX11_numberThen 32 = .ok (.ireturn, 1) := by decide +kernel
theorem dX11_numberThen_33 : decode cX11_numberThen 33 = .ok (.iload_n 2, 1) := by decide +kernel
theorem dX11_numberThen_34 : decode cX11_numberThen 34 = .ok (.aload_n 3, 1) := by decide +kernel
theorem dX11_numberThen_35 : decode cX11_numberThen 35 = .ok (.aload 4, 2) := by decide +kernel
theorem dX11_numberThen_37 : decode cX11_numberThen 37 = .ok (.iload_n 2, 1) := by decide +kernel
theorem dX11_numberThen_38 : decode cX11_numberThen 38 = .ok (.invokevirtual 250, 3) := by decide +kernel
theorem dX11_numberThen_41 : decode cX11_numberThen 41 = .ok (.isub, 1) := by decide +kernel
theorem dX11_numberThen_42 : decode cX11_numberThen 42 = .ok (.ireturn, 1) := by decide +kernel
def mi_X11_numberThen : MI := (RX11, yX11_numberThen, cX11_numberThen, 5, some .int, [], { frames := 9, cells := 2, slots := 12, locals := 142 })
theorem ok_X11_numberThen : mOK mi_X11_numberThen 2 := ⟨rfl, cw_X11_numberThen, ini_X11, ⟨rfl, by decide⟩, by decide, by decide, rfl⟩
theorem v_X11_numberThen (this : Nat) (a1 : Int32) (a2 : Int32) (M : Mem) : V mi_X11_numberThen 0 [(0, .ref this), (1, .int a1), (2, .int a2)] [] M 0 0 (f_X11_numberThen this a1 a2 M) tI := by
  unfold f_X11_numberThen
  refine V_ob fun _ _ => ?_
  refine V_aload_n dX11_numberThen_0 rfl 0 rfl ?_
  refine V_iload_n dX11_numberThen_1 rfl 1 rfl ?_
  refine V_cVtR (As := [.int a1]) (k_X11_requireSession this a1 M) rfl (fun _ _ => rfl) (fun _ h => o_X11_requireSession h) ok_X11_requireSession im_X11_requireSession se_X11_requireSession rfl (ci := 10) rfl ml_X11_198 ⟨⟨(Nat.le_of_ble_eq_true rfl), (Nat.le_of_ble_eq_true rfl)⟩, (Nat.le_of_ble_eq_true rfl), (Nat.le_of_ble_eq_true rfl)⟩ dX11_numberThen_2 rfl rfl rfl (Nat.le_of_ble_eq_true rfl) rfl rfl (fun x1 M2 => ?_)
  refine V_astore_n (L' := [(0, .ref this), (1, .int a1), (2, .int a2), (3, .ref x1)]) dX11_numberThen_5 rfl (by decide) rfl ?_
  refine V_aload_n dX11_numberThen_6 rfl 3 rfl ?_
  refine V_iload_n dX11_numberThen_7 rfl 2 rfl ?_
  refine V_cStV (As := [.ref x1, .int a2]) (k_X11_requireEntry x1 a2 M2) rfl (fun _ _ => rfl) ok_X11_requireEntry sm_X11_requireEntry ml_X11_231 ⟨⟨(Nat.le_of_ble_eq_true rfl), (Nat.le_of_ble_eq_true rfl)⟩, (Nat.le_of_ble_eq_true rfl), (Nat.le_of_ble_eq_true rfl)⟩ dX11_numberThen_8 rfl rfl rfl (Nat.le_of_ble_eq_true rfl) rfl rfl (fun M4 => ?_)
  refine V_aload_n dX11_numberThen_11 rfl 0 rfl ?_
  refine V_getR dX11_numberThen_12 rfl (ci := 10) (T := TX11) rfl (by decide) fl_X11_24 (fun x5 => ?_)
  refine V_aload_n dX11_numberThen_15 rfl 3 rfl ?_
  refine V_cVeR (As := [.ref x1]) (k_X8_boxOf x5 x1 M4) (fun _ h => o_X8_boxOf h) ok_X8_boxOf im_X8_boxOf se_X8_boxOf rfl (ci := 7) rfl ml_X11_202 ⟨⟨(Nat.le_of_ble_eq_true rfl), (Nat.le_of_ble_eq_true rfl)⟩, (Nat.le_of_ble_eq_true rfl), (Nat.le_of_ble_eq_true rfl)⟩ dX11_numberThen_16 rfl rfl rfl (Nat.le_of_ble_eq_true rfl) rfl rfl (fun x6 => ?_)
  refine V_astore (L' := [(0, .ref this), (1, .int a1), (2, .int a2), (3, .ref x1), (4, .ref x6)]) dX11_numberThen_19 rfl (by decide) rfl ?_
  refine V_aload_n dX11_numberThen_21 rfl 3 rfl ?_
  refine V_aload dX11_numberThen_22 rfl 4 rfl ?_
  refine V_iload_n dX11_numberThen_24 rfl 2 rfl ?_
  refine V_cVeZ (As := [.ref x6, .int a2]) (k_X7_isGone x1 x6 a2 M4) (fun _ h => o_X7_isGone h) ok_X7_isGone im_X7_isGone se_X7_isGone rfl (ci := 6) rfl ml_X11_246 ⟨⟨(Nat.le_of_ble_eq_true rfl), (Nat.le_of_ble_eq_true rfl)⟩, (Nat.le_of_ble_eq_true rfl), (Nat.le_of_ble_eq_true rfl)⟩ dX11_numberThen_25 rfl rfl rfl (Nat.le_of_ble_eq_true rfl) rfl rfl (fun x7 => ?_)
  refine V_ifz_eq (q := 33) (q2 := 31) dX11_numberThen_28 (by decide) rfl ?_ ?_
  · refine V_iload_n dX11_numberThen_33 rfl 2 rfl ?_
    refine V_aload_n dX11_numberThen_34 rfl 3 rfl ?_
    refine V_aload dX11_numberThen_35 rfl 4 rfl ?_
    refine V_iload_n dX11_numberThen_37 rfl 2 rfl ?_
    refine V_cVeI (As := [.ref x6, .int a2]) (k_X7_countGoneBefore x1 x6 a2 M4) (fun _ h => o_X7_countGoneBefore h) ok_X7_countGoneBefore im_X7_countGoneBefore se_X7_countGoneBefore rfl (ci := 6) rfl ml_X11_250 ⟨⟨(Nat.le_of_ble_eq_true rfl), (Nat.le_of_ble_eq_true rfl)⟩, (Nat.le_of_ble_eq_true rfl), (Nat.le_of_ble_eq_true rfl)⟩ dX11_numberThen_38 rfl rfl rfl (Nat.le_of_ble_eq_true rfl) rfl rfl (fun x8 => ?_)
    refine V_isub dX11_numberThen_41 rfl ?_
    exact V_iret dX11_numberThen_42 rfl rfl ⟨(Nat.le_of_ble_eq_true rfl), (Nat.le_of_ble_eq_true rfl)⟩
  · refine V_iconst (x := (-1)) dX11_numberThen_31 rfl rfl ?_
    exact V_iret dX11_numberThen_32 rfl rfl ⟨(Nat.le_of_ble_eq_true rfl), (Nat.le_of_ble_eq_true rfl)⟩
theorem k_X11_numberThen (this : Nat) (a1 : Int32) (a2 : Int32) (M : Mem) : K mi_X11_numberThen [.ref this, .int a1, .int a2] M (f_X11_numberThen this a1 a2 M) tI := K_of_V ok_X11_numberThen (Nat.le_of_ble_eq_true rfl) (v_X11_numberThen this a1 a2 M)
theorem o_X11_numberThen {this : Nat} {a1 : Int32} {a2 : Int32} {M : Mem} {x} (h : f_X11_numberThen this a1 a2 M = some x) : isO M 10 this = true := (ob_of h).1
theorem dX11_pending_0 : decode cX11_pending 0 = .ok (.aload_n 0, 1) := by decide +kernel
theorem dX11_pending_1 : decode cX11_pending 1 = .ok (.iload_n 1, 1) := by decide +kernel
theorem dX11_pending_2 : decode cX11_pending 2 = .ok (.invokevirtual 198, 3) := by decide +kernel
theorem dX11_pending_5 : decode cX11_pending 5 = .ok (.astore_n 2, 1) := by decide +kernel
theorem dX11_pending_6 : decode cX11_pending 6 = .ok (.aload_n 2, 1) := by decide +kernel
theorem dX11_pending_7 : decode cX11_pending 7 = .ok (.aload_n 0, 1) := by decide +kernel
theorem dX11_pending_8 : decode cX11_pending 8 = .ok (.getfield 24, 3) := by decide +kernel
theorem dX11_pending_11 : decode cX11_pending 11 = .ok (.aload_n 2, 1) := by decide +kernel
theorem dX11_pending_12 : decode cX11_pending 12 = .ok (.invokevirtual 202, 3) := by decide +kernel
theorem dX11_pending_15 : decode cX11_pending 15 = .ok (.invokevirtual 254, 3) := by decide +kernel
theorem dX11_pending_18 : decode cX11_pending 18 = .ok (.ireturn, 1) := by decide +kernel
def mi_X11_pending : MI := (RX11, yX11_pending, cX11_pending, 3, some .int, [], { frames := 9, cells := 1, slots := 6, locals := 145 })
theorem ok_X11_pending : mOK mi_X11_pending 1 := ⟨rfl, cw_X11_pending, ini_X11, ⟨rfl, by decide⟩, by decide, by decide, rfl⟩
theorem v_X11_pending (this : Nat) (a1 : Int32) (M : Mem) : V mi_X11_pending 0 [(0, .ref this), (1, .int a1)] [] M 0 0 (f_X11_pending this a1 M) tI := by
  unfold f_X11_pending
  refine V_ob fun _ _ => ?_
  refine V_aload_n dX11_pending_0 rfl 0 rfl ?_
  refine V_iload_n dX11_pending_1 rfl 1 rfl ?_
  refine V_cVtR (As := [.int a1]) (k_X11_requireSession this a1 M) rfl (fun _ _ => rfl) (fun _ h => o_X11_requireSession h) ok_X11_requireSession im_X11_requireSession se_X11_requireSession rfl (ci := 10) rfl ml_X11_198 ⟨⟨(Nat.le_of_ble_eq_true rfl), (Nat.le_of_ble_eq_true rfl)⟩, (Nat.le_of_ble_eq_true rfl), (Nat.le_of_ble_eq_true rfl)⟩ dX11_pending_2 rfl rfl rfl (Nat.le_of_ble_eq_true rfl) rfl rfl (fun x1 M2 => ?_)
  refine V_astore_n (L' := [(0, .ref this), (1, .int a1), (2, .ref x1)]) dX11_pending_5 rfl (by decide) rfl ?_
  refine V_aload_n dX11_pending_6 rfl 2 rfl ?_
  refine V_aload_n dX11_pending_7 rfl 0 rfl ?_
  refine V_getR dX11_pending_8 rfl (ci := 10) (T := TX11) rfl (by decide) fl_X11_24 (fun x3 => ?_)
  refine V_aload_n dX11_pending_11 rfl 2 rfl ?_
  refine V_cVeR (As := [.ref x1]) (k_X8_boxOf x3 x1 M2) (fun _ h => o_X8_boxOf h) ok_X8_boxOf im_X8_boxOf se_X8_boxOf rfl (ci := 7) rfl ml_X11_202 ⟨⟨(Nat.le_of_ble_eq_true rfl), (Nat.le_of_ble_eq_true rfl)⟩, (Nat.le_of_ble_eq_true rfl), (Nat.le_of_ble_eq_true rfl)⟩ dX11_pending_12 rfl rfl rfl (Nat.le_of_ble_eq_true rfl) rfl rfl (fun x4 => ?_)
  refine V_cVeI (As := [.ref x4]) (k_X7_countPending x1 x4 M2) (fun _ h => o_X7_countPending h) ok_X7_countPending im_X7_countPending se_X7_countPending rfl (ci := 6) rfl ml_X11_254 ⟨⟨(Nat.le_of_ble_eq_true rfl), (Nat.le_of_ble_eq_true rfl)⟩, (Nat.le_of_ble_eq_true rfl), (Nat.le_of_ble_eq_true rfl)⟩ dX11_pending_15 rfl rfl rfl (Nat.le_of_ble_eq_true rfl) rfl rfl (fun x5 => ?_)
  exact V_iret dX11_pending_18 rfl rfl ⟨(Nat.le_of_ble_eq_true rfl), (Nat.le_of_ble_eq_true rfl)⟩
theorem k_X11_pending (this : Nat) (a1 : Int32) (M : Mem) : K mi_X11_pending [.ref this, .int a1] M (f_X11_pending this a1 M) tI := K_of_V ok_X11_pending (Nat.le_of_ble_eq_true rfl) (v_X11_pending this a1 M)
theorem o_X11_pending {this : Nat} {a1 : Int32} {M : Mem} {x} (h : f_X11_pending this a1 M = some x) : isO M 10 this = true := (ob_of h).1
theorem dX11_isCurrent_0 : decode cX11_isCurrent 0 = .ok (.aload_n 0, 1) := by decide +kernel
theorem dX11_isCurrent_1 : decode cX11_isCurrent 1 = .ok (.iload_n 1, 1) := by decide +kernel
theorem dX11_isCurrent_2 : decode cX11_isCurrent 2 = .ok (.invokevirtual 198, 3) := by decide +kernel
theorem dX11_isCurrent_5 : decode cX11_isCurrent 5 = .ok (.astore_n 2, 1) := by decide +kernel
theorem dX11_isCurrent_6 : decode cX11_isCurrent 6 = .ok (.aload_n 2, 1) := by decide +kernel
theorem dX11_isCurrent_7 : decode cX11_isCurrent 7 = .ok (.invokevirtual 257, 3) := by decide +kernel
theorem dX11_isCurrent_10 : decode cX11_isCurrent 10 = .ok (.ifCond .eq 22, 3) := by decide +kernel
theorem dX11_isCurrent_13 : decode cX11_isCurrent 13 = .ok (.aload_n 2, 1) := by decide +kernel
theorem dX11_isCurrent_14 : decode cX11_isCurrent 14 = .ok (.aload_n 0, 1) := by decide +kernel
theorem dX11_isCurrent_15 : decode cX11_isCurrent 15 = .ok (.getfield 24, 3) := by decide +kernel
theorem dX11_isCurrent_18 : decode cX11_isCurrent 18 = .ok (.aload_n 2, 1) := by decide +kernel
theorem dX11_isCurrent_19 : decode cX11_isCurrent 19 = .ok (.invokevirtual 202, 3) := by decide +kernel
theorem dX11_isCurrent_22 : decode cX11_isCurrent 22 = .ok (.invokevirtual 254, 3) := by decide +kernel
theorem dX11_isCurrent_25 : decode cX11_isCurrent 25 = .ok (.ifCond .ne 7, 3) := by decide +kernel
theorem dX11_isCurrent_28 : decode cX11_isCurrent 28 = .ok (.iconst 1, 1) := by decide +kernel
theorem dX11_isCurrent_29 : decode cX11_isCurrent 29 = .ok (.goto 4, 3) := by decide +kernel
theorem dX11_isCurrent_32 : decode cX11_isCurrent 32 = .ok (.iconst 0, 1) := by decide +kernel
theorem dX11_isCurrent_33 : decode cX11_isCurrent 33 = .ok (.ireturn, 1) := by decide +kernel
def mi_X11_isCurrent : MI := (RX11, yX11_isCurrent, cX11_isCurrent, 3, some .boolean, [], { frames := 9, cells := 1, slots := 6, locals := 145 })
theorem ok_X11_isCurrent : mOK mi_X11_isCurrent 1 := ⟨rfl, cw_X11_isCurrent, ini_X11, ⟨rfl, by decide⟩, by decide, by decide, rfl⟩
theorem v_X11_isCurrent (this : Nat) (a1 : Int32) (M : Mem) : V mi_X11_isCurrent 0 [(0, .ref this), (1, .int a1)] [] M 0 0 (f_X11_isCurrent this a1 M) tZ := by
  unfold f_X11_isCurrent
  refine V_ob fun _ _ => ?_
  refine V_aload_n dX11_isCurrent_0 rfl 0 rfl ?_
  refine V_iload_n dX11_isCurrent_1 rfl 1 rfl ?_
  refine V_cVtR (As := [.int a1]) (k_X11_requireSession this a1 M) rfl (fun _ _ => rfl) (fun _ h => o_X11_requireSession h) ok_X11_requireSession im_X11_requireSession se_X11_requireSession rfl (ci := 10) rfl ml_X11_198 ⟨⟨(Nat.le_of_ble_eq_true rfl), (Nat.le_of_ble_eq_true rfl)⟩, (Nat.le_of_ble_eq_true rfl), (Nat.le_of_ble_eq_true rfl)⟩ dX11_isCurrent_2 rfl rfl rfl (Nat.le_of_ble_eq_true rfl) rfl rfl (fun x1 M2 => ?_)
  refine V_astore_n (L' := [(0, .ref this), (1, .int a1), (2, .ref x1)]) dX11_isCurrent_5 rfl (by decide) rfl ?_
  refine V_aload_n dX11_isCurrent_6 rfl 2 rfl ?_
  refine V_cVeZ (As := []) (k_X7_hasBox x1 M2) (fun _ h => o_X7_hasBox h) ok_X7_hasBox im_X7_hasBox se_X7_hasBox rfl (ci := 6) rfl ml_X11_257 ⟨⟨(Nat.le_of_ble_eq_true rfl), (Nat.le_of_ble_eq_true rfl)⟩, (Nat.le_of_ble_eq_true rfl), (Nat.le_of_ble_eq_true rfl)⟩ dX11_isCurrent_7 rfl rfl rfl (Nat.le_of_ble_eq_true rfl) rfl rfl (fun x3 => ?_)
  refine V_ifz_eq (q := 32) (q2 := 13) dX11_isCurrent_10 (by decide) rfl ?_ ?_
  · refine V_iconst (x := 0) dX11_isCurrent_32 rfl rfl ?_
    exact V_zret (v := false) dX11_isCurrent_33 rfl rfl ⟨(Nat.le_of_ble_eq_true rfl), (Nat.le_of_ble_eq_true rfl)⟩
  · refine V_aload_n dX11_isCurrent_13 rfl 2 rfl ?_
    refine V_aload_n dX11_isCurrent_14 rfl 0 rfl ?_
    refine V_getR dX11_isCurrent_15 rfl (ci := 10) (T := TX11) rfl (by decide) fl_X11_24 (fun x4 => ?_)
    refine V_aload_n dX11_isCurrent_18 rfl 2 rfl ?_
    refine V_cVeR (As := [.ref x1]) (k_X8_boxOf x4 x1 M2) (fun _ h => o_X8_boxOf h) ok_X8_boxOf im_X8_boxOf se_X8_boxOf rfl (ci := 7) rfl ml_X11_202 ⟨⟨(Nat.le_of_ble_eq_true rfl), (Nat.le_of_ble_eq_true rfl)⟩, (Nat.le_of_ble_eq_true rfl), (Nat.le_of_ble_eq_true rfl)⟩ dX11_isCurrent_19 rfl rfl rfl (Nat.le_of_ble_eq_true rfl) rfl rfl (fun x5 => ?_)
    refine V_cVeI (As := [.ref x5]) (k_X7_countPending x1 x5 M2) (fun _ h => o_X7_countPending h) ok_X7_countPending im_X7_countPending se_X7_countPending rfl (ci := 6) rfl ml_X11_254 ⟨⟨(Nat.le_of_ble_eq_true rfl), (Nat.le_of_ble_eq_true rfl)⟩, (Nat.le_of_ble_eq_true rfl), (Nat.le_of_ble_eq_true rfl)⟩ dX11_isCurrent_22 rfl rfl rfl (Nat.le_of_ble_eq_true rfl) rfl rfl (fun x6 => ?_)
    refine V_if_ne (q := 32) (q2 := 28) dX11_isCurrent_25 (by decide) rfl ?_ ?_
    · refine V_iconst (x := 0) dX11_isCurrent_32 rfl rfl ?_
      exact V_zret (v := false) dX11_isCurrent_33 rfl rfl ⟨(Nat.le_of_ble_eq_true rfl), (Nat.le_of_ble_eq_true rfl)⟩
    · refine V_iconst (x := 1) dX11_isCurrent_28 rfl rfl ?_
      refine V_goto (q := 33) dX11_isCurrent_29 (by decide) ?_
      exact V_zret (v := true) dX11_isCurrent_33 rfl rfl ⟨(Nat.le_of_ble_eq_true rfl), (Nat.le_of_ble_eq_true rfl)⟩
theorem k_X11_isCurrent (this : Nat) (a1 : Int32) (M : Mem) : K mi_X11_isCurrent [.ref this, .int a1] M (f_X11_isCurrent this a1 M) tZ := K_of_V ok_X11_isCurrent (Nat.le_of_ble_eq_true rfl) (v_X11_isCurrent this a1 M)
theorem o_X11_isCurrent {this : Nat} {a1 : Int32} {M : Mem} {x} (h : f_X11_isCurrent this a1 M = some x) : isO M 10 this = true := (ob_of h).1
theorem dX11_firstUnseen_0 : decode cX11_firstUnseen 0 = .ok (.aload_n 0, 1) := by decide +kernel
theorem dX11_firstUnseen_1 : decode cX11_firstUnseen 1 = .ok (.iload_n 1, 1) := by decide +kernel
theorem dX11_firstUnseen_2 : decode cX11_firstUnseen 2 = .ok (.invokevirtual 198, 3) := by decide +kernel
theorem dX11_firstUnseen_5 : decode cX11_firstUnseen 5 = .ok (.invokevirtual 261, 3) := by decide +kernel
theorem dX11_firstUnseen_8 : decode cX11_firstUnseen 8 = .ok (.ireturn, 1) := by decide +kernel
def mi_X11_firstUnseen : MI := (RX11, yX11_firstUnseen, cX11_firstUnseen, 2, some .int, [], { frames := 9, cells := 1, slots := 6, locals := 142 })
theorem ok_X11_firstUnseen : mOK mi_X11_firstUnseen 1 := ⟨rfl, cw_X11_firstUnseen, ini_X11, ⟨rfl, by decide⟩, by decide, by decide, rfl⟩
theorem v_X11_firstUnseen (this : Nat) (a1 : Int32) (M : Mem) : V mi_X11_firstUnseen 0 [(0, .ref this), (1, .int a1)] [] M 0 0 (f_X11_firstUnseen this a1 M) tI := by
  unfold f_X11_firstUnseen
  refine V_ob fun _ _ => ?_
  refine V_aload_n dX11_firstUnseen_0 rfl 0 rfl ?_
  refine V_iload_n dX11_firstUnseen_1 rfl 1 rfl ?_
  refine V_cVtR (As := [.int a1]) (k_X11_requireSession this a1 M) rfl (fun _ _ => rfl) (fun _ h => o_X11_requireSession h) ok_X11_requireSession im_X11_requireSession se_X11_requireSession rfl (ci := 10) rfl ml_X11_198 ⟨⟨(Nat.le_of_ble_eq_true rfl), (Nat.le_of_ble_eq_true rfl)⟩, (Nat.le_of_ble_eq_true rfl), (Nat.le_of_ble_eq_true rfl)⟩ dX11_firstUnseen_2 rfl rfl rfl (Nat.le_of_ble_eq_true rfl) rfl rfl (fun x1 M2 => ?_)
  refine V_cVeI (As := []) (k_X7_firstNotToldSeen x1 M2) (fun _ h => o_X7_firstNotToldSeen h) ok_X7_firstNotToldSeen im_X7_firstNotToldSeen se_X7_firstNotToldSeen rfl (ci := 6) rfl ml_X11_261 ⟨⟨(Nat.le_of_ble_eq_true rfl), (Nat.le_of_ble_eq_true rfl)⟩, (Nat.le_of_ble_eq_true rfl), (Nat.le_of_ble_eq_true rfl)⟩ dX11_firstUnseen_5 rfl rfl rfl (Nat.le_of_ble_eq_true rfl) rfl rfl (fun x3 => ?_)
  exact V_iret dX11_firstUnseen_8 rfl rfl ⟨(Nat.le_of_ble_eq_true rfl), (Nat.le_of_ble_eq_true rfl)⟩
theorem k_X11_firstUnseen (this : Nat) (a1 : Int32) (M : Mem) : K mi_X11_firstUnseen [.ref this, .int a1] M (f_X11_firstUnseen this a1 M) tI := K_of_V ok_X11_firstUnseen (Nat.le_of_ble_eq_true rfl) (v_X11_firstUnseen this a1 M)
theorem o_X11_firstUnseen {this : Nat} {a1 : Int32} {M : Mem} {x} (h : f_X11_firstUnseen this a1 M = some x) : isO M 10 this = true := (ob_of h).1
theorem dX11_largest_0 : decode cX11_largest 0 = .ok (.aload_n 0, 1) := by decide +kernel
theorem dX11_largest_1 : decode cX11_largest 1 = .ok (.iload_n 1, 1) := by decide +kernel
theorem dX11_largest_2 : decode cX11_largest 2 = .ok (.invokevirtual 198, 3) := by decide +kernel
theorem dX11_largest_5 : decode cX11_largest 5 = .ok (.astore_n 2, 1) := by decide +kernel
theorem dX11_largest_6 : decode cX11_largest 6 = .ok (.aload_n 2, 1) := by decide +kernel
theorem dX11_largest_7 : decode cX11_largest 7 = .ok (.aload_n 0, 1) := by decide +kernel
theorem dX11_largest_8 : decode cX11_largest 8 = .ok (.getfield 24, 3) := by decide +kernel
theorem dX11_largest_11 : decode cX11_largest 11 = .ok (.aload_n 2, 1) := by decide +kernel
theorem dX11_largest_12 : decode cX11_largest 12 = .ok (.invokevirtual 202, 3) := by decide +kernel
theorem dX11_largest_15 : decode cX11_largest 15 = .ok (.invokevirtual 264, 3) := by decide +kernel
theorem dX11_largest_18 : decode cX11_largest 18 = .ok (.ireturn, 1) := by decide +kernel
def mi_X11_largest : MI := (RX11, yX11_largest, cX11_largest, 3, some .int, [], { frames := 9, cells := 1, slots := 6, locals := 142 })
theorem ok_X11_largest : mOK mi_X11_largest 1 := ⟨rfl, cw_X11_largest, ini_X11, ⟨rfl, by decide⟩, by decide, by decide, rfl⟩
theorem v_X11_largest (this : Nat) (a1 : Int32) (M : Mem) : V mi_X11_largest 0 [(0, .ref this), (1, .int a1)] [] M 0 0 (f_X11_largest this a1 M) tI := by
  unfold f_X11_largest
  refine V_ob fun _ _ => ?_
  refine V_aload_n dX11_largest_0 rfl 0 rfl ?_
  refine V_iload_n dX11_largest_1 rfl 1 rfl ?_
  refine V_cVtR (As := [.int a1]) (k_X11_requireSession this a1 M) rfl (fun _ _ => rfl) (fun _ h => o_X11_requireSession h) ok_X11_requireSession im_X11_requireSession se_X11_requireSession rfl (ci := 10) rfl ml_X11_198 ⟨⟨(Nat.le_of_ble_eq_true rfl), (Nat.le_of_ble_eq_true rfl)⟩, (Nat.le_of_ble_eq_true rfl), (Nat.le_of_ble_eq_true rfl)⟩ dX11_largest_2 rfl rfl rfl (Nat.le_of_ble_eq_true rfl) rfl rfl (fun x1 M2 => ?_)
  refine V_astore_n (L' := [(0, .ref this), (1, .int a1), (2, .ref x1)]) dX11_largest_5 rfl (by decide) rfl ?_
  refine V_aload_n dX11_largest_6 rfl 2 rfl ?_
  refine V_aload_n dX11_largest_7 rfl 0 rfl ?_
  refine V_getR dX11_largest_8 rfl (ci := 10) (T := TX11) rfl (by decide) fl_X11_24 (fun x3 => ?_)
  refine V_aload_n dX11_largest_11 rfl 2 rfl ?_
  refine V_cVeR (As := [.ref x1]) (k_X8_boxOf x3 x1 M2) (fun _ h => o_X8_boxOf h) ok_X8_boxOf im_X8_boxOf se_X8_boxOf rfl (ci := 7) rfl ml_X11_202 ⟨⟨(Nat.le_of_ble_eq_true rfl), (Nat.le_of_ble_eq_true rfl)⟩, (Nat.le_of_ble_eq_true rfl), (Nat.le_of_ble_eq_true rfl)⟩ dX11_largest_12 rfl rfl rfl (Nat.le_of_ble_eq_true rfl) rfl rfl (fun x4 => ?_)
  refine V_cVeI (As := [.ref x4]) (k_X7_largestIn x1 x4 M2) (fun _ h => o_X7_largestIn h) ok_X7_largestIn im_X7_largestIn se_X7_largestIn rfl (ci := 6) rfl ml_X11_264 ⟨⟨(Nat.le_of_ble_eq_true rfl), (Nat.le_of_ble_eq_true rfl)⟩, (Nat.le_of_ble_eq_true rfl), (Nat.le_of_ble_eq_true rfl)⟩ dX11_largest_15 rfl rfl rfl (Nat.le_of_ble_eq_true rfl) rfl rfl (fun x5 => ?_)
  exact V_iret dX11_largest_18 rfl rfl ⟨(Nat.le_of_ble_eq_true rfl), (Nat.le_of_ble_eq_true rfl)⟩
theorem k_X11_largest (this : Nat) (a1 : Int32) (M : Mem) : K mi_X11_largest [.ref this, .int a1] M (f_X11_largest this a1 M) tI := K_of_V ok_X11_largest (Nat.le_of_ble_eq_true rfl) (v_X11_largest this a1 M)
theorem o_X11_largest {this : Nat} {a1 : Int32} {M : Mem} {x} (h : f_X11_largest this a1 M = some x) : isO M 10 this = true := (ob_of h).1
theorem dX11_stale_0 : decode cX11_stale 0 = .ok (.aload_n 0, 1) := by decide +kernel
theorem dX11_stale_1 : decode cX11_stale 1 = .ok (.getfield 24, 3) := by decide +kernel
theorem dX11_stale_4 : decode cX11_stale 4 = .ok (.invokevirtual 275, 3) := by decide +kernel
theorem dX11_stale_7 : decode cX11_stale 7 = .ok (.ireturn, 1) := by decide +kernel
def mi_X11_stale : MI := (RX11, yX11_stale, cX11_stale, 1, some .int, [], { frames := 8, cells := 0, slots := 0, locals := 168 })
theorem ok_X11_stale : mOK mi_X11_stale 0 := ⟨rfl, cw_X11_stale, ini_X11, ⟨rfl, by decide⟩, by decide, by decide, rfl⟩
theorem v_X11_stale (this : Nat) (M : Mem) : V mi_X11_stale 0 [(0, .ref this)] [] M 0 0 (f_X11_stale this M) (eI M) := by
  unfold f_X11_stale
  refine V_ob fun _ _ => ?_
  refine V_aload_n dX11_stale_0 rfl 0 rfl ?_
  refine V_getR dX11_stale_1 rfl (ci := 10) (T := TX11) rfl (by decide) fl_X11_24 (fun x1 => ?_)
  refine V_cVeI (As := []) (k_X8_sessionsToTell x1 M) (fun _ h => o_X8_sessionsToTell h) ok_X8_sessionsToTell im_X8_sessionsToTell se_X8_sessionsToTell rfl (ci := 7) rfl ml_X11_275 ⟨⟨(Nat.le_of_ble_eq_true rfl), (Nat.le_of_ble_eq_true rfl)⟩, (Nat.le_of_ble_eq_true rfl), (Nat.le_of_ble_eq_true rfl)⟩ dX11_stale_4 rfl rfl rfl (Nat.le_of_ble_eq_true rfl) rfl rfl (fun x2 => ?_)
  exact V_iret dX11_stale_7 rfl rfl ⟨(Nat.le_of_ble_eq_true rfl), (Nat.le_of_ble_eq_true rfl)⟩
theorem k_X11_stale (this : Nat) (M : Mem) : K mi_X11_stale [.ref this] M (f_X11_stale this M) (eI M) := K_of_V ok_X11_stale (Nat.le_of_ble_eq_true rfl) (v_X11_stale this M)
theorem o_X11_stale {this : Nat} {M : Mem} {x} (h : f_X11_stale this M = some x) : isO M 10 this = true := (ob_of h).1
theorem dX11_account_0 : decode cX11_account 0 = .ok (.aload_n 0, 1) := by decide +kernel
theorem dX11_account_1 : decode cX11_account 1 = .ok (.iload_n 1, 1) := by decide +kernel
theorem dX11_account_2 : decode cX11_account 2 = .ok (.invokevirtual 198, 3) := by decide +kernel
theorem dX11_account_5 : decode cX11_account 5 = .ok (.astore_n 3, 1) := by decide +kernel
theorem dX11_account_6 : decode cX11_account 6 = .ok (.iload_n 2, 1) := by decide +kernel
theorem dX11_account_7 : decode cX11_account 7 = .ok (.ifCond .lt 8, 3) := by decide +kernel
theorem dX11_account_10 : decode cX11_account 10 = .ok (.iload_n 2, 1) := by decide +kernel
theorem dX11_account_11 : decode cX11_account 11 = .ok (.iconst 5, 1) := by decide +kernel
theorem dX11_account_12 : decode cX11_account 12 = .ok (.if_icmp .lt 14, 3) := by decide +kernel
theorem dX11_account_15 : decode cX11_account 15 = .ok (.new 99, 3) := by decide +kernel
theorem dX11_account_18 : decode cX11_account 18 = .ok (.dup, 1) := by decide +kernel
theorem dX11_account_19 : decode cX11_account 19 = .ok (.ldc_w 278, 3) := by decide +kernel
theorem dX11_account_22 : decode cX11_account 22 = .ok (.invokespecial 103, 3) := by decide +kernel
theorem dX11_account_25 : decode cX11_account 25 = .ok (.athrow, 1) := by decide +kernel
theorem dX11_account_26 : decode cX11_account 26 = .ok (.aload_n 3, 1) := by decide +kernel
theorem dX11_account_27 : decode cX11_account 27 = .ok (.getfield 280, 3) := by decide +kernel
theorem dX11_account_30 : decode cX11_account 30 = .ok (.iload_n 2, 1) := by decide +kernel
theorem dX11_account_31 : decode cX11_account 31 = .ok (.invokevirtual 182, 3) := by decide +kernel
theorem dX11_account_34 : decode cX11_account 34 = .ok (.ireturn, 1) := by decide +kernel
def mi_X11_account : MI := (RX11, yX11_account, cX11_account, 4, some .int, [], { frames := 9, cells := 2, slots := 12, locals := 142 })
theorem ok_X11_account : mOK mi_X11_account 2 := ⟨rfl, cw_X11_account, ini_X11, ⟨rfl, by decide⟩, by decide, by decide, rfl⟩
theorem v_X11_account_15 (M : Mem) : V mi_X11_account 15 [] [] M 1 6 (f_X11_account_15 M) tI := by
  unfold f_X11_account_15
  exact V_throwW th_X11_99_103 sr_X11_278 rfl dX11_account_15 dX11_account_18 dX11_account_19 dX11_account_22 dX11_account_25 ⟨(Nat.le_of_ble_eq_true rfl), (Nat.le_of_ble_eq_true rfl)⟩ ⟨(Nat.le_of_ble_eq_true rfl), (Nat.le_of_ble_eq_true rfl)⟩ rfl
theorem v_X11_account (this : Nat) (a1 : Int32) (a2 : Int32) (M : Mem) : V mi_X11_account 0 [(0, .ref this), (1, .int a1), (2, .int a2)] [] M 0 0 (f_X11_account this a1 a2 M) tI := by
  unfold f_X11_account
  refine V_ob fun _ _ => ?_
  refine V_aload_n dX11_account_0 rfl 0 rfl ?_
  refine V_iload_n dX11_account_1 rfl 1 rfl ?_
  refine V_cVtR (As := [.int a1]) (k_X11_requireSession this a1 M) rfl (fun _ _ => rfl) (fun _ h => o_X11_requireSession h) ok_X11_requireSession im_X11_requireSession se_X11_requireSession rfl (ci := 10) rfl ml_X11_198 ⟨⟨(Nat.le_of_ble_eq_true rfl), (Nat.le_of_ble_eq_true rfl)⟩, (Nat.le_of_ble_eq_true rfl), (Nat.le_of_ble_eq_true rfl)⟩ dX11_account_2 rfl rfl rfl (Nat.le_of_ble_eq_true rfl) rfl rfl (fun x1 M2 => ?_)
  refine V_astore_n (L' := [(0, .ref this), (1, .int a1), (2, .int a2), (3, .ref x1)]) dX11_account_5 rfl (by decide) rfl ?_
  refine V_iload_n dX11_account_6 rfl 2 rfl ?_
  refine V_if_lt (q := 15) (q2 := 10) dX11_account_7 (by decide) rfl ?_ ?_
  · exact V_sub [] rfl (v_X11_account_15 M2)
  · refine V_iload_n dX11_account_10 rfl 2 rfl ?_
    refine V_iconst (x := 5) dX11_account_11 rfl rfl ?_
    refine V_icmp_lt (q := 26) (q2 := 15) dX11_account_12 (by decide) rfl ?_ ?_
    · refine V_aload_n dX11_account_26 rfl 3 rfl ?_
      refine V_getR dX11_account_27 rfl (ci := 6) (T := TX7) rfl (by decide) fl_X11_280 (fun x3 => ?_)
      refine V_iload_n dX11_account_30 rfl 2 rfl ?_
      refine V_cVeI (As := [.int a2]) (k_X5_get x3 a2 M2) (fun _ h => o_X5_get h) ok_X5_get im_X5_get se_X5_get rfl (ci := 4) rfl ml_X11_182 ⟨⟨(Nat.le_of_ble_eq_true rfl), (Nat.le_of_ble_eq_true rfl)⟩, (Nat.le_of_ble_eq_true rfl), (Nat.le_of_ble_eq_true rfl)⟩ dX11_account_31 rfl rfl rfl (Nat.le_of_ble_eq_true rfl) rfl rfl (fun x4 => ?_)
      exact V_iret dX11_account_34 rfl rfl ⟨(Nat.le_of_ble_eq_true rfl), (Nat.le_of_ble_eq_true rfl)⟩
    · exact V_sub [] rfl (v_X11_account_15 M2)
theorem k_X11_account (this : Nat) (a1 : Int32) (a2 : Int32) (M : Mem) : K mi_X11_account [.ref this, .int a1, .int a2] M (f_X11_account this a1 a2 M) tI := K_of_V ok_X11_account (Nat.le_of_ble_eq_true rfl) (v_X11_account this a1 a2 M)
theorem o_X11_account {this : Nat} {a1 : Int32} {a2 : Int32} {M : Mem} {x} (h : f_X11_account this a1 a2 M = some x) : isO M 10 this = true := (ob_of h).1
theorem dX11_notice_0 : decode cX11_notice 0 = .ok (.iload_n 2, 1) := by decide +kernel
theorem dX11_notice_1 : decode cX11_notice 1 = .ok (.ifCond .lt 8, 3) := by decide +kernel
theorem dX11_notice_4 : decode cX11_notice 4 = .ok (.iload_n 2, 1) := by decide +kernel
theorem dX11_notice_5 : decode cX11_notice 5 = .ok (.iconst 3, 1) := by decide +kernel
theorem dX11_notice_6 : decode cX11_notice 6 = .ok (.if_icmp .le 14, 3) := by decide +kernel
theorem dX11_notice_9 : decode cX11_notice 9 = .ok (.new 99, 3) := by decide +kernel
theorem dX11_notice_12 : decode cX11_notice 12 = .ok (.dup, 1) := by decide +kernel
theorem dX11_notice_13 : decode cX11_notice 13 = .ok (.ldc_w 283, 3) := by decide +kernel
theorem dX11_notice_16 : decode cX11_notice 16 = .ok (.invokespecial 103, 3) := by decide +kernel
theorem dX11_notice_19 : decode cX11_notice 19 = .ok (.athrow, 1) := by decide +kernel
theorem dX11_notice_20 : decode cX11_notice 20 = .ok (.iload_n 1, 1) := by decide +kernel
theorem dX11_notice_21 : decode cX11_notice 21 = .ok (.ifCond .lt 14, 3) := by decide +kernel
theorem dX11_notice_24 : decode cX11_notice 24 = .ok (.iload_n 1, 1) := by decide +kernel
theorem dX11_notice_25 : decode cX11_notice 25 = .ok (.aload_n 0, 1) := by decide +kernel
theorem dX11_notice_26 : decode cX11_notice 26 = .ok (.getfield 49, 3) := by decide +kernel
theorem dX11_notice_29 : decode cX11_notice 29 = .ok (.invokevirtual 143, 3) := by decide +kernel
theorem dX11_notice_32 : decode cX11_notice 32 = .ok (.if_icmp .lt 14, 3) := by decide +kernel
theorem dX11_notice_35 : decode cX11_notice 35 = .ok (.new 285, 3) := by decide +kernel
theorem dX11_notice_38 : decode cX11_notice 38 = .ok (.dup, 1) := by decide +kernel
theorem dX11_notice_39 : decode cX11_notice 39 = .ok (.ldc_w 287, 3) := by decide +kernel
theorem dX11_notice_42 : decode cX11_notice 42 = .ok (.invokespecial 289, 3) := by decide +kernel
theorem dX11_notice_45 : decode cX11_notice 45 = .ok (.athrow, 1) := by decide +kernel
theorem dX11_notice_46 : decode cX11_notice 46 = .ok (.iload_n 2, 1) := by decide +kernel
theorem dX11_notice_47 : decode cX11_notice 47 = .ok (.tableswitch 61 0 2 #[25, 37, 49], 25) := by decide +kernel
theorem dX11_notice_72 : decode cX11_notice 72 = .ok (.aload_n 0, 1) := by decide +kernel
theorem dX11_notice_73 : decode cX11_notice 73 = .ok (.getfield 49, 3) := by decide +kernel
theorem dX11_notice_76 : decode cX11_notice 76 = .ok (.getfield 290, 3) := by decide +kernel
theorem dX11_notice_79 : decode cX11_notice 79 = .ok (.iload_n 1, 1) := by decide +kernel
theorem dX11_notice_80 : decode cX11_notice 80 = .ok (.invokevirtual 182, 3) := by decide +kernel
theorem dX11_notice_83 : decode cX11_notice 83 = .ok (.ireturn, 1) := by decide +kernel
theorem dX11_notice_84 : decode cX11_notice 84 = .ok (.aload_n 0, 1) := by decide +kernel
theorem dX11_notice_85 : decode cX11_notice 85 = .ok (.getfield 49, 3) := by decide +kernel
theorem dX11_notice_88 : decode cX11_notice 88 = .ok (.getfield 293, 3) := by decide +kernel
theorem dX11_notice_91 : decode cX11_notice 91 = .ok (.iload_n 1, 1) := by decide +kernel
theorem dX11_notice_92 : decode cX11_notice 92 = .ok (.invokevirtual 182, 3) := by decide +kernel
theorem dX11_notice_95 : decode cX11_notice 95 = .ok (.ireturn, 1) := by decide +kernel
theorem dX11_notice_96 : decode cX11_notice 96 = .ok (.aload_n 0, 1) := by decide +kernel
theorem dX11_notice_97 : decode cX11_notice 97 = .ok (.getfield 49, 3) := by decide +kernel
theorem dX11_notice_100 : decode cX11_notice 100 = .ok (.getfield 296, 3) := by decide +kernel
theorem dX11_notice_103 : decode cX11_notice 103 = .ok (.iload_n 1, 1) := by decide +kernel
theorem dX11_notice_104 : decode cX11_notice 104 = .ok (.invokevirtual 182, 3) := by decide +kernel
theorem dX11_notice_107 : decode cX11_notice 107 = .ok (.ireturn, 1) := by decide +kernel
theorem dX11_notice_108 : decode cX11_notice 108 = .ok (.aload_n 0, 1) := by decide +kernel
theorem dX11_notice_109 : decode cX11_notice 109 = .ok (.getfield 49, 3) := by decide +kernel
theorem dX11_notice_112 : decode cX11_notice 112 = .ok (.getfield 299, 3) := by decide +kernel
theorem dX11_notice_115 : decode cX11_notice 115 = .ok (.iload_n 1, 1) := by decide +kernel
theorem dX11_notice_116 : decode cX11_notice 116 = .ok (.invokevirtual 182, 3) := by decide +kernel
theorem dX11_notice_119 : decode cX11_notice 119 = .ok (.ireturn, 1) := by decide +kernel
def mi_X11_notice : MI := (RX11, yX11_notice, cX11_notice, 3, some .int, [], { frames := 8, cells := 1, slots := 6, locals := 120 })
theorem ok_X11_notice : mOK mi_X11_notice 2 := ⟨rfl, cw_X11_notice, ini_X11, ⟨rfl, by decide⟩, by decide, by decide, rfl⟩
theorem v_X11_notice_9 (M : Mem) : V mi_X11_notice 9 [] [] M 0 0 (f_X11_notice_9 M) tI := by
  unfold f_X11_notice_9
  exact V_throwW th_X11_99_103 sr_X11_283 rfl dX11_notice_9 dX11_notice_12 dX11_notice_13 dX11_notice_16 dX11_notice_19 ⟨(Nat.le_of_ble_eq_true rfl), (Nat.le_of_ble_eq_true rfl)⟩ ⟨(Nat.le_of_ble_eq_true rfl), (Nat.le_of_ble_eq_true rfl)⟩ rfl
theorem v_X11_notice_35 (M : Mem) : V mi_X11_notice 35 [] [] M 0 0 (f_X11_notice_35 M) tI := by
  unfold f_X11_notice_35
  exact V_throwXW thx_11 dNs_0 dNs_1 dNs_2 dNs_5 sr_X11_287 rfl dX11_notice_35 dX11_notice_38 dX11_notice_39 dX11_notice_42 dX11_notice_45 ⟨(Nat.le_of_ble_eq_true rfl), (Nat.le_of_ble_eq_true rfl)⟩ ⟨(Nat.le_of_ble_eq_true rfl), (Nat.le_of_ble_eq_true rfl)⟩ rfl
theorem v_X11_notice (this : Nat) (a1 : Int32) (a2 : Int32) (M : Mem) : V mi_X11_notice 0 [(0, .ref this), (1, .int a1), (2, .int a2)] [] M 0 0 (f_X11_notice this a1 a2 M) tI := by
  unfold f_X11_notice
  refine V_ob fun _ _ => ?_
  refine V_iload_n dX11_notice_0 rfl 2 rfl ?_
  refine V_if_lt (q := 9) (q2 := 4) dX11_notice_1 (by decide) rfl ?_ ?_
  · exact V_sub [] rfl (v_X11_notice_9 M)
  · refine V_iload_n dX11_notice_4 rfl 2 rfl ?_
    refine V_iconst (x := 3) dX11_notice_5 rfl rfl ?_
    refine V_icmp_le (q := 20) (q2 := 9) dX11_notice_6 (by decide) rfl ?_ ?_
    · refine V_iload_n dX11_notice_20 rfl 1 rfl ?_
      refine V_if_lt (q := 35) (q2 := 24) dX11_notice_21 (by decide) rfl ?_ ?_
      · exact V_sub [] rfl (v_X11_notice_35 M)
      · refine V_iload_n dX11_notice_24 rfl 1 rfl ?_
        refine V_aload_n dX11_notice_25 rfl 0 rfl ?_
        refine V_getR dX11_notice_26 rfl (ci := 10) (T := TX11) rfl (by decide) fl_X11_49 (fun x1 => ?_)
        refine V_cVeI (As := []) (k_X4_size x1 M) (fun _ h => o_X4_size h) ok_X4_size im_X4_size se_X4_size rfl (ci := 3) rfl ml_X11_143 ⟨⟨(Nat.le_of_ble_eq_true rfl), (Nat.le_of_ble_eq_true rfl)⟩, (Nat.le_of_ble_eq_true rfl), (Nat.le_of_ble_eq_true rfl)⟩ dX11_notice_29 rfl rfl rfl (Nat.le_of_ble_eq_true rfl) rfl rfl (fun x2 => ?_)
        refine V_icmp_lt (q := 46) (q2 := 35) dX11_notice_32 (by decide) rfl ?_ ?_
        · refine V_iload_n dX11_notice_46 rfl 2 rfl ?_
          refine V_if (fun ht47_0 => ?_) (fun ht47_0 => ?_)
          · refine V_tsIn ht47_0 dX11_notice_47 (by decide) (by decide) (off := 25) (q := 72) rfl (by decide) ?_
            refine V_aload_n dX11_notice_72 rfl 0 rfl ?_
            refine V_getR dX11_notice_73 rfl (ci := 10) (T := TX11) rfl (by decide) fl_X11_49 (fun x3 => ?_)
            refine V_getR dX11_notice_76 rfl (ci := 3) (T := TX4) rfl (by decide) fl_X11_290 (fun x4 => ?_)
            refine V_iload_n dX11_notice_79 rfl 1 rfl ?_
            refine V_cVeI (As := [.int a1]) (k_X5_get x4 a1 M) (fun _ h => o_X5_get h) ok_X5_get im_X5_get se_X5_get rfl (ci := 4) rfl ml_X11_182 ⟨⟨(Nat.le_of_ble_eq_true rfl), (Nat.le_of_ble_eq_true rfl)⟩, (Nat.le_of_ble_eq_true rfl), (Nat.le_of_ble_eq_true rfl)⟩ dX11_notice_80 rfl rfl rfl (Nat.le_of_ble_eq_true rfl) rfl rfl (fun x5 => ?_)
            exact V_iret dX11_notice_83 rfl rfl ⟨(Nat.le_of_ble_eq_true rfl), (Nat.le_of_ble_eq_true rfl)⟩
          refine V_if (fun ht47_1 => ?_) (fun ht47_1 => ?_)
          · refine V_tsIn ht47_1 dX11_notice_47 (by decide) (by decide) (off := 37) (q := 84) rfl (by decide) ?_
            refine V_aload_n dX11_notice_84 rfl 0 rfl ?_
            refine V_getR dX11_notice_85 rfl (ci := 10) (T := TX11) rfl (by decide) fl_X11_49 (fun x6 => ?_)
            refine V_getR dX11_notice_88 rfl (ci := 3) (T := TX4) rfl (by decide) fl_X11_293 (fun x7 => ?_)
            refine V_iload_n dX11_notice_91 rfl 1 rfl ?_
            refine V_cVeI (As := [.int a1]) (k_X5_get x7 a1 M) (fun _ h => o_X5_get h) ok_X5_get im_X5_get se_X5_get rfl (ci := 4) rfl ml_X11_182 ⟨⟨(Nat.le_of_ble_eq_true rfl), (Nat.le_of_ble_eq_true rfl)⟩, (Nat.le_of_ble_eq_true rfl), (Nat.le_of_ble_eq_true rfl)⟩ dX11_notice_92 rfl rfl rfl (Nat.le_of_ble_eq_true rfl) rfl rfl (fun x8 => ?_)
            exact V_iret dX11_notice_95 rfl rfl ⟨(Nat.le_of_ble_eq_true rfl), (Nat.le_of_ble_eq_true rfl)⟩
          refine V_if (fun ht47_2 => ?_) (fun ht47_2 => ?_)
          · refine V_tsIn ht47_2 dX11_notice_47 (by decide) (by decide) (off := 49) (q := 96) rfl (by decide) ?_
            refine V_aload_n dX11_notice_96 rfl 0 rfl ?_
            refine V_getR dX11_notice_97 rfl (ci := 10) (T := TX11) rfl (by decide) fl_X11_49 (fun x9 => ?_)
            refine V_getR dX11_notice_100 rfl (ci := 3) (T := TX4) rfl (by decide) fl_X11_296 (fun x10 => ?_)
            refine V_iload_n dX11_notice_103 rfl 1 rfl ?_
            refine V_cVeI (As := [.int a1]) (k_X5_get x10 a1 M) (fun _ h => o_X5_get h) ok_X5_get im_X5_get se_X5_get rfl (ci := 4) rfl ml_X11_182 ⟨⟨(Nat.le_of_ble_eq_true rfl), (Nat.le_of_ble_eq_true rfl)⟩, (Nat.le_of_ble_eq_true rfl), (Nat.le_of_ble_eq_true rfl)⟩ dX11_notice_104 rfl rfl rfl (Nat.le_of_ble_eq_true rfl) rfl rfl (fun x11 => ?_)
            exact V_iret dX11_notice_107 rfl rfl ⟨(Nat.le_of_ble_eq_true rfl), (Nat.le_of_ble_eq_true rfl)⟩
          refine V_tsOut (q := 108) (ts_3 ht47_0 ht47_1 ht47_2) dX11_notice_47 (by decide) ?_
          refine V_aload_n dX11_notice_108 rfl 0 rfl ?_
          refine V_getR dX11_notice_109 rfl (ci := 10) (T := TX11) rfl (by decide) fl_X11_49 (fun x12 => ?_)
          refine V_getR dX11_notice_112 rfl (ci := 3) (T := TX4) rfl (by decide) fl_X11_299 (fun x13 => ?_)
          refine V_iload_n dX11_notice_115 rfl 1 rfl ?_
          refine V_cVeI (As := [.int a1]) (k_X5_get x13 a1 M) (fun _ h => o_X5_get h) ok_X5_get im_X5_get se_X5_get rfl (ci := 4) rfl ml_X11_182 ⟨⟨(Nat.le_of_ble_eq_true rfl), (Nat.le_of_ble_eq_true rfl)⟩, (Nat.le_of_ble_eq_true rfl), (Nat.le_of_ble_eq_true rfl)⟩ dX11_notice_116 rfl rfl rfl (Nat.le_of_ble_eq_true rfl) rfl rfl (fun x14 => ?_)
          exact V_iret dX11_notice_119 rfl rfl ⟨(Nat.le_of_ble_eq_true rfl), (Nat.le_of_ble_eq_true rfl)⟩
        · exact V_sub [] rfl (v_X11_notice_35 M)
    · exact V_sub [] rfl (v_X11_notice_9 M)
theorem k_X11_notice (this : Nat) (a1 : Int32) (a2 : Int32) (M : Mem) : K mi_X11_notice [.ref this, .int a1, .int a2] M (f_X11_notice this a1 a2 M) tI := K_of_V ok_X11_notice (Nat.le_of_ble_eq_true rfl) (v_X11_notice this a1 a2 M)
theorem o_X11_notice {this : Nat} {a1 : Int32} {a2 : Int32} {M : Mem} {x} (h : f_X11_notice this a1 a2 M = some x) : isO M 10 this = true := (ob_of h).1
theorem dX11_beginCommand_0 : decode cX11_beginCommand 0 = .ok (.aload_n 0, 1) := by decide +kernel
theorem dX11_beginCommand_1 : decode cX11_beginCommand 1 = .ok (.invokevirtual 114, 3) := by decide +kernel
theorem dX11_beginCommand_4 : decode cX11_beginCommand 4 = .ok (.aload_n 1, 1) := by decide +kernel
theorem dX11_beginCommand_5 : decode cX11_beginCommand 5 = .ok (.getfield 280, 3) := by decide +kernel
theorem dX11_beginCommand_8 : decode cX11_beginCommand 8 = .ok (.iconst 0, 1) := by decide +kernel
theorem dX11_beginCommand_9 : decode cX11_beginCommand 9 = .ok (.iconst 1, 1) := by decide +kernel
theorem dX11_beginCommand_10 : decode cX11_beginCommand 10 = .ok (.invokevirtual 334, 3) := by decide +kernel
theorem dX11_beginCommand_13 : decode cX11_beginCommand 13 = .ok (.return_, 1) := by decide +kernel
def mi_X11_beginCommand : MI := (RX11, yX11_beginCommand, cX11_beginCommand, 2, none, [], { frames := 6, cells := 0, slots := 0, locals := 121 })
theorem ok_X11_beginCommand : mOK mi_X11_beginCommand 1 := ⟨rfl, cw_X11_beginCommand, ini_X11, ⟨rfl, by decide⟩, by decide, by decide, rfl⟩
theorem v_X11_beginCommand (this : Nat) (a1 : Nat) (M : Mem) : V mi_X11_beginCommand 0 [(0, .ref this), (1, .ref a1)] [] M 0 0 (f_X11_beginCommand this a1 M) wV := by
  unfold f_X11_beginCommand
  refine V_ob fun _ _ => ?_
  refine V_aload_n dX11_beginCommand_0 rfl 0 rfl ?_
  refine V_cVwV (As := []) (k_X11_beginAct this M) (fun _ h => o_X11_beginAct h) ok_X11_beginAct im_X11_beginAct se_X11_beginAct rfl (ci := 10) rfl ml_X11_114 ⟨⟨(Nat.le_of_ble_eq_true rfl), (Nat.le_of_ble_eq_true rfl)⟩, (Nat.le_of_ble_eq_true rfl), (Nat.le_of_ble_eq_true rfl)⟩ dX11_beginCommand_1 rfl rfl rfl (Nat.le_of_ble_eq_true rfl) rfl rfl (fun M2 => ?_)
  refine V_aload_n dX11_beginCommand_4 rfl 1 rfl ?_
  refine V_getR dX11_beginCommand_5 rfl (ci := 6) (T := TX7) rfl (by decide) fl_X11_280 (fun x3 => ?_)
  refine V_iconst (x := 0) dX11_beginCommand_8 rfl rfl ?_
  refine V_iconst (x := 1) dX11_beginCommand_9 rfl rfl ?_
  refine V_cVwV (As := [.int 0, .int 1]) (k_X5_increase x3 0 1 M2) (fun _ h => o_X5_increase h) ok_X5_increase im_X5_increase se_X5_increase rfl (ci := 4) rfl ml_X11_334 ⟨⟨(Nat.le_of_ble_eq_true rfl), (Nat.le_of_ble_eq_true rfl)⟩, (Nat.le_of_ble_eq_true rfl), (Nat.le_of_ble_eq_true rfl)⟩ dX11_beginCommand_10 rfl rfl rfl (Nat.le_of_ble_eq_true rfl) rfl rfl (fun M5 => ?_)
  exact V_vret dX11_beginCommand_13 rfl rfl ⟨(Nat.le_of_ble_eq_true rfl), (Nat.le_of_ble_eq_true rfl)⟩
theorem k_X11_beginCommand (this : Nat) (a1 : Nat) (M : Mem) : K mi_X11_beginCommand [.ref this, .ref a1] M (f_X11_beginCommand this a1 M) wV := K_of_V ok_X11_beginCommand (Nat.le_of_ble_eq_true rfl) (v_X11_beginCommand this a1 M)
theorem o_X11_beginCommand {this : Nat} {a1 : Nat} {M : Mem} {x} (h : f_X11_beginCommand this a1 M = some x) : isO M 10 this = true := (ob_of h).1
theorem dX11_select_0 : decode cX11_select 0 = .ok (.aload_n 0, 1) := by decide +kernel
theorem dX11_select_1 : decode cX11_select 1 = .ok (.iload_n 1, 1) := by decide +kernel
theorem dX11_select_2 : decode cX11_select 2 = .ok (.invokevirtual 198, 3) := by decide +kernel
theorem dX11_select_5 : decode cX11_select 5 = .ok (.astore 4, 2) := by decide +kernel
theorem dX11_select_7 : decode cX11_select 7 = .ok (.aload_n 0, 1) := by decide +kernel
theorem dX11_select_8 : decode cX11_select 8 = .ok (.iload_n 2, 1) := by decide +kernel
theorem dX11_select_9 : decode cX11_select 9 = .ok (.invokevirtual 146, 3) := by decide +kernel
theorem dX11_select_12 : decode cX11_select 12 = .ok (.astore 5, 2) := by decide +kernel
theorem dX11_select_14 : decode cX11_select 14 = .ok (.aload 4, 2) := by decide +kernel
theorem dX11_select_16 : decode cX11_select 16 = .ok (.getfield 215, 3) := by decide +kernel
theorem dX11_select_19 : decode cX11_select 19 = .ok (.ifCond .eq 14, 3) := by decide +kernel
theorem dX11_select_22 : decode cX11_select 22 = .ok (.new 89, 3) := by decide +kernel
theorem dX11_select_25 : decode cX11_select 25 = .ok (.dup, 1) := by decide +kernel
theorem dX11_select_26 : decode cX11_select 26 = .ok (.ldc_w 303, 3) := by decide +kernel
theorem dX11_select_29 : decode cX11_select 29 = .ok (.invokespecial 93, 3) := by decide +kernel
theorem dX11_select_32 : decode cX11_select 32 = .ok (.athrow, 1) := by decide +kernel
theorem dX11_select_33 : decode cX11_select 33 = .ok (.aload_n 0, 1) := by decide +kernel
theorem dX11_select_34 : decode cX11_select 34 = .ok (.aload 4, 2) := by decide +kernel
theorem dX11_select_36 : decode cX11_select 36 = .ok (.invokevirtual 305, 3) := by decide +kernel
theorem dX11_select_39 : decode cX11_select 39 = .ok (.aload 4, 2) := by decide +kernel
theorem dX11_select_41 : decode cX11_select 41 = .ok (.iload_n 2, 1) := by decide +kernel
theorem dX11_select_42 : decode cX11_select 42 = .ok (.aload 5, 2) := by decide +kernel
theorem dX11_select_44 : decode cX11_select 44 = .ok (.iload_n 3, 1) := by decide +kernel
theorem dX11_select_45 : decode cX11_select 45 = .ok (.invokevirtual 309, 3) := by decide +kernel
theorem dX11_select_48 : decode cX11_select 48 = .ok (.aload_n 0, 1) := by decide +kernel
theorem dX11_select_49 : decode cX11_select 49 = .ok (.getfield 24, 3) := by decide +kernel
theorem dX11_select_52 : decode cX11_select 52 = .ok (.aload_n 0, 1) := by decide +kernel
theorem dX11_select_53 : decode cX11_select 53 = .ok (.getfield 49, 3) := by decide +kernel
theorem dX11_select_56 : decode cX11_select 56 = .ok (.invokevirtual 313, 3) := by decide +kernel
theorem dX11_select_59 : decode cX11_select 59 = .ok (.aload 4, 2) := by decide +kernel
theorem dX11_select_61 : decode cX11_select 61 = .ok (.invokevirtual 218, 3) := by decide +kernel
theorem dX11_select_64 : decode cX11_select 64 = .ok (.ireturn, 1) := by decide +kernel
def mi_X11_select : MI := (RX11, yX11_select, cX11_select, 6, some .int, [], { frames := 9, cells := 3, slots := 18, locals := 153 })
theorem ok_X11_select : mOK mi_X11_select 3 := ⟨rfl, cw_X11_select, ini_X11, ⟨rfl, by decide⟩, by decide, by decide, rfl⟩
theorem v_X11_select (this : Nat) (a1 : Int32) (a2 : Int32) (a3 : Bool) (M : Mem) : V mi_X11_select 0 [(0, .ref this), (1, .int a1), (2, .int a2), (3, .int (b2i a3))] [] M 0 0 (f_X11_select this a1 a2 a3 M) tI := by
  unfold f_X11_select
  refine V_ob fun _ _ => ?_
  refine V_aload_n dX11_select_0 rfl 0 rfl ?_
  refine V_iload_n dX11_select_1 rfl 1 rfl ?_
  refine V_cVtR (As := [.int a1]) (k_X11_requireSession this a1 M) rfl (fun _ _ => rfl) (fun _ h => o_X11_requireSession h) ok_X11_requireSession im_X11_requireSession se_X11_requireSession rfl (ci := 10) rfl ml_X11_198 ⟨⟨(Nat.le_of_ble_eq_true rfl), (Nat.le_of_ble_eq_true rfl)⟩, (Nat.le_of_ble_eq_true rfl), (Nat.le_of_ble_eq_true rfl)⟩ dX11_select_2 rfl rfl rfl (Nat.le_of_ble_eq_true rfl) rfl rfl (fun x1 M2 => ?_)
  refine V_astore (L' := [(0, .ref this), (1, .int a1), (2, .int a2), (3, .int (b2i a3)), (4, .ref x1)]) dX11_select_5 rfl (by decide) rfl ?_
  refine V_aload_n dX11_select_7 rfl 0 rfl ?_
  refine V_iload_n dX11_select_8 rfl 2 rfl ?_
  refine V_cVtR (As := [.int a2]) (k_X11_requireBox this a2 M2) rfl (fun _ _ => rfl) (fun _ h => o_X11_requireBox h) ok_X11_requireBox im_X11_requireBox se_X11_requireBox rfl (ci := 10) rfl ml_X11_146 ⟨⟨(Nat.le_of_ble_eq_true rfl), (Nat.le_of_ble_eq_true rfl)⟩, (Nat.le_of_ble_eq_true rfl), (Nat.le_of_ble_eq_true rfl)⟩ dX11_select_9 rfl rfl rfl (Nat.le_of_ble_eq_true rfl) rfl rfl (fun x3 M4 => ?_)
  refine V_astore (L' := [(0, .ref this), (1, .int a1), (2, .int a2), (3, .int (b2i a3)), (4, .ref x1), (5, .ref x3)]) dX11_select_12 rfl (by decide) rfl ?_
  refine V_aload dX11_select_14 rfl 4 rfl ?_
  refine V_getZ dX11_select_16 rfl (ci := 6) (T := TX7) rfl (by decide) fl_X11_215 (fun x5 => ?_)
  refine V_ifz_eq (q := 33) (q2 := 22) dX11_select_19 (by decide) rfl ?_ ?_
  · refine V_aload_n dX11_select_33 rfl 0 rfl ?_
    refine V_aload dX11_select_34 rfl 4 rfl ?_
    refine V_cVwV (As := [.ref x1]) (k_X11_beginCommand this x1 M4) (fun _ h => o_X11_beginCommand h) ok_X11_beginCommand im_X11_beginCommand se_X11_beginCommand rfl (ci := 10) rfl ml_X11_305 ⟨⟨(Nat.le_of_ble_eq_true rfl), (Nat.le_of_ble_eq_true rfl)⟩, (Nat.le_of_ble_eq_true rfl), (Nat.le_of_ble_eq_true rfl)⟩ dX11_select_36 rfl rfl rfl (Nat.le_of_ble_eq_true rfl) rfl rfl (fun M7 => ?_)
    refine V_aload dX11_select_39 rfl 4 rfl ?_
    refine V_iload_n dX11_select_41 rfl 2 rfl ?_
    refine V_aload dX11_select_42 rfl 5 rfl ?_
    refine V_iload_n dX11_select_44 rfl 3 rfl ?_
    refine V_cVwV (As := [.int a2, .ref x3, .int (b2i a3)]) (k_X7_enter x1 a2 x3 a3 M7) (fun _ h => o_X7_enter h) ok_X7_enter im_X7_enter se_X7_enter rfl (ci := 6) rfl ml_X11_309 ⟨⟨(Nat.le_of_ble_eq_true rfl), (Nat.le_of_ble_eq_true rfl)⟩, (Nat.le_of_ble_eq_true rfl), (Nat.le_of_ble_eq_true rfl)⟩ dX11_select_45 rfl rfl rfl (Nat.le_of_ble_eq_true rfl) rfl rfl (fun M9 => ?_)
    refine V_aload_n dX11_select_48 rfl 0 rfl ?_
    refine V_getR dX11_select_49 rfl (ci := 10) (T := TX11) rfl (by decide) fl_X11_24 (fun x10 => ?_)
    refine V_aload_n dX11_select_52 rfl 0 rfl ?_
    refine V_getR dX11_select_53 rfl (ci := 10) (T := TX11) rfl (by decide) fl_X11_49 (fun x11 => ?_)
    refine V_cVwV (As := [.ref x11]) (k_X8_tellIdle x10 x11 M9) (fun _ h => o_X8_tellIdle h) ok_X8_tellIdle im_X8_tellIdle se_X8_tellIdle rfl (ci := 7) rfl ml_X11_313 ⟨⟨(Nat.le_of_ble_eq_true rfl), (Nat.le_of_ble_eq_true rfl)⟩, (Nat.le_of_ble_eq_true rfl), (Nat.le_of_ble_eq_true rfl)⟩ dX11_select_56 rfl rfl rfl (Nat.le_of_ble_eq_true rfl) rfl rfl (fun M13 => ?_)
    refine V_aload dX11_select_59 rfl 4 rfl ?_
    refine V_cVeI (As := []) (k_X7_size x1 M13) (fun _ h => o_X7_size h) ok_X7_size im_X7_size se_X7_size rfl (ci := 6) rfl ml_X11_218 ⟨⟨(Nat.le_of_ble_eq_true rfl), (Nat.le_of_ble_eq_true rfl)⟩, (Nat.le_of_ble_eq_true rfl), (Nat.le_of_ble_eq_true rfl)⟩ dX11_select_61 rfl rfl rfl (Nat.le_of_ble_eq_true rfl) rfl rfl (fun x14 => ?_)
    exact V_iret dX11_select_64 rfl rfl ⟨(Nat.le_of_ble_eq_true rfl), (Nat.le_of_ble_eq_true rfl)⟩
  · exact V_throwW th_X11_89_93 sr_X11_303 rfl dX11_select_22 dX11_select_25 dX11_select_26 dX11_select_29 dX11_select_32 ⟨(Nat.le_of_ble_eq_true rfl), (Nat.le_of_ble_eq_true rfl)⟩ ⟨(Nat.le_of_ble_eq_true rfl), (Nat.le_of_ble_eq_true rfl)⟩ rfl
theorem k_X11_select (this : Nat) (a1 : Int32) (a2 : Int32) (a3 : Bool) (M : Mem) : K mi_X11_select [.ref this, .int a1, .int a2, .int (b2i a3)] M (f_X11_select this a1 a2 a3 M) tI := K_of_V ok_X11_select (Nat.le_of_ble_eq_true rfl) (v_X11_select this a1 a2 a3 M)
theorem o_X11_select {this : Nat} {a1 : Int32} {a2 : Int32} {a3 : Bool} {M : Mem} {x} (h : f_X11_select this a1 a2 a3 M = some x) : isO M 10 this = true := (ob_of h).1
theorem dX11_requireAwake_0 : decode cX11_requireAwake 0 = .ok (.aload_n 1, 1) := by decide +kernel
theorem dX11_requireAwake_1 : decode cX11_requireAwake 1 = .ok (.invokevirtual 257, 3) := by decide +kernel
theorem dX11_requireAwake_4 : decode cX11_requireAwake 4 = .ok (.ifCond .eq 10, 3) := by decide +kernel
theorem dX11_requireAwake_7 : decode cX11_requireAwake 7 = .ok (.aload_n 1, 1) := by decide +kernel
theorem dX11_requireAwake_8 : decode cX11_requireAwake 8 = .ok (.getfield 215, 3) := by decide +kernel
theorem dX11_requireAwake_11 : decode cX11_requireAwake 11 = .ok (.ifCond .eq 14, 3) := by decide +kernel
theorem dX11_requireAwake_14 : decode cX11_requireAwake 14 = .ok (.new 89, 3) := by decide +kernel
theorem dX11_requireAwake_17 : decode cX11_requireAwake 17 = .ok (.dup, 1) := by decide +kernel
theorem dX11_requireAwake_18 : decode cX11_requireAwake 18 = .ok (.ldc_w 437, 3) := by decide +kernel
theorem dX11_requireAwake_21 : decode cX11_requireAwake 21 = .ok (.invokespecial 93, 3) := by decide +kernel
theorem dX11_requireAwake_24 : decode cX11_requireAwake 24 = .ok (.athrow, 1) := by decide +kernel
theorem dX11_requireAwake_25 : decode cX11_requireAwake 25 = .ok (.aload_n 0, 1) := by decide +kernel
theorem dX11_requireAwake_26 : decode cX11_requireAwake 26 = .ok (.getfield 24, 3) := by decide +kernel
theorem dX11_requireAwake_29 : decode cX11_requireAwake 29 = .ok (.aload_n 1, 1) := by decide +kernel
theorem dX11_requireAwake_30 : decode cX11_requireAwake 30 = .ok (.invokevirtual 202, 3) := by decide +kernel
theorem dX11_requireAwake_33 : decode cX11_requireAwake 33 = .ok (.areturn, 1) := by decide +kernel
def mi_X11_requireAwake : MI := (RX11, yX11_requireAwake, cX11_requireAwake, 2, some (.object "MailSessions$Box"), [], { frames := 8, cells := 1, slots := 6, locals := 120 })
theorem ok_X11_requireAwake : mOK mi_X11_requireAwake 1 := ⟨rfl, cw_X11_requireAwake, ini_X11, ⟨rfl, by decide⟩, by decide, by decide, rfl⟩
theorem v_X11_requireAwake_14 (M : Mem) : V mi_X11_requireAwake 14 [] [] M 0 0 (f_X11_requireAwake_14 M) tR := by
  unfold f_X11_requireAwake_14
  exact V_throwW th_X11_89_93 sr_X11_437 rfl dX11_requireAwake_14 dX11_requireAwake_17 dX11_requireAwake_18 dX11_requireAwake_21 dX11_requireAwake_24 ⟨(Nat.le_of_ble_eq_true rfl), (Nat.le_of_ble_eq_true rfl)⟩ ⟨(Nat.le_of_ble_eq_true rfl), (Nat.le_of_ble_eq_true rfl)⟩ rfl
theorem v_X11_requireAwake (this : Nat) (a1 : Nat) (M : Mem) : V mi_X11_requireAwake 0 [(0, .ref this), (1, .ref a1)] [] M 0 0 (f_X11_requireAwake this a1 M) tR := by
  unfold f_X11_requireAwake
  refine V_ob fun _ _ => ?_
  refine V_aload_n dX11_requireAwake_0 rfl 1 rfl ?_
  refine V_cVeZ (As := []) (k_X7_hasBox a1 M) (fun _ h => o_X7_hasBox h) ok_X7_hasBox im_X7_hasBox se_X7_hasBox rfl (ci := 6) rfl ml_X11_257 ⟨⟨(Nat.le_of_ble_eq_true rfl), (Nat.le_of_ble_eq_true rfl)⟩, (Nat.le_of_ble_eq_true rfl), (Nat.le_of_ble_eq_true rfl)⟩ dX11_requireAwake_1 rfl rfl rfl (Nat.le_of_ble_eq_true rfl) rfl rfl (fun x1 => ?_)
  refine V_ifz_eq (q := 14) (q2 := 7) dX11_requireAwake_4 (by decide) rfl ?_ ?_
  · exact V_sub [] rfl (v_X11_requireAwake_14 M)
  · refine V_aload_n dX11_requireAwake_7 rfl 1 rfl ?_
    refine V_getZ dX11_requireAwake_8 rfl (ci := 6) (T := TX7) rfl (by decide) fl_X11_215 (fun x2 => ?_)
    refine V_ifz_eq (q := 25) (q2 := 14) dX11_requireAwake_11 (by decide) rfl ?_ ?_
    · refine V_aload_n dX11_requireAwake_25 rfl 0 rfl ?_
      refine V_getR dX11_requireAwake_26 rfl (ci := 10) (T := TX11) rfl (by decide) fl_X11_24 (fun x3 => ?_)
      refine V_aload_n dX11_requireAwake_29 rfl 1 rfl ?_
      refine V_cVeR (As := [.ref a1]) (k_X8_boxOf x3 a1 M) (fun _ h => o_X8_boxOf h) ok_X8_boxOf im_X8_boxOf se_X8_boxOf rfl (ci := 7) rfl ml_X11_202 ⟨⟨(Nat.le_of_ble_eq_true rfl), (Nat.le_of_ble_eq_true rfl)⟩, (Nat.le_of_ble_eq_true rfl), (Nat.le_of_ble_eq_true rfl)⟩ dX11_requireAwake_30 rfl rfl rfl (Nat.le_of_ble_eq_true rfl) rfl rfl (fun x4 => ?_)
      exact V_aret (v := some x4) dX11_requireAwake_33 rfl (Or.inl ⟨_, rfl⟩) rfl ⟨(Nat.le_of_ble_eq_true rfl), (Nat.le_of_ble_eq_true rfl)⟩
    · exact V_sub [] rfl (v_X11_requireAwake_14 M)
theorem k_X11_requireAwake (this : Nat) (a1 : Nat) (M : Mem) : K mi_X11_requireAwake [.ref this, .ref a1] M (f_X11_requireAwake this a1 M) tR := K_of_V ok_X11_requireAwake (Nat.le_of_ble_eq_true rfl) (v_X11_requireAwake this a1 M)
theorem o_X11_requireAwake {this : Nat} {a1 : Nat} {M : Mem} {x} (h : f_X11_requireAwake this a1 M = some x) : isO M 10 this = true := (ob_of h).1
theorem dX11_endCommand_0 : decode cX11_endCommand 0 = .ok (.aload_n 0, 1) := by decide +kernel
theorem dX11_endCommand_1 : decode cX11_endCommand 1 = .ok (.getfield 24, 3) := by decide +kernel
theorem dX11_endCommand_4 : decode cX11_endCommand 4 = .ok (.iload_n 1, 1) := by decide +kernel
theorem dX11_endCommand_5 : decode cX11_endCommand 5 = .ok (.iload_n 2, 1) := by decide +kernel
theorem dX11_endCommand_6 : decode cX11_endCommand 6 = .ok (.aload_n 0, 1) := by decide +kernel
theorem dX11_endCommand_7 : decode cX11_endCommand 7 = .ok (.getfield 49, 3) := by decide +kernel
theorem dX11_endCommand_10 : decode cX11_endCommand 10 = .ok (.invokevirtual 454, 3) := by decide +kernel
theorem dX11_endCommand_13 : decode cX11_endCommand 13 = .ok (.istore_n 3, 1) := by decide +kernel
theorem dX11_endCommand_14 : decode cX11_endCommand 14 = .ok (.aload_n 0, 1) := by decide +kernel
theorem dX11_endCommand_15 : decode cX11_endCommand 15 = .ok (.getfield 24, 3) := by decide +kernel
theorem dX11_endCommand_18 : decode cX11_endCommand 18 = .ok (.aload_n 0, 1) := by decide +kernel
theorem dX11_endCommand_19 : decode cX11_endCommand 19 = .ok (.getfield 49, 3) := by decide +kernel
theorem dX11_endCommand_22 : decode cX11_endCommand 22 = .ok (.invokevirtual 313, 3) := by decide +kernel
theorem dX11_endCommand_25 : decode cX11_endCommand 25 = .ok (.iload_n 3, 1) := by decide +kernel
theorem dX11_endCommand_26 : decode cX11_endCommand 26 = .ok (.ireturn, 1) := by decide +kernel
def mi_X11_endCommand : MI := (RX11, yX11_endCommand, cX11_endCommand, 4, some .int, [], { frames := 7, cells := 0, slots := 0, locals := 153 })
theorem ok_X11_endCommand : mOK mi_X11_endCommand 2 := ⟨rfl, cw_X11_endCommand, ini_X11, ⟨rfl, by decide⟩, by decide, by decide, rfl⟩
theorem v_X11_endCommand (this : Nat) (a1 : Int32) (a2 : Bool) (M : Mem) : V mi_X11_endCommand 0 [(0, .ref this), (1, .int a1), (2, .int (b2i a2))] [] M 0 0 (f_X11_endCommand this a1 a2 M) wI := by
  unfold f_X11_endCommand
  refine V_ob fun _ _ => ?_
  refine V_aload_n dX11_endCommand_0 rfl 0 rfl ?_
  refine V_getR dX11_endCommand_1 rfl (ci := 10) (T := TX11) rfl (by decide) fl_X11_24 (fun x1 => ?_)
  refine V_iload_n dX11_endCommand_4 rfl 1 rfl ?_
  refine V_iload_n dX11_endCommand_5 rfl 2 rfl ?_
  refine V_aload_n dX11_endCommand_6 rfl 0 rfl ?_
  refine V_getR dX11_endCommand_7 rfl (ci := 10) (T := TX11) rfl (by decide) fl_X11_49 (fun x2 => ?_)
  refine V_cVwI (As := [.int a1, .int (b2i a2), .ref x2]) (k_X8_tell x1 a1 a2 x2 M) (fun _ h => o_X8_tell h) ok_X8_tell im_X8_tell se_X8_tell rfl (ci := 7) rfl ml_X11_454 ⟨⟨(Nat.le_of_ble_eq_true rfl), (Nat.le_of_ble_eq_true rfl)⟩, (Nat.le_of_ble_eq_true rfl), (Nat.le_of_ble_eq_true rfl)⟩ dX11_endCommand_10 rfl rfl rfl (Nat.le_of_ble_eq_true rfl) rfl rfl (fun x3 M4 => ?_)
  refine V_istore_n (L' := [(0, .ref this), (1, .int a1), (2, .int (b2i a2)), (3, .int x3)]) dX11_endCommand_13 rfl (by decide) rfl ?_
  refine V_aload_n dX11_endCommand_14 rfl 0 rfl ?_
  refine V_getR dX11_endCommand_15 rfl (ci := 10) (T := TX11) rfl (by decide) fl_X11_24 (fun x5 => ?_)
  refine V_aload_n dX11_endCommand_18 rfl 0 rfl ?_
  refine V_getR dX11_endCommand_19 rfl (ci := 10) (T := TX11) rfl (by decide) fl_X11_49 (fun x6 => ?_)
  refine V_cVwV (As := [.ref x6]) (k_X8_tellIdle x5 x6 M4) (fun _ h => o_X8_tellIdle h) ok_X8_tellIdle im_X8_tellIdle se_X8_tellIdle rfl (ci := 7) rfl ml_X11_313 ⟨⟨(Nat.le_of_ble_eq_true rfl), (Nat.le_of_ble_eq_true rfl)⟩, (Nat.le_of_ble_eq_true rfl), (Nat.le_of_ble_eq_true rfl)⟩ dX11_endCommand_22 rfl rfl rfl (Nat.le_of_ble_eq_true rfl) rfl rfl (fun M8 => ?_)
  refine V_iload_n dX11_endCommand_25 rfl 3 rfl ?_
  exact V_iret dX11_endCommand_26 rfl rfl ⟨(Nat.le_of_ble_eq_true rfl), (Nat.le_of_ble_eq_true rfl)⟩
theorem k_X11_endCommand (this : Nat) (a1 : Int32) (a2 : Bool) (M : Mem) : K mi_X11_endCommand [.ref this, .int a1, .int (b2i a2)] M (f_X11_endCommand this a1 a2 M) wI := K_of_V ok_X11_endCommand (Nat.le_of_ble_eq_true rfl) (v_X11_endCommand this a1 a2 M)
theorem o_X11_endCommand {this : Nat} {a1 : Int32} {a2 : Bool} {M : Mem} {x} (h : f_X11_endCommand this a1 a2 M = some x) : isO M 10 this = true := (ob_of h).1
theorem dX11_noop_0 : decode cX11_noop 0 = .ok (.aload_n 0, 1) := by decide +kernel
theorem dX11_noop_1 : decode cX11_noop 1 = .ok (.iload_n 1, 1) := by decide +kernel
theorem dX11_noop_2 : decode cX11_noop 2 = .ok (.invokevirtual 198, 3) := by decide +kernel
theorem dX11_noop_5 : decode cX11_noop 5 = .ok (.astore_n 2, 1) := by decide +kernel
theorem dX11_noop_6 : decode cX11_noop 6 = .ok (.aload_n 0, 1) := by decide +kernel
theorem dX11_noop_7 : decode cX11_noop 7 = .ok (.aload_n 2, 1) := by decide +kernel
theorem dX11_noop_8 : decode cX11_noop 8 = .ok (.invokevirtual 317, 3) := by decide +kernel
theorem dX11_noop_11 : decode cX11_noop 11 = .ok (.pop, 1) := by decide +kernel
theorem dX11_noop_12 : decode cX11_noop 12 = .ok (.aload_n 0, 1) := by decide +kernel
theorem dX11_noop_13 : decode cX11_noop 13 = .ok (.aload_n 2, 1) := by decide +kernel
theorem dX11_noop_14 : decode cX11_noop 14 = .ok (.invokevirtual 305, 3) := by decide +kernel
theorem dX11_noop_17 : decode cX11_noop 17 = .ok (.aload_n 0, 1) := by decide +kernel
theorem dX11_noop_18 : decode cX11_noop 18 = .ok (.iload_n 1, 1) := by decide +kernel
theorem dX11_noop_19 : decode cX11_noop 19 = .ok (.iconst 1, 1) := by decide +kernel
theorem dX11_noop_20 : decode cX11_noop 20 = .ok (.invokevirtual 320, 3) := by decide +kernel
theorem dX11_noop_23 : decode cX11_noop 23 = .ok (.ireturn, 1) := by decide +kernel
def mi_X11_noop : MI := (RX11, yX11_noop, cX11_noop, 3, some .int, [], { frames := 9, cells := 2, slots := 12, locals := 176 })
theorem ok_X11_noop : mOK mi_X11_noop 1 := ⟨rfl, cw_X11_noop, ini_X11, ⟨rfl, by decide⟩, by decide, by decide, rfl⟩
theorem v_X11_noop (this : Nat) (a1 : Int32) (M : Mem) : V mi_X11_noop 0 [(0, .ref this), (1, .int a1)] [] M 0 0 (f_X11_noop this a1 M) tI := by
  unfold f_X11_noop
  refine V_ob fun _ _ => ?_
  refine V_aload_n dX11_noop_0 rfl 0 rfl ?_
  refine V_iload_n dX11_noop_1 rfl 1 rfl ?_
  refine V_cVtR (As := [.int a1]) (k_X11_requireSession this a1 M) rfl (fun _ _ => rfl) (fun _ h => o_X11_requireSession h) ok_X11_requireSession im_X11_requireSession se_X11_requireSession rfl (ci := 10) rfl ml_X11_198 ⟨⟨(Nat.le_of_ble_eq_true rfl), (Nat.le_of_ble_eq_true rfl)⟩, (Nat.le_of_ble_eq_true rfl), (Nat.le_of_ble_eq_true rfl)⟩ dX11_noop_2 rfl rfl rfl (Nat.le_of_ble_eq_true rfl) rfl rfl (fun x1 M2 => ?_)
  refine V_astore_n (L' := [(0, .ref this), (1, .int a1), (2, .ref x1)]) dX11_noop_5 rfl (by decide) rfl ?_
  refine V_aload_n dX11_noop_6 rfl 0 rfl ?_
  refine V_aload_n dX11_noop_7 rfl 2 rfl ?_
  refine V_cVtR (As := [.ref x1]) (k_X11_requireAwake this x1 M2) rfl (fun _ _ => rfl) (fun _ h => o_X11_requireAwake h) ok_X11_requireAwake im_X11_requireAwake se_X11_requireAwake rfl (ci := 10) rfl ml_X11_317 ⟨⟨(Nat.le_of_ble_eq_true rfl), (Nat.le_of_ble_eq_true rfl)⟩, (Nat.le_of_ble_eq_true rfl), (Nat.le_of_ble_eq_true rfl)⟩ dX11_noop_8 rfl rfl rfl (Nat.le_of_ble_eq_true rfl) rfl rfl (fun x3 M4 => ?_)
  refine V_pop dX11_noop_11 rfl rfl ?_
  refine V_aload_n dX11_noop_12 rfl 0 rfl ?_
  refine V_aload_n dX11_noop_13 rfl 2 rfl ?_
  refine V_cVwV (As := [.ref x1]) (k_X11_beginCommand this x1 M4) (fun _ h => o_X11_beginCommand h) ok_X11_beginCommand im_X11_beginCommand se_X11_beginCommand rfl (ci := 10) rfl ml_X11_305 ⟨⟨(Nat.le_of_ble_eq_true rfl), (Nat.le_of_ble_eq_true rfl)⟩, (Nat.le_of_ble_eq_true rfl), (Nat.le_of_ble_eq_true rfl)⟩ dX11_noop_14 rfl rfl rfl (Nat.le_of_ble_eq_true rfl) rfl rfl (fun M6 => ?_)
  refine V_aload_n dX11_noop_17 rfl 0 rfl ?_
  refine V_iload_n dX11_noop_18 rfl 1 rfl ?_
  refine V_iconst (x := 1) dX11_noop_19 rfl rfl ?_
  refine V_cVwI (As := [.int a1, .int (b2i true)]) (k_X11_endCommand this a1 true M6) (fun _ h => o_X11_endCommand h) ok_X11_endCommand im_X11_endCommand se_X11_endCommand rfl (ci := 10) rfl ml_X11_320 ⟨⟨(Nat.le_of_ble_eq_true rfl), (Nat.le_of_ble_eq_true rfl)⟩, (Nat.le_of_ble_eq_true rfl), (Nat.le_of_ble_eq_true rfl)⟩ dX11_noop_20 rfl rfl rfl (Nat.le_of_ble_eq_true rfl) rfl rfl (fun x7 M8 => ?_)
  exact V_iret dX11_noop_23 rfl rfl ⟨(Nat.le_of_ble_eq_true rfl), (Nat.le_of_ble_eq_true rfl)⟩
theorem k_X11_noop (this : Nat) (a1 : Int32) (M : Mem) : K mi_X11_noop [.ref this, .int a1] M (f_X11_noop this a1 M) tI := K_of_V ok_X11_noop (Nat.le_of_ble_eq_true rfl) (v_X11_noop this a1 M)
theorem o_X11_noop {this : Nat} {a1 : Int32} {M : Mem} {x} (h : f_X11_noop this a1 M = some x) : isO M 10 this = true := (ob_of h).1
theorem dX11_startIdle_0 : decode cX11_startIdle 0 = .ok (.aload_n 0, 1) := by decide +kernel
theorem dX11_startIdle_1 : decode cX11_startIdle 1 = .ok (.iload_n 1, 1) := by decide +kernel
theorem dX11_startIdle_2 : decode cX11_startIdle 2 = .ok (.invokevirtual 198, 3) := by decide +kernel
theorem dX11_startIdle_5 : decode cX11_startIdle 5 = .ok (.astore_n 2, 1) := by decide +kernel
theorem dX11_startIdle_6 : decode cX11_startIdle 6 = .ok (.aload_n 0, 1) := by decide +kernel
theorem dX11_startIdle_7 : decode cX11_startIdle 7 = .ok (.aload_n 2, 1) := by decide +kernel
theorem dX11_startIdle_8 : decode cX11_startIdle 8 = .ok (.invokevirtual 317, 3) := by decide +kernel
theorem dX11_startIdle_11 : decode cX11_startIdle 11 = .ok (.pop, 1) := by decide +kernel
theorem dX11_startIdle_12 : decode cX11_startIdle 12 = .ok (.aload_n 0, 1) := by decide +kernel
theorem dX11_startIdle_13 : decode cX11_startIdle 13 = .ok (.aload_n 2, 1) := by decide +kernel
theorem dX11_startIdle_14 : decode cX11_startIdle 14 = .ok (.invokevirtual 305, 3) := by decide +kernel
theorem dX11_startIdle_17 : decode cX11_startIdle 17 = .ok (.aload_n 2, 1) := by decide +kernel
theorem dX11_startIdle_18 : decode cX11_startIdle 18 = .ok (.iconst 1, 1) := by decide +kernel
theorem dX11_startIdle_19 : decode cX11_startIdle 19 = .ok (.putfield 215, 3) := by decide +kernel
theorem dX11_startIdle_22 : decode cX11_startIdle 22 = .ok (.aload_n 0, 1) := by decide +kernel
theorem dX11_startIdle_23 : decode cX11_startIdle 23 = .ok (.iload_n 1, 1) := by decide +kernel
theorem dX11_startIdle_24 : decode cX11_startIdle 24 = .ok (.iconst 1, 1) := by decide +kernel
theorem dX11_startIdle_25 : decode cX11_startIdle 25 = .ok (.invokevirtual 320, 3) := by decide +kernel
theorem dX11_startIdle_28 : decode cX11_startIdle 28 = .ok (.ireturn, 1) := by decide +kernel
def mi_X11_startIdle : MI := (RX11, yX11_startIdle, cX11_startIdle, 3, some .int, [], { frames := 9, cells := 2, slots := 12, locals := 176 })
theorem ok_X11_startIdle : mOK mi_X11_startIdle 1 := ⟨rfl, cw_X11_startIdle, ini_X11, ⟨rfl, by decide⟩, by decide, by decide, rfl⟩
theorem v_X11_startIdle (this : Nat) (a1 : Int32) (M : Mem) : V mi_X11_startIdle 0 [(0, .ref this), (1, .int a1)] [] M 0 0 (f_X11_startIdle this a1 M) tI := by
  unfold f_X11_startIdle
  refine V_ob fun _ _ => ?_
  refine V_aload_n dX11_startIdle_0 rfl 0 rfl ?_
  refine V_iload_n dX11_startIdle_1 rfl 1 rfl ?_
  refine V_cVtR (As := [.int a1]) (k_X11_requireSession this a1 M) rfl (fun _ _ => rfl) (fun _ h => o_X11_requireSession h) ok_X11_requireSession im_X11_requireSession se_X11_requireSession rfl (ci := 10) rfl ml_X11_198 ⟨⟨(Nat.le_of_ble_eq_true rfl), (Nat.le_of_ble_eq_true rfl)⟩, (Nat.le_of_ble_eq_true rfl), (Nat.le_of_ble_eq_true rfl)⟩ dX11_startIdle_2 rfl rfl rfl (Nat.le_of_ble_eq_true rfl) rfl rfl (fun x1 M2 => ?_)
  refine V_astore_n (L' := [(0, .ref this), (1, .int a1), (2, .ref x1)]) dX11_startIdle_5 rfl (by decide) rfl ?_
  refine V_aload_n dX11_startIdle_6 rfl 0 rfl ?_
  refine V_aload_n dX11_startIdle_7 rfl 2 rfl ?_
  refine V_cVtR (As := [.ref x1]) (k_X11_requireAwake this x1 M2) rfl (fun _ _ => rfl) (fun _ h => o_X11_requireAwake h) ok_X11_requireAwake im_X11_requireAwake se_X11_requireAwake rfl (ci := 10) rfl ml_X11_317 ⟨⟨(Nat.le_of_ble_eq_true rfl), (Nat.le_of_ble_eq_true rfl)⟩, (Nat.le_of_ble_eq_true rfl), (Nat.le_of_ble_eq_true rfl)⟩ dX11_startIdle_8 rfl rfl rfl (Nat.le_of_ble_eq_true rfl) rfl rfl (fun x3 M4 => ?_)
  refine V_pop dX11_startIdle_11 rfl rfl ?_
  refine V_aload_n dX11_startIdle_12 rfl 0 rfl ?_
  refine V_aload_n dX11_startIdle_13 rfl 2 rfl ?_
  refine V_cVwV (As := [.ref x1]) (k_X11_beginCommand this x1 M4) (fun _ h => o_X11_beginCommand h) ok_X11_beginCommand im_X11_beginCommand se_X11_beginCommand rfl (ci := 10) rfl ml_X11_305 ⟨⟨(Nat.le_of_ble_eq_true rfl), (Nat.le_of_ble_eq_true rfl)⟩, (Nat.le_of_ble_eq_true rfl), (Nat.le_of_ble_eq_true rfl)⟩ dX11_startIdle_14 rfl rfl rfl (Nat.le_of_ble_eq_true rfl) rfl rfl (fun M6 => ?_)
  refine V_aload_n dX11_startIdle_17 rfl 2 rfl ?_
  refine V_iconst (x := 1) dX11_startIdle_18 rfl rfl ?_
  refine V_putZ (v := true) dX11_startIdle_19 rfl (ci := 6) (T := TX7) rfl (by decide) fl_X11_215 rfl rfl (fun M7 => ?_)
  refine V_aload_n dX11_startIdle_22 rfl 0 rfl ?_
  refine V_iload_n dX11_startIdle_23 rfl 1 rfl ?_
  refine V_iconst (x := 1) dX11_startIdle_24 rfl rfl ?_
  refine V_cVwI (As := [.int a1, .int (b2i true)]) (k_X11_endCommand this a1 true M7) (fun _ h => o_X11_endCommand h) ok_X11_endCommand im_X11_endCommand se_X11_endCommand rfl (ci := 10) rfl ml_X11_320 ⟨⟨(Nat.le_of_ble_eq_true rfl), (Nat.le_of_ble_eq_true rfl)⟩, (Nat.le_of_ble_eq_true rfl), (Nat.le_of_ble_eq_true rfl)⟩ dX11_startIdle_25 rfl rfl rfl (Nat.le_of_ble_eq_true rfl) rfl rfl (fun x8 M9 => ?_)
  exact V_iret dX11_startIdle_28 rfl rfl ⟨(Nat.le_of_ble_eq_true rfl), (Nat.le_of_ble_eq_true rfl)⟩
theorem k_X11_startIdle (this : Nat) (a1 : Int32) (M : Mem) : K mi_X11_startIdle [.ref this, .int a1] M (f_X11_startIdle this a1 M) tI := K_of_V ok_X11_startIdle (Nat.le_of_ble_eq_true rfl) (v_X11_startIdle this a1 M)
theorem o_X11_startIdle {this : Nat} {a1 : Int32} {M : Mem} {x} (h : f_X11_startIdle this a1 M = some x) : isO M 10 this = true := (ob_of h).1
theorem dX11_stopIdle_0 : decode cX11_stopIdle 0 = .ok (.aload_n 0, 1) := by decide +kernel
theorem dX11_stopIdle_1 : decode cX11_stopIdle 1 = .ok (.iload_n 1, 1) := by decide +kernel
theorem dX11_stopIdle_2 : decode cX11_stopIdle 2 = .ok (.invokevirtual 198, 3) := by decide +kernel
theorem dX11_stopIdle_5 : decode cX11_stopIdle 5 = .ok (.astore_n 2, 1) := by decide +kernel
theorem dX11_stopIdle_6 : decode cX11_stopIdle 6 = .ok (.aload_n 2, 1) := by decide +kernel
theorem dX11_stopIdle_7 : decode cX11_stopIdle 7 = .ok (.getfield 215, 3) := by decide +kernel
theorem dX11_stopIdle_10 : decode cX11_stopIdle 10 = .ok (.ifCond .ne 14, 3) := by decide +kernel
theorem dX11_stopIdle_13 : decode cX11_stopIdle 13 = .ok (.new 89, 3) := by decide +kernel
theorem dX11_stopIdle_16 : decode cX11_stopIdle 16 = .ok (.dup, 1) := by decide +kernel
theorem dX11_stopIdle_17 : decode cX11_stopIdle 17 = .ok (.ldc_w 324, 3) := by decide +kernel
theorem dX11_stopIdle_20 : decode cX11_stopIdle 20 = .ok (.invokespecial 93, 3) := by decide +kernel
theorem dX11_stopIdle_23 : decode cX11_stopIdle 23 = .ok (.athrow, 1) := by decide +kernel
theorem dX11_stopIdle_24 : decode cX11_stopIdle 24 = .ok (.aload_n 0, 1) := by decide +kernel
theorem dX11_stopIdle_25 : decode cX11_stopIdle 25 = .ok (.aload_n 2, 1) := by decide +kernel
theorem dX11_stopIdle_26 : decode cX11_stopIdle 26 = .ok (.invokevirtual 305, 3) := by decide +kernel
theorem dX11_stopIdle_29 : decode cX11_stopIdle 29 = .ok (.aload_n 2, 1) := by decide +kernel
theorem dX11_stopIdle_30 : decode cX11_stopIdle 30 = .ok (.iconst 0, 1) := by decide +kernel
theorem dX11_stopIdle_31 : decode cX11_stopIdle 31 = .ok (.putfield 215, 3) := by decide +kernel
theorem dX11_stopIdle_34 : decode cX11_stopIdle 34 = .ok (.aload_n 0, 1) := by decide +kernel
theorem dX11_stopIdle_35 : decode cX11_stopIdle 35 = .ok (.iload_n 1, 1) := by decide +kernel
theorem dX11_stopIdle_36 : decode cX11_stopIdle 36 = .ok (.iconst 1, 1) := by decide +kernel
theorem dX11_stopIdle_37 : decode cX11_stopIdle 37 = .ok (.invokevirtual 320, 3) := by decide +kernel
theorem dX11_stopIdle_40 : decode cX11_stopIdle 40 = .ok (.ireturn, 1) := by decide +kernel
def mi_X11_stopIdle : MI := (RX11, yX11_stopIdle, cX11_stopIdle, 3, some .int, [], { frames := 9, cells := 2, slots := 12, locals := 176 })
theorem ok_X11_stopIdle : mOK mi_X11_stopIdle 1 := ⟨rfl, cw_X11_stopIdle, ini_X11, ⟨rfl, by decide⟩, by decide, by decide, rfl⟩
theorem v_X11_stopIdle (this : Nat) (a1 : Int32) (M : Mem) : V mi_X11_stopIdle 0 [(0, .ref this), (1, .int a1)] [] M 0 0 (f_X11_stopIdle this a1 M) tI := by
  unfold f_X11_stopIdle
  refine V_ob fun _ _ => ?_
  refine V_aload_n dX11_stopIdle_0 rfl 0 rfl ?_
  refine V_iload_n dX11_stopIdle_1 rfl 1 rfl ?_
  refine V_cVtR (As := [.int a1]) (k_X11_requireSession this a1 M) rfl (fun _ _ => rfl) (fun _ h => o_X11_requireSession h) ok_X11_requireSession im_X11_requireSession se_X11_requireSession rfl (ci := 10) rfl ml_X11_198 ⟨⟨(Nat.le_of_ble_eq_true rfl), (Nat.le_of_ble_eq_true rfl)⟩, (Nat.le_of_ble_eq_true rfl), (Nat.le_of_ble_eq_true rfl)⟩ dX11_stopIdle_2 rfl rfl rfl (Nat.le_of_ble_eq_true rfl) rfl rfl (fun x1 M2 => ?_)
  refine V_astore_n (L' := [(0, .ref this), (1, .int a1), (2, .ref x1)]) dX11_stopIdle_5 rfl (by decide) rfl ?_
  refine V_aload_n dX11_stopIdle_6 rfl 2 rfl ?_
  refine V_getZ dX11_stopIdle_7 rfl (ci := 6) (T := TX7) rfl (by decide) fl_X11_215 (fun x3 => ?_)
  refine V_ifz_ne (q := 24) (q2 := 13) dX11_stopIdle_10 (by decide) rfl ?_ ?_
  · refine V_aload_n dX11_stopIdle_24 rfl 0 rfl ?_
    refine V_aload_n dX11_stopIdle_25 rfl 2 rfl ?_
    refine V_cVwV (As := [.ref x1]) (k_X11_beginCommand this x1 M2) (fun _ h => o_X11_beginCommand h) ok_X11_beginCommand im_X11_beginCommand se_X11_beginCommand rfl (ci := 10) rfl ml_X11_305 ⟨⟨(Nat.le_of_ble_eq_true rfl), (Nat.le_of_ble_eq_true rfl)⟩, (Nat.le_of_ble_eq_true rfl), (Nat.le_of_ble_eq_true rfl)⟩ dX11_stopIdle_26 rfl rfl rfl (Nat.le_of_ble_eq_true rfl) rfl rfl (fun M5 => ?_)
    refine V_aload_n dX11_stopIdle_29 rfl 2 rfl ?_
    refine V_iconst (x := 0) dX11_stopIdle_30 rfl rfl ?_
    refine V_putZ (v := false) dX11_stopIdle_31 rfl (ci := 6) (T := TX7) rfl (by decide) fl_X11_215 rfl rfl (fun M6 => ?_)
    refine V_aload_n dX11_stopIdle_34 rfl 0 rfl ?_
    refine V_iload_n dX11_stopIdle_35 rfl 1 rfl ?_
    refine V_iconst (x := 1) dX11_stopIdle_36 rfl rfl ?_
    refine V_cVwI (As := [.int a1, .int (b2i true)]) (k_X11_endCommand this a1 true M6) (fun _ h => o_X11_endCommand h) ok_X11_endCommand im_X11_endCommand se_X11_endCommand rfl (ci := 10) rfl ml_X11_320 ⟨⟨(Nat.le_of_ble_eq_true rfl), (Nat.le_of_ble_eq_true rfl)⟩, (Nat.le_of_ble_eq_true rfl), (Nat.le_of_ble_eq_true rfl)⟩ dX11_stopIdle_37 rfl rfl rfl (Nat.le_of_ble_eq_true rfl) rfl rfl (fun x7 M8 => ?_)
    exact V_iret dX11_stopIdle_40 rfl rfl ⟨(Nat.le_of_ble_eq_true rfl), (Nat.le_of_ble_eq_true rfl)⟩
  · exact V_throwW th_X11_89_93 sr_X11_324 rfl dX11_stopIdle_13 dX11_stopIdle_16 dX11_stopIdle_17 dX11_stopIdle_20 dX11_stopIdle_23 ⟨(Nat.le_of_ble_eq_true rfl), (Nat.le_of_ble_eq_true rfl)⟩ ⟨(Nat.le_of_ble_eq_true rfl), (Nat.le_of_ble_eq_true rfl)⟩ rfl
theorem k_X11_stopIdle (this : Nat) (a1 : Int32) (M : Mem) : K mi_X11_stopIdle [.ref this, .int a1] M (f_X11_stopIdle this a1 M) tI := K_of_V ok_X11_stopIdle (Nat.le_of_ble_eq_true rfl) (v_X11_stopIdle this a1 M)
theorem o_X11_stopIdle {this : Nat} {a1 : Int32} {M : Mem} {x} (h : f_X11_stopIdle this a1 M = some x) : isO M 10 this = true := (ob_of h).1
theorem dX11_requireOrder_0 : decode cX11_requireOrder 0 = .ok (.iload_n 1, 1) := by decide +kernel
theorem dX11_requireOrder_1 : decode cX11_requireOrder 1 = .ok (.iload_n 0, 1) := by decide +kernel
theorem dX11_requireOrder_2 : decode cX11_requireOrder 2 = .ok (.if_icmp .ge 14, 3) := by decide +kernel
theorem dX11_requireOrder_5 : decode cX11_requireOrder 5 = .ok (.new 99, 3) := by decide +kernel
theorem dX11_requireOrder_8 : decode cX11_requireOrder 8 = .ok (.dup, 1) := by decide +kernel
theorem dX11_requireOrder_9 : decode cX11_requireOrder 9 = .ok (.ldc_w 433, 3) := by decide +kernel
theorem dX11_requireOrder_12 : decode cX11_requireOrder 12 = .ok (.invokespecial 103, 3) := by decide +kernel
theorem dX11_requireOrder_15 : decode cX11_requireOrder 15 = .ok (.athrow, 1) := by decide +kernel
theorem dX11_requireOrder_16 : decode cX11_requireOrder 16 = .ok (.return_, 1) := by decide +kernel
def mi_X11_requireOrder : MI := (RX11, yX11_requireOrder, cX11_requireOrder, 2, none, [], { frames := 8, cells := 1, slots := 6, locals := 120 })
theorem ok_X11_requireOrder : mOK mi_X11_requireOrder 2 := ⟨rfl, cw_X11_requireOrder, ini_X11, ⟨rfl, by decide⟩, by decide, by decide, rfl⟩
theorem v_X11_requireOrder (a0 : Int32) (a1 : Int32) (M : Mem) : V mi_X11_requireOrder 0 [(0, .int a0), (1, .int a1)] [] M 0 0 (f_X11_requireOrder a0 a1 M) tV := by
  unfold f_X11_requireOrder
  refine V_iload_n dX11_requireOrder_0 rfl 1 rfl ?_
  refine V_iload_n dX11_requireOrder_1 rfl 0 rfl ?_
  refine V_icmp_ge (q := 16) (q2 := 5) dX11_requireOrder_2 (by decide) rfl ?_ ?_
  · exact V_vret dX11_requireOrder_16 rfl rfl ⟨(Nat.le_of_ble_eq_true rfl), (Nat.le_of_ble_eq_true rfl)⟩
  · exact V_throwW th_X11_99_103 sr_X11_433 rfl dX11_requireOrder_5 dX11_requireOrder_8 dX11_requireOrder_9 dX11_requireOrder_12 dX11_requireOrder_15 ⟨(Nat.le_of_ble_eq_true rfl), (Nat.le_of_ble_eq_true rfl)⟩ ⟨(Nat.le_of_ble_eq_true rfl), (Nat.le_of_ble_eq_true rfl)⟩ rfl
theorem k_X11_requireOrder (a0 : Int32) (a1 : Int32) (M : Mem) : K mi_X11_requireOrder [.int a0, .int a1] M (f_X11_requireOrder a0 a1 M) tV := K_of_V ok_X11_requireOrder (Nat.le_of_ble_eq_true rfl) (v_X11_requireOrder a0 a1 M)
theorem dX11_fetch_0 : decode cX11_fetch 0 = .ok (.aload_n 0, 1) := by decide +kernel
theorem dX11_fetch_1 : decode cX11_fetch 1 = .ok (.iload_n 1, 1) := by decide +kernel
theorem dX11_fetch_2 : decode cX11_fetch 2 = .ok (.invokevirtual 198, 3) := by decide +kernel
theorem dX11_fetch_5 : decode cX11_fetch 5 = .ok (.astore 5, 2) := by decide +kernel
theorem dX11_fetch_7 : decode cX11_fetch 7 = .ok (.aload 5, 2) := by decide +kernel
theorem dX11_fetch_9 : decode cX11_fetch 9 = .ok (.iload_n 2, 1) := by decide +kernel
theorem dX11_fetch_10 : decode cX11_fetch 10 = .ok (.invokestatic 231, 3) := by decide +kernel
theorem dX11_fetch_13 : decode cX11_fetch 13 = .ok (.aload 5, 2) := by decide +kernel
theorem dX11_fetch_15 : decode cX11_fetch 15 = .ok (.iload_n 3, 1) := by decide +kernel
theorem dX11_fetch_16 : decode cX11_fetch 16 = .ok (.invokestatic 231, 3) := by decide +kernel
theorem dX11_fetch_19 : decode cX11_fetch 19 = .ok (.iload_n 2, 1) := by decide +kernel
theorem dX11_fetch_20 : decode cX11_fetch 20 = .ok (.iload_n 3, 1) := by decide +kernel
theorem dX11_fetch_21 : decode cX11_fetch 21 = .ok (.invokestatic 326, 3) := by decide +kernel
theorem dX11_fetch_24 : decode cX11_fetch 24 = .ok (.aload_n 0, 1) := by decide +kernel
theorem dX11_fetch_25 : decode cX11_fetch 25 = .ok (.aload 5, 2) := by decide +kernel
theorem dX11_fetch_27 : decode cX11_fetch 27 = .ok (.invokevirtual 317, 3) := by decide +kernel
theorem dX11_fetch_30 : decode cX11_fetch 30 = .ok (.astore 6, 2) := by decide +kernel
theorem dX11_fetch_32 : decode cX11_fetch 32 = .ok (.aload_n 0, 1) := by decide +kernel
theorem dX11_fetch_33 : decode cX11_fetch 33 = .ok (.aload 5, 2) := by decide +kernel
theorem dX11_fetch_35 : decode cX11_fetch 35 = .ok (.invokevirtual 305, 3) := by decide +kernel
theorem dX11_fetch_38 : decode cX11_fetch 38 = .ok (.iconst 0, 1) := by decide +kernel
theorem dX11_fetch_39 : decode cX11_fetch 39 = .ok (.istore 7, 2) := by decide +kernel
theorem dX11_fetch_41 : decode cX11_fetch 41 = .ok (.iload_n 2, 1) := by decide +kernel
theorem dX11_fetch_42 : decode cX11_fetch 42 = .ok (.istore 8, 2) := by decide +kernel
theorem dX11_fetch_44 : decode cX11_fetch 44 = .ok (.iload 8, 2) := by decide +kernel
theorem dX11_fetch_46 : decode cX11_fetch 46 = .ok (.iload_n 3, 1) := by decide +kernel
theorem dX11_fetch_47 : decode cX11_fetch 47 = .ok (.if_icmp .gt 68, 3) := by decide +kernel
theorem dX11_fetch_50 : decode cX11_fetch 50 = .ok (.iload 8, 2) := by decide +kernel
theorem dX11_fetch_52 : decode cX11_fetch 52 = .ok (.bipush 60, 2) := by decide +kernel
theorem dX11_fetch_54 : decode cX11_fetch 54 = .ok (.if_icmp .gt 61, 3) := by decide +kernel
theorem dX11_fetch_57 : decode cX11_fetch 57 = .ok (.aload 6, 2) := by decide +kernel
theorem dX11_fetch_59 : decode cX11_fetch 59 = .ok (.aload 5, 2) := by decide +kernel
theorem dX11_fetch_61 : decode cX11_fetch 61 = .ok (.iload 8, 2) := by decide +kernel
theorem dX11_fetch_63 : decode cX11_fetch 63 = .ok (.invokevirtual 235, 3) := by decide +kernel
theorem dX11_fetch_66 : decode cX11_fetch 66 = .ok (.invokevirtual 195, 3) := by decide +kernel
theorem dX11_fetch_69 : decode cX11_fetch 69 = .ok (.istore 9, 2) := by decide +kernel
theorem dX11_fetch_71 : decode cX11_fetch 71 = .ok (.iload 7, 2) := by decide +kernel
theorem dX11_fetch_73 : decode cX11_fetch 73 = .ok (.aload 6, 2) := by decide +kernel
theorem dX11_fetch_75 : decode cX11_fetch 75 = .ok (.getfield 187, 3) := by decide +kernel
theorem dX11_fetch_78 : decode cX11_fetch 78 = .ok (.iload 9, 2) := by decide +kernel
theorem dX11_fetch_80 : decode cX11_fetch 80 = .ok (.invokevirtual 182, 3) := by decide +kernel
theorem dX11_fetch_83 : decode cX11_fetch 83 = .ok (.iadd, 1) := by decide +kernel
theorem dX11_fetch_84 : decode cX11_fetch 84 = .ok (.istore 7, 2) := by decide +kernel
theorem dX11_fetch_86 : decode cX11_fetch 86 = .ok (.iload 4, 2) := by decide +kernel
theorem dX11_fetch_88 : decode cX11_fetch 88 = .ok (.ifCond .ne 21, 3) := by decide +kernel
theorem dX11_fetch_91 : decode cX11_fetch 91 = .ok (.aload 5, 2) := by decide +kernel
theorem dX11_fetch_93 : decode cX11_fetch 93 = .ok (.getfield 211, 3) := by decide +kernel
theorem dX11_fetch_96 : decode cX11_fetch 96 = .ok (.ifCond .ne 13, 3) := by decide +kernel
theorem dX11_fetch_99 : decode cX11_fetch 99 = .ok (.aload 6, 2) := by decide +kernel
theorem dX11_fetch_101 : decode cX11_fetch 101 = .ok (.iload 9, 2) := by decide +kernel
theorem dX11_fetch_103 : decode cX11_fetch 103 = .ok (.iconst 1, 1) := by decide +kernel
theorem dX11_fetch_104 : decode cX11_fetch 104 = .ok (.iconst 1, 1) := by decide +kernel
theorem dX11_fetch_105 : decode cX11_fetch 105 = .ok (.invokevirtual 330, 3) := by decide +kernel
theorem dX11_fetch_108 : decode cX11_fetch 108 = .ok (.pop, 1) := by decide +kernel
theorem dX11_fetch_109 : decode cX11_fetch 109 = .ok (.iinc 8 1, 3) := by decide +kernel
theorem dX11_fetch_112 : decode cX11_fetch 112 = .ok (.goto (-68), 3) := by decide +kernel
theorem dX11_fetch_115 : decode cX11_fetch 115 = .ok (.aload 5, 2) := by decide +kernel
theorem dX11_fetch_117 : decode cX11_fetch 117 = .ok (.getfield 280, 3) := by decide +kernel
theorem dX11_fetch_120 : decode cX11_fetch 120 = .ok (.iconst 4, 1) := by decide +kernel
theorem dX11_fetch_121 : decode cX11_fetch 121 = .ok (.iload 7, 2) := by decide +kernel
theorem dX11_fetch_123 : decode cX11_fetch 123 = .ok (.invokevirtual 334, 3) := by decide +kernel
theorem dX11_fetch_126 : decode cX11_fetch 126 = .ok (.aload_n 0, 1) := by decide +kernel
theorem dX11_fetch_127 : decode cX11_fetch 127 = .ok (.iload_n 1, 1) := by decide +kernel
theorem dX11_fetch_128 : decode cX11_fetch 128 = .ok (.iconst 0, 1) := by decide +kernel
theorem dX11_fetch_129 : decode cX11_fetch 129 = .ok (.invokevirtual 320, 3) := by decide +kernel
theorem dX11_fetch_132 : decode cX11_fetch 132 = .ok (.pop, 1) := by decide +kernel
theorem dX11_fetch_133 : decode cX11_fetch 133 = .ok (.iload 7, 2) := by decide +kernel
theorem dX11_fetch_135 : decode cX11_fetch 135 = .ok (.ireturn, 1) := by decide +kernel
def mi_X11_fetch : MI := (RX11, yX11_fetch, cX11_fetch, 10, some .int, [], { frames := 9, cells := 5, slots := 30, locals := 176 })
theorem ok_X11_fetch : mOK mi_X11_fetch 4 := ⟨rfl, cw_X11_fetch, ini_X11, ⟨rfl, by decide⟩, by decide, by decide, rfl⟩
theorem v_X11_fetch_115 (this : Nat) (l1 : Int32) (l5 : Nat) (l7 : Int32) (M : Mem) : V mi_X11_fetch 115 [(0, .ref this), (1, .int l1), (5, .ref l5), (7, .int l7)] [] M 5 30 (f_X11_fetch_115 this l1 l5 l7 M) tI := by
  unfold f_X11_fetch_115
  refine V_aload dX11_fetch_115 rfl 2 rfl ?_
  refine V_getR dX11_fetch_117 rfl (ci := 6) (T := TX7) rfl (by decide) fl_X11_280 (fun x13 => ?_)
  refine V_iconst (x := 4) dX11_fetch_120 rfl rfl ?_
  refine V_iload dX11_fetch_121 rfl 3 rfl ?_
  refine V_cVwV (As := [.int 4, .int l7]) (k_X5_increase x13 4 l7 M) (fun _ h => o_X5_increase h) ok_X5_increase im_X5_increase se_X5_increase rfl (ci := 4) rfl ml_X11_334 ⟨⟨(Nat.le_of_ble_eq_true rfl), (Nat.le_of_ble_eq_true rfl)⟩, (Nat.le_of_ble_eq_true rfl), (Nat.le_of_ble_eq_true rfl)⟩ dX11_fetch_123 rfl rfl rfl (Nat.le_of_ble_eq_true rfl) rfl rfl (fun M15 => ?_)
  refine V_aload_n dX11_fetch_126 rfl 0 rfl ?_
  refine V_iload_n dX11_fetch_127 rfl 1 rfl ?_
  refine V_iconst (x := 0) dX11_fetch_128 rfl rfl ?_
  refine V_cVwI (As := [.int l1, .int (b2i false)]) (k_X11_endCommand this l1 false M15) (fun _ h => o_X11_endCommand h) ok_X11_endCommand im_X11_endCommand se_X11_endCommand rfl (ci := 10) rfl ml_X11_320 ⟨⟨(Nat.le_of_ble_eq_true rfl), (Nat.le_of_ble_eq_true rfl)⟩, (Nat.le_of_ble_eq_true rfl), (Nat.le_of_ble_eq_true rfl)⟩ dX11_fetch_129 rfl rfl rfl (Nat.le_of_ble_eq_true rfl) rfl rfl (fun x16 M17 => ?_)
  refine V_pop dX11_fetch_132 rfl rfl ?_
  refine V_iload dX11_fetch_133 rfl 3 rfl ?_
  exact V_iret dX11_fetch_135 rfl rfl ⟨(Nat.le_of_ble_eq_true rfl), (Nat.le_of_ble_eq_true rfl)⟩
theorem v_X11_fetch_109 (rc44 : Nat → Int32 → Int32 → Bool → Nat → Nat → Int32 → Int32 → Mem → Option ((Int32 ⊕ String) × Mem)) (h44 : ∀ (l0 : Nat) (l1 : Int32) (l3 : Int32) (l4 : Bool) (l5 : Nat) (l6 : Nat) (l7 : Int32) (l8 : Int32) (M : Mem), V mi_X11_fetch 44 [(0, .ref l0), (1, .int l1), (3, .int l3), (4, .int (b2i l4)), (5, .ref l5), (6, .ref l6), (7, .int l7), (8, .int l8)] [] M 5 30 (rc44 l0 l1 l3 l4 l5 l6 l7 l8 M) tI) (this : Nat) (l1 : Int32) (l3 : Int32) (l4 : Bool) (l5 : Nat) (l6 : Nat) (l7 : Int32) (l8 : Int32) (M : Mem) : V mi_X11_fetch 109 [(0, .ref this), (1, .int l1), (3, .int l3), (4, .int (b2i l4)), (5, .ref l5), (6, .ref l6), (7, .int l7), (8, .int l8)] [] M 5 30 (f_X11_fetch_109 rc44 this l1 l3 l4 l5 l6 l7 l8 M) tI := by
  unfold f_X11_fetch_109
  refine V_iinc (y := (l8 + 1)) (L' := [(0, .ref this), (1, .int l1), (3, .int l3), (4, .int (b2i l4)), (5, .ref l5), (6, .ref l6), (7, .int l7), (8, .int (l8 + 1))]) dX11_fetch_109 rfl 7 rfl rfl (by decide) rfl ?_
  refine V_goto (q := 44) dX11_fetch_112 (by decide) ?_
  exact h44 this l1 l3 l4 l5 l6 l7 (l8 + 1) M
theorem v_X11_fetch_44 : ∀ (fu : Nat) (this : Nat) (l1 : Int32) (l3 : Int32) (l4 : Bool) (l5 : Nat) (l6 : Nat) (l7 : Int32) (l8 : Int32) (M : Mem), V mi_X11_fetch 44 [(0, .ref this), (1, .int l1), (3, .int l3), (4, .int (b2i l4)), (5, .ref l5), (6, .ref l6), (7, .int l7), (8, .int l8)] [] M 5 30 (f_X11_fetch_44 fu this l1 l3 l4 l5 l6 l7 l8 M) tI := by
  intro fu
  induction fu with
  | zero => intros; exact V_none
  | succ fu ih =>
    intro this l1 l3 l4 l5 l6 l7 l8 M
    show V mi_X11_fetch 44 [(0, .ref this), (1, .int l1), (3, .int l3), (4, .int (b2i l4)), (5, .ref l5), (6, .ref l6), (7, .int l7), (8, .int l8)] [] M 5 30 (f_X11_fetch_44 (fu + 1) this l1 l3 l4 l5 l6 l7 l8 M) tI
    unfold f_X11_fetch_44
    refine V_iload dX11_fetch_44 rfl 7 rfl ?_
    refine V_iload_n dX11_fetch_46 rfl 2 rfl ?_
    refine V_icmp_gt (q := 115) (q2 := 50) dX11_fetch_47 (by decide) rfl ?_ ?_
    · exact V_sub [0, 1, 4, 6] rfl (v_X11_fetch_115 this l1 l5 l7 M)
    · refine V_iload dX11_fetch_50 rfl 7 rfl ?_
      refine V_bipush (x := 60) dX11_fetch_52 rfl rfl ?_
      refine V_icmp_gt (q := 115) (q2 := 57) dX11_fetch_54 (by decide) rfl ?_ ?_
      · exact V_sub [0, 1, 4, 6] rfl (v_X11_fetch_115 this l1 l5 l7 M)
      · refine V_aload dX11_fetch_57 rfl 5 rfl ?_
        refine V_aload dX11_fetch_59 rfl 4 rfl ?_
        refine V_iload dX11_fetch_61 rfl 7 rfl ?_
        refine V_cVeI (As := [.int l8]) (k_X7_uidOf l5 l8 M) (fun _ h => o_X7_uidOf h) ok_X7_uidOf im_X7_uidOf se_X7_uidOf rfl (ci := 6) rfl ml_X11_235 ⟨⟨(Nat.le_of_ble_eq_true rfl), (Nat.le_of_ble_eq_true rfl)⟩, (Nat.le_of_ble_eq_true rfl), (Nat.le_of_ble_eq_true rfl)⟩ dX11_fetch_63 rfl rfl rfl (Nat.le_of_ble_eq_true rfl) rfl rfl (fun x18 => ?_)
        refine V_cVeI (As := [.int x18]) (k_X0_indexOfUid l6 x18 M) (fun _ h => o_X0_indexOfUid h) ok_X0_indexOfUid im_X0_indexOfUid se_X0_indexOfUid rfl (ci := 0) rfl ml_X11_195 ⟨⟨(Nat.le_of_ble_eq_true rfl), (Nat.le_of_ble_eq_true rfl)⟩, (Nat.le_of_ble_eq_true rfl), (Nat.le_of_ble_eq_true rfl)⟩ dX11_fetch_66 rfl rfl rfl (Nat.le_of_ble_eq_true rfl) rfl rfl (fun x19 => ?_)
        refine V_istore (L' := [(0, .ref this), (1, .int l1), (3, .int l3), (4, .int (b2i l4)), (5, .ref l5), (6, .ref l6), (7, .int l7), (8, .int l8), (9, .int x19)]) dX11_fetch_69 rfl (by decide) rfl ?_
        refine V_iload dX11_fetch_71 rfl 6 rfl ?_
        refine V_aload dX11_fetch_73 rfl 5 rfl ?_
        refine V_getR dX11_fetch_75 rfl (ci := 0) (T := TX0) rfl (by decide) fl_X11_187 (fun x20 => ?_)
        refine V_iload dX11_fetch_78 rfl 8 rfl ?_
        refine V_cVeI (As := [.int x19]) (k_X5_get x20 x19 M) (fun _ h => o_X5_get h) ok_X5_get im_X5_get se_X5_get rfl (ci := 4) rfl ml_X11_182 ⟨⟨(Nat.le_of_ble_eq_true rfl), (Nat.le_of_ble_eq_true rfl)⟩, (Nat.le_of_ble_eq_true rfl), (Nat.le_of_ble_eq_true rfl)⟩ dX11_fetch_80 rfl rfl rfl (Nat.le_of_ble_eq_true rfl) rfl rfl (fun x21 => ?_)
        refine V_iadd dX11_fetch_83 rfl ?_
        refine V_istore (L' := [(0, .ref this), (1, .int l1), (3, .int l3), (4, .int (b2i l4)), (5, .ref l5), (6, .ref l6), (7, .int (l7 + x21)), (8, .int l8), (9, .int x19)]) dX11_fetch_84 rfl (by decide) rfl ?_
        refine V_iload dX11_fetch_86 rfl 3 rfl ?_
        refine V_ifz_ne (q := 109) (q2 := 91) dX11_fetch_88 (by decide) rfl ?_ ?_
        · exact V_sub [0, 1, 2, 3, 4, 5, 6, 7] rfl (v_X11_fetch_109 (f_X11_fetch_44 fu) ih this l1 l3 l4 l5 l6 (l7 + x21) l8 M)
        · refine V_aload dX11_fetch_91 rfl 4 rfl ?_
          refine V_getZ dX11_fetch_93 rfl (ci := 6) (T := TX7) rfl (by decide) fl_X11_211 (fun x22 => ?_)
          refine V_ifz_ne (q := 109) (q2 := 99) dX11_fetch_96 (by decide) rfl ?_ ?_
          · exact V_sub [0, 1, 2, 3, 4, 5, 6, 7] rfl (v_X11_fetch_109 (f_X11_fetch_44 fu) ih this l1 l3 l4 l5 l6 (l7 + x21) l8 M)
          · refine V_aload dX11_fetch_99 rfl 5 rfl ?_
            refine V_iload dX11_fetch_101 rfl 8 rfl ?_
            refine V_iconst (x := 1) dX11_fetch_103 rfl rfl ?_
            refine V_iconst (x := 1) dX11_fetch_104 rfl rfl ?_
            refine V_cVwZ (As := [.int x19, .int 1, .int 1]) (k_X0_changeFlags l6 x19 1 1 M) (fun _ h => o_X0_changeFlags h) ok_X0_changeFlags im_X0_changeFlags se_X0_changeFlags rfl (ci := 0) rfl ml_X11_330 ⟨⟨(Nat.le_of_ble_eq_true rfl), (Nat.le_of_ble_eq_true rfl)⟩, (Nat.le_of_ble_eq_true rfl), (Nat.le_of_ble_eq_true rfl)⟩ dX11_fetch_105 rfl rfl rfl (Nat.le_of_ble_eq_true rfl) rfl rfl (fun x23 M24 => ?_)
            refine V_pop dX11_fetch_108 rfl rfl ?_
            exact V_sub [0, 1, 2, 3, 4, 5, 6, 7] rfl (v_X11_fetch_109 (f_X11_fetch_44 fu) ih this l1 l3 l4 l5 l6 (l7 + x21) l8 M24)
theorem v_X11_fetch (this : Nat) (a1 : Int32) (a2 : Int32) (a3 : Int32) (a4 : Bool) (M : Mem) : V mi_X11_fetch 0 [(0, .ref this), (1, .int a1), (2, .int a2), (3, .int a3), (4, .int (b2i a4))] [] M 0 0 (f_X11_fetch this a1 a2 a3 a4 M) tI := by
  unfold f_X11_fetch
  refine V_ob fun _ _ => ?_
  refine V_aload_n dX11_fetch_0 rfl 0 rfl ?_
  refine V_iload_n dX11_fetch_1 rfl 1 rfl ?_
  refine V_cVtR (As := [.int a1]) (k_X11_requireSession this a1 M) rfl (fun _ _ => rfl) (fun _ h => o_X11_requireSession h) ok_X11_requireSession im_X11_requireSession se_X11_requireSession rfl (ci := 10) rfl ml_X11_198 ⟨⟨(Nat.le_of_ble_eq_true rfl), (Nat.le_of_ble_eq_true rfl)⟩, (Nat.le_of_ble_eq_true rfl), (Nat.le_of_ble_eq_true rfl)⟩ dX11_fetch_2 rfl rfl rfl (Nat.le_of_ble_eq_true rfl) rfl rfl (fun x1 M2 => ?_)
  refine V_astore (L' := [(0, .ref this), (1, .int a1), (2, .int a2), (3, .int a3), (4, .int (b2i a4)), (5, .ref x1)]) dX11_fetch_5 rfl (by decide) rfl ?_
  refine V_aload dX11_fetch_7 rfl 5 rfl ?_
  refine V_iload_n dX11_fetch_9 rfl 2 rfl ?_
  refine V_cStV (As := [.ref x1, .int a2]) (k_X11_requireEntry x1 a2 M2) rfl (fun _ _ => rfl) ok_X11_requireEntry sm_X11_requireEntry ml_X11_231 ⟨⟨(Nat.le_of_ble_eq_true rfl), (Nat.le_of_ble_eq_true rfl)⟩, (Nat.le_of_ble_eq_true rfl), (Nat.le_of_ble_eq_true rfl)⟩ dX11_fetch_10 rfl rfl rfl (Nat.le_of_ble_eq_true rfl) rfl rfl (fun M4 => ?_)
  refine V_aload dX11_fetch_13 rfl 5 rfl ?_
  refine V_iload_n dX11_fetch_15 rfl 3 rfl ?_
  refine V_cStV (As := [.ref x1, .int a3]) (k_X11_requireEntry x1 a3 M4) rfl (fun _ _ => rfl) ok_X11_requireEntry sm_X11_requireEntry ml_X11_231 ⟨⟨(Nat.le_of_ble_eq_true rfl), (Nat.le_of_ble_eq_true rfl)⟩, (Nat.le_of_ble_eq_true rfl), (Nat.le_of_ble_eq_true rfl)⟩ dX11_fetch_16 rfl rfl rfl (Nat.le_of_ble_eq_true rfl) rfl rfl (fun M6 => ?_)
  refine V_iload_n dX11_fetch_19 rfl 2 rfl ?_
  refine V_iload_n dX11_fetch_20 rfl 3 rfl ?_
  refine V_cStV (As := [.int a2, .int a3]) (k_X11_requireOrder a2 a3 M6) rfl (fun _ _ => rfl) ok_X11_requireOrder sm_X11_requireOrder ml_X11_326 ⟨⟨(Nat.le_of_ble_eq_true rfl), (Nat.le_of_ble_eq_true rfl)⟩, (Nat.le_of_ble_eq_true rfl), (Nat.le_of_ble_eq_true rfl)⟩ dX11_fetch_21 rfl rfl rfl (Nat.le_of_ble_eq_true rfl) rfl rfl (fun M8 => ?_)
  refine V_aload_n dX11_fetch_24 rfl 0 rfl ?_
  refine V_aload dX11_fetch_25 rfl 5 rfl ?_
  refine V_cVtR (As := [.ref x1]) (k_X11_requireAwake this x1 M8) rfl (fun _ _ => rfl) (fun _ h => o_X11_requireAwake h) ok_X11_requireAwake im_X11_requireAwake se_X11_requireAwake rfl (ci := 10) rfl ml_X11_317 ⟨⟨(Nat.le_of_ble_eq_true rfl), (Nat.le_of_ble_eq_true rfl)⟩, (Nat.le_of_ble_eq_true rfl), (Nat.le_of_ble_eq_true rfl)⟩ dX11_fetch_27 rfl rfl rfl (Nat.le_of_ble_eq_true rfl) rfl rfl (fun x9 M10 => ?_)
  refine V_astore (L' := [(0, .ref this), (1, .int a1), (2, .int a2), (3, .int a3), (4, .int (b2i a4)), (5, .ref x1), (6, .ref x9)]) dX11_fetch_30 rfl (by decide) rfl ?_
  refine V_aload_n dX11_fetch_32 rfl 0 rfl ?_
  refine V_aload dX11_fetch_33 rfl 5 rfl ?_
  refine V_cVwV (As := [.ref x1]) (k_X11_beginCommand this x1 M10) (fun _ h => o_X11_beginCommand h) ok_X11_beginCommand im_X11_beginCommand se_X11_beginCommand rfl (ci := 10) rfl ml_X11_305 ⟨⟨(Nat.le_of_ble_eq_true rfl), (Nat.le_of_ble_eq_true rfl)⟩, (Nat.le_of_ble_eq_true rfl), (Nat.le_of_ble_eq_true rfl)⟩ dX11_fetch_35 rfl rfl rfl (Nat.le_of_ble_eq_true rfl) rfl rfl (fun M12 => ?_)
  refine V_iconst (x := 0) dX11_fetch_38 rfl rfl ?_
  refine V_istore (L' := [(0, .ref this), (1, .int a1), (2, .int a2), (3, .int a3), (4, .int (b2i a4)), (5, .ref x1), (6, .ref x9), (7, .int 0)]) dX11_fetch_39 rfl (by decide) rfl ?_
  refine V_iload_n dX11_fetch_41 rfl 2 rfl ?_
  refine V_istore (L' := [(0, .ref this), (1, .int a1), (2, .int a2), (3, .int a3), (4, .int (b2i a4)), (5, .ref x1), (6, .ref x9), (7, .int 0), (8, .int a2)]) dX11_fetch_42 rfl (by decide) rfl ?_
  exact V_sub [0, 1, 3, 4, 5, 6, 7, 8] rfl (v_X11_fetch_44 FU this a1 a3 a4 x1 x9 0 a2 M12)
theorem k_X11_fetch (this : Nat) (a1 : Int32) (a2 : Int32) (a3 : Int32) (a4 : Bool) (M : Mem) : K mi_X11_fetch [.ref this, .int a1, .int a2, .int a3, .int (b2i a4)] M (f_X11_fetch this a1 a2 a3 a4 M) tI := K_of_V ok_X11_fetch (Nat.le_of_ble_eq_true rfl) (v_X11_fetch this a1 a2 a3 a4 M)
theorem o_X11_fetch {this : Nat} {a1 : Int32} {a2 : Int32} {a3 : Int32} {a4 : Bool} {M : Mem} {x} (h : f_X11_fetch this a1 a2 a3 a4 M = some x) : isO M 10 this = true := (ob_of h).1
theorem dX11_requireModeAndFlags_0 : decode cX11_requireModeAndFlags 0 = .ok (.iload_n 0, 1) := by decide +kernel
theorem dX11_requireModeAndFlags_1 : decode cX11_requireModeAndFlags 1 = .ok (.ifCond .lt 18, 3) := by decide +kernel
theorem dX11_requireModeAndFlags_4 : decode cX11_requireModeAndFlags 4 = .ok (.iload_n 0, 1) := by decide +kernel
theorem dX11_requireModeAndFlags_5 : decode cX11_requireModeAndFlags 5 = .ok (.iconst 2, 1) := by decide +kernel
theorem dX11_requireModeAndFlags_6 : decode cX11_requireModeAndFlags 6 = .ok (.if_icmp .gt 13, 3) := by decide +kernel
theorem dX11_requireModeAndFlags_9 : decode cX11_requireModeAndFlags 9 = .ok (.iload_n 1, 1) := by decide +kernel
theorem dX11_requireModeAndFlags_10 : decode cX11_requireModeAndFlags 10 = .ok (.ifCond .lt 9, 3) := by decide +kernel
theorem dX11_requireModeAndFlags_13 : decode cX11_requireModeAndFlags 13 = .ok (.iload_n 1, 1) := by decide +kernel
theorem dX11_requireModeAndFlags_14 : decode cX11_requireModeAndFlags 14 = .ok (.bipush 31, 2) := by decide +kernel
theorem dX11_requireModeAndFlags_16 : decode cX11_requireModeAndFlags 16 = .ok (.if_icmp .le 14, 3) := by decide +kernel
theorem dX11_requireModeAndFlags_19 : decode cX11_requireModeAndFlags 19 = .ok (.new 99, 3) := by decide +kernel
theorem dX11_requireModeAndFlags_22 : decode cX11_requireModeAndFlags 22 = .ok (.dup, 1) := by decide +kernel
theorem dX11_requireModeAndFlags_23 : decode cX11_requireModeAndFlags 23 = .ok (.ldc_w 435, 3) := by decide +kernel
theorem dX11_requireModeAndFlags_26 : decode cX11_requireModeAndFlags 26 = .ok (.invokespecial 103, 3) := by decide +kernel
theorem dX11_requireModeAndFlags_29 : decode cX11_requireModeAndFlags 29 = .ok (.athrow, 1) := by decide +kernel
theorem dX11_requireModeAndFlags_30 : decode cX11_requireModeAndFlags 30 = .ok (.return_, 1) := by decide +kernel
def mi_X11_requireModeAndFlags : MI := (RX11, yX11_requireModeAndFlags, cX11_requireModeAndFlags, 2, none, [], { frames := 8, cells := 1, slots := 6, locals := 120 })
theorem ok_X11_requireModeAndFlags : mOK mi_X11_requireModeAndFlags 2 := ⟨rfl, cw_X11_requireModeAndFlags, ini_X11, ⟨rfl, by decide⟩, by decide, by decide, rfl⟩
theorem v_X11_requireModeAndFlags_19 (M : Mem) : V mi_X11_requireModeAndFlags 19 [] [] M 0 0 (f_X11_requireModeAndFlags_19 M) tV := by
  unfold f_X11_requireModeAndFlags_19
  exact V_throwW th_X11_99_103 sr_X11_435 rfl dX11_requireModeAndFlags_19 dX11_requireModeAndFlags_22 dX11_requireModeAndFlags_23 dX11_requireModeAndFlags_26 dX11_requireModeAndFlags_29 ⟨(Nat.le_of_ble_eq_true rfl), (Nat.le_of_ble_eq_true rfl)⟩ ⟨(Nat.le_of_ble_eq_true rfl), (Nat.le_of_ble_eq_true rfl)⟩ rfl
theorem v_X11_requireModeAndFlags (a0 : Int32) (a1 : Int32) (M : Mem) : V mi_X11_requireModeAndFlags 0 [(0, .int a0), (1, .int a1)] [] M 0 0 (f_X11_requireModeAndFlags a0 a1 M) tV := by
  unfold f_X11_requireModeAndFlags
  refine V_iload_n dX11_requireModeAndFlags_0 rfl 0 rfl ?_
  refine V_if_lt (q := 19) (q2 := 4) dX11_requireModeAndFlags_1 (by decide) rfl ?_ ?_
  · exact V_sub [] rfl (v_X11_requireModeAndFlags_19 M)
  · refine V_iload_n dX11_requireModeAndFlags_4 rfl 0 rfl ?_
    refine V_iconst (x := 2) dX11_requireModeAndFlags_5 rfl rfl ?_
    refine V_icmp_gt (q := 19) (q2 := 9) dX11_requireModeAndFlags_6 (by decide) rfl ?_ ?_
    · exact V_sub [] rfl (v_X11_requireModeAndFlags_19 M)
    · refine V_iload_n dX11_requireModeAndFlags_9 rfl 1 rfl ?_
      refine V_if_lt (q := 19) (q2 := 13) dX11_requireModeAndFlags_10 (by decide) rfl ?_ ?_
      · exact V_sub [] rfl (v_X11_requireModeAndFlags_19 M)
      · refine V_iload_n dX11_requireModeAndFlags_13 rfl 1 rfl ?_
        refine V_bipush (x := 31) dX11_requireModeAndFlags_14 rfl rfl ?_
        refine V_icmp_le (q := 30) (q2 := 19) dX11_requireModeAndFlags_16 (by decide) rfl ?_ ?_
        · exact V_vret dX11_requireModeAndFlags_30 rfl rfl ⟨(Nat.le_of_ble_eq_true rfl), (Nat.le_of_ble_eq_true rfl)⟩
        · exact V_sub [] rfl (v_X11_requireModeAndFlags_19 M)
theorem k_X11_requireModeAndFlags (a0 : Int32) (a1 : Int32) (M : Mem) : K mi_X11_requireModeAndFlags [.int a0, .int a1] M (f_X11_requireModeAndFlags a0 a1 M) tV := K_of_V ok_X11_requireModeAndFlags (Nat.le_of_ble_eq_true rfl) (v_X11_requireModeAndFlags a0 a1 M)
theorem dX11_requireWriting_0 : decode cX11_requireWriting 0 = .ok (.aload_n 0, 1) := by decide +kernel
theorem dX11_requireWriting_1 : decode cX11_requireWriting 1 = .ok (.aload_n 1, 1) := by decide +kernel
theorem dX11_requireWriting_2 : decode cX11_requireWriting 2 = .ok (.invokevirtual 317, 3) := by decide +kernel
theorem dX11_requireWriting_5 : decode cX11_requireWriting 5 = .ok (.astore_n 2, 1) := by decide +kernel
theorem dX11_requireWriting_6 : decode cX11_requireWriting 6 = .ok (.aload_n 1, 1) := by decide +kernel
theorem dX11_requireWriting_7 : decode cX11_requireWriting 7 = .ok (.getfield 211, 3) := by decide +kernel
theorem dX11_requireWriting_10 : decode cX11_requireWriting 10 = .ok (.ifCond .eq 14, 3) := by decide +kernel
theorem dX11_requireWriting_13 : decode cX11_requireWriting 13 = .ok (.new 89, 3) := by decide +kernel
theorem dX11_requireWriting_16 : decode cX11_requireWriting 16 = .ok (.dup, 1) := by decide +kernel
theorem dX11_requireWriting_17 : decode cX11_requireWriting 17 = .ok (.ldc_w 439, 3) := by decide +kernel
theorem dX11_requireWriting_20 : decode cX11_requireWriting 20 = .ok (.invokespecial 93, 3) := by decide +kernel
theorem dX11_requireWriting_23 : decode cX11_requireWriting 23 = .ok (.athrow, 1) := by decide +kernel
theorem dX11_requireWriting_24 : decode cX11_requireWriting 24 = .ok (.aload_n 2, 1) := by decide +kernel
theorem dX11_requireWriting_25 : decode cX11_requireWriting 25 = .ok (.areturn, 1) := by decide +kernel
def mi_X11_requireWriting : MI := (RX11, yX11_requireWriting, cX11_requireWriting, 3, some (.object "MailSessions$Box"), [], { frames := 9, cells := 2, slots := 12, locals := 141 })
theorem ok_X11_requireWriting : mOK mi_X11_requireWriting 1 := ⟨rfl, cw_X11_requireWriting, ini_X11, ⟨rfl, by decide⟩, by decide, by decide, rfl⟩
theorem v_X11_requireWriting (this : Nat) (a1 : Nat) (M : Mem) : V mi_X11_requireWriting 0 [(0, .ref this), (1, .ref a1)] [] M 0 0 (f_X11_requireWriting this a1 M) tR := by
  unfold f_X11_requireWriting
  refine V_ob fun _ _ => ?_
  refine V_aload_n dX11_requireWriting_0 rfl 0 rfl ?_
  refine V_aload_n dX11_requireWriting_1 rfl 1 rfl ?_
  refine V_cVtR (As := [.ref a1]) (k_X11_requireAwake this a1 M) rfl (fun _ _ => rfl) (fun _ h => o_X11_requireAwake h) ok_X11_requireAwake im_X11_requireAwake se_X11_requireAwake rfl (ci := 10) rfl ml_X11_317 ⟨⟨(Nat.le_of_ble_eq_true rfl), (Nat.le_of_ble_eq_true rfl)⟩, (Nat.le_of_ble_eq_true rfl), (Nat.le_of_ble_eq_true rfl)⟩ dX11_requireWriting_2 rfl rfl rfl (Nat.le_of_ble_eq_true rfl) rfl rfl (fun x1 M2 => ?_)
  refine V_astore_n (L' := [(0, .ref this), (1, .ref a1), (2, .ref x1)]) dX11_requireWriting_5 rfl (by decide) rfl ?_
  refine V_aload_n dX11_requireWriting_6 rfl 1 rfl ?_
  refine V_getZ dX11_requireWriting_7 rfl (ci := 6) (T := TX7) rfl (by decide) fl_X11_211 (fun x3 => ?_)
  refine V_ifz_eq (q := 24) (q2 := 13) dX11_requireWriting_10 (by decide) rfl ?_ ?_
  · refine V_aload_n dX11_requireWriting_24 rfl 2 rfl ?_
    exact V_aret (v := some x1) dX11_requireWriting_25 rfl (Or.inl ⟨_, rfl⟩) rfl ⟨(Nat.le_of_ble_eq_true rfl), (Nat.le_of_ble_eq_true rfl)⟩
  · exact V_throwW th_X11_89_93 sr_X11_439 rfl dX11_requireWriting_13 dX11_requireWriting_16 dX11_requireWriting_17 dX11_requireWriting_20 dX11_requireWriting_23 ⟨(Nat.le_of_ble_eq_true rfl), (Nat.le_of_ble_eq_true rfl)⟩ ⟨(Nat.le_of_ble_eq_true rfl), (Nat.le_of_ble_eq_true rfl)⟩ rfl
theorem k_X11_requireWriting (this : Nat) (a1 : Nat) (M : Mem) : K mi_X11_requireWriting [.ref this, .ref a1] M (f_X11_requireWriting this a1 M) tR := K_of_V ok_X11_requireWriting (Nat.le_of_ble_eq_true rfl) (v_X11_requireWriting this a1 M)
theorem o_X11_requireWriting {this : Nat} {a1 : Nat} {M : Mem} {x} (h : f_X11_requireWriting this a1 M = some x) : isO M 10 this = true := (ob_of h).1
theorem dX11_store_0 : decode cX11_store 0 = .ok (.aload_n 0, 1) := by decide +kernel
theorem dX11_store_1 : decode cX11_store 1 = .ok (.iload_n 1, 1) := by decide +kernel
theorem dX11_store_2 : decode cX11_store 2 = .ok (.invokevirtual 198, 3) := by decide +kernel
theorem dX11_store_5 : decode cX11_store 5 = .ok (.astore 7, 2) := by decide +kernel
theorem dX11_store_7 : decode cX11_store 7 = .ok (.aload 7, 2) := by decide +kernel
theorem dX11_store_9 : decode cX11_store 9 = .ok (.iload_n 2, 1) := by decide +kernel
theorem dX11_store_10 : decode cX11_store 10 = .ok (.invokestatic 231, 3) := by decide +kernel
theorem dX11_store_13 : decode cX11_store 13 = .ok (.aload 7, 2) := by decide +kernel
theorem dX11_store_15 : decode cX11_store 15 = .ok (.iload_n 3, 1) := by decide +kernel
theorem dX11_store_16 : decode cX11_store 16 = .ok (.invokestatic 231, 3) := by decide +kernel
theorem dX11_store_19 : decode cX11_store 19 = .ok (.iload_n 2, 1) := by decide +kernel
theorem dX11_store_20 : decode cX11_store 20 = .ok (.iload_n 3, 1) := by decide +kernel
theorem dX11_store_21 : decode cX11_store 21 = .ok (.invokestatic 326, 3) := by decide +kernel
theorem dX11_store_24 : decode cX11_store 24 = .ok (.iload 4, 2) := by decide +kernel
theorem dX11_store_26 : decode cX11_store 26 = .ok (.iload 5, 2) := by decide +kernel
theorem dX11_store_28 : decode cX11_store 28 = .ok (.invokestatic 337, 3) := by decide +kernel
theorem dX11_store_31 : decode cX11_store 31 = .ok (.aload_n 0, 1) := by decide +kernel
theorem dX11_store_32 : decode cX11_store 32 = .ok (.aload 7, 2) := by decide +kernel
theorem dX11_store_34 : decode cX11_store 34 = .ok (.invokevirtual 340, 3) := by decide +kernel
theorem dX11_store_37 : decode cX11_store 37 = .ok (.astore 8, 2) := by decide +kernel
theorem dX11_store_39 : decode cX11_store 39 = .ok (.aload_n 0, 1) := by decide +kernel
theorem dX11_store_40 : decode cX11_store 40 = .ok (.aload 7, 2) := by decide +kernel
theorem dX11_store_42 : decode cX11_store 42 = .ok (.invokevirtual 305, 3) := by decide +kernel
theorem dX11_store_45 : decode cX11_store 45 = .ok (.iconst 0, 1) := by decide +kernel
theorem dX11_store_46 : decode cX11_store 46 = .ok (.istore 9, 2) := by decide +kernel
theorem dX11_store_48 : decode cX11_store 48 = .ok (.iload_n 2, 1) := by decide +kernel
theorem dX11_store_49 : decode cX11_store 49 = .ok (.istore 10, 2) := by decide +kernel
theorem dX11_store_51 : decode cX11_store 51 = .ok (.iload 10, 2) := by decide +kernel
theorem dX11_store_53 : decode cX11_store 53 = .ok (.iload_n 3, 1) := by decide +kernel
theorem dX11_store_54 : decode cX11_store 54 = .ok (.if_icmp .gt 80, 3) := by decide +kernel
theorem dX11_store_57 : decode cX11_store 57 = .ok (.iload 10, 2) := by decide +kernel
theorem dX11_store_59 : decode cX11_store 59 = .ok (.bipush 60, 2) := by decide +kernel
theorem dX11_store_61 : decode cX11_store 61 = .ok (.if_icmp .gt 73, 3) := by decide +kernel
theorem dX11_store_64 : decode cX11_store 64 = .ok (.aload 8, 2) := by decide +kernel
theorem dX11_store_66 : decode cX11_store 66 = .ok (.aload 7, 2) := by decide +kernel
theorem dX11_store_68 : decode cX11_store 68 = .ok (.iload 10, 2) := by decide +kernel
theorem dX11_store_70 : decode cX11_store 70 = .ok (.invokevirtual 235, 3) := by decide +kernel
theorem dX11_store_73 : decode cX11_store 73 = .ok (.invokevirtual 195, 3) := by decide +kernel
theorem dX11_store_76 : decode cX11_store 76 = .ok (.istore 11, 2) := by decide +kernel
theorem dX11_store_78 : decode cX11_store 78 = .ok (.aload 8, 2) := by decide +kernel
theorem dX11_store_80 : decode cX11_store 80 = .ok (.iload 11, 2) := by decide +kernel
theorem dX11_store_82 : decode cX11_store 82 = .ok (.iload 4, 2) := by decide +kernel
theorem dX11_store_84 : decode cX11_store 84 = .ok (.iload 5, 2) := by decide +kernel
theorem dX11_store_86 : decode cX11_store 86 = .ok (.invokevirtual 330, 3) := by decide +kernel
theorem dX11_store_89 : decode cX11_store 89 = .ok (.ifCond .eq 6, 3) := by decide +kernel
theorem dX11_store_92 : decode cX11_store 92 = .ok (.iinc 9 1, 3) := by decide +kernel
theorem dX11_store_95 : decode cX11_store 95 = .ok (.iload 6, 2) := by decide +kernel
theorem dX11_store_97 : decode cX11_store 97 = .ok (.ifCond .eq 31, 3) := by decide +kernel
theorem dX11_store_100 : decode cX11_store 100 = .ok (.iload 11, 2) := by decide +kernel
theorem dX11_store_102 : decode cX11_store 102 = .ok (.iconst (-1), 1) := by decide +kernel
theorem dX11_store_103 : decode cX11_store 103 = .ok (.if_icmp .eq 25, 3) := by decide +kernel
theorem dX11_store_106 : decode cX11_store 106 = .ok (.aload 7, 2) := by decide +kernel
theorem dX11_store_108 : decode cX11_store 108 = .ok (.getfield 343, 3) := by decide +kernel
theorem dX11_store_111 : decode cX11_store 111 = .ok (.iload 10, 2) := by decide +kernel
theorem dX11_store_113 : decode cX11_store 113 = .ok (.iconst 1, 1) := by decide +kernel
theorem dX11_store_114 : decode cX11_store 114 = .ok (.isub, 1) := by decide +kernel
theorem dX11_store_115 : decode cX11_store 115 = .ok (.aload 8, 2) := by decide +kernel
theorem dX11_store_117 : decode cX11_store 117 = .ok (.getfield 190, 3) := by decide +kernel
theorem dX11_store_120 : decode cX11_store 120 = .ok (.iload 11, 2) := by decide +kernel
theorem dX11_store_122 : decode cX11_store 122 = .ok (.invokevirtual 182, 3) := by decide +kernel
theorem dX11_store_125 : decode cX11_store 125 = .ok (.invokevirtual 346, 3) := by decide +kernel
theorem dX11_store_128 : decode cX11_store 128 = .ok (.iinc 10 1, 3) := by decide +kernel
theorem dX11_store_131 : decode cX11_store 131 = .ok (.goto (-80), 3) := by decide +kernel
theorem dX11_store_134 : decode cX11_store 134 = .ok (.aload_n 0, 1) := by decide +kernel
theorem dX11_store_135 : decode cX11_store 135 = .ok (.iload_n 1, 1) := by decide +kernel
theorem dX11_store_136 : decode cX11_store 136 = .ok (.iconst 0, 1) := by decide +kernel
theorem dX11_store_137 : decode cX11_store 137 = .ok (.invokevirtual 320, 3) := by decide +kernel
theorem dX11_store_140 : decode cX11_store 140 = .ok (.pop, 1) := by decide +kernel
theorem dX11_store_141 : decode cX11_store 141 = .ok (.iload 9, 2) := by decide +kernel
theorem dX11_store_143 : decode cX11_store 143 = .ok (.ireturn, 1) := by decide +kernel
def mi_X11_store : MI := (RX11, yX11_store, cX11_store, 12, some .int, [], { frames := 10, cells := 7, slots := 42, locals := 176 })
theorem ok_X11_store : mOK mi_X11_store 6 := ⟨rfl, cw_X11_store, ini_X11, ⟨rfl, by decide⟩, by decide, by decide, rfl⟩
theorem v_X11_store_134 (this : Nat) (l1 : Int32) (l9 : Int32) (M : Mem) : V mi_X11_store 134 [(0, .ref this), (1, .int l1), (9, .int l9)] [] M 7 42 (f_X11_store_134 this l1 l9 M) tI := by
  unfold f_X11_store_134
  refine V_aload_n dX11_store_134 rfl 0 rfl ?_
  refine V_iload_n dX11_store_135 rfl 1 rfl ?_
  refine V_iconst (x := 0) dX11_store_136 rfl rfl ?_
  refine V_cVwI (As := [.int l1, .int (b2i false)]) (k_X11_endCommand this l1 false M) (fun _ h => o_X11_endCommand h) ok_X11_endCommand im_X11_endCommand se_X11_endCommand rfl (ci := 10) rfl ml_X11_320 ⟨⟨(Nat.le_of_ble_eq_true rfl), (Nat.le_of_ble_eq_true rfl)⟩, (Nat.le_of_ble_eq_true rfl), (Nat.le_of_ble_eq_true rfl)⟩ dX11_store_137 rfl rfl rfl (Nat.le_of_ble_eq_true rfl) rfl rfl (fun x15 M16 => ?_)
  refine V_pop dX11_store_140 rfl rfl ?_
  refine V_iload dX11_store_141 rfl 2 rfl ?_
  exact V_iret dX11_store_143 rfl rfl ⟨(Nat.le_of_ble_eq_true rfl), (Nat.le_of_ble_eq_true rfl)⟩
theorem v_X11_store_128 (rc51 : Nat → Int32 → Int32 → Int32 → Int32 → Bool → Nat → Nat → Int32 → Int32 → Mem → Option ((Int32 ⊕ String) × Mem)) (h51 : ∀ (l0 : Nat) (l1 : Int32) (l3 : Int32) (l4 : Int32) (l5 : Int32) (l6 : Bool) (l7 : Nat) (l8 : Nat) (l9 : Int32) (l10 : Int32) (M : Mem), V mi_X11_store 51 [(0, .ref l0), (1, .int l1), (3, .int l3), (4, .int l4), (5, .int l5), (6, .int (b2i l6)), (7, .ref l7), (8, .ref l8), (9, .int l9), (10, .int l10)] [] M 7 42 (rc51 l0 l1 l3 l4 l5 l6 l7 l8 l9 l10 M) tI) (this : Nat) (l1 : Int32) (l3 : Int32) (l4 : Int32) (l5 : Int32) (l6 : Bool) (l7 : Nat) (l8 : Nat) (l9 : Int32) (l10 : Int32) (M : Mem) : V mi_X11_store 128 [(0, .ref this), (1, .int l1), (3, .int l3), (4, .int l4), (5, .int l5), (6, .int (b2i l6)), (7, .ref l7), (8, .ref l8), (9, .int l9), (10, .int l10)] [] M 7 42 (f_X11_store_128 rc51 this l1 l3 l4 l5 l6 l7 l8 l9 l10 M) tI := by
  unfold f_X11_store_128
  refine V_iinc (y := (l10 + 1)) (L' := [(0, .ref this), (1, .int l1), (3, .int l3), (4, .int l4), (5, .int l5), (6, .int (b2i l6)), (7, .ref l7), (8, .ref l8), (9, .int l9), (10, .int (l10 + 1))]) dX11_store_128 rfl 9 rfl rfl (by decide) rfl ?_
  refine V_goto (q := 51) dX11_store_131 (by decide) ?_
  exact h51 this l1 l3 l4 l5 l6 l7 l8 l9 (l10 + 1) M
theorem v_X11_store_95 (rc51 : Nat → Int32 → Int32 → Int32 → Int32 → Bool → Nat → Nat → Int32 → Int32 → Mem → Option ((Int32 ⊕ String) × Mem)) (h51 : ∀ (l0 : Nat) (l1 : Int32) (l3 : Int32) (l4 : Int32) (l5 : Int32) (l6 : Bool) (l7 : Nat) (l8 : Nat) (l9 : Int32) (l10 : Int32) (M : Mem), V mi_X11_store 51 [(0, .ref l0), (1, .int l1), (3, .int l3), (4, .int l4), (5, .int l5), (6, .int (b2i l6)), (7, .ref l7), (8, .ref l8), (9, .int l9), (10, .int l10)] [] M 7 42 (rc51 l0 l1 l3 l4 l5 l6 l7 l8 l9 l10 M) tI) (this : Nat) (l1 : Int32) (l3 : Int32) (l4 : Int32) (l5 : Int32) (l6 : Bool) (l7 : Nat) (l8 : Nat) (l9 : Int32) (l10 : Int32) (l11 : Int32) (M : Mem) : V mi_X11_store 95 [(0, .ref this), (1, .int l1), (3, .int l3), (4, .int l4), (5, .int l5), (6, .int (b2i l6)), (7, .ref l7), (8, .ref l8), (9, .int l9), (10, .int l10), (11, .int l11)] [] M 7 42 (f_X11_store_95 rc51 this l1 l3 l4 l5 l6 l7 l8 l9 l10 l11 M) tI := by
  unfold f_X11_store_95
  refine V_iload dX11_store_95 rfl 5 rfl ?_
  refine V_ifz_eq (q := 128) (q2 := 100) dX11_store_97 (by decide) rfl ?_ ?_
  · exact V_sub [0, 1, 2, 3, 4, 5, 6, 7, 8, 9] rfl (v_X11_store_128 rc51 h51 this l1 l3 l4 l5 l6 l7 l8 l9 l10 M)
  · refine V_iload dX11_store_100 rfl 10 rfl ?_
    refine V_iconst (x := (-1)) dX11_store_102 rfl rfl ?_
    refine V_icmp_eq (q := 128) (q2 := 106) dX11_store_103 (by decide) rfl ?_ ?_
    · exact V_sub [0, 1, 2, 3, 4, 5, 6, 7, 8, 9] rfl (v_X11_store_128 rc51 h51 this l1 l3 l4 l5 l6 l7 l8 l9 l10 M)
    · refine V_aload dX11_store_106 rfl 6 rfl ?_
      refine V_getR dX11_store_108 rfl (ci := 6) (T := TX7) rfl (by decide) fl_X11_343 (fun x21 => ?_)
      refine V_iload dX11_store_111 rfl 9 rfl ?_
      refine V_iconst (x := 1) dX11_store_113 rfl rfl ?_
      refine V_isub dX11_store_114 rfl ?_
      refine V_aload dX11_store_115 rfl 7 rfl ?_
      refine V_getR dX11_store_117 rfl (ci := 0) (T := TX0) rfl (by decide) fl_X11_190 (fun x22 => ?_)
      refine V_iload dX11_store_120 rfl 10 rfl ?_
      refine V_cVeI (As := [.int l11]) (k_X5_get x22 l11 M) (fun _ h => o_X5_get h) ok_X5_get im_X5_get se_X5_get rfl (ci := 4) rfl ml_X11_182 ⟨⟨(Nat.le_of_ble_eq_true rfl), (Nat.le_of_ble_eq_true rfl)⟩, (Nat.le_of_ble_eq_true rfl), (Nat.le_of_ble_eq_true rfl)⟩ dX11_store_122 rfl rfl rfl (Nat.le_of_ble_eq_true rfl) rfl rfl (fun x23 => ?_)
      refine V_cVwV (As := [.int (l10 - 1), .int x23]) (k_X5_set x21 (l10 - 1) x23 M) (fun _ h => o_X5_set h) ok_X5_set im_X5_set se_X5_set rfl (ci := 4) rfl ml_X11_346 ⟨⟨(Nat.le_of_ble_eq_true rfl), (Nat.le_of_ble_eq_true rfl)⟩, (Nat.le_of_ble_eq_true rfl), (Nat.le_of_ble_eq_true rfl)⟩ dX11_store_125 rfl rfl rfl (Nat.le_of_ble_eq_true rfl) rfl rfl (fun M25 => ?_)
      exact V_sub [0, 1, 2, 3, 4, 5, 6, 7, 8, 9] rfl (v_X11_store_128 rc51 h51 this l1 l3 l4 l5 l6 l7 l8 l9 l10 M25)
theorem v_X11_store_51 : ∀ (fu : Nat) (this : Nat) (l1 : Int32) (l3 : Int32) (l4 : Int32) (l5 : Int32) (l6 : Bool) (l7 : Nat) (l8 : Nat) (l9 : Int32) (l10 : Int32) (M : Mem), V mi_X11_store 51 [(0, .ref this), (1, .int l1), (3, .int l3), (4, .int l4), (5, .int l5), (6, .int (b2i l6)), (7, .ref l7), (8, .ref l8), (9, .int l9), (10, .int l10)] [] M 7 42 (f_X11_store_51 fu this l1 l3 l4 l5 l6 l7 l8 l9 l10 M) tI := by
  intro fu
  induction fu with
  | zero => intros; exact V_none
  | succ fu ih =>
    intro this l1 l3 l4 l5 l6 l7 l8 l9 l10 M
    show V mi_X11_store 51 [(0, .ref this), (1, .int l1), (3, .int l3), (4, .int l4), (5, .int l5), (6, .int (b2i l6)), (7, .ref l7), (8, .ref l8), (9, .int l9), (10, .int l10)] [] M 7 42 (f_X11_store_51 (fu + 1) this l1 l3 l4 l5 l6 l7 l8 l9 l10 M) tI
    unfold f_X11_store_51
    refine V_iload dX11_store_51 rfl 9 rfl ?_
    refine V_iload_n dX11_store_53 rfl 2 rfl ?_
    refine V_icmp_gt (q := 134) (q2 := 57) dX11_store_54 (by decide) rfl ?_ ?_
    · exact V_sub [0, 1, 8] rfl (v_X11_store_134 this l1 l9 M)
    · refine V_iload dX11_store_57 rfl 9 rfl ?_
      refine V_bipush (x := 60) dX11_store_59 rfl rfl ?_
      refine V_icmp_gt (q := 134) (q2 := 64) dX11_store_61 (by decide) rfl ?_ ?_
      · exact V_sub [0, 1, 8] rfl (v_X11_store_134 this l1 l9 M)
      · refine V_aload dX11_store_64 rfl 7 rfl ?_
        refine V_aload dX11_store_66 rfl 6 rfl ?_
        refine V_iload dX11_store_68 rfl 9 rfl ?_
        refine V_cVeI (As := [.int l10]) (k_X7_uidOf l7 l10 M) (fun _ h => o_X7_uidOf h) ok_X7_uidOf im_X7_uidOf se_X7_uidOf rfl (ci := 6) rfl ml_X11_235 ⟨⟨(Nat.le_of_ble_eq_true rfl), (Nat.le_of_ble_eq_true rfl)⟩, (Nat.le_of_ble_eq_true rfl), (Nat.le_of_ble_eq_true rfl)⟩ dX11_store_70 rfl rfl rfl (Nat.le_of_ble_eq_true rfl) rfl rfl (fun x17 => ?_)
        refine V_cVeI (As := [.int x17]) (k_X0_indexOfUid l8 x17 M) (fun _ h => o_X0_indexOfUid h) ok_X0_indexOfUid im_X0_indexOfUid se_X0_indexOfUid rfl (ci := 0) rfl ml_X11_195 ⟨⟨(Nat.le_of_ble_eq_true rfl), (Nat.le_of_ble_eq_true rfl)⟩, (Nat.le_of_ble_eq_true rfl), (Nat.le_of_ble_eq_true rfl)⟩ dX11_store_73 rfl rfl rfl (Nat.le_of_ble_eq_true rfl) rfl rfl (fun x18 => ?_)
        refine V_istore (L' := [(0, .ref this), (1, .int l1), (3, .int l3), (4, .int l4), (5, .int l5), (6, .int (b2i l6)), (7, .ref l7), (8, .ref l8), (9, .int l9), (10, .int l10), (11, .int x18)]) dX11_store_76 rfl (by decide) rfl ?_
        refine V_aload dX11_store_78 rfl 7 rfl ?_
        refine V_iload dX11_store_80 rfl 10 rfl ?_
        refine V_iload dX11_store_82 rfl 3 rfl ?_
        refine V_iload dX11_store_84 rfl 4 rfl ?_
        refine V_cVwZ (As := [.int x18, .int l4, .int l5]) (k_X0_changeFlags l8 x18 l4 l5 M) (fun _ h => o_X0_changeFlags h) ok_X0_changeFlags im_X0_changeFlags se_X0_changeFlags rfl (ci := 0) rfl ml_X11_330 ⟨⟨(Nat.le_of_ble_eq_true rfl), (Nat.le_of_ble_eq_true rfl)⟩, (Nat.le_of_ble_eq_true rfl), (Nat.le_of_ble_eq_true rfl)⟩ dX11_store_86 rfl rfl rfl (Nat.le_of_ble_eq_true rfl) rfl rfl (fun x19 M20 => ?_)
        refine V_ifz_eq (q := 95) (q2 := 92) dX11_store_89 (by decide) rfl ?_ ?_
        · exact v_X11_store_95 (f_X11_store_51 fu) ih this l1 l3 l4 l5 l6 l7 l8 l9 l10 x18 M20
        · refine V_iinc (y := (l9 + 1)) (L' := [(0, .ref this), (1, .int l1), (3, .int l3), (4, .int l4), (5, .int l5), (6, .int (b2i l6)), (7, .ref l7), (8, .ref l8), (9, .int (l9 + 1)), (10, .int l10), (11, .int x18)]) dX11_store_92 rfl 8 rfl rfl (by decide) rfl ?_
          exact v_X11_store_95 (f_X11_store_51 fu) ih this l1 l3 l4 l5 l6 l7 l8 (l9 + 1) l10 x18 M20
theorem v_X11_store (this : Nat) (a1 : Int32) (a2 : Int32) (a3 : Int32) (a4 : Int32) (a5 : Int32) (a6 : Bool) (M : Mem) : V mi_X11_store 0 [(0, .ref this), (1, .int a1), (2, .int a2), (3, .int a3), (4, .int a4), (5, .int a5), (6, .int (b2i a6))] [] M 0 0 (f_X11_store this a1 a2 a3 a4 a5 a6 M) tI := by
  unfold f_X11_store
  refine V_ob fun _ _ => ?_
  refine V_aload_n dX11_store_0 rfl 0 rfl ?_
  refine V_iload_n dX11_store_1 rfl 1 rfl ?_
  refine V_cVtR (As := [.int a1]) (k_X11_requireSession this a1 M) rfl (fun _ _ => rfl) (fun _ h => o_X11_requireSession h) ok_X11_requireSession im_X11_requireSession se_X11_requireSession rfl (ci := 10) rfl ml_X11_198 ⟨⟨(Nat.le_of_ble_eq_true rfl), (Nat.le_of_ble_eq_true rfl)⟩, (Nat.le_of_ble_eq_true rfl), (Nat.le_of_ble_eq_true rfl)⟩ dX11_store_2 rfl rfl rfl (Nat.le_of_ble_eq_true rfl) rfl rfl (fun x1 M2 => ?_)
  refine V_astore (L' := [(0, .ref this), (1, .int a1), (2, .int a2), (3, .int a3), (4, .int a4), (5, .int a5), (6, .int (b2i a6)), (7, .ref x1)]) dX11_store_5 rfl (by decide) rfl ?_
  refine V_aload dX11_store_7 rfl 7 rfl ?_
  refine V_iload_n dX11_store_9 rfl 2 rfl ?_
  refine V_cStV (As := [.ref x1, .int a2]) (k_X11_requireEntry x1 a2 M2) rfl (fun _ _ => rfl) ok_X11_requireEntry sm_X11_requireEntry ml_X11_231 ⟨⟨(Nat.le_of_ble_eq_true rfl), (Nat.le_of_ble_eq_true rfl)⟩, (Nat.le_of_ble_eq_true rfl), (Nat.le_of_ble_eq_true rfl)⟩ dX11_store_10 rfl rfl rfl (Nat.le_of_ble_eq_true rfl) rfl rfl (fun M4 => ?_)
  refine V_aload dX11_store_13 rfl 7 rfl ?_
  refine V_iload_n dX11_store_15 rfl 3 rfl ?_
  refine V_cStV (As := [.ref x1, .int a3]) (k_X11_requireEntry x1 a3 M4) rfl (fun _ _ => rfl) ok_X11_requireEntry sm_X11_requireEntry ml_X11_231 ⟨⟨(Nat.le_of_ble_eq_true rfl), (Nat.le_of_ble_eq_true rfl)⟩, (Nat.le_of_ble_eq_true rfl), (Nat.le_of_ble_eq_true rfl)⟩ dX11_store_16 rfl rfl rfl (Nat.le_of_ble_eq_true rfl) rfl rfl (fun M6 => ?_)
  refine V_iload_n dX11_store_19 rfl 2 rfl ?_
  refine V_iload_n dX11_store_20 rfl 3 rfl ?_
  refine V_cStV (As := [.int a2, .int a3]) (k_X11_requireOrder a2 a3 M6) rfl (fun _ _ => rfl) ok_X11_requireOrder sm_X11_requireOrder ml_X11_326 ⟨⟨(Nat.le_of_ble_eq_true rfl), (Nat.le_of_ble_eq_true rfl)⟩, (Nat.le_of_ble_eq_true rfl), (Nat.le_of_ble_eq_true rfl)⟩ dX11_store_21 rfl rfl rfl (Nat.le_of_ble_eq_true rfl) rfl rfl (fun M8 => ?_)
  refine V_iload dX11_store_24 rfl 4 rfl ?_
  refine V_iload dX11_store_26 rfl 5 rfl ?_
  refine V_cStV (As := [.int a4, .int a5]) (k_X11_requireModeAndFlags a4 a5 M8) rfl (fun _ _ => rfl) ok_X11_requireModeAndFlags sm_X11_requireModeAndFlags ml_X11_337 ⟨⟨(Nat.le_of_ble_eq_true rfl), (Nat.le_of_ble_eq_true rfl)⟩, (Nat.le_of_ble_eq_true rfl), (Nat.le_of_ble_eq_true rfl)⟩ dX11_store_28 rfl rfl rfl (Nat.le_of_ble_eq_true rfl) rfl rfl (fun M10 => ?_)
  refine V_aload_n dX11_store_31 rfl 0 rfl ?_
  refine V_aload dX11_store_32 rfl 7 rfl ?_
  refine V_cVtR (As := [.ref x1]) (k_X11_requireWriting this x1 M10) rfl (fun _ _ => rfl) (fun _ h => o_X11_requireWriting h) ok_X11_requireWriting im_X11_requireWriting se_X11_requireWriting rfl (ci := 10) rfl ml_X11_340 ⟨⟨(Nat.le_of_ble_eq_true rfl), (Nat.le_of_ble_eq_true rfl)⟩, (Nat.le_of_ble_eq_true rfl), (Nat.le_of_ble_eq_true rfl)⟩ dX11_store_34 rfl rfl rfl (Nat.le_of_ble_eq_true rfl) rfl rfl (fun x11 M12 => ?_)
  refine V_astore (L' := [(0, .ref this), (1, .int a1), (2, .int a2), (3, .int a3), (4, .int a4), (5, .int a5), (6, .int (b2i a6)), (7, .ref x1), (8, .ref x11)]) dX11_store_37 rfl (by decide) rfl ?_
  refine V_aload_n dX11_store_39 rfl 0 rfl ?_
  refine V_aload dX11_store_40 rfl 7 rfl ?_
  refine V_cVwV (As := [.ref x1]) (k_X11_beginCommand this x1 M12) (fun _ h => o_X11_beginCommand h) ok_X11_beginCommand im_X11_beginCommand se_X11_beginCommand rfl (ci := 10) rfl ml_X11_305 ⟨⟨(Nat.le_of_ble_eq_true rfl), (Nat.le_of_ble_eq_true rfl)⟩, (Nat.le_of_ble_eq_true rfl), (Nat.le_of_ble_eq_true rfl)⟩ dX11_store_42 rfl rfl rfl (Nat.le_of_ble_eq_true rfl) rfl rfl (fun M14 => ?_)
  refine V_iconst (x := 0) dX11_store_45 rfl rfl ?_
  refine V_istore (L' := [(0, .ref this), (1, .int a1), (2, .int a2), (3, .int a3), (4, .int a4), (5, .int a5), (6, .int (b2i a6)), (7, .ref x1), (8, .ref x11), (9, .int 0)]) dX11_store_46 rfl (by decide) rfl ?_
  refine V_iload_n dX11_store_48 rfl 2 rfl ?_
  refine V_istore (L' := [(0, .ref this), (1, .int a1), (2, .int a2), (3, .int a3), (4, .int a4), (5, .int a5), (6, .int (b2i a6)), (7, .ref x1), (8, .ref x11), (9, .int 0), (10, .int a2)]) dX11_store_49 rfl (by decide) rfl ?_
  exact V_sub [0, 1, 3, 4, 5, 6, 7, 8, 9, 10] rfl (v_X11_store_51 FU this a1 a3 a4 a5 a6 x1 x11 0 a2 M14)
theorem k_X11_store (this : Nat) (a1 : Int32) (a2 : Int32) (a3 : Int32) (a4 : Int32) (a5 : Int32) (a6 : Bool) (M : Mem) : K mi_X11_store [.ref this, .int a1, .int a2, .int a3, .int a4, .int a5, .int (b2i a6)] M (f_X11_store this a1 a2 a3 a4 a5 a6 M) tI := K_of_V ok_X11_store (Nat.le_of_ble_eq_true rfl) (v_X11_store this a1 a2 a3 a4 a5 a6 M)
theorem o_X11_store {this : Nat} {a1 : Int32} {a2 : Int32} {a3 : Int32} {a4 : Int32} {a5 : Int32} {a6 : Bool} {M : Mem} {x} (h : f_X11_store this a1 a2 a3 a4 a5 a6 M = some x) : isO M 10 this = true := (ob_of h).1
theorem dX11_uidStore_0 : decode cX11_uidStore 0 = .ok (.aload_n 0, 1) := by decide +kernel
theorem dX11_uidStore_1 : decode cX11_uidStore 1 = .ok (.iload_n 1, 1) := by decide +kernel
theorem dX11_uidStore_2 : decode cX11_uidStore 2 = .ok (.invokevirtual 198, 3) := by decide +kernel
theorem dX11_uidStore_5 : decode cX11_uidStore 5 = .ok (.astore 6, 2) := by decide +kernel
theorem dX11_uidStore_7 : decode cX11_uidStore 7 = .ok (.iload 4, 2) := by decide +kernel
theorem dX11_uidStore_9 : decode cX11_uidStore 9 = .ok (.iload 5, 2) := by decide +kernel
theorem dX11_uidStore_11 : decode cX11_uidStore 11 = .ok (.invokestatic 337, 3) := by decide +kernel
theorem dX11_uidStore_14 : decode cX11_uidStore 14 = .ok (.aload_n 0, 1) := by decide +kernel
theorem dX11_uidStore_15 : decode cX11_uidStore 15 = .ok (.aload 6, 2) := by decide +kernel
theorem dX11_uidStore_17 : decode cX11_uidStore 17 = .ok (.invokevirtual 340, 3) := by decide +kernel
theorem dX11_uidStore_20 : decode cX11_uidStore 20 = .ok (.astore 7, 2) := by decide +kernel
theorem dX11_uidStore_22 : decode cX11_uidStore 22 = .ok (.aload_n 0, 1) := by decide +kernel
theorem dX11_uidStore_23 : decode cX11_uidStore 23 = .ok (.aload 6, 2) := by decide +kernel
theorem dX11_uidStore_25 : decode cX11_uidStore 25 = .ok (.invokevirtual 305, 3) := by decide +kernel
theorem dX11_uidStore_28 : decode cX11_uidStore 28 = .ok (.iconst 0, 1) := by decide +kernel
theorem dX11_uidStore_29 : decode cX11_uidStore 29 = .ok (.istore 8, 2) := by decide +kernel
theorem dX11_uidStore_31 : decode cX11_uidStore 31 = .ok (.iconst 0, 1) := by decide +kernel
theorem dX11_uidStore_32 : decode cX11_uidStore 32 = .ok (.istore 9, 2) := by decide +kernel
theorem dX11_uidStore_34 : decode cX11_uidStore 34 = .ok (.iload 9, 2) := by decide +kernel
theorem dX11_uidStore_36 : decode cX11_uidStore 36 = .ok (.aload 7, 2) := by decide +kernel
theorem dX11_uidStore_38 : decode cX11_uidStore 38 = .ok (.invokevirtual 150, 3) := by decide +kernel
theorem dX11_uidStore_41 : decode cX11_uidStore 41 = .ok (.if_icmp .ge 50, 3) := by decide +kernel
theorem dX11_uidStore_44 : decode cX11_uidStore 44 = .ok (.aload 7, 2) := by decide +kernel
theorem dX11_uidStore_46 : decode cX11_uidStore 46 = .ok (.getfield 178, 3) := by decide +kernel
theorem dX11_uidStore_49 : decode cX11_uidStore 49 = .ok (.iload 9, 2) := by decide +kernel
theorem dX11_uidStore_51 : decode cX11_uidStore 51 = .ok (.invokevirtual 182, 3) := by decide +kernel
theorem dX11_uidStore_54 : decode cX11_uidStore 54 = .ok (.istore 10, 2) := by decide +kernel
theorem dX11_uidStore_56 : decode cX11_uidStore 56 = .ok (.iload 10, 2) := by decide +kernel
theorem dX11_uidStore_58 : decode cX11_uidStore 58 = .ok (.iload_n 2, 1) := by decide +kernel
theorem dX11_uidStore_59 : decode cX11_uidStore 59 = .ok (.if_icmp .lt 26, 3) := by decide +kernel
theorem dX11_uidStore_62 : decode cX11_uidStore 62 = .ok (.iload 10, 2) := by decide +kernel
theorem dX11_uidStore_64 : decode cX11_uidStore 64 = .ok (.iload_n 3, 1) := by decide +kernel
theorem dX11_uidStore_65 : decode cX11_uidStore 65 = .ok (.if_icmp .gt 20, 3) := by decide +kernel
theorem dX11_uidStore_68 : decode cX11_uidStore 68 = .ok (.aload 7, 2) := by decide +kernel
theorem dX11_uidStore_70 : decode cX11_uidStore 70 = .ok (.iload 9, 2) := by decide +kernel
theorem dX11_uidStore_72 : decode cX11_uidStore 72 = .ok (.iload 4, 2) := by decide +kernel
theorem dX11_uidStore_74 : decode cX11_uidStore 74 = .ok (.iload 5, 2) := by decide +kernel
theorem dX11_uidStore_76 : decode cX11_uidStore 76 = .ok (.invokevirtual 330, 3) := by decide +kernel
theorem dX11_uidStore_79 : decode cX11_uidStore 79 = .ok (.ifCond .eq 6, 3) := by decide +kernel
theorem dX11_uidStore_82 : decode cX11_uidStore 82 = .ok (.iinc 8 1, 3) := by decide +kernel
theorem dX11_uidStore_85 : decode cX11_uidStore 85 = .ok (.iinc 9 1, 3) := by decide +kernel
theorem dX11_uidStore_88 : decode cX11_uidStore 88 = .ok (.goto (-54), 3) := by decide +kernel
theorem dX11_uidStore_91 : decode cX11_uidStore 91 = .ok (.aload_n 0, 1) := by decide +kernel
theorem dX11_uidStore_92 : decode cX11_uidStore 92 = .ok (.iload_n 1, 1) := by decide +kernel
theorem dX11_uidStore_93 : decode cX11_uidStore 93 = .ok (.iconst 1, 1) := by decide +kernel
theorem dX11_uidStore_94 : decode cX11_uidStore 94 = .ok (.invokevirtual 320, 3) := by decide +kernel
theorem dX11_uidStore_97 : decode cX11_uidStore 97 = .ok (.pop, 1) := by decide +kernel
theorem dX11_uidStore_98 : decode cX11_uidStore 98 = .ok (.iload 8, 2) := by decide +kernel
theorem dX11_uidStore_100 : decode cX11_uidStore 100 = .ok (.ireturn, 1) := by decide +kernel
def mi_X11_uidStore : MI := (RX11, yX11_uidStore, cX11_uidStore, 11, some .int, [], { frames := 10, cells := 4, slots := 24, locals := 176 })
theorem ok_X11_uidStore : mOK mi_X11_uidStore 5 := ⟨rfl, cw_X11_uidStore, ini_X11, ⟨rfl, by decide⟩, by decide, by decide, rfl⟩
theorem v_X11_uidStore_85 (rc34 : Nat → Int32 → Int32 → Int32 → Int32 → Int32 → Nat → Int32 → Int32 → Mem → Option ((Int32 ⊕ String) × Mem)) (h34 : ∀ (l0 : Nat) (l1 : Int32) (l2 : Int32) (l3 : Int32) (l4 : Int32) (l5 : Int32) (l7 : Nat) (l8 : Int32) (l9 : Int32) (M : Mem), V mi_X11_uidStore 34 [(0, .ref l0), (1, .int l1), (2, .int l2), (3, .int l3), (4, .int l4), (5, .int l5), (7, .ref l7), (8, .int l8), (9, .int l9)] [] M 4 24 (rc34 l0 l1 l2 l3 l4 l5 l7 l8 l9 M) tI) (this : Nat) (l1 : Int32) (l2 : Int32) (l3 : Int32) (l4 : Int32) (l5 : Int32) (l7 : Nat) (l8 : Int32) (l9 : Int32) (M : Mem) : V mi_X11_uidStore 85 [(0, .ref this), (1, .int l1), (2, .int l2), (3, .int l3), (4, .int l4), (5, .int l5), (7, .ref l7), (8, .int l8), (9, .int l9)] [] M 4 24 (f_X11_uidStore_85 rc34 this l1 l2 l3 l4 l5 l7 l8 l9 M) tI := by
  unfold f_X11_uidStore_85
  refine V_iinc (y := (l9 + 1)) (L' := [(0, .ref this), (1, .int l1), (2, .int l2), (3, .int l3), (4, .int l4), (5, .int l5), (7, .ref l7), (8, .int l8), (9, .int (l9 + 1))]) dX11_uidStore_85 rfl 8 rfl rfl (by decide) rfl ?_
  refine V_goto (q := 34) dX11_uidStore_88 (by decide) ?_
  exact h34 this l1 l2 l3 l4 l5 l7 l8 (l9 + 1) M
theorem v_X11_uidStore_34 : ∀ (fu : Nat) (this : Nat) (l1 : Int32) (l2 : Int32) (l3 : Int32) (l4 : Int32) (l5 : Int32) (l7 : Nat) (l8 : Int32) (l9 : Int32) (M : Mem), V mi_X11_uidStore 34 [(0, .ref this), (1, .int l1), (2, .int l2), (3, .int l3), (4, .int l4), (5, .int l5), (7, .ref l7), (8, .int l8), (9, .int l9)] [] M 4 24 (f_X11_uidStore_34 fu this l1 l2 l3 l4 l5 l7 l8 l9 M) tI := by
  intro fu
  induction fu with
  | zero => intros; exact V_none
  | succ fu ih =>
    intro this l1 l2 l3 l4 l5 l7 l8 l9 M
    show V mi_X11_uidStore 34 [(0, .ref this), (1, .int l1), (2, .int l2), (3, .int l3), (4, .int l4), (5, .int l5), (7, .ref l7), (8, .int l8), (9, .int l9)] [] M 4 24 (f_X11_uidStore_34 (fu + 1) this l1 l2 l3 l4 l5 l7 l8 l9 M) tI
    unfold f_X11_uidStore_34
    refine V_iload dX11_uidStore_34 rfl 8 rfl ?_
    refine V_aload dX11_uidStore_36 rfl 6 rfl ?_
    refine V_cVeI (As := []) (k_X0_size l7 M) (fun _ h => o_X0_size h) ok_X0_size im_X0_size se_X0_size rfl (ci := 0) rfl ml_X11_150 ⟨⟨(Nat.le_of_ble_eq_true rfl), (Nat.le_of_ble_eq_true rfl)⟩, (Nat.le_of_ble_eq_true rfl), (Nat.le_of_ble_eq_true rfl)⟩ dX11_uidStore_38 rfl rfl rfl (Nat.le_of_ble_eq_true rfl) rfl rfl (fun x9 => ?_)
    refine V_icmp_ge (q := 91) (q2 := 44) dX11_uidStore_41 (by decide) rfl ?_ ?_
    · refine V_aload_n dX11_uidStore_91 rfl 0 rfl ?_
      refine V_iload_n dX11_uidStore_92 rfl 1 rfl ?_
      refine V_iconst (x := 1) dX11_uidStore_93 rfl rfl ?_
      refine V_cVwI (As := [.int l1, .int (b2i true)]) (k_X11_endCommand this l1 true M) (fun _ h => o_X11_endCommand h) ok_X11_endCommand im_X11_endCommand se_X11_endCommand rfl (ci := 10) rfl ml_X11_320 ⟨⟨(Nat.le_of_ble_eq_true rfl), (Nat.le_of_ble_eq_true rfl)⟩, (Nat.le_of_ble_eq_true rfl), (Nat.le_of_ble_eq_true rfl)⟩ dX11_uidStore_94 rfl rfl rfl (Nat.le_of_ble_eq_true rfl) rfl rfl (fun x10 M11 => ?_)
      refine V_pop dX11_uidStore_97 rfl rfl ?_
      refine V_iload dX11_uidStore_98 rfl 7 rfl ?_
      exact V_iret dX11_uidStore_100 rfl rfl ⟨(Nat.le_of_ble_eq_true rfl), (Nat.le_of_ble_eq_true rfl)⟩
    · refine V_aload dX11_uidStore_44 rfl 6 rfl ?_
      refine V_getR dX11_uidStore_46 rfl (ci := 0) (T := TX0) rfl (by decide) fl_X11_178 (fun x12 => ?_)
      refine V_iload dX11_uidStore_49 rfl 8 rfl ?_
      refine V_cVeI (As := [.int l9]) (k_X5_get x12 l9 M) (fun _ h => o_X5_get h) ok_X5_get im_X5_get se_X5_get rfl (ci := 4) rfl ml_X11_182 ⟨⟨(Nat.le_of_ble_eq_true rfl), (Nat.le_of_ble_eq_true rfl)⟩, (Nat.le_of_ble_eq_true rfl), (Nat.le_of_ble_eq_true rfl)⟩ dX11_uidStore_51 rfl rfl rfl (Nat.le_of_ble_eq_true rfl) rfl rfl (fun x13 => ?_)
      refine V_istore (L' := [(0, .ref this), (1, .int l1), (2, .int l2), (3, .int l3), (4, .int l4), (5, .int l5), (7, .ref l7), (8, .int l8), (9, .int l9), (10, .int x13)]) dX11_uidStore_54 rfl (by decide) rfl ?_
      refine V_iload dX11_uidStore_56 rfl 9 rfl ?_
      refine V_iload_n dX11_uidStore_58 rfl 2 rfl ?_
      refine V_icmp_lt (q := 85) (q2 := 62) dX11_uidStore_59 (by decide) rfl ?_ ?_
      · exact V_sub [0, 1, 2, 3, 4, 5, 6, 7, 8] rfl (v_X11_uidStore_85 (f_X11_uidStore_34 fu) ih this l1 l2 l3 l4 l5 l7 l8 l9 M)
      · refine V_iload dX11_uidStore_62 rfl 9 rfl ?_
        refine V_iload_n dX11_uidStore_64 rfl 3 rfl ?_
        refine V_icmp_gt (q := 85) (q2 := 68) dX11_uidStore_65 (by decide) rfl ?_ ?_
        · exact V_sub [0, 1, 2, 3, 4, 5, 6, 7, 8] rfl (v_X11_uidStore_85 (f_X11_uidStore_34 fu) ih this l1 l2 l3 l4 l5 l7 l8 l9 M)
        · refine V_aload dX11_uidStore_68 rfl 6 rfl ?_
          refine V_iload dX11_uidStore_70 rfl 8 rfl ?_
          refine V_iload dX11_uidStore_72 rfl 4 rfl ?_
          refine V_iload dX11_uidStore_74 rfl 5 rfl ?_
          refine V_cVwZ (As := [.int l9, .int l4, .int l5]) (k_X0_changeFlags l7 l9 l4 l5 M) (fun _ h => o_X0_changeFlags h) ok_X0_changeFlags im_X0_changeFlags se_X0_changeFlags rfl (ci := 0) rfl ml_X11_330 ⟨⟨(Nat.le_of_ble_eq_true rfl), (Nat.le_of_ble_eq_true rfl)⟩, (Nat.le_of_ble_eq_true rfl), (Nat.le_of_ble_eq_true rfl)⟩ dX11_uidStore_76 rfl rfl rfl (Nat.le_of_ble_eq_true rfl) rfl rfl (fun x14 M15 => ?_)
          refine V_ifz_eq (q := 85) (q2 := 82) dX11_uidStore_79 (by decide) rfl ?_ ?_
          · exact V_sub [0, 1, 2, 3, 4, 5, 6, 7, 8] rfl (v_X11_uidStore_85 (f_X11_uidStore_34 fu) ih this l1 l2 l3 l4 l5 l7 l8 l9 M15)
          · refine V_iinc (y := (l8 + 1)) (L' := [(0, .ref this), (1, .int l1), (2, .int l2), (3, .int l3), (4, .int l4), (5, .int l5), (7, .ref l7), (8, .int (l8 + 1)), (9, .int l9), (10, .int x13)]) dX11_uidStore_82 rfl 7 rfl rfl (by decide) rfl ?_
            exact V_sub [0, 1, 2, 3, 4, 5, 6, 7, 8] rfl (v_X11_uidStore_85 (f_X11_uidStore_34 fu) ih this l1 l2 l3 l4 l5 l7 (l8 + 1) l9 M15)
theorem v_X11_uidStore (this : Nat) (a1 : Int32) (a2 : Int32) (a3 : Int32) (a4 : Int32) (a5 : Int32) (M : Mem) : V mi_X11_uidStore 0 [(0, .ref this), (1, .int a1), (2, .int a2), (3, .int a3), (4, .int a4), (5, .int a5)] [] M 0 0 (f_X11_uidStore this a1 a2 a3 a4 a5 M) tI := by
  unfold f_X11_uidStore
  refine V_ob fun _ _ => ?_
  refine V_aload_n dX11_uidStore_0 rfl 0 rfl ?_
  refine V_iload_n dX11_uidStore_1 rfl 1 rfl ?_
  refine V_cVtR (As := [.int a1]) (k_X11_requireSession this a1 M) rfl (fun _ _ => rfl) (fun _ h => o_X11_requireSession h) ok_X11_requireSession im_X11_requireSession se_X11_requireSession rfl (ci := 10) rfl ml_X11_198 ⟨⟨(Nat.le_of_ble_eq_true rfl), (Nat.le_of_ble_eq_true rfl)⟩, (Nat.le_of_ble_eq_true rfl), (Nat.le_of_ble_eq_true rfl)⟩ dX11_uidStore_2 rfl rfl rfl (Nat.le_of_ble_eq_true rfl) rfl rfl (fun x1 M2 => ?_)
  refine V_astore (L' := [(0, .ref this), (1, .int a1), (2, .int a2), (3, .int a3), (4, .int a4), (5, .int a5), (6, .ref x1)]) dX11_uidStore_5 rfl (by decide) rfl ?_
  refine V_iload dX11_uidStore_7 rfl 4 rfl ?_
  refine V_iload dX11_uidStore_9 rfl 5 rfl ?_
  refine V_cStV (As := [.int a4, .int a5]) (k_X11_requireModeAndFlags a4 a5 M2) rfl (fun _ _ => rfl) ok_X11_requireModeAndFlags sm_X11_requireModeAndFlags ml_X11_337 ⟨⟨(Nat.le_of_ble_eq_true rfl), (Nat.le_of_ble_eq_true rfl)⟩, (Nat.le_of_ble_eq_true rfl), (Nat.le_of_ble_eq_true rfl)⟩ dX11_uidStore_11 rfl rfl rfl (Nat.le_of_ble_eq_true rfl) rfl rfl (fun M4 => ?_)
  refine V_aload_n dX11_uidStore_14 rfl 0 rfl ?_
  refine V_aload dX11_uidStore_15 rfl 6 rfl ?_
  refine V_cVtR (As := [.ref x1]) (k_X11_requireWriting this x1 M4) rfl (fun _ _ => rfl) (fun _ h => o_X11_requireWriting h) ok_X11_requireWriting im_X11_requireWriting se_X11_requireWriting rfl (ci := 10) rfl ml_X11_340 ⟨⟨(Nat.le_of_ble_eq_true rfl), (Nat.le_of_ble_eq_true rfl)⟩, (Nat.le_of_ble_eq_true rfl), (Nat.le_of_ble_eq_true rfl)⟩ dX11_uidStore_17 rfl rfl rfl (Nat.le_of_ble_eq_true rfl) rfl rfl (fun x5 M6 => ?_)
  refine V_astore (L' := [(0, .ref this), (1, .int a1), (2, .int a2), (3, .int a3), (4, .int a4), (5, .int a5), (6, .ref x1), (7, .ref x5)]) dX11_uidStore_20 rfl (by decide) rfl ?_
  refine V_aload_n dX11_uidStore_22 rfl 0 rfl ?_
  refine V_aload dX11_uidStore_23 rfl 6 rfl ?_
  refine V_cVwV (As := [.ref x1]) (k_X11_beginCommand this x1 M6) (fun _ h => o_X11_beginCommand h) ok_X11_beginCommand im_X11_beginCommand se_X11_beginCommand rfl (ci := 10) rfl ml_X11_305 ⟨⟨(Nat.le_of_ble_eq_true rfl), (Nat.le_of_ble_eq_true rfl)⟩, (Nat.le_of_ble_eq_true rfl), (Nat.le_of_ble_eq_true rfl)⟩ dX11_uidStore_25 rfl rfl rfl (Nat.le_of_ble_eq_true rfl) rfl rfl (fun M8 => ?_)
  refine V_iconst (x := 0) dX11_uidStore_28 rfl rfl ?_
  refine V_istore (L' := [(0, .ref this), (1, .int a1), (2, .int a2), (3, .int a3), (4, .int a4), (5, .int a5), (6, .ref x1), (7, .ref x5), (8, .int 0)]) dX11_uidStore_29 rfl (by decide) rfl ?_
  refine V_iconst (x := 0) dX11_uidStore_31 rfl rfl ?_
  refine V_istore (L' := [(0, .ref this), (1, .int a1), (2, .int a2), (3, .int a3), (4, .int a4), (5, .int a5), (6, .ref x1), (7, .ref x5), (8, .int 0), (9, .int 0)]) dX11_uidStore_32 rfl (by decide) rfl ?_
  exact V_sub [0, 1, 2, 3, 4, 5, 7, 8, 9] rfl (v_X11_uidStore_34 FU this a1 a2 a3 a4 a5 x5 0 0 M8)
theorem k_X11_uidStore (this : Nat) (a1 : Int32) (a2 : Int32) (a3 : Int32) (a4 : Int32) (a5 : Int32) (M : Mem) : K mi_X11_uidStore [.ref this, .int a1, .int a2, .int a3, .int a4, .int a5] M (f_X11_uidStore this a1 a2 a3 a4 a5 M) tI := K_of_V ok_X11_uidStore (Nat.le_of_ble_eq_true rfl) (v_X11_uidStore this a1 a2 a3 a4 a5 M)
theorem o_X11_uidStore {this : Nat} {a1 : Int32} {a2 : Int32} {a3 : Int32} {a4 : Int32} {a5 : Int32} {M : Mem} {x} (h : f_X11_uidStore this a1 a2 a3 a4 a5 M = some x) : isO M 10 this = true := (ob_of h).1
theorem dX11_expunge_0 : decode cX11_expunge 0 = .ok (.aload_n 0, 1) := by decide +kernel
theorem dX11_expunge_1 : decode cX11_expunge 1 = .ok (.iload_n 1, 1) := by decide +kernel
theorem dX11_expunge_2 : decode cX11_expunge 2 = .ok (.invokevirtual 198, 3) := by decide +kernel
theorem dX11_expunge_5 : decode cX11_expunge 5 = .ok (.astore_n 2, 1) := by decide +kernel
theorem dX11_expunge_6 : decode cX11_expunge 6 = .ok (.aload_n 0, 1) := by decide +kernel
theorem dX11_expunge_7 : decode cX11_expunge 7 = .ok (.aload_n 2, 1) := by decide +kernel
theorem dX11_expunge_8 : decode cX11_expunge 8 = .ok (.invokevirtual 340, 3) := by decide +kernel
theorem dX11_expunge_11 : decode cX11_expunge 11 = .ok (.astore_n 3, 1) := by decide +kernel
theorem dX11_expunge_12 : decode cX11_expunge 12 = .ok (.aload_n 0, 1) := by decide +kernel
theorem dX11_expunge_13 : decode cX11_expunge 13 = .ok (.aload_n 2, 1) := by decide +kernel
theorem dX11_expunge_14 : decode cX11_expunge 14 = .ok (.invokevirtual 305, 3) := by decide +kernel
theorem dX11_expunge_17 : decode cX11_expunge 17 = .ok (.aload_n 3, 1) := by decide +kernel
theorem dX11_expunge_18 : decode cX11_expunge 18 = .ok (.iconst 1, 1) := by decide +kernel
theorem dX11_expunge_19 : decode cX11_expunge 19 = .ok (.aload_n 3, 1) := by decide +kernel
theorem dX11_expunge_20 : decode cX11_expunge 20 = .ok (.getfield 153, 3) := by decide +kernel
theorem dX11_expunge_23 : decode cX11_expunge 23 = .ok (.invokevirtual 355, 3) := by decide +kernel
theorem dX11_expunge_26 : decode cX11_expunge 26 = .ok (.istore 4, 2) := by decide +kernel
theorem dX11_expunge_28 : decode cX11_expunge 28 = .ok (.aload_n 0, 1) := by decide +kernel
theorem dX11_expunge_29 : decode cX11_expunge 29 = .ok (.iload_n 1, 1) := by decide +kernel
theorem dX11_expunge_30 : decode cX11_expunge 30 = .ok (.iconst 1, 1) := by decide +kernel
theorem dX11_expunge_31 : decode cX11_expunge 31 = .ok (.invokevirtual 320, 3) := by decide +kernel
theorem dX11_expunge_34 : decode cX11_expunge 34 = .ok (.pop, 1) := by decide +kernel
theorem dX11_expunge_35 : decode cX11_expunge 35 = .ok (.iload 4, 2) := by decide +kernel
theorem dX11_expunge_37 : decode cX11_expunge 37 = .ok (.ireturn, 1) := by decide +kernel
def mi_X11_expunge : MI := (RX11, yX11_expunge, cX11_expunge, 5, some .int, [], { frames := 10, cells := 3, slots := 18, locals := 176 })
theorem ok_X11_expunge : mOK mi_X11_expunge 1 := ⟨rfl, cw_X11_expunge, ini_X11, ⟨rfl, by decide⟩, by decide, by decide, rfl⟩
theorem v_X11_expunge (this : Nat) (a1 : Int32) (M : Mem) : V mi_X11_expunge 0 [(0, .ref this), (1, .int a1)] [] M 0 0 (f_X11_expunge this a1 M) tI := by
  unfold f_X11_expunge
  refine V_ob fun _ _ => ?_
  refine V_aload_n dX11_expunge_0 rfl 0 rfl ?_
  refine V_iload_n dX11_expunge_1 rfl 1 rfl ?_
  refine V_cVtR (As := [.int a1]) (k_X11_requireSession this a1 M) rfl (fun _ _ => rfl) (fun _ h => o_X11_requireSession h) ok_X11_requireSession im_X11_requireSession se_X11_requireSession rfl (ci := 10) rfl ml_X11_198 ⟨⟨(Nat.le_of_ble_eq_true rfl), (Nat.le_of_ble_eq_true rfl)⟩, (Nat.le_of_ble_eq_true rfl), (Nat.le_of_ble_eq_true rfl)⟩ dX11_expunge_2 rfl rfl rfl (Nat.le_of_ble_eq_true rfl) rfl rfl (fun x1 M2 => ?_)
  refine V_astore_n (L' := [(0, .ref this), (1, .int a1), (2, .ref x1)]) dX11_expunge_5 rfl (by decide) rfl ?_
  refine V_aload_n dX11_expunge_6 rfl 0 rfl ?_
  refine V_aload_n dX11_expunge_7 rfl 2 rfl ?_
  refine V_cVtR (As := [.ref x1]) (k_X11_requireWriting this x1 M2) rfl (fun _ _ => rfl) (fun _ h => o_X11_requireWriting h) ok_X11_requireWriting im_X11_requireWriting se_X11_requireWriting rfl (ci := 10) rfl ml_X11_340 ⟨⟨(Nat.le_of_ble_eq_true rfl), (Nat.le_of_ble_eq_true rfl)⟩, (Nat.le_of_ble_eq_true rfl), (Nat.le_of_ble_eq_true rfl)⟩ dX11_expunge_8 rfl rfl rfl (Nat.le_of_ble_eq_true rfl) rfl rfl (fun x3 M4 => ?_)
  refine V_astore_n (L' := [(0, .ref this), (1, .int a1), (2, .ref x1), (3, .ref x3)]) dX11_expunge_11 rfl (by decide) rfl ?_
  refine V_aload_n dX11_expunge_12 rfl 0 rfl ?_
  refine V_aload_n dX11_expunge_13 rfl 2 rfl ?_
  refine V_cVwV (As := [.ref x1]) (k_X11_beginCommand this x1 M4) (fun _ h => o_X11_beginCommand h) ok_X11_beginCommand im_X11_beginCommand se_X11_beginCommand rfl (ci := 10) rfl ml_X11_305 ⟨⟨(Nat.le_of_ble_eq_true rfl), (Nat.le_of_ble_eq_true rfl)⟩, (Nat.le_of_ble_eq_true rfl), (Nat.le_of_ble_eq_true rfl)⟩ dX11_expunge_14 rfl rfl rfl (Nat.le_of_ble_eq_true rfl) rfl rfl (fun M6 => ?_)
  refine V_aload_n dX11_expunge_17 rfl 3 rfl ?_
  refine V_iconst (x := 1) dX11_expunge_18 rfl rfl ?_
  refine V_aload_n dX11_expunge_19 rfl 3 rfl ?_
  refine V_getI dX11_expunge_20 rfl (ci := 0) (T := TX0) rfl (by decide) fl_X11_153 (fun x7 => ?_)
  refine V_cVwI (As := [.int 1, .int x7]) (k_X0_removeDeleted x3 1 x7 M6) (fun _ h => o_X0_removeDeleted h) ok_X0_removeDeleted im_X0_removeDeleted se_X0_removeDeleted rfl (ci := 0) rfl ml_X11_355 ⟨⟨(Nat.le_of_ble_eq_true rfl), (Nat.le_of_ble_eq_true rfl)⟩, (Nat.le_of_ble_eq_true rfl), (Nat.le_of_ble_eq_true rfl)⟩ dX11_expunge_23 rfl rfl rfl (Nat.le_of_ble_eq_true rfl) rfl rfl (fun x8 M9 => ?_)
  refine V_istore (L' := [(0, .ref this), (1, .int a1), (2, .ref x1), (3, .ref x3), (4, .int x8)]) dX11_expunge_26 rfl (by decide) rfl ?_
  refine V_aload_n dX11_expunge_28 rfl 0 rfl ?_
  refine V_iload_n dX11_expunge_29 rfl 1 rfl ?_
  refine V_iconst (x := 1) dX11_expunge_30 rfl rfl ?_
  refine V_cVwI (As := [.int a1, .int (b2i true)]) (k_X11_endCommand this a1 true M9) (fun _ h => o_X11_endCommand h) ok_X11_endCommand im_X11_endCommand se_X11_endCommand rfl (ci := 10) rfl ml_X11_320 ⟨⟨(Nat.le_of_ble_eq_true rfl), (Nat.le_of_ble_eq_true rfl)⟩, (Nat.le_of_ble_eq_true rfl), (Nat.le_of_ble_eq_true rfl)⟩ dX11_expunge_31 rfl rfl rfl (Nat.le_of_ble_eq_true rfl) rfl rfl (fun x10 M11 => ?_)
  refine V_pop dX11_expunge_34 rfl rfl ?_
  refine V_iload dX11_expunge_35 rfl 4 rfl ?_
  exact V_iret dX11_expunge_37 rfl rfl ⟨(Nat.le_of_ble_eq_true rfl), (Nat.le_of_ble_eq_true rfl)⟩
theorem k_X11_expunge (this : Nat) (a1 : Int32) (M : Mem) : K mi_X11_expunge [.ref this, .int a1] M (f_X11_expunge this a1 M) tI := K_of_V ok_X11_expunge (Nat.le_of_ble_eq_true rfl) (v_X11_expunge this a1 M)
theorem o_X11_expunge {this : Nat} {a1 : Int32} {M : Mem} {x} (h : f_X11_expunge this a1 M = some x) : isO M 10 this = true := (ob_of h).1
theorem dX11_requireRoom_0 : decode cX11_requireRoom 0 = .ok (.iload_n 2, 1) := by decide +kernel
theorem dX11_requireRoom_1 : decode cX11_requireRoom 1 = .ok (.ifCond .le 30, 3) := by decide +kernel
theorem dX11_requireRoom_4 : decode cX11_requireRoom 4 = .ok (.aload_n 1, 1) := by decide +kernel
theorem dX11_requireRoom_5 : decode cX11_requireRoom 5 = .ok (.invokevirtual 150, 3) := by decide +kernel
theorem dX11_requireRoom_8 : decode cX11_requireRoom 8 = .ok (.iload_n 2, 1) := by decide +kernel
theorem dX11_requireRoom_9 : decode cX11_requireRoom 9 = .ok (.iadd, 1) := by decide +kernel
theorem dX11_requireRoom_10 : decode cX11_requireRoom 10 = .ok (.aload_n 0, 1) := by decide +kernel
theorem dX11_requireRoom_11 : decode cX11_requireRoom 11 = .ok (.getfield 24, 3) := by decide +kernel
theorem dX11_requireRoom_14 : decode cX11_requireRoom 14 = .ok (.getfield 140, 3) := by decide +kernel
theorem dX11_requireRoom_17 : decode cX11_requireRoom 17 = .ok (.if_icmp .le 14, 3) := by decide +kernel
theorem dX11_requireRoom_20 : decode cX11_requireRoom 20 = .ok (.new 89, 3) := by decide +kernel
theorem dX11_requireRoom_23 : decode cX11_requireRoom 23 = .ok (.dup, 1) := by decide +kernel
theorem dX11_requireRoom_24 : decode cX11_requireRoom 24 = .ok (.ldc_w 441, 3) := by decide +kernel
theorem dX11_requireRoom_27 : decode cX11_requireRoom 27 = .ok (.invokespecial 93, 3) := by decide +kernel
theorem dX11_requireRoom_30 : decode cX11_requireRoom 30 = .ok (.athrow, 1) := by decide +kernel
theorem dX11_requireRoom_31 : decode cX11_requireRoom 31 = .ok (.return_, 1) := by decide +kernel
def mi_X11_requireRoom : MI := (RX11, yX11_requireRoom, cX11_requireRoom, 3, none, [], { frames := 8, cells := 1, slots := 6, locals := 120 })
theorem ok_X11_requireRoom : mOK mi_X11_requireRoom 2 := ⟨rfl, cw_X11_requireRoom, ini_X11, ⟨rfl, by decide⟩, by decide, by decide, rfl⟩
theorem v_X11_requireRoom (this : Nat) (a1 : Nat) (a2 : Int32) (M : Mem) : V mi_X11_requireRoom 0 [(0, .ref this), (1, .ref a1), (2, .int a2)] [] M 0 0 (f_X11_requireRoom this a1 a2 M) tV := by
  unfold f_X11_requireRoom
  refine V_ob fun _ _ => ?_
  refine V_iload_n dX11_requireRoom_0 rfl 2 rfl ?_
  refine V_if_le (q := 31) (q2 := 4) dX11_requireRoom_1 (by decide) rfl ?_ ?_
  · exact V_vret dX11_requireRoom_31 rfl rfl ⟨(Nat.le_of_ble_eq_true rfl), (Nat.le_of_ble_eq_true rfl)⟩
  · refine V_aload_n dX11_requireRoom_4 rfl 1 rfl ?_
    refine V_cVeI (As := []) (k_X0_size a1 M) (fun _ h => o_X0_size h) ok_X0_size im_X0_size se_X0_size rfl (ci := 0) rfl ml_X11_150 ⟨⟨(Nat.le_of_ble_eq_true rfl), (Nat.le_of_ble_eq_true rfl)⟩, (Nat.le_of_ble_eq_true rfl), (Nat.le_of_ble_eq_true rfl)⟩ dX11_requireRoom_5 rfl rfl rfl (Nat.le_of_ble_eq_true rfl) rfl rfl (fun x1 => ?_)
    refine V_iload_n dX11_requireRoom_8 rfl 2 rfl ?_
    refine V_iadd dX11_requireRoom_9 rfl ?_
    refine V_aload_n dX11_requireRoom_10 rfl 0 rfl ?_
    refine V_getR dX11_requireRoom_11 rfl (ci := 10) (T := TX11) rfl (by decide) fl_X11_24 (fun x2 => ?_)
    refine V_getI dX11_requireRoom_14 rfl (ci := 7) (T := TX8) rfl (by decide) fl_X11_140 (fun x3 => ?_)
    refine V_icmp_le (q := 31) (q2 := 20) dX11_requireRoom_17 (by decide) rfl ?_ ?_
    · exact V_vret dX11_requireRoom_31 rfl rfl ⟨(Nat.le_of_ble_eq_true rfl), (Nat.le_of_ble_eq_true rfl)⟩
    · exact V_throwW th_X11_89_93 sr_X11_441 rfl dX11_requireRoom_20 dX11_requireRoom_23 dX11_requireRoom_24 dX11_requireRoom_27 dX11_requireRoom_30 ⟨(Nat.le_of_ble_eq_true rfl), (Nat.le_of_ble_eq_true rfl)⟩ ⟨(Nat.le_of_ble_eq_true rfl), (Nat.le_of_ble_eq_true rfl)⟩ rfl
theorem k_X11_requireRoom (this : Nat) (a1 : Nat) (a2 : Int32) (M : Mem) : K mi_X11_requireRoom [.ref this, .ref a1, .int a2] M (f_X11_requireRoom this a1 a2 M) tV := K_of_V ok_X11_requireRoom (Nat.le_of_ble_eq_true rfl) (v_X11_requireRoom this a1 a2 M)
theorem o_X11_requireRoom {this : Nat} {a1 : Nat} {a2 : Int32} {M : Mem} {x} (h : f_X11_requireRoom this a1 a2 M = some x) : isO M 10 this = true := (ob_of h).1
theorem dX11_copy_0 : decode cX11_copy 0 = .ok (.aload_n 0, 1) := by decide +kernel
theorem dX11_copy_1 : decode cX11_copy 1 = .ok (.iload_n 1, 1) := by decide +kernel
theorem dX11_copy_2 : decode cX11_copy 2 = .ok (.invokevirtual 198, 3) := by decide +kernel
theorem dX11_copy_5 : decode cX11_copy 5 = .ok (.astore 5, 2) := by decide +kernel
theorem dX11_copy_7 : decode cX11_copy 7 = .ok (.aload 5, 2) := by decide +kernel
theorem dX11_copy_9 : decode cX11_copy 9 = .ok (.iload_n 2, 1) := by decide +kernel
theorem dX11_copy_10 : decode cX11_copy 10 = .ok (.invokestatic 231, 3) := by decide +kernel
theorem dX11_copy_13 : decode cX11_copy 13 = .ok (.aload 5, 2) := by decide +kernel
theorem dX11_copy_15 : decode cX11_copy 15 = .ok (.iload_n 3, 1) := by decide +kernel
theorem dX11_copy_16 : decode cX11_copy 16 = .ok (.invokestatic 231, 3) := by decide +kernel
theorem dX11_copy_19 : decode cX11_copy 19 = .ok (.aload_n 0, 1) := by decide +kernel
theorem dX11_copy_20 : decode cX11_copy 20 = .ok (.iload 4, 2) := by decide +kernel
theorem dX11_copy_22 : decode cX11_copy 22 = .ok (.invokevirtual 146, 3) := by decide +kernel
theorem dX11_copy_25 : decode cX11_copy 25 = .ok (.astore 6, 2) := by decide +kernel
theorem dX11_copy_27 : decode cX11_copy 27 = .ok (.iload_n 2, 1) := by decide +kernel
theorem dX11_copy_28 : decode cX11_copy 28 = .ok (.iload_n 3, 1) := by decide +kernel
theorem dX11_copy_29 : decode cX11_copy 29 = .ok (.invokestatic 326, 3) := by decide +kernel
theorem dX11_copy_32 : decode cX11_copy 32 = .ok (.aload_n 0, 1) := by decide +kernel
theorem dX11_copy_33 : decode cX11_copy 33 = .ok (.aload 5, 2) := by decide +kernel
theorem dX11_copy_35 : decode cX11_copy 35 = .ok (.invokevirtual 317, 3) := by decide +kernel
theorem dX11_copy_38 : decode cX11_copy 38 = .ok (.astore 7, 2) := by decide +kernel
theorem dX11_copy_40 : decode cX11_copy 40 = .ok (.aload_n 0, 1) := by decide +kernel
theorem dX11_copy_41 : decode cX11_copy 41 = .ok (.aload 6, 2) := by decide +kernel
theorem dX11_copy_43 : decode cX11_copy 43 = .ok (.aload 5, 2) := by decide +kernel
theorem dX11_copy_45 : decode cX11_copy 45 = .ok (.aload 7, 2) := by decide +kernel
theorem dX11_copy_47 : decode cX11_copy 47 = .ok (.iload_n 2, 1) := by decide +kernel
theorem dX11_copy_48 : decode cX11_copy 48 = .ok (.iload_n 3, 1) := by decide +kernel
theorem dX11_copy_49 : decode cX11_copy 49 = .ok (.invokevirtual 358, 3) := by decide +kernel
theorem dX11_copy_52 : decode cX11_copy 52 = .ok (.invokevirtual 362, 3) := by decide +kernel
theorem dX11_copy_55 : decode cX11_copy 55 = .ok (.aload_n 0, 1) := by decide +kernel
theorem dX11_copy_56 : decode cX11_copy 56 = .ok (.aload 5, 2) := by decide +kernel
theorem dX11_copy_58 : decode cX11_copy 58 = .ok (.invokevirtual 305, 3) := by decide +kernel
theorem dX11_copy_61 : decode cX11_copy 61 = .ok (.aload 5, 2) := by decide +kernel
theorem dX11_copy_63 : decode cX11_copy 63 = .ok (.aload 7, 2) := by decide +kernel
theorem dX11_copy_65 : decode cX11_copy 65 = .ok (.iload_n 2, 1) := by decide +kernel
theorem dX11_copy_66 : decode cX11_copy 66 = .ok (.iload_n 3, 1) := by decide +kernel
theorem dX11_copy_67 : decode cX11_copy 67 = .ok (.aload 6, 2) := by decide +kernel
theorem dX11_copy_69 : decode cX11_copy 69 = .ok (.invokevirtual 366, 3) := by decide +kernel
theorem dX11_copy_72 : decode cX11_copy 72 = .ok (.istore 8, 2) := by decide +kernel
theorem dX11_copy_74 : decode cX11_copy 74 = .ok (.aload_n 0, 1) := by decide +kernel
theorem dX11_copy_75 : decode cX11_copy 75 = .ok (.iload_n 1, 1) := by decide +kernel
theorem dX11_copy_76 : decode cX11_copy 76 = .ok (.iconst 1, 1) := by decide +kernel
theorem dX11_copy_77 : decode cX11_copy 77 = .ok (.invokevirtual 320, 3) := by decide +kernel
theorem dX11_copy_80 : decode cX11_copy 80 = .ok (.pop, 1) := by decide +kernel
theorem dX11_copy_81 : decode cX11_copy 81 = .ok (.iload 8, 2) := by decide +kernel
theorem dX11_copy_83 : decode cX11_copy 83 = .ok (.ireturn, 1) := by decide +kernel
def mi_X11_copy : MI := (RX11, yX11_copy, cX11_copy, 9, some .int, [], { frames := 9, cells := 7, slots := 42, locals := 176 })
theorem ok_X11_copy : mOK mi_X11_copy 4 := ⟨rfl, cw_X11_copy, ini_X11, ⟨rfl, by decide⟩, by decide, by decide, rfl⟩
theorem v_X11_copy (this : Nat) (a1 : Int32) (a2 : Int32) (a3 : Int32) (a4 : Int32) (M : Mem) : V mi_X11_copy 0 [(0, .ref this), (1, .int a1), (2, .int a2), (3, .int a3), (4, .int a4)] [] M 0 0 (f_X11_copy this a1 a2 a3 a4 M) tI := by
  unfold f_X11_copy
  refine V_ob fun _ _ => ?_
  refine V_aload_n dX11_copy_0 rfl 0 rfl ?_
  refine V_iload_n dX11_copy_1 rfl 1 rfl ?_
  refine V_cVtR (As := [.int a1]) (k_X11_requireSession this a1 M) rfl (fun _ _ => rfl) (fun _ h => o_X11_requireSession h) ok_X11_requireSession im_X11_requireSession se_X11_requireSession rfl (ci := 10) rfl ml_X11_198 ⟨⟨(Nat.le_of_ble_eq_true rfl), (Nat.le_of_ble_eq_true rfl)⟩, (Nat.le_of_ble_eq_true rfl), (Nat.le_of_ble_eq_true rfl)⟩ dX11_copy_2 rfl rfl rfl (Nat.le_of_ble_eq_true rfl) rfl rfl (fun x1 M2 => ?_)
  refine V_astore (L' := [(0, .ref this), (1, .int a1), (2, .int a2), (3, .int a3), (4, .int a4), (5, .ref x1)]) dX11_copy_5 rfl (by decide) rfl ?_
  refine V_aload dX11_copy_7 rfl 5 rfl ?_
  refine V_iload_n dX11_copy_9 rfl 2 rfl ?_
  refine V_cStV (As := [.ref x1, .int a2]) (k_X11_requireEntry x1 a2 M2) rfl (fun _ _ => rfl) ok_X11_requireEntry sm_X11_requireEntry ml_X11_231 ⟨⟨(Nat.le_of_ble_eq_true rfl), (Nat.le_of_ble_eq_true rfl)⟩, (Nat.le_of_ble_eq_true rfl), (Nat.le_of_ble_eq_true rfl)⟩ dX11_copy_10 rfl rfl rfl (Nat.le_of_ble_eq_true rfl) rfl rfl (fun M4 => ?_)
  refine V_aload dX11_copy_13 rfl 5 rfl ?_
  refine V_iload_n dX11_copy_15 rfl 3 rfl ?_
  refine V_cStV (As := [.ref x1, .int a3]) (k_X11_requireEntry x1 a3 M4) rfl (fun _ _ => rfl) ok_X11_requireEntry sm_X11_requireEntry ml_X11_231 ⟨⟨(Nat.le_of_ble_eq_true rfl), (Nat.le_of_ble_eq_true rfl)⟩, (Nat.le_of_ble_eq_true rfl), (Nat.le_of_ble_eq_true rfl)⟩ dX11_copy_16 rfl rfl rfl (Nat.le_of_ble_eq_true rfl) rfl rfl (fun M6 => ?_)
  refine V_aload_n dX11_copy_19 rfl 0 rfl ?_
  refine V_iload dX11_copy_20 rfl 4 rfl ?_
  refine V_cVtR (As := [.int a4]) (k_X11_requireBox this a4 M6) rfl (fun _ _ => rfl) (fun _ h => o_X11_requireBox h) ok_X11_requireBox im_X11_requireBox se_X11_requireBox rfl (ci := 10) rfl ml_X11_146 ⟨⟨(Nat.le_of_ble_eq_true rfl), (Nat.le_of_ble_eq_true rfl)⟩, (Nat.le_of_ble_eq_true rfl), (Nat.le_of_ble_eq_true rfl)⟩ dX11_copy_22 rfl rfl rfl (Nat.le_of_ble_eq_true rfl) rfl rfl (fun x7 M8 => ?_)
  refine V_astore (L' := [(0, .ref this), (1, .int a1), (2, .int a2), (3, .int a3), (4, .int a4), (5, .ref x1), (6, .ref x7)]) dX11_copy_25 rfl (by decide) rfl ?_
  refine V_iload_n dX11_copy_27 rfl 2 rfl ?_
  refine V_iload_n dX11_copy_28 rfl 3 rfl ?_
  refine V_cStV (As := [.int a2, .int a3]) (k_X11_requireOrder a2 a3 M8) rfl (fun _ _ => rfl) ok_X11_requireOrder sm_X11_requireOrder ml_X11_326 ⟨⟨(Nat.le_of_ble_eq_true rfl), (Nat.le_of_ble_eq_true rfl)⟩, (Nat.le_of_ble_eq_true rfl), (Nat.le_of_ble_eq_true rfl)⟩ dX11_copy_29 rfl rfl rfl (Nat.le_of_ble_eq_true rfl) rfl rfl (fun M10 => ?_)
  refine V_aload_n dX11_copy_32 rfl 0 rfl ?_
  refine V_aload dX11_copy_33 rfl 5 rfl ?_
  refine V_cVtR (As := [.ref x1]) (k_X11_requireAwake this x1 M10) rfl (fun _ _ => rfl) (fun _ h => o_X11_requireAwake h) ok_X11_requireAwake im_X11_requireAwake se_X11_requireAwake rfl (ci := 10) rfl ml_X11_317 ⟨⟨(Nat.le_of_ble_eq_true rfl), (Nat.le_of_ble_eq_true rfl)⟩, (Nat.le_of_ble_eq_true rfl), (Nat.le_of_ble_eq_true rfl)⟩ dX11_copy_35 rfl rfl rfl (Nat.le_of_ble_eq_true rfl) rfl rfl (fun x11 M12 => ?_)
  refine V_astore (L' := [(0, .ref this), (1, .int a1), (2, .int a2), (3, .int a3), (4, .int a4), (5, .ref x1), (6, .ref x7), (7, .ref x11)]) dX11_copy_38 rfl (by decide) rfl ?_
  refine V_aload_n dX11_copy_40 rfl 0 rfl ?_
  refine V_aload dX11_copy_41 rfl 6 rfl ?_
  refine V_aload dX11_copy_43 rfl 5 rfl ?_
  refine V_aload dX11_copy_45 rfl 7 rfl ?_
  refine V_iload_n dX11_copy_47 rfl 2 rfl ?_
  refine V_iload_n dX11_copy_48 rfl 3 rfl ?_
  refine V_cVeI (As := [.ref x11, .int a2, .int a3]) (k_X7_countThere x1 x11 a2 a3 M12) (fun _ h => o_X7_countThere h) ok_X7_countThere im_X7_countThere se_X7_countThere rfl (ci := 6) rfl ml_X11_358 ⟨⟨(Nat.le_of_ble_eq_true rfl), (Nat.le_of_ble_eq_true rfl)⟩, (Nat.le_of_ble_eq_true rfl), (Nat.le_of_ble_eq_true rfl)⟩ dX11_copy_49 rfl rfl rfl (Nat.le_of_ble_eq_true rfl) rfl rfl (fun x13 => ?_)
  refine V_cVtV (As := [.ref x7, .int x13]) (k_X11_requireRoom this x7 x13 M12) rfl (fun _ _ => rfl) (fun _ h => o_X11_requireRoom h) ok_X11_requireRoom im_X11_requireRoom se_X11_requireRoom rfl (ci := 10) rfl ml_X11_362 ⟨⟨(Nat.le_of_ble_eq_true rfl), (Nat.le_of_ble_eq_true rfl)⟩, (Nat.le_of_ble_eq_true rfl), (Nat.le_of_ble_eq_true rfl)⟩ dX11_copy_52 rfl rfl rfl (Nat.le_of_ble_eq_true rfl) rfl rfl (fun M15 => ?_)
  refine V_aload_n dX11_copy_55 rfl 0 rfl ?_
  refine V_aload dX11_copy_56 rfl 5 rfl ?_
  refine V_cVwV (As := [.ref x1]) (k_X11_beginCommand this x1 M15) (fun _ h => o_X11_beginCommand h) ok_X11_beginCommand im_X11_beginCommand se_X11_beginCommand rfl (ci := 10) rfl ml_X11_305 ⟨⟨(Nat.le_of_ble_eq_true rfl), (Nat.le_of_ble_eq_true rfl)⟩, (Nat.le_of_ble_eq_true rfl), (Nat.le_of_ble_eq_true rfl)⟩ dX11_copy_58 rfl rfl rfl (Nat.le_of_ble_eq_true rfl) rfl rfl (fun M17 => ?_)
  refine V_aload dX11_copy_61 rfl 5 rfl ?_
  refine V_aload dX11_copy_63 rfl 7 rfl ?_
  refine V_iload_n dX11_copy_65 rfl 2 rfl ?_
  refine V_iload_n dX11_copy_66 rfl 3 rfl ?_
  refine V_aload dX11_copy_67 rfl 6 rfl ?_
  refine V_cVwI (As := [.ref x11, .int a2, .int a3, .ref x7]) (k_X7_copyRange x1 x11 a2 a3 x7 M17) (fun _ h => o_X7_copyRange h) ok_X7_copyRange im_X7_copyRange se_X7_copyRange rfl (ci := 6) rfl ml_X11_366 ⟨⟨(Nat.le_of_ble_eq_true rfl), (Nat.le_of_ble_eq_true rfl)⟩, (Nat.le_of_ble_eq_true rfl), (Nat.le_of_ble_eq_true rfl)⟩ dX11_copy_69 rfl rfl rfl (Nat.le_of_ble_eq_true rfl) rfl rfl (fun x18 M19 => ?_)
  refine V_istore (L' := [(0, .ref this), (1, .int a1), (2, .int a2), (3, .int a3), (4, .int a4), (5, .ref x1), (6, .ref x7), (7, .ref x11), (8, .int x18)]) dX11_copy_72 rfl (by decide) rfl ?_
  refine V_aload_n dX11_copy_74 rfl 0 rfl ?_
  refine V_iload_n dX11_copy_75 rfl 1 rfl ?_
  refine V_iconst (x := 1) dX11_copy_76 rfl rfl ?_
  refine V_cVwI (As := [.int a1, .int (b2i true)]) (k_X11_endCommand this a1 true M19) (fun _ h => o_X11_endCommand h) ok_X11_endCommand im_X11_endCommand se_X11_endCommand rfl (ci := 10) rfl ml_X11_320 ⟨⟨(Nat.le_of_ble_eq_true rfl), (Nat.le_of_ble_eq_true rfl)⟩, (Nat.le_of_ble_eq_true rfl), (Nat.le_of_ble_eq_true rfl)⟩ dX11_copy_77 rfl rfl rfl (Nat.le_of_ble_eq_true rfl) rfl rfl (fun x20 M21 => ?_)
  refine V_pop dX11_copy_80 rfl rfl ?_
  refine V_iload dX11_copy_81 rfl 8 rfl ?_
  exact V_iret dX11_copy_83 rfl rfl ⟨(Nat.le_of_ble_eq_true rfl), (Nat.le_of_ble_eq_true rfl)⟩
theorem k_X11_copy (this : Nat) (a1 : Int32) (a2 : Int32) (a3 : Int32) (a4 : Int32) (M : Mem) : K mi_X11_copy [.ref this, .int a1, .int a2, .int a3, .int a4] M (f_X11_copy this a1 a2 a3 a4 M) tI := K_of_V ok_X11_copy (Nat.le_of_ble_eq_true rfl) (v_X11_copy this a1 a2 a3 a4 M)
theorem o_X11_copy {this : Nat} {a1 : Int32} {a2 : Int32} {a3 : Int32} {a4 : Int32} {M : Mem} {x} (h : f_X11_copy this a1 a2 a3 a4 M = some x) : isO M 10 this = true := (ob_of h).1
theorem dX11_move_0 : decode cX11_move 0 = .ok (.aload_n 0, 1) := by decide +kernel
theorem dX11_move_1 : decode cX11_move 1 = .ok (.iload_n 1, 1) := by decide +kernel
theorem dX11_move_2 : decode cX11_move 2 = .ok (.invokevirtual 198, 3) := by decide +kernel
theorem dX11_move_5 : decode cX11_move 5 = .ok (.astore 5, 2) := by decide +kernel
theorem dX11_move_7 : decode cX11_move 7 = .ok (.aload 5, 2) := by decide +kernel
theorem dX11_move_9 : decode cX11_move 9 = .ok (.iload_n 2, 1) := by decide +kernel
theorem dX11_move_10 : decode cX11_move 10 = .ok (.invokestatic 231, 3) := by decide +kernel
theorem dX11_move_13 : decode cX11_move 13 = .ok (.aload 5, 2) := by decide +kernel
theorem dX11_move_15 : decode cX11_move 15 = .ok (.iload_n 3, 1) := by decide +kernel
theorem dX11_move_16 : decode cX11_move 16 = .ok (.invokestatic 231, 3) := by decide +kernel
theorem dX11_move_19 : decode cX11_move 19 = .ok (.aload_n 0, 1) := by decide +kernel
theorem dX11_move_20 : decode cX11_move 20 = .ok (.iload 4, 2) := by decide +kernel
theorem dX11_move_22 : decode cX11_move 22 = .ok (.invokevirtual 146, 3) := by decide +kernel
theorem dX11_move_25 : decode cX11_move 25 = .ok (.astore 6, 2) := by decide +kernel
theorem dX11_move_27 : decode cX11_move 27 = .ok (.iload_n 2, 1) := by decide +kernel
theorem dX11_move_28 : decode cX11_move 28 = .ok (.iload_n 3, 1) := by decide +kernel
theorem dX11_move_29 : decode cX11_move 29 = .ok (.invokestatic 326, 3) := by decide +kernel
theorem dX11_move_32 : decode cX11_move 32 = .ok (.aload_n 0, 1) := by decide +kernel
theorem dX11_move_33 : decode cX11_move 33 = .ok (.aload 5, 2) := by decide +kernel
theorem dX11_move_35 : decode cX11_move 35 = .ok (.invokevirtual 340, 3) := by decide +kernel
theorem dX11_move_38 : decode cX11_move 38 = .ok (.astore 7, 2) := by decide +kernel
theorem dX11_move_40 : decode cX11_move 40 = .ok (.aload_n 0, 1) := by decide +kernel
theorem dX11_move_41 : decode cX11_move 41 = .ok (.aload 6, 2) := by decide +kernel
theorem dX11_move_43 : decode cX11_move 43 = .ok (.aload 5, 2) := by decide +kernel
theorem dX11_move_45 : decode cX11_move 45 = .ok (.aload 7, 2) := by decide +kernel
theorem dX11_move_47 : decode cX11_move 47 = .ok (.iload_n 2, 1) := by decide +kernel
theorem dX11_move_48 : decode cX11_move 48 = .ok (.iload_n 3, 1) := by decide +kernel
theorem dX11_move_49 : decode cX11_move 49 = .ok (.invokevirtual 358, 3) := by decide +kernel
theorem dX11_move_52 : decode cX11_move 52 = .ok (.invokevirtual 362, 3) := by decide +kernel
theorem dX11_move_55 : decode cX11_move 55 = .ok (.aload_n 0, 1) := by decide +kernel
theorem dX11_move_56 : decode cX11_move 56 = .ok (.aload 5, 2) := by decide +kernel
theorem dX11_move_58 : decode cX11_move 58 = .ok (.invokevirtual 305, 3) := by decide +kernel
theorem dX11_move_61 : decode cX11_move 61 = .ok (.aload 5, 2) := by decide +kernel
theorem dX11_move_63 : decode cX11_move 63 = .ok (.aload 7, 2) := by decide +kernel
theorem dX11_move_65 : decode cX11_move 65 = .ok (.iload_n 2, 1) := by decide +kernel
theorem dX11_move_66 : decode cX11_move 66 = .ok (.iload_n 3, 1) := by decide +kernel
theorem dX11_move_67 : decode cX11_move 67 = .ok (.aload 6, 2) := by decide +kernel
theorem dX11_move_69 : decode cX11_move 69 = .ok (.invokevirtual 366, 3) := by decide +kernel
theorem dX11_move_72 : decode cX11_move 72 = .ok (.istore 8, 2) := by decide +kernel
theorem dX11_move_74 : decode cX11_move 74 = .ok (.aload 5, 2) := by decide +kernel
theorem dX11_move_76 : decode cX11_move 76 = .ok (.aload 7, 2) := by decide +kernel
theorem dX11_move_78 : decode cX11_move 78 = .ok (.iload_n 2, 1) := by decide +kernel
theorem dX11_move_79 : decode cX11_move 79 = .ok (.iload_n 3, 1) := by decide +kernel
theorem dX11_move_80 : decode cX11_move 80 = .ok (.invokevirtual 370, 3) := by decide +kernel
theorem dX11_move_83 : decode cX11_move 83 = .ok (.aload_n 0, 1) := by decide +kernel
theorem dX11_move_84 : decode cX11_move 84 = .ok (.iload_n 1, 1) := by decide +kernel
theorem dX11_move_85 : decode cX11_move 85 = .ok (.iconst 1, 1) := by decide +kernel
theorem dX11_move_86 : decode cX11_move 86 = .ok (.invokevirtual 320, 3) := by decide +kernel
theorem dX11_move_89 : decode cX11_move 89 = .ok (.pop, 1) := by decide +kernel
theorem dX11_move_90 : decode cX11_move 90 = .ok (.iload 8, 2) := by decide +kernel
theorem dX11_move_92 : decode cX11_move 92 = .ok (.ireturn, 1) := by decide +kernel
def mi_X11_move : MI := (RX11, yX11_move, cX11_move, 9, some .int, [], { frames := 10, cells := 8, slots := 48, locals := 176 })
theorem ok_X11_move : mOK mi_X11_move 4 := ⟨rfl, cw_X11_move, ini_X11, ⟨rfl, by decide⟩, by decide, by decide, rfl⟩
theorem v_X11_move (this : Nat) (a1 : Int32) (a2 : Int32) (a3 : Int32) (a4 : Int32) (M : Mem) : V mi_X11_move 0 [(0, .ref this), (1, .int a1), (2, .int a2), (3, .int a3), (4, .int a4)] [] M 0 0 (f_X11_move this a1 a2 a3 a4 M) tI := by
  unfold f_X11_move
  refine V_ob fun _ _ => ?_
  refine V_aload_n dX11_move_0 rfl 0 rfl ?_
  refine V_iload_n dX11_move_1 rfl 1 rfl ?_
  refine V_cVtR (As := [.int a1]) (k_X11_requireSession this a1 M) rfl (fun _ _ => rfl) (fun _ h => o_X11_requireSession h) ok_X11_requireSession im_X11_requireSession se_X11_requireSession rfl (ci := 10) rfl ml_X11_198 ⟨⟨(Nat.le_of_ble_eq_true rfl), (Nat.le_of_ble_eq_true rfl)⟩, (Nat.le_of_ble_eq_true rfl), (Nat.le_of_ble_eq_true rfl)⟩ dX11_move_2 rfl rfl rfl (Nat.le_of_ble_eq_true rfl) rfl rfl (fun x1 M2 => ?_)
  refine V_astore (L' := [(0, .ref this), (1, .int a1), (2, .int a2), (3, .int a3), (4, .int a4), (5, .ref x1)]) dX11_move_5 rfl (by decide) rfl ?_
  refine V_aload dX11_move_7 rfl 5 rfl ?_
  refine V_iload_n dX11_move_9 rfl 2 rfl ?_
  refine V_cStV (As := [.ref x1, .int a2]) (k_X11_requireEntry x1 a2 M2) rfl (fun _ _ => rfl) ok_X11_requireEntry sm_X11_requireEntry ml_X11_231 ⟨⟨(Nat.le_of_ble_eq_true rfl), (Nat.le_of_ble_eq_true rfl)⟩, (Nat.le_of_ble_eq_true rfl), (Nat.le_of_ble_eq_true rfl)⟩ dX11_move_10 rfl rfl rfl (Nat.le_of_ble_eq_true rfl) rfl rfl (fun M4 => ?_)
  refine V_aload dX11_move_13 rfl 5 rfl ?_
  refine V_iload_n dX11_move_15 rfl 3 rfl ?_
  refine V_cStV (As := [.ref x1, .int a3]) (k_X11_requireEntry x1 a3 M4) rfl (fun _ _ => rfl) ok_X11_requireEntry sm_X11_requireEntry ml_X11_231 ⟨⟨(Nat.le_of_ble_eq_true rfl), (Nat.le_of_ble_eq_true rfl)⟩, (Nat.le_of_ble_eq_true rfl), (Nat.le_of_ble_eq_true rfl)⟩ dX11_move_16 rfl rfl rfl (Nat.le_of_ble_eq_true rfl) rfl rfl (fun M6 => ?_)
  refine V_aload_n dX11_move_19 rfl 0 rfl ?_
  refine V_iload dX11_move_20 rfl 4 rfl ?_
  refine V_cVtR (As := [.int a4]) (k_X11_requireBox this a4 M6) rfl (fun _ _ => rfl) (fun _ h => o_X11_requireBox h) ok_X11_requireBox im_X11_requireBox se_X11_requireBox rfl (ci := 10) rfl ml_X11_146 ⟨⟨(Nat.le_of_ble_eq_true rfl), (Nat.le_of_ble_eq_true rfl)⟩, (Nat.le_of_ble_eq_true rfl), (Nat.le_of_ble_eq_true rfl)⟩ dX11_move_22 rfl rfl rfl (Nat.le_of_ble_eq_true rfl) rfl rfl (fun x7 M8 => ?_)
  refine V_astore (L' := [(0, .ref this), (1, .int a1), (2, .int a2), (3, .int a3), (4, .int a4), (5, .ref x1), (6, .ref x7)]) dX11_move_25 rfl (by decide) rfl ?_
  refine V_iload_n dX11_move_27 rfl 2 rfl ?_
  refine V_iload_n dX11_move_28 rfl 3 rfl ?_
  refine V_cStV (As := [.int a2, .int a3]) (k_X11_requireOrder a2 a3 M8) rfl (fun _ _ => rfl) ok_X11_requireOrder sm_X11_requireOrder ml_X11_326 ⟨⟨(Nat.le_of_ble_eq_true rfl), (Nat.le_of_ble_eq_true rfl)⟩, (Nat.le_of_ble_eq_true rfl), (Nat.le_of_ble_eq_true rfl)⟩ dX11_move_29 rfl rfl rfl (Nat.le_of_ble_eq_true rfl) rfl rfl (fun M10 => ?_)
  refine V_aload_n dX11_move_32 rfl 0 rfl ?_
  refine V_aload dX11_move_33 rfl 5 rfl ?_
  refine V_cVtR (As := [.ref x1]) (k_X11_requireWriting this x1 M10) rfl (fun _ _ => rfl) (fun _ h => o_X11_requireWriting h) ok_X11_requireWriting im_X11_requireWriting se_X11_requireWriting rfl (ci := 10) rfl ml_X11_340 ⟨⟨(Nat.le_of_ble_eq_true rfl), (Nat.le_of_ble_eq_true rfl)⟩, (Nat.le_of_ble_eq_true rfl), (Nat.le_of_ble_eq_true rfl)⟩ dX11_move_35 rfl rfl rfl (Nat.le_of_ble_eq_true rfl) rfl rfl (fun x11 M12 => ?_)
  refine V_astore (L' := [(0, .ref this), (1, .int a1), (2, .int a2), (3, .int a3), (4, .int a4), (5, .ref x1), (6, .ref x7), (7, .ref x11)]) dX11_move_38 rfl (by decide) rfl ?_
  refine V_aload_n dX11_move_40 rfl 0 rfl ?_
  refine V_aload dX11_move_41 rfl 6 rfl ?_
  refine V_aload dX11_move_43 rfl 5 rfl ?_
  refine V_aload dX11_move_45 rfl 7 rfl ?_
  refine V_iload_n dX11_move_47 rfl 2 rfl ?_
  refine V_iload_n dX11_move_48 rfl 3 rfl ?_
  refine V_cVeI (As := [.ref x11, .int a2, .int a3]) (k_X7_countThere x1 x11 a2 a3 M12) (fun _ h => o_X7_countThere h) ok_X7_countThere im_X7_countThere se_X7_countThere rfl (ci := 6) rfl ml_X11_358 ⟨⟨(Nat.le_of_ble_eq_true rfl), (Nat.le_of_ble_eq_true rfl)⟩, (Nat.le_of_ble_eq_true rfl), (Nat.le_of_ble_eq_true rfl)⟩ dX11_move_49 rfl rfl rfl (Nat.le_of_ble_eq_true rfl) rfl rfl (fun x13 => ?_)
  refine V_cVtV (As := [.ref x7, .int x13]) (k_X11_requireRoom this x7 x13 M12) rfl (fun _ _ => rfl) (fun _ h => o_X11_requireRoom h) ok_X11_requireRoom im_X11_requireRoom se_X11_requireRoom rfl (ci := 10) rfl ml_X11_362 ⟨⟨(Nat.le_of_ble_eq_true rfl), (Nat.le_of_ble_eq_true rfl)⟩, (Nat.le_of_ble_eq_true rfl), (Nat.le_of_ble_eq_true rfl)⟩ dX11_move_52 rfl rfl rfl (Nat.le_of_ble_eq_true rfl) rfl rfl (fun M15 => ?_)
  refine V_aload_n dX11_move_55 rfl 0 rfl ?_
  refine V_aload dX11_move_56 rfl 5 rfl ?_
  refine V_cVwV (As := [.ref x1]) (k_X11_beginCommand this x1 M15) (fun _ h => o_X11_beginCommand h) ok_X11_beginCommand im_X11_beginCommand se_X11_beginCommand rfl (ci := 10) rfl ml_X11_305 ⟨⟨(Nat.le_of_ble_eq_true rfl), (Nat.le_of_ble_eq_true rfl)⟩, (Nat.le_of_ble_eq_true rfl), (Nat.le_of_ble_eq_true rfl)⟩ dX11_move_58 rfl rfl rfl (Nat.le_of_ble_eq_true rfl) rfl rfl (fun M17 => ?_)
  refine V_aload dX11_move_61 rfl 5 rfl ?_
  refine V_aload dX11_move_63 rfl 7 rfl ?_
  refine V_iload_n dX11_move_65 rfl 2 rfl ?_
  refine V_iload_n dX11_move_66 rfl 3 rfl ?_
  refine V_aload dX11_move_67 rfl 6 rfl ?_
  refine V_cVwI (As := [.ref x11, .int a2, .int a3, .ref x7]) (k_X7_copyRange x1 x11 a2 a3 x7 M17) (fun _ h => o_X7_copyRange h) ok_X7_copyRange im_X7_copyRange se_X7_copyRange rfl (ci := 6) rfl ml_X11_366 ⟨⟨(Nat.le_of_ble_eq_true rfl), (Nat.le_of_ble_eq_true rfl)⟩, (Nat.le_of_ble_eq_true rfl), (Nat.le_of_ble_eq_true rfl)⟩ dX11_move_69 rfl rfl rfl (Nat.le_of_ble_eq_true rfl) rfl rfl (fun x18 M19 => ?_)
  refine V_istore (L' := [(0, .ref this), (1, .int a1), (2, .int a2), (3, .int a3), (4, .int a4), (5, .ref x1), (6, .ref x7), (7, .ref x11), (8, .int x18)]) dX11_move_72 rfl (by decide) rfl ?_
  refine V_aload dX11_move_74 rfl 5 rfl ?_
  refine V_aload dX11_move_76 rfl 7 rfl ?_
  refine V_iload_n dX11_move_78 rfl 2 rfl ?_
  refine V_iload_n dX11_move_79 rfl 3 rfl ?_
  refine V_cVwV (As := [.ref x11, .int a2, .int a3]) (k_X7_removeRange x1 x11 a2 a3 M19) (fun _ h => o_X7_removeRange h) ok_X7_removeRange im_X7_removeRange se_X7_removeRange rfl (ci := 6) rfl ml_X11_370 ⟨⟨(Nat.le_of_ble_eq_true rfl), (Nat.le_of_ble_eq_true rfl)⟩, (Nat.le_of_ble_eq_true rfl), (Nat.le_of_ble_eq_true rfl)⟩ dX11_move_80 rfl rfl rfl (Nat.le_of_ble_eq_true rfl) rfl rfl (fun M21 => ?_)
  refine V_aload_n dX11_move_83 rfl 0 rfl ?_
  refine V_iload_n dX11_move_84 rfl 1 rfl ?_
  refine V_iconst (x := 1) dX11_move_85 rfl rfl ?_
  refine V_cVwI (As := [.int a1, .int (b2i true)]) (k_X11_endCommand this a1 true M21) (fun _ h => o_X11_endCommand h) ok_X11_endCommand im_X11_endCommand se_X11_endCommand rfl (ci := 10) rfl ml_X11_320 ⟨⟨(Nat.le_of_ble_eq_true rfl), (Nat.le_of_ble_eq_true rfl)⟩, (Nat.le_of_ble_eq_true rfl), (Nat.le_of_ble_eq_true rfl)⟩ dX11_move_86 rfl rfl rfl (Nat.le_of_ble_eq_true rfl) rfl rfl (fun x22 M23 => ?_)
  refine V_pop dX11_move_89 rfl rfl ?_
  refine V_iload dX11_move_90 rfl 8 rfl ?_
  exact V_iret dX11_move_92 rfl rfl ⟨(Nat.le_of_ble_eq_true rfl), (Nat.le_of_ble_eq_true rfl)⟩
theorem k_X11_move (this : Nat) (a1 : Int32) (a2 : Int32) (a3 : Int32) (a4 : Int32) (M : Mem) : K mi_X11_move [.ref this, .int a1, .int a2, .int a3, .int a4] M (f_X11_move this a1 a2 a3 a4 M) tI := K_of_V ok_X11_move (Nat.le_of_ble_eq_true rfl) (v_X11_move this a1 a2 a3 a4 M)
theorem o_X11_move {this : Nat} {a1 : Int32} {a2 : Int32} {a3 : Int32} {a4 : Int32} {M : Mem} {x} (h : f_X11_move this a1 a2 a3 a4 M = some x) : isO M 10 this = true := (ob_of h).1
theorem dX11_close_0 : decode cX11_close 0 = .ok (.aload_n 0, 1) := by decide +kernel
theorem dX11_close_1 : decode cX11_close 1 = .ok (.iload_n 1, 1) := by decide +kernel
theorem dX11_close_2 : decode cX11_close 2 = .ok (.invokevirtual 198, 3) := by decide +kernel
theorem dX11_close_5 : decode cX11_close 5 = .ok (.astore_n 2, 1) := by decide +kernel
theorem dX11_close_6 : decode cX11_close 6 = .ok (.aload_n 0, 1) := by decide +kernel
theorem dX11_close_7 : decode cX11_close 7 = .ok (.aload_n 2, 1) := by decide +kernel
theorem dX11_close_8 : decode cX11_close 8 = .ok (.invokevirtual 317, 3) := by decide +kernel
theorem dX11_close_11 : decode cX11_close 11 = .ok (.astore_n 3, 1) := by decide +kernel
theorem dX11_close_12 : decode cX11_close 12 = .ok (.aload_n 0, 1) := by decide +kernel
theorem dX11_close_13 : decode cX11_close 13 = .ok (.aload_n 2, 1) := by decide +kernel
theorem dX11_close_14 : decode cX11_close 14 = .ok (.invokevirtual 305, 3) := by decide +kernel
theorem dX11_close_17 : decode cX11_close 17 = .ok (.iconst 0, 1) := by decide +kernel
theorem dX11_close_18 : decode cX11_close 18 = .ok (.istore 4, 2) := by decide +kernel
theorem dX11_close_20 : decode cX11_close 20 = .ok (.aload_n 2, 1) := by decide +kernel
theorem dX11_close_21 : decode cX11_close 21 = .ok (.getfield 211, 3) := by decide +kernel
theorem dX11_close_24 : decode cX11_close 24 = .ok (.ifCond .ne 14, 3) := by decide +kernel
theorem dX11_close_27 : decode cX11_close 27 = .ok (.aload_n 3, 1) := by decide +kernel
theorem dX11_close_28 : decode cX11_close 28 = .ok (.iconst 1, 1) := by decide +kernel
theorem dX11_close_29 : decode cX11_close 29 = .ok (.aload_n 3, 1) := by decide +kernel
theorem dX11_close_30 : decode cX11_close 30 = .ok (.getfield 153, 3) := by decide +kernel
theorem dX11_close_33 : decode cX11_close 33 = .ok (.invokevirtual 355, 3) := by decide +kernel
theorem dX11_close_36 : decode cX11_close 36 = .ok (.istore 4, 2) := by decide +kernel
theorem dX11_close_38 : decode cX11_close 38 = .ok (.aload_n 2, 1) := by decide +kernel
theorem dX11_close_39 : decode cX11_close 39 = .ok (.invokevirtual 374, 3) := by decide +kernel
theorem dX11_close_42 : decode cX11_close 42 = .ok (.aload_n 0, 1) := by decide +kernel
theorem dX11_close_43 : decode cX11_close 43 = .ok (.getfield 24, 3) := by decide +kernel
theorem dX11_close_46 : decode cX11_close 46 = .ok (.aload_n 0, 1) := by decide +kernel
theorem dX11_close_47 : decode cX11_close 47 = .ok (.getfield 49, 3) := by decide +kernel
theorem dX11_close_50 : decode cX11_close 50 = .ok (.invokevirtual 313, 3) := by decide +kernel
theorem dX11_close_53 : decode cX11_close 53 = .ok (.iload 4, 2) := by decide +kernel
theorem dX11_close_55 : decode cX11_close 55 = .ok (.ireturn, 1) := by decide +kernel
def mi_X11_close : MI := (RX11, yX11_close, cX11_close, 5, some .int, [], { frames := 9, cells := 2, slots := 12, locals := 153 })
theorem ok_X11_close : mOK mi_X11_close 1 := ⟨rfl, cw_X11_close, ini_X11, ⟨rfl, by decide⟩, by decide, by decide, rfl⟩
theorem v_X11_close_38 (this : Nat) (l2 : Nat) (l4 : Int32) (M : Mem) : V mi_X11_close 38 [(0, .ref this), (2, .ref l2), (4, .int l4)] [] M 2 12 (f_X11_close_38 this l2 l4 M) tI := by
  unfold f_X11_close_38
  refine V_aload_n dX11_close_38 rfl 1 rfl ?_
  refine V_cVwV (As := []) (k_X7_leave l2 M) (fun _ h => o_X7_leave h) ok_X7_leave im_X7_leave se_X7_leave rfl (ci := 6) rfl ml_X11_374 ⟨⟨(Nat.le_of_ble_eq_true rfl), (Nat.le_of_ble_eq_true rfl)⟩, (Nat.le_of_ble_eq_true rfl), (Nat.le_of_ble_eq_true rfl)⟩ dX11_close_39 rfl rfl rfl (Nat.le_of_ble_eq_true rfl) rfl rfl (fun M9 => ?_)
  refine V_aload_n dX11_close_42 rfl 0 rfl ?_
  refine V_getR dX11_close_43 rfl (ci := 10) (T := TX11) rfl (by decide) fl_X11_24 (fun x10 => ?_)
  refine V_aload_n dX11_close_46 rfl 0 rfl ?_
  refine V_getR dX11_close_47 rfl (ci := 10) (T := TX11) rfl (by decide) fl_X11_49 (fun x11 => ?_)
  refine V_cVwV (As := [.ref x11]) (k_X8_tellIdle x10 x11 M9) (fun _ h => o_X8_tellIdle h) ok_X8_tellIdle im_X8_tellIdle se_X8_tellIdle rfl (ci := 7) rfl ml_X11_313 ⟨⟨(Nat.le_of_ble_eq_true rfl), (Nat.le_of_ble_eq_true rfl)⟩, (Nat.le_of_ble_eq_true rfl), (Nat.le_of_ble_eq_true rfl)⟩ dX11_close_50 rfl rfl rfl (Nat.le_of_ble_eq_true rfl) rfl rfl (fun M13 => ?_)
  refine V_iload dX11_close_53 rfl 2 rfl ?_
  exact V_iret dX11_close_55 rfl rfl ⟨(Nat.le_of_ble_eq_true rfl), (Nat.le_of_ble_eq_true rfl)⟩
theorem v_X11_close (this : Nat) (a1 : Int32) (M : Mem) : V mi_X11_close 0 [(0, .ref this), (1, .int a1)] [] M 0 0 (f_X11_close this a1 M) tI := by
  unfold f_X11_close
  refine V_ob fun _ _ => ?_
  refine V_aload_n dX11_close_0 rfl 0 rfl ?_
  refine V_iload_n dX11_close_1 rfl 1 rfl ?_
  refine V_cVtR (As := [.int a1]) (k_X11_requireSession this a1 M) rfl (fun _ _ => rfl) (fun _ h => o_X11_requireSession h) ok_X11_requireSession im_X11_requireSession se_X11_requireSession rfl (ci := 10) rfl ml_X11_198 ⟨⟨(Nat.le_of_ble_eq_true rfl), (Nat.le_of_ble_eq_true rfl)⟩, (Nat.le_of_ble_eq_true rfl), (Nat.le_of_ble_eq_true rfl)⟩ dX11_close_2 rfl rfl rfl (Nat.le_of_ble_eq_true rfl) rfl rfl (fun x1 M2 => ?_)
  refine V_astore_n (L' := [(0, .ref this), (1, .int a1), (2, .ref x1)]) dX11_close_5 rfl (by decide) rfl ?_
  refine V_aload_n dX11_close_6 rfl 0 rfl ?_
  refine V_aload_n dX11_close_7 rfl 2 rfl ?_
  refine V_cVtR (As := [.ref x1]) (k_X11_requireAwake this x1 M2) rfl (fun _ _ => rfl) (fun _ h => o_X11_requireAwake h) ok_X11_requireAwake im_X11_requireAwake se_X11_requireAwake rfl (ci := 10) rfl ml_X11_317 ⟨⟨(Nat.le_of_ble_eq_true rfl), (Nat.le_of_ble_eq_true rfl)⟩, (Nat.le_of_ble_eq_true rfl), (Nat.le_of_ble_eq_true rfl)⟩ dX11_close_8 rfl rfl rfl (Nat.le_of_ble_eq_true rfl) rfl rfl (fun x3 M4 => ?_)
  refine V_astore_n (L' := [(0, .ref this), (1, .int a1), (2, .ref x1), (3, .ref x3)]) dX11_close_11 rfl (by decide) rfl ?_
  refine V_aload_n dX11_close_12 rfl 0 rfl ?_
  refine V_aload_n dX11_close_13 rfl 2 rfl ?_
  refine V_cVwV (As := [.ref x1]) (k_X11_beginCommand this x1 M4) (fun _ h => o_X11_beginCommand h) ok_X11_beginCommand im_X11_beginCommand se_X11_beginCommand rfl (ci := 10) rfl ml_X11_305 ⟨⟨(Nat.le_of_ble_eq_true rfl), (Nat.le_of_ble_eq_true rfl)⟩, (Nat.le_of_ble_eq_true rfl), (Nat.le_of_ble_eq_true rfl)⟩ dX11_close_14 rfl rfl rfl (Nat.le_of_ble_eq_true rfl) rfl rfl (fun M6 => ?_)
  refine V_iconst (x := 0) dX11_close_17 rfl rfl ?_
  refine V_istore (L' := [(0, .ref this), (1, .int a1), (2, .ref x1), (3, .ref x3), (4, .int 0)]) dX11_close_18 rfl (by decide) rfl ?_
  refine V_aload_n dX11_close_20 rfl 2 rfl ?_
  refine V_getZ dX11_close_21 rfl (ci := 6) (T := TX7) rfl (by decide) fl_X11_211 (fun x7 => ?_)
  refine V_ifz_ne (q := 38) (q2 := 27) dX11_close_24 (by decide) rfl ?_ ?_
  · exact V_sub [0, 2, 4] rfl (v_X11_close_38 this x1 0 M6)
  · refine V_aload_n dX11_close_27 rfl 3 rfl ?_
    refine V_iconst (x := 1) dX11_close_28 rfl rfl ?_
    refine V_aload_n dX11_close_29 rfl 3 rfl ?_
    refine V_getI dX11_close_30 rfl (ci := 0) (T := TX0) rfl (by decide) fl_X11_153 (fun x14 => ?_)
    refine V_cVwI (As := [.int 1, .int x14]) (k_X0_removeDeleted x3 1 x14 M6) (fun _ h => o_X0_removeDeleted h) ok_X0_removeDeleted im_X0_removeDeleted se_X0_removeDeleted rfl (ci := 0) rfl ml_X11_355 ⟨⟨(Nat.le_of_ble_eq_true rfl), (Nat.le_of_ble_eq_true rfl)⟩, (Nat.le_of_ble_eq_true rfl), (Nat.le_of_ble_eq_true rfl)⟩ dX11_close_33 rfl rfl rfl (Nat.le_of_ble_eq_true rfl) rfl rfl (fun x15 M16 => ?_)
    refine V_istore (L' := [(0, .ref this), (1, .int a1), (2, .ref x1), (3, .ref x3), (4, .int x15)]) dX11_close_36 rfl (by decide) rfl ?_
    exact V_sub [0, 2, 4] rfl (v_X11_close_38 this x1 x15 M16)
theorem k_X11_close (this : Nat) (a1 : Int32) (M : Mem) : K mi_X11_close [.ref this, .int a1] M (f_X11_close this a1 M) tI := K_of_V ok_X11_close (Nat.le_of_ble_eq_true rfl) (v_X11_close this a1 M)
theorem o_X11_close {this : Nat} {a1 : Int32} {M : Mem} {x} (h : f_X11_close this a1 M = some x) : isO M 10 this = true := (ob_of h).1
theorem dX11_deliver_0 : decode cX11_deliver 0 = .ok (.aload_n 0, 1) := by decide +kernel
theorem dX11_deliver_1 : decode cX11_deliver 1 = .ok (.iload_n 1, 1) := by decide +kernel
theorem dX11_deliver_2 : decode cX11_deliver 2 = .ok (.invokevirtual 146, 3) := by decide +kernel
theorem dX11_deliver_5 : decode cX11_deliver 5 = .ok (.astore 4, 2) := by decide +kernel
theorem dX11_deliver_7 : decode cX11_deliver 7 = .ok (.iload_n 2, 1) := by decide +kernel
theorem dX11_deliver_8 : decode cX11_deliver 8 = .ok (.iconst 1, 1) := by decide +kernel
theorem dX11_deliver_9 : decode cX11_deliver 9 = .ok (.if_icmp .lt 20, 3) := by decide +kernel
theorem dX11_deliver_12 : decode cX11_deliver 12 = .ok (.iload_n 2, 1) := by decide +kernel
theorem dX11_deliver_13 : decode cX11_deliver 13 = .ok (.sipush 9999, 3) := by decide +kernel
theorem dX11_deliver_16 : decode cX11_deliver 16 = .ok (.if_icmp .gt 13, 3) := by decide +kernel
theorem dX11_deliver_19 : decode cX11_deliver 19 = .ok (.iload_n 3, 1) := by decide +kernel
theorem dX11_deliver_20 : decode cX11_deliver 20 = .ok (.ifCond .lt 9, 3) := by decide +kernel
theorem dX11_deliver_23 : decode cX11_deliver 23 = .ok (.iload_n 3, 1) := by decide +kernel
theorem dX11_deliver_24 : decode cX11_deliver 24 = .ok (.bipush 31, 2) := by decide +kernel
theorem dX11_deliver_26 : decode cX11_deliver 26 = .ok (.if_icmp .le 14, 3) := by decide +kernel
theorem dX11_deliver_29 : decode cX11_deliver 29 = .ok (.new 99, 3) := by decide +kernel
theorem dX11_deliver_32 : decode cX11_deliver 32 = .ok (.dup, 1) := by decide +kernel
theorem dX11_deliver_33 : decode cX11_deliver 33 = .ok (.ldc_w 377, 3) := by decide +kernel
theorem dX11_deliver_36 : decode cX11_deliver 36 = .ok (.invokespecial 103, 3) := by decide +kernel
theorem dX11_deliver_39 : decode cX11_deliver 39 = .ok (.athrow, 1) := by decide +kernel
theorem dX11_deliver_40 : decode cX11_deliver 40 = .ok (.aload_n 0, 1) := by decide +kernel
theorem dX11_deliver_41 : decode cX11_deliver 41 = .ok (.aload 4, 2) := by decide +kernel
theorem dX11_deliver_43 : decode cX11_deliver 43 = .ok (.iconst 1, 1) := by decide +kernel
theorem dX11_deliver_44 : decode cX11_deliver 44 = .ok (.invokevirtual 362, 3) := by decide +kernel
theorem dX11_deliver_47 : decode cX11_deliver 47 = .ok (.aload_n 0, 1) := by decide +kernel
theorem dX11_deliver_48 : decode cX11_deliver 48 = .ok (.invokevirtual 114, 3) := by decide +kernel
theorem dX11_deliver_51 : decode cX11_deliver 51 = .ok (.aload 4, 2) := by decide +kernel
theorem dX11_deliver_53 : decode cX11_deliver 53 = .ok (.getfield 153, 3) := by decide +kernel
theorem dX11_deliver_56 : decode cX11_deliver 56 = .ok (.istore 5, 2) := by decide +kernel
theorem dX11_deliver_58 : decode cX11_deliver 58 = .ok (.aload 4, 2) := by decide +kernel
theorem dX11_deliver_60 : decode cX11_deliver 60 = .ok (.iload_n 2, 1) := by decide +kernel
theorem dX11_deliver_61 : decode cX11_deliver 61 = .ok (.iload_n 3, 1) := by decide +kernel
theorem dX11_deliver_62 : decode cX11_deliver 62 = .ok (.invokevirtual 379, 3) := by decide +kernel
theorem dX11_deliver_65 : decode cX11_deliver 65 = .ok (.aload_n 0, 1) := by decide +kernel
theorem dX11_deliver_66 : decode cX11_deliver 66 = .ok (.getfield 24, 3) := by decide +kernel
theorem dX11_deliver_69 : decode cX11_deliver 69 = .ok (.aload_n 0, 1) := by decide +kernel
theorem dX11_deliver_70 : decode cX11_deliver 70 = .ok (.getfield 49, 3) := by decide +kernel
theorem dX11_deliver_73 : decode cX11_deliver 73 = .ok (.invokevirtual 313, 3) := by decide +kernel
theorem dX11_deliver_76 : decode cX11_deliver 76 = .ok (.iload 5, 2) := by decide +kernel
theorem dX11_deliver_78 : decode cX11_deliver 78 = .ok (.ireturn, 1) := by decide +kernel
def mi_X11_deliver : MI := (RX11, yX11_deliver, cX11_deliver, 6, some .int, [], { frames := 9, cells := 2, slots := 12, locals := 153 })
theorem ok_X11_deliver : mOK mi_X11_deliver 3 := ⟨rfl, cw_X11_deliver, ini_X11, ⟨rfl, by decide⟩, by decide, by decide, rfl⟩
theorem v_X11_deliver_29 (M : Mem) : V mi_X11_deliver 29 [] [] M 1 6 (f_X11_deliver_29 M) tI := by
  unfold f_X11_deliver_29
  exact V_throwW th_X11_99_103 sr_X11_377 rfl dX11_deliver_29 dX11_deliver_32 dX11_deliver_33 dX11_deliver_36 dX11_deliver_39 ⟨(Nat.le_of_ble_eq_true rfl), (Nat.le_of_ble_eq_true rfl)⟩ ⟨(Nat.le_of_ble_eq_true rfl), (Nat.le_of_ble_eq_true rfl)⟩ rfl
theorem v_X11_deliver (this : Nat) (a1 : Int32) (a2 : Int32) (a3 : Int32) (M : Mem) : V mi_X11_deliver 0 [(0, .ref this), (1, .int a1), (2, .int a2), (3, .int a3)] [] M 0 0 (f_X11_deliver this a1 a2 a3 M) tI := by
  unfold f_X11_deliver
  refine V_ob fun _ _ => ?_
  refine V_aload_n dX11_deliver_0 rfl 0 rfl ?_
  refine V_iload_n dX11_deliver_1 rfl 1 rfl ?_
  refine V_cVtR (As := [.int a1]) (k_X11_requireBox this a1 M) rfl (fun _ _ => rfl) (fun _ h => o_X11_requireBox h) ok_X11_requireBox im_X11_requireBox se_X11_requireBox rfl (ci := 10) rfl ml_X11_146 ⟨⟨(Nat.le_of_ble_eq_true rfl), (Nat.le_of_ble_eq_true rfl)⟩, (Nat.le_of_ble_eq_true rfl), (Nat.le_of_ble_eq_true rfl)⟩ dX11_deliver_2 rfl rfl rfl (Nat.le_of_ble_eq_true rfl) rfl rfl (fun x1 M2 => ?_)
  refine V_astore (L' := [(0, .ref this), (1, .int a1), (2, .int a2), (3, .int a3), (4, .ref x1)]) dX11_deliver_5 rfl (by decide) rfl ?_
  refine V_iload_n dX11_deliver_7 rfl 2 rfl ?_
  refine V_iconst (x := 1) dX11_deliver_8 rfl rfl ?_
  refine V_icmp_lt (q := 29) (q2 := 12) dX11_deliver_9 (by decide) rfl ?_ ?_
  · exact V_sub [] rfl (v_X11_deliver_29 M2)
  · refine V_iload_n dX11_deliver_12 rfl 2 rfl ?_
    refine V_sipush (x := 9999) dX11_deliver_13 rfl rfl ?_
    refine V_icmp_gt (q := 29) (q2 := 19) dX11_deliver_16 (by decide) rfl ?_ ?_
    · exact V_sub [] rfl (v_X11_deliver_29 M2)
    · refine V_iload_n dX11_deliver_19 rfl 3 rfl ?_
      refine V_if_lt (q := 29) (q2 := 23) dX11_deliver_20 (by decide) rfl ?_ ?_
      · exact V_sub [] rfl (v_X11_deliver_29 M2)
      · refine V_iload_n dX11_deliver_23 rfl 3 rfl ?_
        refine V_bipush (x := 31) dX11_deliver_24 rfl rfl ?_
        refine V_icmp_le (q := 40) (q2 := 29) dX11_deliver_26 (by decide) rfl ?_ ?_
        · refine V_aload_n dX11_deliver_40 rfl 0 rfl ?_
          refine V_aload dX11_deliver_41 rfl 4 rfl ?_
          refine V_iconst (x := 1) dX11_deliver_43 rfl rfl ?_
          refine V_cVtV (As := [.ref x1, .int 1]) (k_X11_requireRoom this x1 1 M2) rfl (fun _ _ => rfl) (fun _ h => o_X11_requireRoom h) ok_X11_requireRoom im_X11_requireRoom se_X11_requireRoom rfl (ci := 10) rfl ml_X11_362 ⟨⟨(Nat.le_of_ble_eq_true rfl), (Nat.le_of_ble_eq_true rfl)⟩, (Nat.le_of_ble_eq_true rfl), (Nat.le_of_ble_eq_true rfl)⟩ dX11_deliver_44 rfl rfl rfl (Nat.le_of_ble_eq_true rfl) rfl rfl (fun M4 => ?_)
          refine V_aload_n dX11_deliver_47 rfl 0 rfl ?_
          refine V_cVwV (As := []) (k_X11_beginAct this M4) (fun _ h => o_X11_beginAct h) ok_X11_beginAct im_X11_beginAct se_X11_beginAct rfl (ci := 10) rfl ml_X11_114 ⟨⟨(Nat.le_of_ble_eq_true rfl), (Nat.le_of_ble_eq_true rfl)⟩, (Nat.le_of_ble_eq_true rfl), (Nat.le_of_ble_eq_true rfl)⟩ dX11_deliver_48 rfl rfl rfl (Nat.le_of_ble_eq_true rfl) rfl rfl (fun M6 => ?_)
          refine V_aload dX11_deliver_51 rfl 4 rfl ?_
          refine V_getI dX11_deliver_53 rfl (ci := 0) (T := TX0) rfl (by decide) fl_X11_153 (fun x7 => ?_)
          refine V_istore (L' := [(0, .ref this), (1, .int a1), (2, .int a2), (3, .int a3), (4, .ref x1), (5, .int x7)]) dX11_deliver_56 rfl (by decide) rfl ?_
          refine V_aload dX11_deliver_58 rfl 4 rfl ?_
          refine V_iload_n dX11_deliver_60 rfl 2 rfl ?_
          refine V_iload_n dX11_deliver_61 rfl 3 rfl ?_
          refine V_cVwV (As := [.int a2, .int a3]) (k_X0_addMessage x1 a2 a3 M6) (fun _ h => o_X0_addMessage h) ok_X0_addMessage im_X0_addMessage se_X0_addMessage rfl (ci := 0) rfl ml_X11_379 ⟨⟨(Nat.le_of_ble_eq_true rfl), (Nat.le_of_ble_eq_true rfl)⟩, (Nat.le_of_ble_eq_true rfl), (Nat.le_of_ble_eq_true rfl)⟩ dX11_deliver_62 rfl rfl rfl (Nat.le_of_ble_eq_true rfl) rfl rfl (fun M9 => ?_)
          refine V_aload_n dX11_deliver_65 rfl 0 rfl ?_
          refine V_getR dX11_deliver_66 rfl (ci := 10) (T := TX11) rfl (by decide) fl_X11_24 (fun x10 => ?_)
          refine V_aload_n dX11_deliver_69 rfl 0 rfl ?_
          refine V_getR dX11_deliver_70 rfl (ci := 10) (T := TX11) rfl (by decide) fl_X11_49 (fun x11 => ?_)
          refine V_cVwV (As := [.ref x11]) (k_X8_tellIdle x10 x11 M9) (fun _ h => o_X8_tellIdle h) ok_X8_tellIdle im_X8_tellIdle se_X8_tellIdle rfl (ci := 7) rfl ml_X11_313 ⟨⟨(Nat.le_of_ble_eq_true rfl), (Nat.le_of_ble_eq_true rfl)⟩, (Nat.le_of_ble_eq_true rfl), (Nat.le_of_ble_eq_true rfl)⟩ dX11_deliver_73 rfl rfl rfl (Nat.le_of_ble_eq_true rfl) rfl rfl (fun M13 => ?_)
          refine V_iload dX11_deliver_76 rfl 5 rfl ?_
          exact V_iret dX11_deliver_78 rfl rfl ⟨(Nat.le_of_ble_eq_true rfl), (Nat.le_of_ble_eq_true rfl)⟩
        · exact V_sub [] rfl (v_X11_deliver_29 M2)
theorem k_X11_deliver (this : Nat) (a1 : Int32) (a2 : Int32) (a3 : Int32) (M : Mem) : K mi_X11_deliver [.ref this, .int a1, .int a2, .int a3] M (f_X11_deliver this a1 a2 a3 M) tI := K_of_V ok_X11_deliver (Nat.le_of_ble_eq_true rfl) (v_X11_deliver this a1 a2 a3 M)
theorem o_X11_deliver {this : Nat} {a1 : Int32} {a2 : Int32} {a3 : Int32} {M : Mem} {x} (h : f_X11_deliver this a1 a2 a3 M = some x) : isO M 10 this = true := (ob_of h).1
