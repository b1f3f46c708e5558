def f_X10_isLetter (a0 : Int32) (M : Mem) : Option Bool :=
  if a0 < 97 then (
    some false
  ) else (
    if 122 < a0 then (
      some false
    ) else (
      some true
    )
  )
def f_X10_endOfWord_2 : Nat → Nat → Int32 → Mem → Option Int32
  | 0 => fun _ _ _ => none
  | fu + 1 => fun this l2 M =>
    (gR M 9 0 this).bind fun x1 =>
    (f_X1_size x1 M).bind fun x2 =>
    if x2 ≤ l2 then (
      some l2
    ) else (
      (gR M 9 0 this).bind fun x3 =>
      (f_X1_get x3 l2 M).bind fun x4 =>
      (f_X10_isLetter x4 M).bind fun x5 =>
      bif x5 then (
        (f_X10_endOfWord_2 fu) this (l2 + 1) M
      ) else (
        some l2
      )
    )
def f_X10_endOfWord (this : Nat) (a1 : Int32) (M : Mem) : Option Int32 :=
  ob M 9 this (
    f_X10_endOfWord_2 FU this a1 M
  )
def f_X10_addToken (this : Nat) (a1 : Int32) (a2 : Int32) (a3 : Int32) (a4 : Int64) (a6 : Option Nat) (M : Mem) : Option Mem :=
  ob M 9 this (
    (gI M 9 6 this).bind fun x1 =>
    if (x1 : Int32) < 0 then (
      some M
    ) else (
      (gR M 9 1 this).bind fun x2 =>
      (aL M x2).bind fun x3 =>
      if x3 ≤ x1 then (
        some M
      ) else (
        (gR M 9 2 this).bind fun x4 =>
        (aL M x4).bind fun x5 =>
        if x5 ≤ x1 then (
          some M
        ) else (
          (gR M 9 3 this).bind fun x6 =>
          (aL M x6).bind fun x7 =>
          if x7 ≤ x1 then (
            some M
          ) else (
            (gR M 9 4 this).bind fun x8 =>
            (aL M x8).bind fun x9 =>
            if x9 ≤ x1 then (
              some M
            ) else (
              (gR M 9 5 this).bind fun x10 =>
              (aL M x10).bind fun x11 =>
              if x11 ≤ x1 then (
                some M
              ) else (
                (gR M 9 1 this).bind fun x12 =>
                (sI M 0 x12 x1 a1).bind fun M13 =>
                (gR M13 9 2 this).bind fun x14 =>
                (sI M13 0 x14 x1 a2).bind fun M15 =>
                (gR M15 9 3 this).bind fun x16 =>
                (sI M15 0 x16 x1 a3).bind fun M17 =>
                (gR M17 9 4 this).bind fun x18 =>
                (sJ M17 1 x18 x1 a4).bind fun M19 =>
                (gR M19 9 5 this).bind fun x20 =>
                kwn a6 ((sQ M19 8 x20 x1 a6).bind fun M21 =>
                (gI M21 9 6 this).bind fun x22 =>
                (pV M21 9 6 this (.int (x22 + 1))).bind fun M23 =>
                some M23
                )
              )
            )
          )
        )
      )
    )
  )
def f_X10_isDigit (a0 : Int32) (M : Mem) : Option Bool :=
  if a0 < 48 then (
    some false
  ) else (
    if 57 < a0 then (
      some false
    ) else (
      some true
    )
  )
def f_X10_endOfNumber_2 : Nat → Nat → Int32 → Mem → Option Int32
  | 0 => fun _ _ _ => none
  | fu + 1 => fun this l2 M =>
    (gR M 9 0 this).bind fun x1 =>
    (f_X1_size x1 M).bind fun x2 =>
    if x2 ≤ l2 then (
      some l2
    ) else (
      (gR M 9 0 this).bind fun x3 =>
      (f_X1_get x3 l2 M).bind fun x4 =>
      (f_X10_isDigit x4 M).bind fun x5 =>
      bif x5 then (
        (f_X10_endOfNumber_2 fu) this (l2 + 1) M
      ) else (
        some l2
      )
    )
def f_X10_endOfNumber (this : Nat) (a1 : Int32) (M : Mem) : Option Int32 :=
  ob M 9 this (
    f_X10_endOfNumber_2 FU this a1 M
  )
def f_X10_numberAt_5 : Nat → Nat → Int32 → Int32 → Int32 → Mem → Option Int32
  | 0 => fun _ _ _ _ _ => none
  | fu + 1 => fun this l2 l3 l4 M =>
    if l2 ≤ l4 then (
      some l3
    ) else (
      if 9999 < l3 then (
        some l3
      ) else (
        (gR M 9 0 this).bind fun x1 =>
        (f_X1_get x1 l4 M).bind fun x2 =>
        (f_X10_numberAt_5 fu) this l2 (((l3 * 10) + x2) - 48) (l4 + 1) M
      )
    )
def f_X10_numberAt (this : Nat) (a1 : Int32) (a2 : Int32) (M : Mem) : Option Int32 :=
  ob M 9 this (
    f_X10_numberAt_5 FU this a2 0 a1 M
  )
def f_X10_readOne (this : Nat) (a1 : Int32) (M : Mem) : Option (Int32 × Mem) :=
  ob M 9 this (
    (gR M 9 0 this).bind fun x1 =>
    (f_X1_get x1 a1 M).bind fun x2 =>
    (f_X10_isLetter x2 M).bind fun x3 =>
    bif x3 then (
      (f_X10_endOfWord this a1 M).bind fun x11 =>
      (gR M 9 0 this).bind fun x12 =>
      (f_X1_nameAt x12 a1 x11 M).bind fun x13 =>
      (gR M 9 0 this).bind fun x14 =>
      (f_X3_spelled x14 a1 x11 M).bind fun x15 =>
      (f_X10_addToken this 1 a1 0 x13 x15 M).bind fun M17 =>
      some (x11, M17)
    ) else (
      (f_X10_isDigit x2 M).bind fun x4 =>
      bif x4 then (
        (f_X10_endOfNumber this a1 M).bind fun x7 =>
        (f_X10_numberAt this a1 x7 M).bind fun x8 =>
        (f_X10_addToken this 2 a1 x8 0 none M).bind fun M10 =>
        some (x7, M10)
      ) else (
        if x2 = 32 then (
          some ((a1 + 1), M)
        ) else (
          if x2 = 10 then (
            some ((a1 + 1), M)
          ) else (
            (f_X10_addToken this 3 a1 x2 0 none M).bind fun M6 =>
            some ((a1 + 1), M6)
          )
        )
      )
    )
  )
def f_X10_next_174 (this : Nat) (l1 : Bool) (s0 : Nat) (s1 : Int64) (M : Mem) : Option Mem :=
  (pV M 9 11 s0 (.long s1)).bind fun M9 =>
  bif l1 then (
    (gI M9 9 7 this).bind fun x11 =>
    (gR M9 9 5 this).bind fun x12 =>
    (aL M9 x12).bind fun x13 =>
    if x13 ≤ x11 then (
      (pV M9 9 12 this (va_rf none)).bind fun M14 =>
      some M14
    ) else (
      (gR M9 9 5 this).bind fun x15 =>
      (gI M9 9 7 this).bind fun x16 =>
      (aQ M9 8 x15 x16).bind fun x17 =>
      (pV M9 9 12 this (va_rf x17)).bind fun M18 =>
      some M18
    )
  ) else (
    (pV M9 9 12 this (va_rf none)).bind fun M10 =>
    some M10
  )
def f_X10_next_173 (this : Nat) (l1 : Bool) (s0 : Nat) (M : Mem) : Option Mem :=
  f_X10_next_174 this l1 s0 0 M
def f_X10_next_141 (this : Nat) (l1 : Bool) (s0 : Nat) (s1 : Int32) (M : Mem) : Option Mem :=
  (pV M 9 10 s0 (.int s1)).bind fun M8 =>
  bif l1 then (
    (gI M8 9 7 this).bind fun x19 =>
    (gR M8 9 4 this).bind fun x20 =>
    (aL M8 x20).bind fun x21 =>
    if x21 ≤ x19 then (
      f_X10_next_173 this l1 this M8
    ) else (
      (gR M8 9 4 this).bind fun x22 =>
      (gI M8 9 7 this).bind fun x23 =>
      (aJ M8 1 x22 x23).bind fun x24 =>
      f_X10_next_174 this l1 this x24 M8
    )
  ) else (
    f_X10_next_173 this l1 this M8
  )
def f_X10_next_140 (this : Nat) (l1 : Bool) (s0 : Nat) (M : Mem) : Option Mem :=
  f_X10_next_141 this l1 s0 0 M
def f_X10_next_108 (this : Nat) (l1 : Bool) (s0 : Nat) (s1 : Int32) (M : Mem) : Option Mem :=
  (pV M 9 9 s0 (.int s1)).bind fun M7 =>
  bif l1 then (
    (gI M7 9 7 this).bind fun x25 =>
    (gR M7 9 3 this).bind fun x26 =>
    (aL M7 x26).bind fun x27 =>
    if x27 ≤ x25 then (
      f_X10_next_140 this l1 this M7
    ) else (
      (gR M7 9 3 this).bind fun x28 =>
      (gI M7 9 7 this).bind fun x29 =>
      (aI M7 0 x28 x29).bind fun x30 =>
      f_X10_next_141 this l1 this x30 M7
    )
  ) else (
    f_X10_next_140 this l1 this M7
  )
def f_X10_next_104 (this : Nat) (l1 : Bool) (s0 : Nat) (M : Mem) : Option Mem :=
  (gI M 9 9 this).bind fun x6 =>
  f_X10_next_108 this l1 s0 x6 M
def f_X10_next_72 (this : Nat) (l1 : Bool) (s0 : Nat) (s1 : Int32) (M : Mem) : Option Mem :=
  (pV M 9 8 s0 (.int s1)).bind fun M5 =>
  bif l1 then (
    (gI M5 9 7 this).bind fun x31 =>
    (gR M5 9 2 this).bind fun x32 =>
    (aL M5 x32).bind fun x33 =>
    if x33 ≤ x31 then (
      f_X10_next_104 this l1 this M5
    ) else (
      (gR M5 9 2 this).bind fun x34 =>
      (gI M5 9 7 this).bind fun x35 =>
      (aI M5 0 x34 x35).bind fun x36 =>
      f_X10_next_108 this l1 this x36 M5
    )
  ) else (
    f_X10_next_104 this l1 this M5
  )
def f_X10_next_71 (this : Nat) (l1 : Bool) (s0 : Nat) (M : Mem) : Option Mem :=
  f_X10_next_72 this l1 s0 0 M
def f_X10_next_41 (this : Nat) (s0 : Bool) (M : Mem) : Option Mem :=
  bif s0 then (
    (gI M 9 7 this).bind fun x37 =>
    (gR M 9 1 this).bind fun x38 =>
    (aL M x38).bind fun x39 =>
    if x39 ≤ x37 then (
      f_X10_next_71 this s0 this M
    ) else (
      (gR M 9 1 this).bind fun x40 =>
      (gI M 9 7 this).bind fun x41 =>
      (aI M 0 x40 x41).bind fun x42 =>
      f_X10_next_72 this s0 this x42 M
    )
  ) else (
    f_X10_next_71 this s0 this M
  )
def f_X10_next_40 (this : Nat) (M : Mem) : Option Mem :=
  f_X10_next_41 this false M
def f_X10_next (this : Nat) (M : Mem) : Option Mem :=
  ob M 9 this (
    (gI M 9 13 this).bind fun x1 =>
    if (x1 : Int32) = 0 then (
      (gI M 9 7 this).bind fun x2 =>
      (pV M 9 7 this (.int (x2 + 1))).bind fun M3 =>
      (gI M3 9 7 this).bind fun x4 =>
      if (x4 : Int32) < 0 then (
        f_X10_next_40 this M3
      ) else (
        (gI M3 9 7 this).bind fun x43 =>
        (gI M3 9 6 this).bind fun x44 =>
        if x44 ≤ (x43 : Int32) then (
          f_X10_next_40 this M3
        ) else (
          f_X10_next_41 this true M3
        )
      )
    ) else (
      some M
    )
  )
def f_X10_begin_39 (this : Nat) (M : Mem) : Option Mem :=
  (gR M 9 0 this).bind fun x2 =>
  (f_X1_size x2 M).bind fun x3 =>
  (f_X10_addToken this 0 x3 0 0 none M).bind fun M5 =>
  (pV M5 9 13 this (.int 0)).bind fun M6 =>
  (pV M6 9 14 this (.int (-1))).bind fun M7 =>
  (pV M7 9 7 this (.int (-1))).bind fun M8 =>
  (f_X10_next this M8).bind fun M10 =>
  some M10
def f_X10_begin_9 : Nat → Nat → Int32 → Int32 → Mem → Option Mem
  | 0 => fun _ _ _ _ => none
  | fu + 1 => fun this l1 l2 M =>
    if 700 ≤ l2 then (
      f_X10_begin_39 this M
    ) else (
      (gR M 9 0 this).bind fun x11 =>
      (f_X1_size x11 M).bind fun x12 =>
      if x12 ≤ l1 then (
        f_X10_begin_39 this M
      ) else (
        (f_X10_readOne this l1 M).bind fun (x13, M14) =>
        (f_X10_begin_9 fu) this x13 (l2 + 1) M14
      )
    )
def f_X10_begin (this : Nat) (M : Mem) : Option Mem :=
  ob M 9 this (
    (pV M 9 6 this (.int 0)).bind fun M1 =>
    f_X10_begin_9 FU this 0 0 M1
  )
def f_X10_isKeyword (this : Nat) (a1 : Nat) (M : Mem) : Option Bool :=
  ob M 9 this (
    (gI M 9 8 this).bind fun x1 =>
    if (x1 : Int32) = 1 then (
      (gQ M 9 12 this).bind fun x2 =>
      acm x2 (some a1) (
        some true
      ) (
        some false
      )
    ) else (
      some false
    )
  )
def f_X10_fail (this : Nat) (a1 : Int32) (M : Mem) : Option Mem :=
  ob M 9 this (
    (gI M 9 13 this).bind fun x1 =>
    if (x1 : Int32) = 0 then (
      (pV M 9 13 this (.int a1)).bind fun M2 =>
      (gI M2 9 9 this).bind fun x3 =>
      (pV M2 9 14 this (.int x3)).bind fun M4 =>
      (pV M4 9 8 this (.int 4)).bind fun M5 =>
      (pV M5 9 12 this (va_rf none)).bind fun M6 =>
      some M6
    ) else (
      some M
    )
  )
def f_X10_passNumber_36 (this : Nat) (l3 : Int32) (M : Mem) : Option (Int32 × Mem) :=
  (f_X10_next this M).bind fun M6 =>
  some (l3, M6)
def f_X10_passNumber_31 (this : Nat) (l3 : Int32) (M : Mem) : Option (Int32 × Mem) :=
  (f_X10_fail this 2 M).bind fun M4 =>
  f_X10_passNumber_36 this l3 M4
def f_X10_passNumber (this : Nat) (a1 : Int32) (a2 : Int32) (M : Mem) : Option (Int32 × Mem) :=
  ob M 9 this (
    (gI M 9 10 this).bind fun x1 =>
    (gI M 9 8 this).bind fun x2 =>
    if (x2 : Int32) = 2 then (
      if x1 < a1 then (
        f_X10_passNumber_31 this x1 M
      ) else (
        if x1 ≤ a2 then (
          f_X10_passNumber_36 this x1 M
        ) else (
          f_X10_passNumber_31 this x1 M
        )
      )
    ) else (
      (f_X10_fail this 1 M).bind fun M8 =>
      f_X10_passNumber_36 this x1 M8
    )
  )
def f_X10_name (this : Nat) (M : Mem) : Option Int64 :=
  ob M 9 this (
    (gJ M 9 11 this).bind fun x1 =>
    some x1
  )
def f_X10_isName (this : Nat) (M : Mem) : Option Bool :=
  ob M 9 this (
    (gI M 9 8 this).bind fun x1 =>
    if (x1 : Int32) = 1 then (
      (gQ M 9 12 this).bind fun x2 =>
      match x2 with
      | none => (
        (gJ M 9 11 this).bind fun x4 =>
        if (lg_cmp x4 0) = 0 then (
          some false
        ) else (
          some true
        )
      )
      | some r3 => (
        some false
      )
    ) else (
      some false
    )
  )
def f_X10_failed (this : Nat) (M : Mem) : Option Bool :=
  ob M 9 this (
    (gI M 9 13 this).bind fun x1 =>
    if (x1 : Int32) = 0 then (
      some false
    ) else (
      some true
    )
  )
def f_X10_passKeyword_13 (this : Nat) (M : Mem) : Option Mem :=
  (f_X10_next this M).bind fun M3 =>
  some M3
def f_X10_passKeyword (this : Nat) (a1 : Nat) (M : Mem) : Option Mem :=
  ob M 9 this (
    (f_X10_isKeyword this a1 M).bind fun x1 =>
    bif x1 then (
      f_X10_passKeyword_13 this M
    ) else (
      (f_X10_fail this 1 M).bind fun M5 =>
      f_X10_passKeyword_13 this M5
    )
  )
def f_X10_flag (this : Nat) (M : Mem) : Option Int32 :=
  ob M 9 this (
    (gQ M 9 12 this).bind fun x1 =>
    match x1 with
    | none => (
      some 0
    )
    | some r2 => (
      (kFlag r2).bind fun x3 =>
      some x3
    )
  )
def f_X10_isSymbol (this : Nat) (a1 : Int32) (M : Mem) : Option Bool :=
  ob M 9 this (
    (gI M 9 8 this).bind fun x1 =>
    if (x1 : Int32) = 3 then (
      (gI M 9 10 this).bind fun x2 =>
      if x2 = a1 then (
        some true
      ) else (
        some false
      )
    ) else (
      some false
    )
  )
def f_X10_passSymbol_13 (this : Nat) (M : Mem) : Option Mem :=
  (f_X10_next this M).bind fun M3 =>
  some M3
def f_X10_passSymbol (this : Nat) (a1 : Int32) (M : Mem) : Option Mem :=
  ob M 9 this (
    (f_X10_isSymbol this a1 M).bind fun x1 =>
    bif x1 then (
      f_X10_passSymbol_13 this M
    ) else (
      (f_X10_fail this 1 M).bind fun M5 =>
      f_X10_passSymbol_13 this M5
    )
  )
def f_X10_atEnd (this : Nat) (M : Mem) : Option Bool :=
  ob M 9 this (
    (gI M 9 8 this).bind fun x1 =>
    if (x1 : Int32) = 0 then (
      some true
    ) else (
      some false
    )
  )
def f_X10_init (this : Nat) (a1 : Nat) (M : Mem) : Option Mem :=
  ob M 9 this (
    (pV M 9 0 this (.ref a1)).bind fun M1 =>
    (alc M1).bind fun r2 =>
    (pV (mnew M1 (.inl (0, (701, .inl (fun _ => 0))))) 9 1 this (.ref r2)).bind fun M3 =>
    (alc M3).bind fun r4 =>
    (pV (mnew M3 (.inl (0, (701, .inl (fun _ => 0))))) 9 2 this (.ref r4)).bind fun M5 =>
    (alc M5).bind fun r6 =>
    (pV (mnew M5 (.inl (0, (701, .inl (fun _ => 0))))) 9 3 this (.ref r6)).bind fun M7 =>
    (alc M7).bind fun r8 =>
    (pV (mnew M7 (.inl (1, (701, .inr (.inl (fun _ => 0)))))) 9 4 this (.ref r8)).bind fun M9 =>
    (alc M9).bind fun r10 =>
    (pV (mnew M9 (.inl (8, (701, .inr (.inr (.inr (.inr (fun _ => none)))))))) 9 5 this (.ref r10)).bind fun M11 =>
    (pV M11 9 8 this (.int 4)).bind fun M12 =>
    (pV M12 9 13 this (.int 0)).bind fun M13 =>
    (pV M13 9 14 this (.int (-1))).bind fun M14 =>
    some M14
  )
theorem cw_X10_isLetter : (Cond.code yX10_isLetter cX10_isLetter 1 (some .boolean)) ∈ cr_U := mem_U (i := 969) (by decide +kernel) rfl
theorem ini_X10 : (Cond.initialized RX10) ∈ cr_U := mem_U (i := 34) (by decide +kernel) rfl
theorem fl_X10_9_w : (Cond.fieldLink RX10 9 (TX10 0).1 (TX10 0).2.1 (TX10 0).2.2.1) ∈ cr_U := mem_U (i := 252) (by decide +kernel) rfl
theorem fl_X10_9 : flk RX10 9 (TX10 0) := Or.inl fl_X10_9_w
theorem ml_X10_48 : (Cond.methodLink RX10 48 yX1_size) ∈ cr_U := mem_U (i := 958) (by decide +kernel) rfl
theorem im_X1_size : (Cond.instanceMethod yX1_size) ∈ cr_U := mem_U (i := 886) (by decide +kernel) rfl
theorem se_X1_size : (Cond.selects RX1 yX1_size yX1_size) ∈ cr_U := mem_U (i := 887) (by decide +kernel) rfl
theorem ml_X10_97 : (Cond.methodLink RX10 97 yX1_get) ∈ cr_U := mem_U (i := 963) (by decide +kernel) rfl
theorem ml_X10_100 : (Cond.methodLink RX10 100 yX10_isLetter) ∈ cr_U := mem_U (i := 967) (by decide +kernel) rfl
theorem sm_X10_isLetter : (Cond.static yX10_isLetter) ∈ cr_U := mem_U (i := 968) (by decide +kernel) rfl
theorem cw_X10_endOfWord : (Cond.code yX10_endOfWord cX10_endOfWord 3 (some .int)) ∈ cr_U := mem_U (i := 973) (by decide +kernel) rfl
theorem fl_X10_45_w : (Cond.fieldLink RX10 45 (TX10 6).1 (TX10 6).2.1 (TX10 6).2.2.1) ∈ cr_U := mem_U (i := 258) (by decide +kernel) rfl
theorem fl_X10_45 : flk RX10 45 (TX10 6) := Or.inl fl_X10_45_w
theorem fl_X10_15_w : (Cond.fieldLink RX10 15 (TX10 1).1 (TX10 1).2.1 (TX10 1).2.2.1) ∈ cr_U := mem_U (i := 253) (by decide +kernel) rfl
theorem fl_X10_15 : flk RX10 15 (TX10 1) := Or.inl fl_X10_15_w
theorem fl_X10_19_w : (Cond.fieldLink RX10 19 (TX10 2).1 (TX10 2).2.1 (TX10 2).2.2.1) ∈ cr_U := mem_U (i := 254) (by decide +kernel) rfl
theorem fl_X10_19 : flk RX10 19 (TX10 2) := Or.inl fl_X10_19_w
theorem fl_X10_22_w : (Cond.fieldLink RX10 22 (TX10 3).1 (TX10 3).2.1 (TX10 3).2.2.1) ∈ cr_U := mem_U (i := 255) (by decide +kernel) rfl
theorem fl_X10_22 : flk RX10 22 (TX10 3) := Or.inl fl_X10_22_w
theorem fl_X10_25_w : (Cond.fieldLink RX10 25 (TX10 4).1 (TX10 4).2.1 (TX10 4).2.2.1) ∈ cr_U := mem_U (i := 256) (by decide +kernel) rfl
theorem fl_X10_25 : flk RX10 25 (TX10 4) := Or.inl fl_X10_25_w
theorem fl_X10_31_w : (Cond.fieldLink RX10 31 (TX10 5).1 (TX10 5).2.1 (TX10 5).2.2.1) ∈ cr_U := mem_U (i := 257) (by decide +kernel) rfl
theorem fl_X10_31 : flk RX10 31 (TX10 5) := Or.inl fl_X10_31_w
theorem cw_X10_addToken : (Cond.code yX10_addToken cX10_addToken 8 (none)) ∈ cr_U := mem_U (i := 990) (by decide +kernel) rfl
theorem cw_X10_isDigit : (Cond.code yX10_isDigit cX10_isDigit 1 (some .boolean)) ∈ cr_U := mem_U (i := 993) (by decide +kernel) rfl
theorem ml_X10_115 : (Cond.methodLink RX10 115 yX10_isDigit) ∈ cr_U := mem_U (i := 991) (by decide +kernel) rfl
theorem sm_X10_isDigit : (Cond.static yX10_isDigit) ∈ cr_U := mem_U (i := 992) (by decide +kernel) rfl
theorem cw_X10_endOfNumber : (Cond.code yX10_endOfNumber cX10_endOfNumber 3 (some .int)) ∈ cr_U := mem_U (i := 997) (by decide +kernel) rfl
theorem cw_X10_numberAt : (Cond.code yX10_numberAt cX10_numberAt 5 (some .int)) ∈ cr_U := mem_U (i := 1001) (by decide +kernel) rfl
theorem ml_X10_58 : (Cond.methodLink RX10 58 yX10_addToken) ∈ cr_U := mem_U (i := 987) (by decide +kernel) rfl
theorem im_X10_addToken : (Cond.instanceMethod yX10_addToken) ∈ cr_U := mem_U (i := 989) (by decide +kernel) rfl
theorem se_X10_addToken : (Cond.selects RX10 yX10_addToken yX10_addToken) ∈ cr_U := mem_U (i := 4) (by decide +kernel) rfl
theorem ml_X10_118 : (Cond.methodLink RX10 118 yX10_endOfNumber) ∈ cr_U := mem_U (i := 994) (by decide +kernel) rfl
theorem im_X10_endOfNumber : (Cond.instanceMethod yX10_endOfNumber) ∈ cr_U := mem_U (i := 996) (by decide +kernel) rfl
theorem se_X10_endOfNumber : (Cond.selects RX10 yX10_endOfNumber yX10_endOfNumber) ∈ cr_U := mem_U (i := 5) (by decide +kernel) rfl
theorem ml_X10_121 : (Cond.methodLink RX10 121 yX10_numberAt) ∈ cr_U := mem_U (i := 998) (by decide +kernel) rfl
theorem im_X10_numberAt : (Cond.instanceMethod yX10_numberAt) ∈ cr_U := mem_U (i := 1000) (by decide +kernel) rfl
theorem se_X10_numberAt : (Cond.selects RX10 yX10_numberAt yX10_numberAt) ∈ cr_U := mem_U (i := 6) (by decide +kernel) rfl
theorem ml_X10_104 : (Cond.methodLink RX10 104 yX10_endOfWord) ∈ cr_U := mem_U (i := 970) (by decide +kernel) rfl
theorem im_X10_endOfWord : (Cond.instanceMethod yX10_endOfWord) ∈ cr_U := mem_U (i := 972) (by decide +kernel) rfl
theorem se_X10_endOfWord : (Cond.selects RX10 yX10_endOfWord yX10_endOfWord) ∈ cr_U := mem_U (i := 3) (by decide +kernel) rfl
theorem ml_X10_107 : (Cond.methodLink RX10 107 yX1_nameAt) ∈ cr_U := mem_U (i := 974) (by decide +kernel) rfl
theorem im_X1_nameAt : (Cond.instanceMethod yX1_nameAt) ∈ cr_U := mem_U (i := 975) (by decide +kernel) rfl
theorem se_X1_nameAt : (Cond.selects RX1 yX1_nameAt yX1_nameAt) ∈ cr_U := mem_U (i := 976) (by decide +kernel) rfl
theorem ml_X10_111 : (Cond.methodLink RX10 111 yX3_spelled) ∈ cr_U := mem_U (i := 979) (by decide +kernel) rfl
theorem sm_X3_spelled : (Cond.static yX3_spelled) ∈ cr_U := mem_U (i := 980) (by decide +kernel) rfl
theorem cw_X10_readOne : (Cond.code yX10_readOne cX10_readOne 4 (some .int)) ∈ cr_U := mem_U (i := 962) (by decide +kernel) rfl
theorem fl_X10_39_w : (Cond.fieldLink RX10 39 (TX10 13).1 (TX10 13).2.1 (TX10 13).2.2.1) ∈ cr_U := mem_U (i := 265) (by decide +kernel) rfl
theorem fl_X10_39 : flk RX10 39 (TX10 13) := Or.inl fl_X10_39_w
theorem fl_X10_62_w : (Cond.fieldLink RX10 62 (TX10 7).1 (TX10 7).2.1 (TX10 7).2.2.1) ∈ cr_U := mem_U (i := 259) (by decide +kernel) rfl
theorem fl_X10_62 : flk RX10 62 (TX10 7) := Or.inl fl_X10_62_w
theorem fl_X10_35_w : (Cond.fieldLink RX10 35 (TX10 8).1 (TX10 8).2.1 (TX10 8).2.2.1) ∈ cr_U := mem_U (i := 260) (by decide +kernel) rfl
theorem fl_X10_35 : flk RX10 35 (TX10 8) := Or.inl fl_X10_35_w
theorem fl_X10_68_w : (Cond.fieldLink RX10 68 (TX10 9).1 (TX10 9).2.1 (TX10 9).2.2.1) ∈ cr_U := mem_U (i := 261) (by decide +kernel) rfl
theorem fl_X10_68 : flk RX10 68 (TX10 9) := Or.inl fl_X10_68_w
theorem fl_X10_71_w : (Cond.fieldLink RX10 71 (TX10 10).1 (TX10 10).2.1 (TX10 10).2.2.1) ∈ cr_U := mem_U (i := 262) (by decide +kernel) rfl
theorem fl_X10_71 : flk RX10 71 (TX10 10) := Or.inl fl_X10_71_w
theorem fl_X10_74_w : (Cond.fieldLink RX10 74 (TX10 11).1 (TX10 11).2.1 (TX10 11).2.2.1) ∈ cr_U := mem_U (i := 263) (by decide +kernel) rfl
theorem fl_X10_74 : flk RX10 74 (TX10 11) := Or.inl fl_X10_74_w
theorem fl_X10_78_w : (Cond.fieldLink RX10 78 (TX10 12).1 (TX10 12).2.1 (TX10 12).2.2.1) ∈ cr_U := mem_U (i := 264) (by decide +kernel) rfl
theorem fl_X10_78 : flk RX10 78 (TX10 12) := Or.inl fl_X10_78_w
theorem cw_X10_next : (Cond.code yX10_next cX10_next 2 (none)) ∈ cr_U := mem_U (i := 1005) (by decide +kernel) rfl
theorem fl_X10_42_w : (Cond.fieldLink RX10 42 (TX10 14).1 (TX10 14).2.1 (TX10 14).2.2.1) ∈ cr_U := mem_U (i := 267) (by decide +kernel) rfl
theorem fl_X10_42 : flk RX10 42 (TX10 14) := Or.inl fl_X10_42_w
theorem ml_X10_65 : (Cond.methodLink RX10 65 yX10_next) ∈ cr_U := mem_U (i := 1002) (by decide +kernel) rfl
theorem im_X10_next : (Cond.instanceMethod yX10_next) ∈ cr_U := mem_U (i := 1003) (by decide +kernel) rfl
theorem se_X10_next : (Cond.selects RX10 yX10_next yX10_next) ∈ cr_U := mem_U (i := 1004) (by decide +kernel) rfl
theorem ml_X10_54 : (Cond.methodLink RX10 54 yX10_readOne) ∈ cr_U := mem_U (i := 959) (by decide +kernel) rfl
theorem im_X10_readOne : (Cond.instanceMethod yX10_readOne) ∈ cr_U := mem_U (i := 961) (by decide +kernel) rfl
theorem se_X10_readOne : (Cond.selects RX10 yX10_readOne yX10_readOne) ∈ cr_U := mem_U (i := 2) (by decide +kernel) rfl
theorem cw_X10_begin : (Cond.code yX10_begin cX10_begin 3 (none)) ∈ cr_U := mem_U (i := 957) (by decide +kernel) rfl
theorem cw_X10_isKeyword : (Cond.code yX10_isKeyword cX10_isKeyword 2 (some .boolean)) ∈ cr_U := mem_U (i := 1015) (by decide +kernel) rfl
theorem cw_X10_fail : (Cond.code yX10_fail cX10_fail 2 (none)) ∈ cr_U := mem_U (i := 1023) (by decide +kernel) rfl
theorem ml_X10_89 : (Cond.methodLink RX10 89 yX10_fail) ∈ cr_U := mem_U (i := 1029) (by decide +kernel) rfl
theorem im_X10_fail : (Cond.instanceMethod yX10_fail) ∈ cr_U := mem_U (i := 1021) (by decide +kernel) rfl
theorem se_X10_fail : (Cond.selects RX10 yX10_fail yX10_fail) ∈ cr_U := mem_U (i := 1022) (by decide +kernel) rfl
theorem cw_X10_passNumber : (Cond.code yX10_passNumber cX10_passNumber 4 (some .int)) ∈ cr_U := mem_U (i := 1028) (by decide +kernel) rfl
theorem cw_X10_name : (Cond.code yX10_name cX10_name 1 (some .long)) ∈ cr_U := mem_U (i := 1039) (by decide +kernel) rfl
theorem cw_X10_isName : (Cond.code yX10_isName cX10_isName 1 (some .boolean)) ∈ cr_U := mem_U (i := 1051) (by decide +kernel) rfl
theorem cw_X10_failed : (Cond.code yX10_failed cX10_failed 1 (some .boolean)) ∈ cr_U := mem_U (i := 1055) (by decide +kernel) rfl
theorem ml_X10_93 : (Cond.methodLink RX10 93 yX10_isKeyword) ∈ cr_U := mem_U (i := 1086) (by decide +kernel) rfl
theorem im_X10_isKeyword : (Cond.instanceMethod yX10_isKeyword) ∈ cr_U := mem_U (i := 1013) (by decide +kernel) rfl
theorem se_X10_isKeyword : (Cond.selects RX10 yX10_isKeyword yX10_isKeyword) ∈ cr_U := mem_U (i := 1014) (by decide +kernel) rfl
theorem cw_X10_passKeyword : (Cond.code yX10_passKeyword cX10_passKeyword 2 (none)) ∈ cr_U := mem_U (i := 1085) (by decide +kernel) rfl
theorem fw_X10_82 : (Cond.fieldLinkNest RX10 82 kwT "flag" "I" RX11) ∈ lw_tbl := List.mem_of_getElem? (i := 1569) (by decide +kernel)
theorem cw_X10_flag : (Cond.code yX10_flag cX10_flag 2 (some .int)) ∈ cr_U := mem_U (i := 1094) (by decide +kernel) rfl
theorem cw_X10_isSymbol : (Cond.code yX10_isSymbol cX10_isSymbol 2 (some .boolean)) ∈ cr_U := mem_U (i := 1119) (by decide +kernel) rfl
theorem ml_X10_85 : (Cond.methodLink RX10 85 yX10_isSymbol) ∈ cr_U := mem_U (i := 1143) (by decide +kernel) rfl
theorem im_X10_isSymbol : (Cond.instanceMethod yX10_isSymbol) ∈ cr_U := mem_U (i := 1117) (by decide +kernel) rfl
theorem se_X10_isSymbol : (Cond.selects RX10 yX10_isSymbol yX10_isSymbol) ∈ cr_U := mem_U (i := 1118) (by decide +kernel) rfl
theorem cw_X10_passSymbol : (Cond.code yX10_passSymbol cX10_passSymbol 2 (none)) ∈ cr_U := mem_U (i := 1142) (by decide +kernel) rfl
theorem cw_X10_atEnd : (Cond.code yX10_atEnd cX10_atEnd 1 (some .boolean)) ∈ cr_U := mem_U (i := 1147) (by decide +kernel) rfl
theorem cl_X10_29 : (Cond.classLink RX10 29 RX3) ∈ cr_U := mem_U (i := 250) (by decide +kernel) rfl
theorem ar_1 : (Cond.arrayClass (newarray.typeOf .long)) ∈ cr_U := mem_U (i := 300) (by decide +kernel) rfl
theorem ml_X10_3 : (Cond.methodLink RX10 3 Lib.objectInit) ∈ cr_U := mem_U (i := 249) (by decide +kernel) rfl
theorem cw_X10_init : (Cond.code yX10_init cX10_init 2 (none)) ∈ cr_U := mem_U (i := 248) (by decide +kernel) rfl
theorem dX10_isLetter_0 : decode cX10_isLetter 0 = .ok (.iload_n 0, 1) := by decide +kernel
theorem dX10_isLetter_1 : decode cX10_isLetter 1 = .ok (.bipush 97, 2) := by decide +kernel
theorem dX10_isLetter_3 : decode cX10_isLetter 3 = .ok (.if_icmp .lt 13, 3) := by decide +kernel
theorem dX10_isLetter_6 : decode cX10_isLetter 6 = .ok (.iload_n 0, 1) := by decide +kernel
theorem dX10_isLetter_7 : decode cX10_isLetter 7 = .ok (.bipush 122, 2) := by decide +kernel
theorem dX10_isLetter_9 : decode cX10_isLetter 9 = .ok (.if_icmp .gt 7, 3) := by decide +kernel
theorem dX10_isLetter_12 : decode cX10_isLetter 12 = .ok (.iconst 1, 1) := by decide +kernel
theorem dX10_isLetter_13 : decode cX10_isLetter 13 = .ok (.goto 4, 3) := by decide +kernel
theorem dX10_isLetter_16 : decode cX10_isLetter 16 = .ok (.iconst 0, 1) := by decide +kernel
theorem dX10_isLetter_17 : decode cX10_isLetter 17 = .ok (.ireturn, 1) := by decide +kernel
def mi_X10_isLetter : MI := (RX10, yX10_isLetter, cX10_isLetter, 1, some .boolean, [], { frames := 1, cells := 0, slots := 0, locals := 12 })
theorem ok_X10_isLetter : mOK mi_X10_isLetter 1 := ⟨rfl, cw_X10_isLetter, ini_X10, ⟨rfl, by decide⟩, by decide, by decide, rfl⟩
theorem v_X10_isLetter (a0 : Int32) (M : Mem) : V mi_X10_isLetter 0 [(0, .int a0)] [] M 0 0 (f_X10_isLetter a0 M) (eZ M) := by
  unfold f_X10_isLetter
  refine V_iload_n dX10_isLetter_0 rfl 0 rfl ?_
  refine V_bipush (x := 97) dX10_isLetter_1 rfl rfl ?_
  refine V_icmp_lt (q := 16) (q2 := 6) dX10_isLetter_3 (by decide) rfl ?_ ?_
  · refine V_iconst (x := 0) dX10_isLetter_16 rfl rfl ?_
    exact V_zret (v := false) dX10_isLetter_17 rfl rfl ⟨(Nat.le_of_ble_eq_true rfl), (Nat.le_of_ble_eq_true rfl)⟩
  · refine V_iload_n dX10_isLetter_6 rfl 0 rfl ?_
    refine V_bipush (x := 122) dX10_isLetter_7 rfl rfl ?_
    refine V_icmp_gt (q := 16) (q2 := 12) dX10_isLetter_9 (by decide) rfl ?_ ?_
    · refine V_iconst (x := 0) dX10_isLetter_16 rfl rfl ?_
      exact V_zret (v := false) dX10_isLetter_17 rfl rfl ⟨(Nat.le_of_ble_eq_true rfl), (Nat.le_of_ble_eq_true rfl)⟩
    · refine V_iconst (x := 1) dX10_isLetter_12 rfl rfl ?_
      refine V_goto (q := 17) dX10_isLetter_13 (by decide) ?_
      exact V_zret (v := true) dX10_isLetter_17 rfl rfl ⟨(Nat.le_of_ble_eq_true rfl), (Nat.le_of_ble_eq_true rfl)⟩
theorem k_X10_isLetter (a0 : Int32) (M : Mem) : K mi_X10_isLetter [.int a0] M (f_X10_isLetter a0 M) (eZ M) := K_of_V ok_X10_isLetter (Nat.le_of_ble_eq_true rfl) (v_X10_isLetter a0 M)
theorem dX10_endOfWord_0 : decode cX10_endOfWord 0 = .ok (.iload_n 1, 1) := by decide +kernel
theorem dX10_endOfWord_1 : decode cX10_endOfWord 1 = .ok (.istore_n 2, 1) := by decide +kernel
theorem dX10_endOfWord_2 : decode cX10_endOfWord 2 = .ok (.iload_n 2, 1) := by decide +kernel
theorem dX10_endOfWord_3 : decode cX10_endOfWord 3 = .ok (.aload_n 0, 1) := by decide +kernel
theorem dX10_endOfWord_4 : decode cX10_endOfWord 4 = .ok (.getfield 9, 3) := by decide +kernel
theorem dX10_endOfWord_7 : decode cX10_endOfWord 7 = .ok (.invokevirtual 48, 3) := by decide +kernel
theorem dX10_endOfWord_10 : decode cX10_endOfWord 10 = .ok (.if_icmp .ge 23, 3) := by decide +kernel
theorem dX10_endOfWord_13 : decode cX10_endOfWord 13 = .ok (.aload_n 0, 1) := by decide +kernel
theorem dX10_endOfWord_14 : decode cX10_endOfWord 14 = .ok (.getfield 9, 3) := by decide +kernel
theorem dX10_endOfWord_17 : decode cX10_endOfWord 17 = .ok (.iload_n 2, 1) := by decide +kernel
theorem dX10_endOfWord_18 : decode cX10_endOfWord 18 = .ok (.invokevirtual 97, 3) := by decide +kernel
theorem dX10_endOfWord_21 : decode cX10_endOfWord 21 = .ok (.invokestatic 100, 3) := by decide +kernel
theorem dX10_endOfWord_24 : decode cX10_endOfWord 24 = .ok (.ifCond .eq 9, 3) := by decide +kernel
theorem dX10_endOfWord_27 : decode cX10_endOfWord 27 = .ok (.iinc 2 1, 3) := by decide +kernel
theorem dX10_endOfWord_30 : decode cX10_endOfWord 30 = .ok (.goto (-28), 3) := by decide +kernel
theorem dX10_endOfWord_33 : decode cX10_endOfWord 33 = .ok (.iload_n 2, 1) := by decide +kernel
theorem dX10_endOfWord_34 : decode cX10_endOfWord 34 = .ok (.ireturn, 1) := by decide +kernel
def mi_X10_endOfWord : MI := (RX10, yX10_endOfWord, cX10_endOfWord, 3, some .int, [], { frames := 2, cells := 0, slots := 0, locals := 33 })
theorem ok_X10_endOfWord : mOK mi_X10_endOfWord 1 := ⟨rfl, cw_X10_endOfWord, ini_X10, ⟨rfl, by decide⟩, by decide, by decide, rfl⟩
theorem v_X10_endOfWord_2 : ∀ (fu : Nat) (this : Nat) (l2 : Int32) (M : Mem), V mi_X10_endOfWord 2 [(0, .ref this), (2, .int l2)] [] M 0 0 (f_X10_endOfWord_2 fu this l2 M) (eI M) := by
  intro fu
  induction fu with
  | zero => intros; exact V_none
  | succ fu ih =>
    intro this l2 M
    show V mi_X10_endOfWord 2 [(0, .ref this), (2, .int l2)] [] M 0 0 (f_X10_endOfWord_2 (fu + 1) this l2 M) (eI M)
    unfold f_X10_endOfWord_2
    refine V_iload_n dX10_endOfWord_2 rfl 1 rfl ?_
    refine V_aload_n dX10_endOfWord_3 rfl 0 rfl ?_
    refine V_getR dX10_endOfWord_4 rfl (ci := 9) (T := TX10) rfl (by decide) fl_X10_9 (fun x1 => ?_)
    refine V_cVeI (As := []) (k_X1_size x1 M) (fun _ h => o_X1_size h) ok_X1_size im_X1_size se_X1_size rfl (ci := 1) rfl ml_X10_48 ⟨⟨(Nat.le_of_ble_eq_true rfl), (Nat.le_of_ble_eq_true rfl)⟩, (Nat.le_of_ble_eq_true rfl), (Nat.le_of_ble_eq_true rfl)⟩ dX10_endOfWord_7 rfl rfl rfl (Nat.le_of_ble_eq_true rfl) rfl rfl (fun x2 => ?_)
    refine V_icmp_ge (q := 33) (q2 := 13) dX10_endOfWord_10 (by decide) rfl ?_ ?_
    · refine V_iload_n dX10_endOfWord_33 rfl 1 rfl ?_
      exact V_iret dX10_endOfWord_34 rfl rfl ⟨(Nat.le_of_ble_eq_true rfl), (Nat.le_of_ble_eq_true rfl)⟩
    · refine V_aload_n dX10_endOfWord_13 rfl 0 rfl ?_
      refine V_getR dX10_endOfWord_14 rfl (ci := 9) (T := TX10) rfl (by decide) fl_X10_9 (fun x3 => ?_)
      refine V_iload_n dX10_endOfWord_17 rfl 1 rfl ?_
      refine V_cVeI (As := [.int l2]) (k_X1_get x3 l2 M) (fun _ h => o_X1_get h) ok_X1_get im_X1_get se_X1_get rfl (ci := 1) rfl ml_X10_97 ⟨⟨(Nat.le_of_ble_eq_true rfl), (Nat.le_of_ble_eq_true rfl)⟩, (Nat.le_of_ble_eq_true rfl), (Nat.le_of_ble_eq_true rfl)⟩ dX10_endOfWord_18 rfl rfl rfl (Nat.le_of_ble_eq_true rfl) rfl rfl (fun x4 => ?_)
      refine V_cSeZ (As := [.int x4]) (k_X10_isLetter x4 M) ok_X10_isLetter sm_X10_isLetter ml_X10_100 ⟨⟨(Nat.le_of_ble_eq_true rfl), (Nat.le_of_ble_eq_true rfl)⟩, (Nat.le_of_ble_eq_true rfl), (Nat.le_of_ble_eq_true rfl)⟩ dX10_endOfWord_21 rfl rfl rfl (Nat.le_of_ble_eq_true rfl) rfl rfl (fun x5 => ?_)
      refine V_ifz_eq (q := 33) (q2 := 27) dX10_endOfWord_24 (by decide) rfl ?_ ?_
      · refine V_iload_n dX10_endOfWord_33 rfl 1 rfl ?_
        exact V_iret dX10_endOfWord_34 rfl rfl ⟨(Nat.le_of_ble_eq_true rfl), (Nat.le_of_ble_eq_true rfl)⟩
      · refine V_iinc (y := (l2 + 1)) (L' := [(0, .ref this), (2, .int (l2 + 1))]) dX10_endOfWord_27 rfl 1 rfl rfl (by decide) rfl ?_
        refine V_goto (q := 2) dX10_endOfWord_30 (by decide) ?_
        exact ih this (l2 + 1) M
theorem v_X10_endOfWord (this : Nat) (a1 : Int32) (M : Mem) : V mi_X10_endOfWord 0 [(0, .ref this), (1, .int a1)] [] M 0 0 (f_X10_endOfWord this a1 M) (eI M) := by
  unfold f_X10_endOfWord
  refine V_ob fun _ _ => ?_
  refine V_iload_n dX10_endOfWord_0 rfl 1 rfl ?_
  refine V_istore_n (L' := [(0, .ref this), (1, .int a1), (2, .int a1)]) dX10_endOfWord_1 rfl (by decide) rfl ?_
  exact V_sub [0, 2] rfl (v_X10_endOfWord_2 FU this a1 M)
theorem k_X10_endOfWord (this : Nat) (a1 : Int32) (M : Mem) : K mi_X10_endOfWord [.ref this, .int a1] M (f_X10_endOfWord this a1 M) (eI M) := K_of_V ok_X10_endOfWord (Nat.le_of_ble_eq_true rfl) (v_X10_endOfWord this a1 M)
theorem o_X10_endOfWord {this : Nat} {a1 : Int32} {M : Mem} {x} (h : f_X10_endOfWord this a1 M = some x) : isO M 9 this = true := (ob_of h).1
theorem dX10_addToken_0 : decode cX10_addToken 0 = .ok (.aload_n 0, 1) := by decide +kernel
theorem dX10_addToken_1 : decode cX10_addToken 1 = .ok (.getfield 45, 3) := by decide +kernel
theorem dX10_addToken_4 : decode cX10_addToken 4 = .ok (.istore 7, 2) := by decide +kernel
theorem dX10_addToken_6 : decode cX10_addToken 6 = .ok (.iload 7, 2) := by decide +kernel
theorem dX10_addToken_8 : decode cX10_addToken 8 = .ok (.ifCond .lt 105, 3) := by decide +kernel
theorem dX10_addToken_11 : decode cX10_addToken 11 = .ok (.iload 7, 2) := by decide +kernel
theorem dX10_addToken_13 : decode cX10_addToken 13 = .ok (.aload_n 0, 1) := by decide +kernel
theorem dX10_addToken_14 : decode cX10_addToken 14 = .ok (.getfield 15, 3) := by decide +kernel
theorem dX10_addToken_17 : decode cX10_addToken 17 = .ok (.arraylength, 1) := by decide +kernel
theorem dX10_addToken_18 : decode cX10_addToken 18 = .ok (.if_icmp .ge 95, 3) := by decide +kernel
theorem dX10_addToken_21 : decode cX10_addToken 21 = .ok (.iload 7, 2) := by decide +kernel
theorem dX10_addToken_23 : decode cX10_addToken 23 = .ok (.aload_n 0, 1) := by decide +kernel
theorem dX10_addToken_24 : decode cX10_addToken 24 = .ok (.getfield 19, 3) := by decide +kernel
theorem dX10_addToken_27 : decode cX10_addToken 27 = .ok (.arraylength, 1) := by decide +kernel
theorem dX10_addToken_28 : decode cX10_addToken 28 = .ok (.if_icmp .ge 85, 3) := by decide +kernel
theorem dX10_addToken_31 : decode cX10_addToken 31 = .ok (.iload 7, 2) := by decide +kernel
theorem dX10_addToken_33 : decode cX10_addToken 33 = .ok (.aload_n 0, 1) := by decide +kernel
theorem dX10_addToken_34 : decode cX10_addToken 34 = .ok (.getfield 22, 3) := by decide +kernel
theorem dX10_addToken_37 : decode cX10_addToken 37 = .ok (.arraylength, 1) := by decide +kernel
theorem dX10_addToken_38 : decode cX10_addToken 38 = .ok (.if_icmp .ge 75, 3) := by decide +kernel
theorem dX10_addToken_41 : decode cX10_addToken 41 = .ok (.iload 7, 2) := by decide +kernel
theorem dX10_addToken_43 : decode cX10_addToken 43 = .ok (.aload_n 0, 1) := by decide +kernel
theorem dX10_addToken_44 : decode cX10_addToken 44 = .ok (.getfield 25, 3) := by decide +kernel
theorem dX10_addToken_47 : decode cX10_addToken 47 = .ok (.arraylength, 1) := by decide +kernel
theorem dX10_addToken_48 : decode cX10_addToken 48 = .ok (.if_icmp .ge 65, 3) := by decide +kernel
theorem dX10_addToken_51 : decode cX10_addToken 51 = .ok (.iload 7, 2) := by decide +kernel
theorem dX10_addToken_53 : decode cX10_addToken 53 = .ok (.aload_n 0, 1) := by decide +kernel
theorem dX10_addToken_54 : decode cX10_addToken 54 = .ok (.getfield 31, 3) := by decide +kernel
theorem dX10_addToken_57 : decode cX10_addToken 57 = .ok (.arraylength, 1) := by decide +kernel
theorem dX10_addToken_58 : decode cX10_addToken 58 = .ok (.if_icmp .ge 55, 3) := by decide +kernel
theorem dX10_addToken_61 : decode cX10_addToken 61 = .ok (.aload_n 0, 1) := by decide +kernel
theorem dX10_addToken_62 : decode cX10_addToken 62 = .ok (.getfield 15, 3) := by decide +kernel
theorem dX10_addToken_65 : decode cX10_addToken 65 = .ok (.iload 7, 2) := by decide +kernel
theorem dX10_addToken_67 : decode cX10_addToken 67 = .ok (.iload_n 1, 1) := by decide +kernel
theorem dX10_addToken_68 : decode cX10_addToken 68 = .ok (.iastore, 1) := by decide +kernel
theorem dX10_addToken_69 : decode cX10_addToken 69 = .ok (.aload_n 0, 1) := by decide +kernel
theorem dX10_addToken_70 : decode cX10_addToken 70 = .ok (.getfield 19, 3) := by decide +kernel
theorem dX10_addToken_73 : decode cX10_addToken 73 = .ok (.iload 7, 2) := by decide +kernel
theorem dX10_addToken_75 : decode cX10_addToken 75 = .ok (.iload_n 2, 1) := by decide +kernel
theorem dX10_addToken_76 : decode cX10_addToken 76 = .ok (.iastore, 1) := by decide +kernel
theorem dX10_addToken_77 : decode cX10_addToken 77 = .ok (.aload_n 0, 1) := by decide +kernel
theorem dX10_addToken_78 : decode cX10_addToken 78 = .ok (.getfield 22, 3) := by decide +kernel
theorem dX10_addToken_81 : decode cX10_addToken 81 = .ok (.iload 7, 2) := by decide +kernel
theorem dX10_addToken_83 : decode cX10_addToken 83 = .ok (.iload_n 3, 1) := by decide +kernel
theorem dX10_addToken_84 : decode cX10_addToken 84 = .ok (.iastore, 1) := by decide +kernel
theorem dX10_addToken_85 : decode cX10_addToken 85 = .ok (.aload_n 0, 1) := by decide +kernel
theorem dX10_addToken_86 : decode cX10_addToken 86 = .ok (.getfield 25, 3) := by decide +kernel
theorem dX10_addToken_89 : decode cX10_addToken 89 = .ok (.iload 7, 2) := by decide +kernel
theorem dX10_addToken_91 : decode cX10_addToken 91 = .ok (.lload 4, 2) := by decide +kernel
theorem dX10_addToken_93 : decode cX10_addToken 93 = .ok (.lastore, 1) := by decide +kernel
theorem dX10_addToken_94 : decode cX10_addToken 94 = .ok (.aload_n 0, 1) := by decide +kernel
theorem dX10_addToken_95 : decode cX10_addToken 95 = .ok (.getfield 31, 3) := by decide +kernel
theorem dX10_addToken_98 : decode cX10_addToken 98 = .ok (.iload 7, 2) := by decide +kernel
theorem dX10_addToken_100 : decode cX10_addToken 100 = .ok (.aload 6, 2) := by decide +kernel
theorem dX10_addToken_102 : decode cX10_addToken 102 = .ok (.aastore, 1) := by decide +kernel
theorem dX10_addToken_103 : decode cX10_addToken 103 = .ok (.aload_n 0, 1) := by decide +kernel
theorem dX10_addToken_104 : decode cX10_addToken 104 = .ok (.dup, 1) := by decide +kernel
theorem dX10_addToken_105 : decode cX10_addToken 105 = .ok (.getfield 45, 3) := by decide +kernel
theorem dX10_addToken_108 : decode cX10_addToken 108 = .ok (.iconst 1, 1) := by decide +kernel
theorem dX10_addToken_109 : decode cX10_addToken 109 = .ok (.iadd, 1) := by decide +kernel
theorem dX10_addToken_110 : decode cX10_addToken 110 = .ok (.putfield 45, 3) := by decide +kernel
theorem dX10_addToken_113 : decode cX10_addToken 113 = .ok (.return_, 1) := by decide +kernel
def mi_X10_addToken : MI := (RX10, yX10_addToken, cX10_addToken, 8, none, [], { frames := 1, cells := 0, slots := 0, locals := 12 })
theorem ok_X10_addToken : mOK mi_X10_addToken 5 := ⟨rfl, cw_X10_addToken, ini_X10, ⟨rfl, by decide⟩, by decide, by decide, rfl⟩
theorem v_X10_addToken (this : Nat) (a1 : Int32) (a2 : Int32) (a3 : Int32) (a4 : Int64) (a6 : Option Nat) (M : Mem) : V mi_X10_addToken 0 [(0, .ref this), (1, .int a1), (2, .int a2), (3, .int a3), (4, .long a4), (6, va_rf a6)] [] M 0 0 (f_X10_addToken this a1 a2 a3 a4 a6 M) wV := by
  unfold f_X10_addToken
  refine V_ob fun _ _ => ?_
  refine V_aload_n dX10_addToken_0 rfl 0 rfl ?_
  refine V_getI dX10_addToken_1 rfl (ci := 9) (T := TX10) rfl (by decide) fl_X10_45 (fun x1 => ?_)
  refine V_istore (L' := [(0, .ref this), (1, .int a1), (2, .int a2), (3, .int a3), (4, .long a4), (6, va_rf a6), (7, .int x1)]) dX10_addToken_4 rfl (by decide) (by rcases (a6 : Option Nat) with _ | _ <;> rfl) ?_
  refine V_iload dX10_addToken_6 rfl 6 rfl ?_
  refine V_if_lt (q := 113) (q2 := 11) dX10_addToken_8 (by decide) rfl ?_ ?_
  · exact V_vret dX10_addToken_113 rfl rfl ⟨(Nat.le_of_ble_eq_true rfl), (Nat.le_of_ble_eq_true rfl)⟩
  · refine V_iload dX10_addToken_11 rfl 6 rfl ?_
    refine V_aload_n dX10_addToken_13 rfl 0 rfl ?_
    refine V_getR dX10_addToken_14 rfl (ci := 9) (T := TX10) rfl (by decide) fl_X10_15 (fun x2 => ?_)
    refine V_arraylength dX10_addToken_17 rfl (fun x3 => ?_)
    refine V_icmp_ge (q := 113) (q2 := 21) dX10_addToken_18 (by decide) rfl ?_ ?_
    · exact V_vret dX10_addToken_113 rfl rfl ⟨(Nat.le_of_ble_eq_true rfl), (Nat.le_of_ble_eq_true rfl)⟩
    · refine V_iload dX10_addToken_21 rfl 6 rfl ?_
      refine V_aload_n dX10_addToken_23 rfl 0 rfl ?_
      refine V_getR dX10_addToken_24 rfl (ci := 9) (T := TX10) rfl (by decide) fl_X10_19 (fun x4 => ?_)
      refine V_arraylength dX10_addToken_27 rfl (fun x5 => ?_)
      refine V_icmp_ge (q := 113) (q2 := 31) dX10_addToken_28 (by decide) rfl ?_ ?_
      · exact V_vret dX10_addToken_113 rfl rfl ⟨(Nat.le_of_ble_eq_true rfl), (Nat.le_of_ble_eq_true rfl)⟩
      · refine V_iload dX10_addToken_31 rfl 6 rfl ?_
        refine V_aload_n dX10_addToken_33 rfl 0 rfl ?_
        refine V_getR dX10_addToken_34 rfl (ci := 9) (T := TX10) rfl (by decide) fl_X10_22 (fun x6 => ?_)
        refine V_arraylength dX10_addToken_37 rfl (fun x7 => ?_)
        refine V_icmp_ge (q := 113) (q2 := 41) dX10_addToken_38 (by decide) rfl ?_ ?_
        · exact V_vret dX10_addToken_113 rfl rfl ⟨(Nat.le_of_ble_eq_true rfl), (Nat.le_of_ble_eq_true rfl)⟩
        · refine V_iload dX10_addToken_41 rfl 6 rfl ?_
          refine V_aload_n dX10_addToken_43 rfl 0 rfl ?_
          refine V_getR dX10_addToken_44 rfl (ci := 9) (T := TX10) rfl (by decide) fl_X10_25 (fun x8 => ?_)
          refine V_arraylength dX10_addToken_47 rfl (fun x9 => ?_)
          refine V_icmp_ge (q := 113) (q2 := 51) dX10_addToken_48 (by decide) rfl ?_ ?_
          · exact V_vret dX10_addToken_113 rfl rfl ⟨(Nat.le_of_ble_eq_true rfl), (Nat.le_of_ble_eq_true rfl)⟩
          · refine V_iload dX10_addToken_51 rfl 6 rfl ?_
            refine V_aload_n dX10_addToken_53 rfl 0 rfl ?_
            refine V_getR dX10_addToken_54 rfl (ci := 9) (T := TX10) rfl (by decide) fl_X10_31 (fun x10 => ?_)
            refine V_arraylength dX10_addToken_57 rfl (fun x11 => ?_)
            refine V_icmp_ge (q := 113) (q2 := 61) dX10_addToken_58 (by decide) rfl ?_ ?_
            · exact V_vret dX10_addToken_113 rfl rfl ⟨(Nat.le_of_ble_eq_true rfl), (Nat.le_of_ble_eq_true rfl)⟩
            · refine V_aload_n dX10_addToken_61 rfl 0 rfl ?_
              refine V_getR dX10_addToken_62 rfl (ci := 9) (T := TX10) rfl (by decide) fl_X10_15 (fun x12 => ?_)
              refine V_iload dX10_addToken_65 rfl 6 rfl ?_
              refine V_iload_n dX10_addToken_67 rfl 1 rfl ?_
              refine V_iastore dX10_addToken_68 rfl (fun M13 => ?_)
              refine V_aload_n dX10_addToken_69 rfl 0 rfl ?_
              refine V_getR dX10_addToken_70 rfl (ci := 9) (T := TX10) rfl (by decide) fl_X10_19 (fun x14 => ?_)
              refine V_iload dX10_addToken_73 rfl 6 rfl ?_
              refine V_iload_n dX10_addToken_75 rfl 2 rfl ?_
              refine V_iastore dX10_addToken_76 rfl (fun M15 => ?_)
              refine V_aload_n dX10_addToken_77 rfl 0 rfl ?_
              refine V_getR dX10_addToken_78 rfl (ci := 9) (T := TX10) rfl (by decide) fl_X10_22 (fun x16 => ?_)
              refine V_iload dX10_addToken_81 rfl 6 rfl ?_
              refine V_iload_n dX10_addToken_83 rfl 3 rfl ?_
              refine V_iastore dX10_addToken_84 rfl (fun M17 => ?_)
              refine V_aload_n dX10_addToken_85 rfl 0 rfl ?_
              refine V_getR dX10_addToken_86 rfl (ci := 9) (T := TX10) rfl (by decide) fl_X10_25 (fun x18 => ?_)
              refine V_iload dX10_addToken_89 rfl 6 rfl ?_
              refine V_lload dX10_addToken_91 rfl 4 rfl ?_
              refine V_lastore dX10_addToken_93 rfl (fun M19 => ?_)
              refine V_aload_n dX10_addToken_94 rfl 0 rfl ?_
              refine V_getR dX10_addToken_95 rfl (ci := 9) (T := TX10) rfl (by decide) fl_X10_31 (fun x20 => ?_)
              refine V_iload dX10_addToken_98 rfl 6 rfl ?_
              refine V_aloadQ dX10_addToken_100 rfl 5 rfl ?_
              refine V_kastore (x := a6) dX10_addToken_102 rfl (fun M21 => ?_)
              refine V_aload_n dX10_addToken_103 rfl 0 rfl ?_
              refine V_dup dX10_addToken_104 rfl rfl ?_
              refine V_getI dX10_addToken_105 rfl (ci := 9) (T := TX10) rfl (by decide) fl_X10_45 (fun x22 => ?_)
              refine V_iconst (x := 1) dX10_addToken_108 rfl rfl ?_
              refine V_iadd dX10_addToken_109 rfl ?_
              refine V_putI dX10_addToken_110 rfl (ci := 9) (T := TX10) rfl (by decide) fl_X10_45 rfl rfl (fun M23 => ?_)
              exact V_vret dX10_addToken_113 rfl rfl ⟨(Nat.le_of_ble_eq_true rfl), (Nat.le_of_ble_eq_true rfl)⟩
theorem k_X10_addToken (this : Nat) (a1 : Int32) (a2 : Int32) (a3 : Int32) (a4 : Int64) (a6 : Option Nat) (M : Mem) : K mi_X10_addToken [.ref this, .int a1, .int a2, .int a3, .long a4, va_rf a6] M (f_X10_addToken this a1 a2 a3 a4 a6 M) wV := by rcases a6 with _ | _ <;> exact K_of_V ok_X10_addToken (Nat.le_of_ble_eq_true rfl) (v_X10_addToken this a1 a2 a3 a4 _ M)
theorem o_X10_addToken {this : Nat} {a1 : Int32} {a2 : Int32} {a3 : Int32} {a4 : Int64} {a6 : Option Nat} {M : Mem} {x} (h : f_X10_addToken this a1 a2 a3 a4 a6 M = some x) : isO M 9 this = true := (ob_of h).1
theorem dX10_isDigit_0 : decode cX10_isDigit 0 = .ok (.iload_n 0, 1) := by decide +kernel
theorem dX10_isDigit_1 : decode cX10_isDigit 1 = .ok (.bipush 48, 2) := by decide +kernel
theorem dX10_isDigit_3 : decode cX10_isDigit 3 = .ok (.if_icmp .lt 13, 3) := by decide +kernel
theorem dX10_isDigit_6 : decode cX10_isDigit 6 = .ok (.iload_n 0, 1) := by decide +kernel
theorem dX10_isDigit_7 : decode cX10_isDigit 7 = .ok (.bipush 57, 2) := by decide +kernel
theorem dX10_isDigit_9 : decode cX10_isDigit 9 = .ok (.if_icmp .gt 7, 3) := by decide +kernel
theorem dX10_isDigit_12 : decode cX10_isDigit 12 = .ok (.iconst 1, 1) := by decide +kernel
theorem dX10_isDigit_13 : decode cX10_isDigit 13 = .ok (.goto 4, 3) := by decide +kernel
theorem dX10_isDigit_16 : decode cX10_isDigit 16 = .ok (.iconst 0, 1) := by decide +kernel
theorem dX10_isDigit_17 : decode cX10_isDigit 17 = .ok (.ireturn, 1) := by decide +kernel
def mi_X10_isDigit : MI := (RX10, yX10_isDigit, cX10_isDigit, 1, some .boolean, [], { frames := 1, cells := 0, slots := 0, locals := 12 })
theorem ok_X10_isDigit : mOK mi_X10_isDigit 1 := ⟨rfl, cw_X10_isDigit, ini_X10, ⟨rfl, by decide⟩, by decide, by decide, rfl⟩
theorem v_X10_isDigit (a0 : Int32) (M : Mem) : V mi_X10_isDigit 0 [(0, .int a0)] [] M 0 0 (f_X10_isDigit a0 M) (eZ M) := by
  unfold f_X10_isDigit
  refine V_iload_n dX10_isDigit_0 rfl 0 rfl ?_
  refine V_bipush (x := 48) dX10_isDigit_1 rfl rfl ?_
  refine V_icmp_lt (q := 16) (q2 := 6) dX10_isDigit_3 (by decide) rfl ?_ ?_
  · refine V_iconst (x := 0) dX10_isDigit_16 rfl rfl ?_
    exact V_zret (v := false) dX10_isDigit_17 rfl rfl ⟨(Nat.le_of_ble_eq_true rfl), (Nat.le_of_ble_eq_true rfl)⟩
  · refine V_iload_n dX10_isDigit_6 rfl 0 rfl ?_
    refine V_bipush (x := 57) dX10_isDigit_7 rfl rfl ?_
    refine V_icmp_gt (q := 16) (q2 := 12) dX10_isDigit_9 (by decide) rfl ?_ ?_
    · refine V_iconst (x := 0) dX10_isDigit_16 rfl rfl ?_
      exact V_zret (v := false) dX10_isDigit_17 rfl rfl ⟨(Nat.le_of_ble_eq_true rfl), (Nat.le_of_ble_eq_true rfl)⟩
    · refine V_iconst (x := 1) dX10_isDigit_12 rfl rfl ?_
      refine V_goto (q := 17) dX10_isDigit_13 (by decide) ?_
      exact V_zret (v := true) dX10_isDigit_17 rfl rfl ⟨(Nat.le_of_ble_eq_true rfl), (Nat.le_of_ble_eq_true rfl)⟩
theorem k_X10_isDigit (a0 : Int32) (M : Mem) : K mi_X10_isDigit [.int a0] M (f_X10_isDigit a0 M) (eZ M) := K_of_V ok_X10_isDigit (Nat.le_of_ble_eq_true rfl) (v_X10_isDigit a0 M)
theorem dX10_endOfNumber_0 : decode cX10_endOfNumber 0 = .ok (.iload_n 1, 1) := by decide +kernel
theorem dX10_endOfNumber_1 : decode cX10_endOfNumber 1 = .ok (.istore_n 2, 1) := by decide +kernel
theorem dX10_endOfNumber_2 : decode cX10_endOfNumber 2 = .ok (.iload_n 2, 1) := by decide +kernel
theorem dX10_endOfNumber_3 : decode cX10_endOfNumber 3 = .ok (.aload_n 0, 1) := by decide +kernel
theorem dX10_endOfNumber_4 : decode cX10_endOfNumber 4 = .ok (.getfield 9, 3) := by decide +kernel
theorem dX10_endOfNumber_7 : decode cX10_endOfNumber 7 = .ok (.invokevirtual 48, 3) := by decide +kernel
theorem dX10_endOfNumber_10 : decode cX10_endOfNumber 10 = .ok (.if_icmp .ge 23, 3) := by decide +kernel
theorem dX10_endOfNumber_13 : decode cX10_endOfNumber 13 = .ok (.aload_n 0, 1) := by decide +kernel
theorem dX10_endOfNumber_14 : decode cX10_endOfNumber 14 = .ok (.getfield 9, 3) := by decide +kernel
theorem dX10_endOfNumber_17 : decode cX10_endOfNumber 17 = .ok (.iload_n 2, 1) := by decide +kernel
theorem dX10_endOfNumber_18 : decode cX10_endOfNumber 18 = .ok (.invokevirtual 97, 3) := by decide +kernel
theorem dX10_endOfNumber_21 : decode cX10_endOfNumber 21 = .ok (.invokestatic 115, 3) := by decide +kernel
theorem dX10_endOfNumber_24 : decode cX10_endOfNumber 24 = .ok (.ifCond .eq 9, 3) := by decide +kernel
theorem dX10_endOfNumber_27 : decode cX10_endOfNumber 27 = .ok (.iinc 2 1, 3) := by decide +kernel
theorem dX10_endOfNumber_30 : decode cX10_endOfNumber 30 = .ok (.goto (-28), 3) := by decide +kernel
theorem dX10_endOfNumber_33 : decode cX10_endOfNumber 33 = .ok (.iload_n 2, 1) := by decide +kernel
theorem dX10_endOfNumber_34 : decode cX10_endOfNumber 34 = .ok (.ireturn, 1) := by decide +kernel
def mi_X10_endOfNumber : MI := (RX10, yX10_endOfNumber, cX10_endOfNumber, 3, some .int, [], { frames := 2, cells := 0, slots := 0, locals := 33 })
theorem ok_X10_endOfNumber : mOK mi_X10_endOfNumber 1 := ⟨rfl, cw_X10_endOfNumber, ini_X10, ⟨rfl, by decide⟩, by decide, by decide, rfl⟩
theorem v_X10_endOfNumber_2 : ∀ (fu : Nat) (this : Nat) (l2 : Int32) (M : Mem), V mi_X10_endOfNumber 2 [(0, .ref this), (2, .int l2)] [] M 0 0 (f_X10_endOfNumber_2 fu this l2 M) (eI M) := by
  intro fu
  induction fu with
  | zero => intros; exact V_none
  | succ fu ih =>
    intro this l2 M
    show V mi_X10_endOfNumber 2 [(0, .ref this), (2, .int l2)] [] M 0 0 (f_X10_endOfNumber_2 (fu + 1) this l2 M) (eI M)
    unfold f_X10_endOfNumber_2
    refine V_iload_n dX10_endOfNumber_2 rfl 1 rfl ?_
    refine V_aload_n dX10_endOfNumber_3 rfl 0 rfl ?_
    refine V_getR dX10_endOfNumber_4 rfl (ci := 9) (T := TX10) rfl (by decide) fl_X10_9 (fun x1 => ?_)
    refine V_cVeI (As := []) (k_X1_size x1 M) (fun _ h => o_X1_size h) ok_X1_size im_X1_size se_X1_size rfl (ci := 1) rfl ml_X10_48 ⟨⟨(Nat.le_of_ble_eq_true rfl), (Nat.le_of_ble_eq_true rfl)⟩, (Nat.le_of_ble_eq_true rfl), (Nat.le_of_ble_eq_true rfl)⟩ dX10_endOfNumber_7 rfl rfl rfl (Nat.le_of_ble_eq_true rfl) rfl rfl (fun x2 => ?_)
    refine V_icmp_ge (q := 33) (q2 := 13) dX10_endOfNumber_10 (by decide) rfl ?_ ?_
    · refine V_iload_n dX10_endOfNumber_33 rfl 1 rfl ?_
      exact V_iret dX10_endOfNumber_34 rfl rfl ⟨(Nat.le_of_ble_eq_true rfl), (Nat.le_of_ble_eq_true rfl)⟩
    · refine V_aload_n dX10_endOfNumber_13 rfl 0 rfl ?_
      refine V_getR dX10_endOfNumber_14 rfl (ci := 9) (T := TX10) rfl (by decide) fl_X10_9 (fun x3 => ?_)
      refine V_iload_n dX10_endOfNumber_17 rfl 1 rfl ?_
      refine V_cVeI (As := [.int l2]) (k_X1_get x3 l2 M) (fun _ h => o_X1_get h) ok_X1_get im_X1_get se_X1_get rfl (ci := 1) rfl ml_X10_97 ⟨⟨(Nat.le_of_ble_eq_true rfl), (Nat.le_of_ble_eq_true rfl)⟩, (Nat.le_of_ble_eq_true rfl), (Nat.le_of_ble_eq_true rfl)⟩ dX10_endOfNumber_18 rfl rfl rfl (Nat.le_of_ble_eq_true rfl) rfl rfl (fun x4 => ?_)
      refine V_cSeZ (As := [.int x4]) (k_X10_isDigit x4 M) ok_X10_isDigit sm_X10_isDigit ml_X10_115 ⟨⟨(Nat.le_of_ble_eq_true rfl), (Nat.le_of_ble_eq_true rfl)⟩, (Nat.le_of_ble_eq_true rfl), (Nat.le_of_ble_eq_true rfl)⟩ dX10_endOfNumber_21 rfl rfl rfl (Nat.le_of_ble_eq_true rfl) rfl rfl (fun x5 => ?_)
      refine V_ifz_eq (q := 33) (q2 := 27) dX10_endOfNumber_24 (by decide) rfl ?_ ?_
      · refine V_iload_n dX10_endOfNumber_33 rfl 1 rfl ?_
        exact V_iret dX10_endOfNumber_34 rfl rfl ⟨(Nat.le_of_ble_eq_true rfl), (Nat.le_of_ble_eq_true rfl)⟩
      · refine V_iinc (y := (l2 + 1)) (L' := [(0, .ref this), (2, .int (l2 + 1))]) dX10_endOfNumber_27 rfl 1 rfl rfl (by decide) rfl ?_
        refine V_goto (q := 2) dX10_endOfNumber_30 (by decide) ?_
        exact ih this (l2 + 1) M
theorem v_X10_endOfNumber (this : Nat) (a1 : Int32) (M : Mem) : V mi_X10_endOfNumber 0 [(0, .ref this), (1, .int a1)] [] M 0 0 (f_X10_endOfNumber this a1 M) (eI M) := by
  unfold f_X10_endOfNumber
  refine V_ob fun _ _ => ?_
  refine V_iload_n dX10_endOfNumber_0 rfl 1 rfl ?_
  refine V_istore_n (L' := [(0, .ref this), (1, .int a1), (2, .int a1)]) dX10_endOfNumber_1 rfl (by decide) rfl ?_
  exact V_sub [0, 2] rfl (v_X10_endOfNumber_2 FU this a1 M)
theorem k_X10_endOfNumber (this : Nat) (a1 : Int32) (M : Mem) : K mi_X10_endOfNumber [.ref this, .int a1] M (f_X10_endOfNumber this a1 M) (eI M) := K_of_V ok_X10_endOfNumber (Nat.le_of_ble_eq_true rfl) (v_X10_endOfNumber this a1 M)
theorem o_X10_endOfNumber {this : Nat} {a1 : Int32} {M : Mem} {x} (h : f_X10_endOfNumber this a1 M = some x) : isO M 9 this = true := (ob_of h).1
theorem dX10_numberAt_0 : decode cX10_numberAt 0 = .ok (.iconst 0, 1) := by decide +kernel
theorem dX10_numberAt_1 : decode cX10_numberAt 1 = .ok (.istore_n 3, 1) := by decide +kernel
theorem dX10_numberAt_2 : decode cX10_numberAt 2 = .ok (.iload_n 1, 1) := by decide +kernel
theorem dX10_numberAt_3 : decode cX10_numberAt 3 = .ok (.istore 4, 2) := by decide +kernel
theorem dX10_numberAt_5 : decode cX10_numberAt 5 = .ok (.iload 4, 2) := by decide +kernel
theorem dX10_numberAt_7 : decode cX10_numberAt 7 = .ok (.iload_n 2, 1) := by decide +kernel
theorem dX10_numberAt_8 : decode cX10_numberAt 8 = .ok (.if_icmp .ge 34, 3) := by decide +kernel
theorem dX10_numberAt_11 : decode cX10_numberAt 11 = .ok (.iload_n 3, 1) := by decide +kernel
theorem dX10_numberAt_12 : decode cX10_numberAt 12 = .ok (.sipush 9999, 3) := by decide +kernel
theorem dX10_numberAt_15 : decode cX10_numberAt 15 = .ok (.if_icmp .gt 27, 3) := by decide +kernel
theorem dX10_numberAt_18 : decode cX10_numberAt 18 = .ok (.iload_n 3, 1) := by decide +kernel
theorem dX10_numberAt_19 : decode cX10_numberAt 19 = .ok (.bipush 10, 2) := by decide +kernel
theorem dX10_numberAt_21 : decode cX10_numberAt 21 = .ok (.imul, 1) := by decide +kernel
theorem dX10_numberAt_22 : decode cX10_numberAt 22 = .ok (.aload_n 0, 1) := by decide +kernel
theorem dX10_numberAt_23 : decode cX10_numberAt 23 = .ok (.getfield 9, 3) := by decide +kernel
theorem dX10_numberAt_26 : decode cX10_numberAt 26 = .ok (.iload 4, 2) := by decide +kernel
theorem dX10_numberAt_28 : decode cX10_numberAt 28 = .ok (.invokevirtual 97, 3) := by decide +kernel
theorem dX10_numberAt_31 : decode cX10_numberAt 31 = .ok (.iadd, 1) := by decide +kernel
theorem dX10_numberAt_32 : decode cX10_numberAt 32 = .ok (.bipush 48, 2) := by decide +kernel
theorem dX10_numberAt_34 : decode cX10_numberAt 34 = .ok (.isub, 1) := by decide +kernel
theorem dX10_numberAt_35 : decode cX10_numberAt 35 = .ok (.istore_n 3, 1) := by decide +kernel
theorem dX10_numberAt_36 : decode cX10_numberAt 36 = .ok (.iinc 4 1, 3) := by decide +kernel
theorem dX10_numberAt_39 : decode cX10_numberAt 39 = .ok (.goto (-34), 3) := by decide +kernel
theorem dX10_numberAt_42 : decode cX10_numberAt 42 = .ok (.iload_n 3, 1) := by decide +kernel
theorem dX10_numberAt_43 : decode cX10_numberAt 43 = .ok (.ireturn, 1) := by decide +kernel
def mi_X10_numberAt : MI := (RX10, yX10_numberAt, cX10_numberAt, 5, some .int, [], { frames := 2, cells := 0, slots := 0, locals := 33 })
theorem ok_X10_numberAt : mOK mi_X10_numberAt 2 := ⟨rfl, cw_X10_numberAt, ini_X10, ⟨rfl, by decide⟩, by decide, by decide, rfl⟩
theorem v_X10_numberAt_5 : ∀ (fu : Nat) (this : Nat) (l2 : Int32) (l3 : Int32) (l4 : Int32) (M : Mem), V mi_X10_numberAt 5 [(0, .ref this), (2, .int l2), (3, .int l3), (4, .int l4)] [] M 0 0 (f_X10_numberAt_5 fu this l2 l3 l4 M) (eI M) := by
  intro fu
  induction fu with
  | zero => intros; exact V_none
  | succ fu ih =>
    intro this l2 l3 l4 M
    show V mi_X10_numberAt 5 [(0, .ref this), (2, .int l2), (3, .int l3), (4, .int l4)] [] M 0 0 (f_X10_numberAt_5 (fu + 1) this l2 l3 l4 M) (eI M)
    unfold f_X10_numberAt_5
    refine V_iload dX10_numberAt_5 rfl 3 rfl ?_
    refine V_iload_n dX10_numberAt_7 rfl 1 rfl ?_
    refine V_icmp_ge (q := 42) (q2 := 11) dX10_numberAt_8 (by decide) rfl ?_ ?_
    · refine V_iload_n dX10_numberAt_42 rfl 2 rfl ?_
      exact V_iret dX10_numberAt_43 rfl rfl ⟨(Nat.le_of_ble_eq_true rfl), (Nat.le_of_ble_eq_true rfl)⟩
    · refine V_iload_n dX10_numberAt_11 rfl 2 rfl ?_
      refine V_sipush (x := 9999) dX10_numberAt_12 rfl rfl ?_
      refine V_icmp_gt (q := 42) (q2 := 18) dX10_numberAt_15 (by decide) rfl ?_ ?_
      · refine V_iload_n dX10_numberAt_42 rfl 2 rfl ?_
        exact V_iret dX10_numberAt_43 rfl rfl ⟨(Nat.le_of_ble_eq_true rfl), (Nat.le_of_ble_eq_true rfl)⟩
      · refine V_iload_n dX10_numberAt_18 rfl 2 rfl ?_
        refine V_bipush (x := 10) dX10_numberAt_19 rfl rfl ?_
        refine V_imul dX10_numberAt_21 rfl ?_
        refine V_aload_n dX10_numberAt_22 rfl 0 rfl ?_
        refine V_getR dX10_numberAt_23 rfl (ci := 9) (T := TX10) rfl (by decide) fl_X10_9 (fun x1 => ?_)
        refine V_iload dX10_numberAt_26 rfl 3 rfl ?_
        refine V_cVeI (As := [.int l4]) (k_X1_get x1 l4 M) (fun _ h => o_X1_get h) ok_X1_get im_X1_get se_X1_get rfl (ci := 1) rfl ml_X10_97 ⟨⟨(Nat.le_of_ble_eq_true rfl), (Nat.le_of_ble_eq_true rfl)⟩, (Nat.le_of_ble_eq_true rfl), (Nat.le_of_ble_eq_true rfl)⟩ dX10_numberAt_28 rfl rfl rfl (Nat.le_of_ble_eq_true rfl) rfl rfl (fun x2 => ?_)
        refine V_iadd dX10_numberAt_31 rfl ?_
        refine V_bipush (x := 48) dX10_numberAt_32 rfl rfl ?_
        refine V_isub dX10_numberAt_34 rfl ?_
        refine V_istore_n (L' := [(0, .ref this), (2, .int l2), (3, .int (((l3 * 10) + x2) - 48)), (4, .int l4)]) dX10_numberAt_35 rfl (by decide) rfl ?_
        refine V_iinc (y := (l4 + 1)) (L' := [(0, .ref this), (2, .int l2), (3, .int (((l3 * 10) + x2) - 48)), (4, .int (l4 + 1))]) dX10_numberAt_36 rfl 3 rfl rfl (by decide) rfl ?_
        refine V_goto (q := 5) dX10_numberAt_39 (by decide) ?_
        exact ih this l2 (((l3 * 10) + x2) - 48) (l4 + 1) M
theorem v_X10_numberAt (this : Nat) (a1 : Int32) (a2 : Int32) (M : Mem) : V mi_X10_numberAt 0 [(0, .ref this), (1, .int a1), (2, .int a2)] [] M 0 0 (f_X10_numberAt this a1 a2 M) (eI M) := by
  unfold f_X10_numberAt
  refine V_ob fun _ _ => ?_
  refine V_iconst (x := 0) dX10_numberAt_0 rfl rfl ?_
  refine V_istore_n (L' := [(0, .ref this), (1, .int a1), (2, .int a2), (3, .int 0)]) dX10_numberAt_1 rfl (by decide) rfl ?_
  refine V_iload_n dX10_numberAt_2 rfl 1 rfl ?_
  refine V_istore (L' := [(0, .ref this), (1, .int a1), (2, .int a2), (3, .int 0), (4, .int a1)]) dX10_numberAt_3 rfl (by decide) rfl ?_
  exact V_sub [0, 2, 3, 4] rfl (v_X10_numberAt_5 FU this a2 0 a1 M)
theorem k_X10_numberAt (this : Nat) (a1 : Int32) (a2 : Int32) (M : Mem) : K mi_X10_numberAt [.ref this, .int a1, .int a2] M (f_X10_numberAt this a1 a2 M) (eI M) := K_of_V ok_X10_numberAt (Nat.le_of_ble_eq_true rfl) (v_X10_numberAt this a1 a2 M)
theorem o_X10_numberAt {this : Nat} {a1 : Int32} {a2 : Int32} {M : Mem} {x} (h : f_X10_numberAt this a1 a2 M = some x) : isO M 9 this = true := (ob_of h).1
theorem dX10_readOne_0 : decode cX10_readOne 0 = .ok (.aload_n 0, 1) := by decide +kernel
theorem dX10_readOne_1 : decode cX10_readOne 1 = .ok (.getfield 9, 3) := by decide +kernel
theorem dX10_readOne_4 : decode cX10_readOne 4 = .ok (.iload_n 1, 1) := by decide +kernel
theorem dX10_readOne_5 : decode cX10_readOne 5 = .ok (.invokevirtual 97, 3) := by decide +kernel
theorem dX10_readOne_8 : decode cX10_readOne 8 = .ok (.istore_n 2, 1) := by decide +kernel
theorem dX10_readOne_9 : decode cX10_readOne 9 = .ok (.iload_n 1, 1) := by decide +kernel
theorem dX10_readOne_10 : decode cX10_readOne 10 = .ok (.iconst 1, 1) := by decide +kernel
theorem dX10_readOne_11 : decode cX10_readOne 11 = .ok (.iadd, 1) := by decide +kernel
theorem dX10_readOne_12 : decode cX10_readOne 12 = .ok (.istore_n 3, 1) := by decide +kernel
theorem dX10_readOne_13 : decode cX10_readOne 13 = .ok (.iload_n 2, 1) := by decide +kernel
theorem dX10_readOne_14 : decode cX10_readOne 14 = .ok (.invokestatic 100, 3) := by decide +kernel
theorem dX10_readOne_17 : decode cX10_readOne 17 = .ok (.ifCond .eq 37, 3) := by decide +kernel
theorem dX10_readOne_20 : decode cX10_readOne 20 = .ok (.aload_n 0, 1) := by decide +kernel
theorem dX10_readOne_21 : decode cX10_readOne 21 = .ok (.iload_n 1, 1) := by decide +kernel
theorem dX10_readOne_22 : decode cX10_readOne 22 = .ok (.invokevirtual 104, 3) := by decide +kernel
theorem dX10_readOne_25 : decode cX10_readOne 25 = .ok (.istore_n 3, 1) := by decide +kernel
theorem dX10_readOne_26 : decode cX10_readOne 26 = .ok (.aload_n 0, 1) := by decide +kernel
theorem dX10_readOne_27 : decode cX10_readOne 27 = .ok (.iconst 1, 1) := by decide +kernel
theorem dX10_readOne_28 : decode cX10_readOne 28 = .ok (.iload_n 1, 1) := by decide +kernel
theorem dX10_readOne_29 : decode cX10_readOne 29 = .ok (.iconst 0, 1) := by decide +kernel
theorem dX10_readOne_30 : decode cX10_readOne 30 = .ok (.aload_n 0, 1) := by decide +kernel
theorem dX10_readOne_31 : decode cX10_readOne 31 = .ok (.getfield 9, 3) := by decide +kernel
theorem dX10_readOne_34 : decode cX10_readOne 34 = .ok (.iload_n 1, 1) := by decide +kernel
theorem dX10_readOne_35 : decode cX10_readOne 35 = .ok (.iload_n 3, 1) := by decide +kernel
theorem dX10_readOne_36 : decode cX10_readOne 36 = .ok (.invokevirtual 107, 3) := by decide +kernel
theorem dX10_readOne_39 : decode cX10_readOne 39 = .ok (.aload_n 0, 1) := by decide +kernel
theorem dX10_readOne_40 : decode cX10_readOne 40 = .ok (.getfield 9, 3) := by decide +kernel
theorem dX10_readOne_43 : decode cX10_readOne 43 = .ok (.iload_n 1, 1) := by decide +kernel
theorem dX10_readOne_44 : decode cX10_readOne 44 = .ok (.iload_n 3, 1) := by decide +kernel
theorem dX10_readOne_45 : decode cX10_readOne 45 = .ok (.invokestatic 111, 3) := by decide +kernel
theorem dX10_readOne_48 : decode cX10_readOne 48 = .ok (.invokevirtual 58, 3) := by decide +kernel
theorem dX10_readOne_51 : decode cX10_readOne 51 = .ok (.goto 54, 3) := by decide +kernel
theorem dX10_readOne_54 : decode cX10_readOne 54 = .ok (.iload_n 2, 1) := by decide +kernel
theorem dX10_readOne_55 : decode cX10_readOne 55 = .ok (.invokestatic 115, 3) := by decide +kernel
theorem dX10_readOne_58 : decode cX10_readOne 58 = .ok (.ifCond .eq 26, 3) := by decide +kernel
theorem dX10_readOne_61 : decode cX10_readOne 61 = .ok (.aload_n 0, 1) := by decide +kernel
theorem dX10_readOne_62 : decode cX10_readOne 62 = .ok (.iload_n 1, 1) := by decide +kernel
theorem dX10_readOne_63 : decode cX10_readOne 63 = .ok (.invokevirtual 118, 3) := by decide +kernel
theorem dX10_readOne_66 : decode cX10_readOne 66 = .ok (.istore_n 3, 1) := by decide +kernel
theorem dX10_readOne_67 : decode cX10_readOne 67 = .ok (.aload_n 0, 1) := by decide +kernel
theorem dX10_readOne_68 : decode cX10_readOne 68 = .ok (.iconst 2, 1) := by decide +kernel
theorem dX10_readOne_69 : decode cX10_readOne 69 = .ok (.iload_n 1, 1) := by decide +kernel
theorem dX10_readOne_70 : decode cX10_readOne 70 = .ok (.aload_n 0, 1) := by decide +kernel
theorem dX10_readOne_71 : decode cX10_readOne 71 = .ok (.iload_n 1, 1) := by decide +kernel
theorem dX10_readOne_72 : decode cX10_readOne 72 = .ok (.iload_n 3, 1) := by decide +kernel
theorem dX10_readOne_73 : decode cX10_readOne 73 = .ok (.invokevirtual 121, 3) := by decide +kernel
theorem dX10_readOne_76 : decode cX10_readOne 76 = .ok (.lconst 0, 1) := by decide +kernel
theorem dX10_readOne_77 : decode cX10_readOne 77 = .ok (.aconst_null, 1) := by decide +kernel
theorem dX10_readOne_78 : decode cX10_readOne 78 = .ok (.invokevirtual 58, 3) := by decide +kernel
theorem dX10_readOne_81 : decode cX10_readOne 81 = .ok (.goto 24, 3) := by decide +kernel
theorem dX10_readOne_84 : decode cX10_readOne 84 = .ok (.iload_n 2, 1) := by decide +kernel
theorem dX10_readOne_85 : decode cX10_readOne 85 = .ok (.bipush 32, 2) := by decide +kernel
theorem dX10_readOne_87 : decode cX10_readOne 87 = .ok (.if_icmp .eq 18, 3) := by decide +kernel
theorem dX10_readOne_90 : decode cX10_readOne 90 = .ok (.iload_n 2, 1) := by decide +kernel
theorem dX10_readOne_91 : decode cX10_readOne 91 = .ok (.bipush 10, 2) := by decide +kernel
theorem dX10_readOne_93 : decode cX10_readOne 93 = .ok (.if_icmp .eq 12, 3) := by decide +kernel
theorem dX10_readOne_96 : decode cX10_readOne 96 = .ok (.aload_n 0, 1) := by decide +kernel
theorem dX10_readOne_97 : decode cX10_readOne 97 = .ok (.iconst 3, 1) := by decide +kernel
theorem dX10_readOne_98 : decode cX10_readOne 98 = .ok (.iload_n 1, 1) := by decide +kernel
theorem dX10_readOne_99 : decode cX10_readOne 99 = .ok (.iload_n 2, 1) := by decide +kernel
theorem dX10_readOne_100 : decode cX10_readOne 100 = .ok (.lconst 0, 1) := by decide +kernel
theorem dX10_readOne_101 : decode cX10_readOne 101 = .ok (.aconst_null, 1) := by decide +kernel
theorem dX10_readOne_102 : decode cX10_readOne 102 = .ok (.invokevirtual 58, 3) := by decide +kernel
theorem dX10_readOne_105 : decode cX10_readOne 105 = .ok (.iload_n 3, 1) := by decide +kernel
theorem dX10_readOne_106 : decode cX10_readOne 106 = .ok (.ireturn, 1) := by decide +kernel
def mi_X10_readOne : MI := (RX10, yX10_readOne, cX10_readOne, 4, some .int, [], { frames := 7, cells := 0, slots := 0, locals := 168 })
theorem ok_X10_readOne : mOK mi_X10_readOne 1 := ⟨rfl, cw_X10_readOne, ini_X10, ⟨rfl, by decide⟩, by decide, by decide, rfl⟩
theorem v_X10_readOne (this : Nat) (a1 : Int32) (M : Mem) : V mi_X10_readOne 0 [(0, .ref this), (1, .int a1)] [] M 0 0 (f_X10_readOne this a1 M) wI := by
  unfold f_X10_readOne
  refine V_ob fun _ _ => ?_
  refine V_aload_n dX10_readOne_0 rfl 0 rfl ?_
  refine V_getR dX10_readOne_1 rfl (ci := 9) (T := TX10) rfl (by decide) fl_X10_9 (fun x1 => ?_)
  refine V_iload_n dX10_readOne_4 rfl 1 rfl ?_
  refine V_cVeI (As := [.int a1]) (k_X1_get x1 a1 M) (fun _ h => o_X1_get h) ok_X1_get im_X1_get se_X1_get rfl (ci := 1) rfl ml_X10_97 ⟨⟨(Nat.le_of_ble_eq_true rfl), (Nat.le_of_ble_eq_true rfl)⟩, (Nat.le_of_ble_eq_true rfl), (Nat.le_of_ble_eq_true rfl)⟩ dX10_readOne_5 rfl rfl rfl (Nat.le_of_ble_eq_true rfl) rfl rfl (fun x2 => ?_)
  refine V_istore_n (L' := [(0, .ref this), (1, .int a1), (2, .int x2)]) dX10_readOne_8 rfl (by decide) rfl ?_
  refine V_iload_n dX10_readOne_9 rfl 1 rfl ?_
  refine V_iconst (x := 1) dX10_readOne_10 rfl rfl ?_
  refine V_iadd dX10_readOne_11 rfl ?_
  refine V_istore_n (L' := [(0, .ref this), (1, .int a1), (2, .int x2), (3, .int (a1 + 1))]) dX10_readOne_12 rfl (by decide) rfl ?_
  refine V_iload_n dX10_readOne_13 rfl 2 rfl ?_
  refine V_cSeZ (As := [.int x2]) (k_X10_isLetter x2 M) ok_X10_isLetter sm_X10_isLetter ml_X10_100 ⟨⟨(Nat.le_of_ble_eq_true rfl), (Nat.le_of_ble_eq_true rfl)⟩, (Nat.le_of_ble_eq_true rfl), (Nat.le_of_ble_eq_true rfl)⟩ dX10_readOne_14 rfl rfl rfl (Nat.le_of_ble_eq_true rfl) rfl rfl (fun x3 => ?_)
  refine V_ifz_eq (q := 54) (q2 := 20) dX10_readOne_17 (by decide) rfl ?_ ?_
  · refine V_iload_n dX10_readOne_54 rfl 2 rfl ?_
    refine V_cSeZ (As := [.int x2]) (k_X10_isDigit x2 M) ok_X10_isDigit sm_X10_isDigit ml_X10_115 ⟨⟨(Nat.le_of_ble_eq_true rfl), (Nat.le_of_ble_eq_true rfl)⟩, (Nat.le_of_ble_eq_true rfl), (Nat.le_of_ble_eq_true rfl)⟩ dX10_readOne_55 rfl rfl rfl (Nat.le_of_ble_eq_true rfl) rfl rfl (fun x4 => ?_)
    refine V_ifz_eq (q := 84) (q2 := 61) dX10_readOne_58 (by decide) rfl ?_ ?_
    · refine V_iload_n dX10_readOne_84 rfl 2 rfl ?_
      refine V_bipush (x := 32) dX10_readOne_85 rfl rfl ?_
      refine V_icmp_eq (q := 105) (q2 := 90) dX10_readOne_87 (by decide) rfl ?_ ?_
      · refine V_iload_n dX10_readOne_105 rfl 3 rfl ?_
        exact V_iret dX10_readOne_106 rfl rfl ⟨(Nat.le_of_ble_eq_true rfl), (Nat.le_of_ble_eq_true rfl)⟩
      · refine V_iload_n dX10_readOne_90 rfl 2 rfl ?_
        refine V_bipush (x := 10) dX10_readOne_91 rfl rfl ?_
        refine V_icmp_eq (q := 105) (q2 := 96) dX10_readOne_93 (by decide) rfl ?_ ?_
        · refine V_iload_n dX10_readOne_105 rfl 3 rfl ?_
          exact V_iret dX10_readOne_106 rfl rfl ⟨(Nat.le_of_ble_eq_true rfl), (Nat.le_of_ble_eq_true rfl)⟩
        · refine V_aload_n dX10_readOne_96 rfl 0 rfl ?_
          refine V_iconst (x := 3) dX10_readOne_97 rfl rfl ?_
          refine V_iload_n dX10_readOne_98 rfl 1 rfl ?_
          refine V_iload_n dX10_readOne_99 rfl 2 rfl ?_
          refine V_lconst (x := 0) dX10_readOne_100 rfl rfl ?_
          refine V_null dX10_readOne_101 rfl ?_
          refine V_cVwV (As := [.int 3, .int a1, .int x2, .long 0, va_rf none]) (k_X10_addToken this 3 a1 x2 0 none M) (fun _ h => o_X10_addToken h) ok_X10_addToken im_X10_addToken se_X10_addToken rfl (ci := 9) rfl ml_X10_58 ⟨⟨(Nat.le_of_ble_eq_true rfl), (Nat.le_of_ble_eq_true rfl)⟩, (Nat.le_of_ble_eq_true rfl), (Nat.le_of_ble_eq_true rfl)⟩ dX10_readOne_102 rfl rfl rfl (Nat.le_of_ble_eq_true rfl) rfl rfl (fun M6 => ?_)
          refine V_iload_n dX10_readOne_105 rfl 3 rfl ?_
          exact V_iret dX10_readOne_106 rfl rfl ⟨(Nat.le_of_ble_eq_true rfl), (Nat.le_of_ble_eq_true rfl)⟩
    · refine V_aload_n dX10_readOne_61 rfl 0 rfl ?_
      refine V_iload_n dX10_readOne_62 rfl 1 rfl ?_
      refine V_cVeI (As := [.int a1]) (k_X10_endOfNumber this a1 M) (fun _ h => o_X10_endOfNumber h) ok_X10_endOfNumber im_X10_endOfNumber se_X10_endOfNumber rfl (ci := 9) rfl ml_X10_118 ⟨⟨(Nat.le_of_ble_eq_true rfl), (Nat.le_of_ble_eq_true rfl)⟩, (Nat.le_of_ble_eq_true rfl), (Nat.le_of_ble_eq_true rfl)⟩ dX10_readOne_63 rfl rfl rfl (Nat.le_of_ble_eq_true rfl) rfl rfl (fun x7 => ?_)
      refine V_istore_n (L' := [(0, .ref this), (1, .int a1), (2, .int x2), (3, .int x7)]) dX10_readOne_66 rfl (by decide) rfl ?_
      refine V_aload_n dX10_readOne_67 rfl 0 rfl ?_
      refine V_iconst (x := 2) dX10_readOne_68 rfl rfl ?_
      refine V_iload_n dX10_readOne_69 rfl 1 rfl ?_
      refine V_aload_n dX10_readOne_70 rfl 0 rfl ?_
      refine V_iload_n dX10_readOne_71 rfl 1 rfl ?_
      refine V_iload_n dX10_readOne_72 rfl 3 rfl ?_
      refine V_cVeI (As := [.int a1, .int x7]) (k_X10_numberAt this a1 x7 M) (fun _ h => o_X10_numberAt h) ok_X10_numberAt im_X10_numberAt se_X10_numberAt rfl (ci := 9) rfl ml_X10_121 ⟨⟨(Nat.le_of_ble_eq_true rfl), (Nat.le_of_ble_eq_true rfl)⟩, (Nat.le_of_ble_eq_true rfl), (Nat.le_of_ble_eq_true rfl)⟩ dX10_readOne_73 rfl rfl rfl (Nat.le_of_ble_eq_true rfl) rfl rfl (fun x8 => ?_)
      refine V_lconst (x := 0) dX10_readOne_76 rfl rfl ?_
      refine V_null dX10_readOne_77 rfl ?_
      refine V_cVwV (As := [.int 2, .int a1, .int x8, .long 0, va_rf none]) (k_X10_addToken this 2 a1 x8 0 none M) (fun _ h => o_X10_addToken h) ok_X10_addToken im_X10_addToken se_X10_addToken rfl (ci := 9) rfl ml_X10_58 ⟨⟨(Nat.le_of_ble_eq_true rfl), (Nat.le_of_ble_eq_true rfl)⟩, (Nat.le_of_ble_eq_true rfl), (Nat.le_of_ble_eq_true rfl)⟩ dX10_readOne_78 rfl rfl rfl (Nat.le_of_ble_eq_true rfl) rfl rfl (fun M10 => ?_)
      refine V_goto (q := 105) dX10_readOne_81 (by decide) ?_
      refine V_iload_n dX10_readOne_105 rfl 3 rfl ?_
      exact V_iret dX10_readOne_106 rfl rfl ⟨(Nat.le_of_ble_eq_true rfl), (Nat.le_of_ble_eq_true rfl)⟩
  · refine V_aload_n dX10_readOne_20 rfl 0 rfl ?_
    refine V_iload_n dX10_readOne_21 rfl 1 rfl ?_
    refine V_cVeI (As := [.int a1]) (k_X10_endOfWord this a1 M) (fun _ h => o_X10_endOfWord h) ok_X10_endOfWord im_X10_endOfWord se_X10_endOfWord rfl (ci := 9) rfl ml_X10_104 ⟨⟨(Nat.le_of_ble_eq_true rfl), (Nat.le_of_ble_eq_true rfl)⟩, (Nat.le_of_ble_eq_true rfl), (Nat.le_of_ble_eq_true rfl)⟩ dX10_readOne_22 rfl rfl rfl (Nat.le_of_ble_eq_true rfl) rfl rfl (fun x11 => ?_)
    refine V_istore_n (L' := [(0, .ref this), (1, .int a1), (2, .int x2), (3, .int x11)]) dX10_readOne_25 rfl (by decide) rfl ?_
    refine V_aload_n dX10_readOne_26 rfl 0 rfl ?_
    refine V_iconst (x := 1) dX10_readOne_27 rfl rfl ?_
    refine V_iload_n dX10_readOne_28 rfl 1 rfl ?_
    refine V_iconst (x := 0) dX10_readOne_29 rfl rfl ?_
    refine V_aload_n dX10_readOne_30 rfl 0 rfl ?_
    refine V_getR dX10_readOne_31 rfl (ci := 9) (T := TX10) rfl (by decide) fl_X10_9 (fun x12 => ?_)
    refine V_iload_n dX10_readOne_34 rfl 1 rfl ?_
    refine V_iload_n dX10_readOne_35 rfl 3 rfl ?_
    refine V_cVeJ (As := [.int a1, .int x11]) (k_X1_nameAt x12 a1 x11 M) (fun _ h => o_X1_nameAt h) ok_X1_nameAt im_X1_nameAt se_X1_nameAt rfl (ci := 1) rfl ml_X10_107 ⟨⟨(Nat.le_of_ble_eq_true rfl), (Nat.le_of_ble_eq_true rfl)⟩, (Nat.le_of_ble_eq_true rfl), (Nat.le_of_ble_eq_true rfl)⟩ dX10_readOne_36 rfl rfl rfl (Nat.le_of_ble_eq_true rfl) rfl rfl (fun x13 => ?_)
    refine V_aload_n dX10_readOne_39 rfl 0 rfl ?_
    refine V_getR dX10_readOne_40 rfl (ci := 9) (T := TX10) rfl (by decide) fl_X10_9 (fun x14 => ?_)
    refine V_iload_n dX10_readOne_43 rfl 1 rfl ?_
    refine V_iload_n dX10_readOne_44 rfl 3 rfl ?_
    refine V_cSeQ (As := [.ref x14, .int a1, .int x11]) (k_X3_spelled x14 a1 x11 M) ok_X3_spelled sm_X3_spelled ml_X10_111 ⟨⟨(Nat.le_of_ble_eq_true rfl), (Nat.le_of_ble_eq_true rfl)⟩, (Nat.le_of_ble_eq_true rfl), (Nat.le_of_ble_eq_true rfl)⟩ dX10_readOne_45 rfl rfl rfl (Nat.le_of_ble_eq_true rfl) rfl rfl (fun x15 => ?_)
    refine V_cVwV (As := [.int 1, .int a1, .int 0, .long x13, va_rf x15]) (k_X10_addToken this 1 a1 0 x13 x15 M) (fun _ h => o_X10_addToken h) ok_X10_addToken im_X10_addToken se_X10_addToken rfl (ci := 9) rfl ml_X10_58 ⟨⟨(Nat.le_of_ble_eq_true rfl), (Nat.le_of_ble_eq_true rfl)⟩, (Nat.le_of_ble_eq_true rfl), (Nat.le_of_ble_eq_true rfl)⟩ dX10_readOne_48 rfl rfl rfl (Nat.le_of_ble_eq_true rfl) rfl rfl (fun M17 => ?_)
    refine V_goto (q := 105) dX10_readOne_51 (by decide) ?_
    refine V_iload_n dX10_readOne_105 rfl 3 rfl ?_
    exact V_iret dX10_readOne_106 rfl rfl ⟨(Nat.le_of_ble_eq_true rfl), (Nat.le_of_ble_eq_true rfl)⟩
theorem k_X10_readOne (this : Nat) (a1 : Int32) (M : Mem) : K mi_X10_readOne [.ref this, .int a1] M (f_X10_readOne this a1 M) wI := K_of_V ok_X10_readOne (Nat.le_of_ble_eq_true rfl) (v_X10_readOne this a1 M)
theorem o_X10_readOne {this : Nat} {a1 : Int32} {M : Mem} {x} (h : f_X10_readOne this a1 M = some x) : isO M 9 this = true := (ob_of h).1
theorem dX10_next_0 : decode cX10_next 0 = .ok (.aload_n 0, 1) := by decide +kernel
theorem dX10_next_1 : decode cX10_next 1 = .ok (.getfield 39, 3) := by decide +kernel
theorem dX10_next_4 : decode cX10_next 4 = .ok (.ifCond .eq 4, 3) := by decide +kernel
theorem dX10_next_7 : decode cX10_next 7 = .ok (.return_, 1) := by decide +kernel
theorem dX10_next_8 : decode cX10_next 8 = .ok (.aload_n 0, 1) := by decide +kernel
theorem dX10_next_9 : decode cX10_next 9 = .ok (.dup, 1) := by decide +kernel
theorem dX10_next_10 : decode cX10_next 10 = .ok (.getfield 62, 3) := by decide +kernel
theorem dX10_next_13 : decode cX10_next 13 = .ok (.iconst 1, 1) := by decide +kernel
theorem dX10_next_14 : decode cX10_next 14 = .ok (.iadd, 1) := by decide +kernel
theorem dX10_next_15 : decode cX10_next 15 = .ok (.putfield 62, 3) := by decide +kernel
theorem dX10_next_18 : decode cX10_next 18 = .ok (.aload_n 0, 1) := by decide +kernel
theorem dX10_next_19 : decode cX10_next 19 = .ok (.getfield 62, 3) := by decide +kernel
theorem dX10_next_22 : decode cX10_next 22 = .ok (.ifCond .lt 18, 3) := by decide +kernel
theorem dX10_next_25 : decode cX10_next 25 = .ok (.aload_n 0, 1) := by decide +kernel
theorem dX10_next_26 : decode cX10_next 26 = .ok (.getfield 62, 3) := by decide +kernel
theorem dX10_next_29 : decode cX10_next 29 = .ok (.aload_n 0, 1) := by decide +kernel
theorem dX10_next_30 : decode cX10_next 30 = .ok (.getfield 45, 3) := by decide +kernel
theorem dX10_next_33 : decode cX10_next 33 = .ok (.if_icmp .ge 7, 3) := by decide +kernel
theorem dX10_next_36 : decode cX10_next 36 = .ok (.iconst 1, 1) := by decide +kernel
theorem dX10_next_37 : decode cX10_next 37 = .ok (.goto 4, 3) := by decide +kernel
theorem dX10_next_40 : decode cX10_next 40 = .ok (.iconst 0, 1) := by decide +kernel
theorem dX10_next_41 : decode cX10_next 41 = .ok (.istore_n 1, 1) := by decide +kernel
theorem dX10_next_42 : decode cX10_next 42 = .ok (.aload_n 0, 1) := by decide +kernel
theorem dX10_next_43 : decode cX10_next 43 = .ok (.iload_n 1, 1) := by decide +kernel
theorem dX10_next_44 : decode cX10_next 44 = .ok (.ifCond .eq 27, 3) := by decide +kernel
theorem dX10_next_47 : decode cX10_next 47 = .ok (.aload_n 0, 1) := by decide +kernel
theorem dX10_next_48 : decode cX10_next 48 = .ok (.getfield 62, 3) := by decide +kernel
theorem dX10_next_51 : decode cX10_next 51 = .ok (.aload_n 0, 1) := by decide +kernel
theorem dX10_next_52 : decode cX10_next 52 = .ok (.getfield 15, 3) := by decide +kernel
theorem dX10_next_55 : decode cX10_next 55 = .ok (.arraylength, 1) := by decide +kernel
theorem dX10_next_56 : decode cX10_next 56 = .ok (.if_icmp .ge 15, 3) := by decide +kernel
theorem dX10_next_59 : decode cX10_next 59 = .ok (.aload_n 0, 1) := by decide +kernel
theorem dX10_next_60 : decode cX10_next 60 = .ok (.getfield 15, 3) := by decide +kernel
theorem dX10_next_63 : decode cX10_next 63 = .ok (.aload_n 0, 1) := by decide +kernel
theorem dX10_next_64 : decode cX10_next 64 = .ok (.getfield 62, 3) := by decide +kernel
theorem dX10_next_67 : decode cX10_next 67 = .ok (.iaload, 1) := by decide +kernel
theorem dX10_next_68 : decode cX10_next 68 = .ok (.goto 4, 3) := by decide +kernel
theorem dX10_next_71 : decode cX10_next 71 = .ok (.iconst 0, 1) := by decide +kernel
theorem dX10_next_72 : decode cX10_next 72 = .ok (.putfield 35, 3) := by decide +kernel
theorem dX10_next_75 : decode cX10_next 75 = .ok (.aload_n 0, 1) := by decide +kernel
theorem dX10_next_76 : decode cX10_next 76 = .ok (.iload_n 1, 1) := by decide +kernel
theorem dX10_next_77 : decode cX10_next 77 = .ok (.ifCond .eq 27, 3) := by decide +kernel
theorem dX10_next_80 : decode cX10_next 80 = .ok (.aload_n 0, 1) := by decide +kernel
theorem dX10_next_81 : decode cX10_next 81 = .ok (.getfield 62, 3) := by decide +kernel
theorem dX10_next_84 : decode cX10_next 84 = .ok (.aload_n 0, 1) := by decide +kernel
theorem dX10_next_85 : decode cX10_next 85 = .ok (.getfield 19, 3) := by decide +kernel
theorem dX10_next_88 : decode cX10_next 88 = .ok (.arraylength, 1) := by decide +kernel
theorem dX10_next_89 : decode cX10_next 89 = .ok (.if_icmp .ge 15, 3) := by decide +kernel
theorem dX10_next_92 : decode cX10_next 92 = .ok (.aload_n 0, 1) := by decide +kernel
theorem dX10_next_93 : decode cX10_next 93 = .ok (.getfield 19, 3) := by decide +kernel
theorem dX10_next_96 : decode cX10_next 96 = .ok (.aload_n 0, 1) := by decide +kernel
theorem dX10_next_97 : decode cX10_next 97 = .ok (.getfield 62, 3) := by decide +kernel
theorem dX10_next_100 : decode cX10_next 100 = .ok (.iaload, 1) := by decide +kernel
theorem dX10_next_101 : decode cX10_next 101 = .ok (.goto 7, 3) := by decide +kernel
theorem dX10_next_104 : decode cX10_next 104 = .ok (.aload_n 0, 1) := by decide +kernel
theorem dX10_next_105 : decode cX10_next 105 = .ok (.getfield 68, 3) := by decide +kernel
theorem dX10_next_108 : decode cX10_next 108 = .ok (.putfield 68, 3) := by decide +kernel
theorem dX10_next_111 : decode cX10_next 111 = .ok (.aload_n 0, 1) := by decide +kernel
theorem dX10_next_112 : decode cX10_next 112 = .ok (.iload_n 1, 1) := by decide +kernel
theorem dX10_next_113 : decode cX10_next 113 = .ok (.ifCond .eq 27, 3) := by decide +kernel
theorem dX10_next_116 : decode cX10_next 116 = .ok (.aload_n 0, 1) := by decide +kernel
theorem dX10_next_117 : decode cX10_next 117 = .ok (.getfield 62, 3) := by decide +kernel
theorem dX10_next_120 : decode cX10_next 120 = .ok (.aload_n 0, 1) := by decide +kernel
theorem dX10_next_121 : decode cX10_next 121 = .ok (.getfield 22, 3) := by decide +kernel
theorem dX10_next_124 : decode cX10_next 124 = .ok (.arraylength, 1) := by decide +kernel
theorem dX10_next_125 : decode cX10_next 125 = .ok (.if_icmp .ge 15, 3) := by decide +kernel
theorem dX10_next_128 : decode cX10_next 128 = .ok (.aload_n 0, 1) := by decide +kernel
theorem dX10_next_129 : decode cX10_next 129 = .ok (.getfield 22, 3) := by decide +kernel
theorem dX10_next_132 : decode cX10_next 132 = .ok (.aload_n 0, 1) := by decide +kernel
theorem dX10_next_133 : decode cX10_next 133 = .ok (.getfield 62, 3) := by decide +kernel
theorem dX10_next_136 : decode cX10_next 136 = .ok (.iaload, 1) := by decide +kernel
theorem dX10_next_137 : decode cX10_next 137 = .ok (.goto 4, 3) := by decide +kernel
theorem dX10_next_140 : decode cX10_next 140 = .ok (.iconst 0, 1) := by decide +kernel
theorem dX10_next_141 : decode cX10_next 141 = .ok (.putfield 71, 3) := by decide +kernel
theorem dX10_next_144 : decode cX10_next 144 = .ok (.aload_n 0, 1) := by decide +kernel
theorem dX10_next_145 : decode cX10_next 145 = .ok (.iload_n 1, 1) := by decide +kernel
theorem dX10_next_146 : decode cX10_next 146 = .ok (.ifCond .eq 27, 3) := by decide +kernel
theorem dX10_next_149 : decode cX10_next 149 = .ok (.aload_n 0, 1) := by decide +kernel
theorem dX10_next_150 : decode cX10_next 150 = .ok (.getfield 62, 3) := by decide +kernel
theorem dX10_next_153 : decode cX10_next 153 = .ok (.aload_n 0, 1) := by decide +kernel
theorem dX10_next_154 : decode cX10_next 154 = .ok (.getfield 25, 3) := by decide +kernel
theorem dX10_next_157 : decode cX10_next 157 = .ok (.arraylength, 1) := by decide +kernel
theorem dX10_next_158 : decode cX10_next 158 = .ok (.if_icmp .ge 15, 3) := by decide +kernel
theorem dX10_next_161 : decode cX10_next 161 = .ok (.aload_n 0, 1) := by decide +kernel
theorem dX10_next_162 : decode cX10_next 162 = .ok (.getfield 25, 3) := by decide +kernel
theorem dX10_next_165 : decode cX10_next 165 = .ok (.aload_n 0, 1) := by decide +kernel
theorem dX10_next_166 : decode cX10_next 166 = .ok (.getfield 62, 3) := by decide +kernel
theorem dX10_next_169 : decode cX10_next 169 = .ok (.laload, 1) := by decide +kernel
theorem dX10_next_170 : decode cX10_next 170 = .ok (.goto 4, 3) := by decide +kernel
theorem dX10_next_173 : decode cX10_next 173 = .ok (.lconst 0, 1) := by decide +kernel
theorem dX10_next_174 : decode cX10_next 174 = .ok (.putfield 74, 3) := by decide +kernel
theorem dX10_next_177 : decode cX10_next 177 = .ok (.aload_n 0, 1) := by decide +kernel
theorem dX10_next_178 : decode cX10_next 178 = .ok (.iload_n 1, 1) := by decide +kernel
theorem dX10_next_179 : decode cX10_next 179 = .ok (.ifCond .eq 27, 3) := by decide +kernel
theorem dX10_next_182 : decode cX10_next 182 = .ok (.aload_n 0, 1) := by decide +kernel
theorem dX10_next_183 : decode cX10_next 183 = .ok (.getfield 62, 3) := by decide +kernel
theorem dX10_next_186 : decode cX10_next 186 = .ok (.aload_n 0, 1) := by decide +kernel
theorem dX10_next_187 : decode cX10_next 187 = .ok (.getfield 31, 3) := by decide +kernel
theorem dX10_next_190 : decode cX10_next 190 = .ok (.arraylength, 1) := by decide +kernel
theorem dX10_next_191 : decode cX10_next 191 = .ok (.if_icmp .ge 15, 3) := by decide +kernel
theorem dX10_next_194 : decode cX10_next 194 = .ok (.aload_n 0, 1) := by decide +kernel
theorem dX10_next_195 : decode cX10_next 195 = .ok (.getfield 31, 3) := by decide +kernel
theorem dX10_next_198 : decode cX10_next 198 = .ok (.aload_n 0, 1) := by decide +kernel
theorem dX10_next_199 : decode cX10_next 199 = .ok (.getfield 62, 3) := by decide +kernel
theorem dX10_next_202 : decode cX10_next 202 = .ok (.aaload, 1) := by decide +kernel
theorem dX10_next_203 : decode cX10_next 203 = .ok (.goto 4, 3) := by decide +kernel
theorem dX10_next_206 : decode cX10_next 206 = .ok (.aconst_null, 1) := by decide +kernel
theorem dX10_next_207 : decode cX10_next 207 = .ok (.putfield 78, 3) := by decide +kernel
theorem dX10_next_210 : decode cX10_next 210 = .ok (.return_, 1) := by decide +kernel
def mi_X10_next : MI := (RX10, yX10_next, cX10_next, 2, none, [], { frames := 1, cells := 0, slots := 0, locals := 12 })
theorem ok_X10_next : mOK mi_X10_next 0 := ⟨rfl, cw_X10_next, ini_X10, ⟨rfl, by decide⟩, by decide, by decide, rfl⟩
theorem v_X10_next_174 (this : Nat) (l1 : Bool) (s0 : Nat) (s1 : Int64) (M : Mem) : V mi_X10_next 174 [(0, .ref this), (1, .int (b2i l1))] [.long s1, .ref s0] M 0 0 (f_X10_next_174 this l1 s0 s1 M) wV := by
  unfold f_X10_next_174
  refine V_putJ dX10_next_174 rfl (ci := 9) (T := TX10) rfl (by decide) fl_X10_74 rfl rfl (fun M9 => ?_)
  refine V_aload_n dX10_next_177 rfl 0 rfl ?_
  refine V_iload_n dX10_next_178 rfl 1 rfl ?_
  refine V_ifz_eq (q := 206) (q2 := 182) dX10_next_179 (by decide) rfl ?_ ?_
  · refine V_null dX10_next_206 rfl ?_
    refine V_putQ (v := none) dX10_next_207 rfl (ci := 9) (T := TX10) rfl (by decide) fl_X10_78 rfl rfl (fun a => by cases a <;> rfl) (fun a => by cases a <;> rfl) (fun M10 => ?_)
    exact V_vret dX10_next_210 rfl rfl ⟨(Nat.le_of_ble_eq_true rfl), (Nat.le_of_ble_eq_true rfl)⟩
  · refine V_aload_n dX10_next_182 rfl 0 rfl ?_
    refine V_getI dX10_next_183 rfl (ci := 9) (T := TX10) rfl (by decide) fl_X10_62 (fun x11 => ?_)
    refine V_aload_n dX10_next_186 rfl 0 rfl ?_
    refine V_getR dX10_next_187 rfl (ci := 9) (T := TX10) rfl (by decide) fl_X10_31 (fun x12 => ?_)
    refine V_arraylength dX10_next_190 rfl (fun x13 => ?_)
    refine V_icmp_ge (q := 206) (q2 := 194) dX10_next_191 (by decide) rfl ?_ ?_
    · refine V_null dX10_next_206 rfl ?_
      refine V_putQ (v := none) dX10_next_207 rfl (ci := 9) (T := TX10) rfl (by decide) fl_X10_78 rfl rfl (fun a => by cases a <;> rfl) (fun a => by cases a <;> rfl) (fun M14 => ?_)
      exact V_vret dX10_next_210 rfl rfl ⟨(Nat.le_of_ble_eq_true rfl), (Nat.le_of_ble_eq_true rfl)⟩
    · refine V_aload_n dX10_next_194 rfl 0 rfl ?_
      refine V_getR dX10_next_195 rfl (ci := 9) (T := TX10) rfl (by decide) fl_X10_31 (fun x15 => ?_)
      refine V_aload_n dX10_next_198 rfl 0 rfl ?_
      refine V_getI dX10_next_199 rfl (ci := 9) (T := TX10) rfl (by decide) fl_X10_62 (fun x16 => ?_)
      refine V_aaload dX10_next_202 rfl rfl (fun x17 => ?_)
      refine V_goto (q := 207) dX10_next_203 (by decide) ?_
      refine V_putQ (v := x17) dX10_next_207 rfl (ci := 9) (T := TX10) rfl (by decide) fl_X10_78 rfl rfl (fun a => by cases a <;> rfl) (fun a => by cases a <;> rfl) (fun M18 => ?_)
      exact V_vret dX10_next_210 rfl rfl ⟨(Nat.le_of_ble_eq_true rfl), (Nat.le_of_ble_eq_true rfl)⟩
theorem v_X10_next_173 (this : Nat) (l1 : Bool) (s0 : Nat) (M : Mem) : V mi_X10_next 173 [(0, .ref this), (1, .int (b2i l1))] [.ref s0] M 0 0 (f_X10_next_173 this l1 s0 M) wV := by
  unfold f_X10_next_173
  refine V_lconst (x := 0) dX10_next_173 rfl rfl ?_
  exact v_X10_next_174 this l1 s0 0 M
theorem v_X10_next_141 (this : Nat) (l1 : Bool) (s0 : Nat) (s1 : Int32) (M : Mem) : V mi_X10_next 141 [(0, .ref this), (1, .int (b2i l1))] [.int s1, .ref s0] M 0 0 (f_X10_next_141 this l1 s0 s1 M) wV := by
  unfold f_X10_next_141
  refine V_putI dX10_next_141 rfl (ci := 9) (T := TX10) rfl (by decide) fl_X10_71 rfl rfl (fun M8 => ?_)
  refine V_aload_n dX10_next_144 rfl 0 rfl ?_
  refine V_iload_n dX10_next_145 rfl 1 rfl ?_
  refine V_ifz_eq (q := 173) (q2 := 149) dX10_next_146 (by decide) rfl ?_ ?_
  · exact v_X10_next_173 this l1 this M8
  · refine V_aload_n dX10_next_149 rfl 0 rfl ?_
    refine V_getI dX10_next_150 rfl (ci := 9) (T := TX10) rfl (by decide) fl_X10_62 (fun x19 => ?_)
    refine V_aload_n dX10_next_153 rfl 0 rfl ?_
    refine V_getR dX10_next_154 rfl (ci := 9) (T := TX10) rfl (by decide) fl_X10_25 (fun x20 => ?_)
    refine V_arraylength dX10_next_157 rfl (fun x21 => ?_)
    refine V_icmp_ge (q := 173) (q2 := 161) dX10_next_158 (by decide) rfl ?_ ?_
    · exact v_X10_next_173 this l1 this M8
    · refine V_aload_n dX10_next_161 rfl 0 rfl ?_
      refine V_getR dX10_next_162 rfl (ci := 9) (T := TX10) rfl (by decide) fl_X10_25 (fun x22 => ?_)
      refine V_aload_n dX10_next_165 rfl 0 rfl ?_
      refine V_getI dX10_next_166 rfl (ci := 9) (T := TX10) rfl (by decide) fl_X10_62 (fun x23 => ?_)
      refine V_laload dX10_next_169 rfl (fun x24 => ?_)
      refine V_goto (q := 174) dX10_next_170 (by decide) ?_
      exact v_X10_next_174 this l1 this x24 M8
theorem v_X10_next_140 (this : Nat) (l1 : Bool) (s0 : Nat) (M : Mem) : V mi_X10_next 140 [(0, .ref this), (1, .int (b2i l1))] [.ref s0] M 0 0 (f_X10_next_140 this l1 s0 M) wV := by
  unfold f_X10_next_140
  refine V_iconst (x := 0) dX10_next_140 rfl rfl ?_
  exact v_X10_next_141 this l1 s0 0 M
theorem v_X10_next_108 (this : Nat) (l1 : Bool) (s0 : Nat) (s1 : Int32) (M : Mem) : V mi_X10_next 108 [(0, .ref this), (1, .int (b2i l1))] [.int s1, .ref s0] M 0 0 (f_X10_next_108 this l1 s0 s1 M) wV := by
  unfold f_X10_next_108
  refine V_putI dX10_next_108 rfl (ci := 9) (T := TX10) rfl (by decide) fl_X10_68 rfl rfl (fun M7 => ?_)
  refine V_aload_n dX10_next_111 rfl 0 rfl ?_
  refine V_iload_n dX10_next_112 rfl 1 rfl ?_
  refine V_ifz_eq (q := 140) (q2 := 116) dX10_next_113 (by decide) rfl ?_ ?_
  · exact v_X10_next_140 this l1 this M7
  · refine V_aload_n dX10_next_116 rfl 0 rfl ?_
    refine V_getI dX10_next_117 rfl (ci := 9) (T := TX10) rfl (by decide) fl_X10_62 (fun x25 => ?_)
    refine V_aload_n dX10_next_120 rfl 0 rfl ?_
    refine V_getR dX10_next_121 rfl (ci := 9) (T := TX10) rfl (by decide) fl_X10_22 (fun x26 => ?_)
    refine V_arraylength dX10_next_124 rfl (fun x27 => ?_)
    refine V_icmp_ge (q := 140) (q2 := 128) dX10_next_125 (by decide) rfl ?_ ?_
    · exact v_X10_next_140 this l1 this M7
    · refine V_aload_n dX10_next_128 rfl 0 rfl ?_
      refine V_getR dX10_next_129 rfl (ci := 9) (T := TX10) rfl (by decide) fl_X10_22 (fun x28 => ?_)
      refine V_aload_n dX10_next_132 rfl 0 rfl ?_
      refine V_getI dX10_next_133 rfl (ci := 9) (T := TX10) rfl (by decide) fl_X10_62 (fun x29 => ?_)
      refine V_iaload dX10_next_136 rfl (fun x30 => ?_)
      refine V_goto (q := 141) dX10_next_137 (by decide) ?_
      exact v_X10_next_141 this l1 this x30 M7
theorem v_X10_next_104 (this : Nat) (l1 : Bool) (s0 : Nat) (M : Mem) : V mi_X10_next 104 [(0, .ref this), (1, .int (b2i l1))] [.ref s0] M 0 0 (f_X10_next_104 this l1 s0 M) wV := by
  unfold f_X10_next_104
  refine V_aload_n dX10_next_104 rfl 0 rfl ?_
  refine V_getI dX10_next_105 rfl (ci := 9) (T := TX10) rfl (by decide) fl_X10_68 (fun x6 => ?_)
  exact v_X10_next_108 this l1 s0 x6 M
theorem v_X10_next_72 (this : Nat) (l1 : Bool) (s0 : Nat) (s1 : Int32) (M : Mem) : V mi_X10_next 72 [(0, .ref this), (1, .int (b2i l1))] [.int s1, .ref s0] M 0 0 (f_X10_next_72 this l1 s0 s1 M) wV := by
  unfold f_X10_next_72
  refine V_putI dX10_next_72 rfl (ci := 9) (T := TX10) rfl (by decide) fl_X10_35 rfl rfl (fun M5 => ?_)
  refine V_aload_n dX10_next_75 rfl 0 rfl ?_
  refine V_iload_n dX10_next_76 rfl 1 rfl ?_
  refine V_ifz_eq (q := 104) (q2 := 80) dX10_next_77 (by decide) rfl ?_ ?_
  · exact v_X10_next_104 this l1 this M5
  · refine V_aload_n dX10_next_80 rfl 0 rfl ?_
    refine V_getI dX10_next_81 rfl (ci := 9) (T := TX10) rfl (by decide) fl_X10_62 (fun x31 => ?_)
    refine V_aload_n dX10_next_84 rfl 0 rfl ?_
    refine V_getR dX10_next_85 rfl (ci := 9) (T := TX10) rfl (by decide) fl_X10_19 (fun x32 => ?_)
    refine V_arraylength dX10_next_88 rfl (fun x33 => ?_)
    refine V_icmp_ge (q := 104) (q2 := 92) dX10_next_89 (by decide) rfl ?_ ?_
    · exact v_X10_next_104 this l1 this M5
    · refine V_aload_n dX10_next_92 rfl 0 rfl ?_
      refine V_getR dX10_next_93 rfl (ci := 9) (T := TX10) rfl (by decide) fl_X10_19 (fun x34 => ?_)
      refine V_aload_n dX10_next_96 rfl 0 rfl ?_
      refine V_getI dX10_next_97 rfl (ci := 9) (T := TX10) rfl (by decide) fl_X10_62 (fun x35 => ?_)
      refine V_iaload dX10_next_100 rfl (fun x36 => ?_)
      refine V_goto (q := 108) dX10_next_101 (by decide) ?_
      exact v_X10_next_108 this l1 this x36 M5
theorem v_X10_next_71 (this : Nat) (l1 : Bool) (s0 : Nat) (M : Mem) : V mi_X10_next 71 [(0, .ref this), (1, .int (b2i l1))] [.ref s0] M 0 0 (f_X10_next_71 this l1 s0 M) wV := by
  unfold f_X10_next_71
  refine V_iconst (x := 0) dX10_next_71 rfl rfl ?_
  exact v_X10_next_72 this l1 s0 0 M
theorem v_X10_next_41 (this : Nat) (s0 : Bool) (M : Mem) : V mi_X10_next 41 [(0, .ref this)] [.int (b2i s0)] M 0 0 (f_X10_next_41 this s0 M) wV := by
  unfold f_X10_next_41
  refine V_istore_n (L' := [(0, .ref this), (1, .int (b2i s0))]) dX10_next_41 rfl (by decide) rfl ?_
  refine V_aload_n dX10_next_42 rfl 0 rfl ?_
  refine V_iload_n dX10_next_43 rfl 1 rfl ?_
  refine V_ifz_eq (q := 71) (q2 := 47) dX10_next_44 (by decide) rfl ?_ ?_
  · exact v_X10_next_71 this s0 this M
  · refine V_aload_n dX10_next_47 rfl 0 rfl ?_
    refine V_getI dX10_next_48 rfl (ci := 9) (T := TX10) rfl (by decide) fl_X10_62 (fun x37 => ?_)
    refine V_aload_n dX10_next_51 rfl 0 rfl ?_
    refine V_getR dX10_next_52 rfl (ci := 9) (T := TX10) rfl (by decide) fl_X10_15 (fun x38 => ?_)
    refine V_arraylength dX10_next_55 rfl (fun x39 => ?_)
    refine V_icmp_ge (q := 71) (q2 := 59) dX10_next_56 (by decide) rfl ?_ ?_
    · exact v_X10_next_71 this s0 this M
    · refine V_aload_n dX10_next_59 rfl 0 rfl ?_
      refine V_getR dX10_next_60 rfl (ci := 9) (T := TX10) rfl (by decide) fl_X10_15 (fun x40 => ?_)
      refine V_aload_n dX10_next_63 rfl 0 rfl ?_
      refine V_getI dX10_next_64 rfl (ci := 9) (T := TX10) rfl (by decide) fl_X10_62 (fun x41 => ?_)
      refine V_iaload dX10_next_67 rfl (fun x42 => ?_)
      refine V_goto (q := 72) dX10_next_68 (by decide) ?_
      exact v_X10_next_72 this s0 this x42 M
theorem v_X10_next_40 (this : Nat) (M : Mem) : V mi_X10_next 40 [(0, .ref this)] [] M 0 0 (f_X10_next_40 this M) wV := by
  unfold f_X10_next_40
  refine V_iconst (x := 0) dX10_next_40 rfl rfl ?_
  exact v_X10_next_41 this false M
theorem v_X10_next (this : Nat) (M : Mem) : V mi_X10_next 0 [(0, .ref this)] [] M 0 0 (f_X10_next this M) wV := by
  unfold f_X10_next
  refine V_ob fun _ _ => ?_
  refine V_aload_n dX10_next_0 rfl 0 rfl ?_
  refine V_getI dX10_next_1 rfl (ci := 9) (T := TX10) rfl (by decide) fl_X10_39 (fun x1 => ?_)
  refine V_if_eq (q := 8) (q2 := 7) dX10_next_4 (by decide) rfl ?_ ?_
  · refine V_aload_n dX10_next_8 rfl 0 rfl ?_
    refine V_dup dX10_next_9 rfl rfl ?_
    refine V_getI dX10_next_10 rfl (ci := 9) (T := TX10) rfl (by decide) fl_X10_62 (fun x2 => ?_)
    refine V_iconst (x := 1) dX10_next_13 rfl rfl ?_
    refine V_iadd dX10_next_14 rfl ?_
    refine V_putI dX10_next_15 rfl (ci := 9) (T := TX10) rfl (by decide) fl_X10_62 rfl rfl (fun M3 => ?_)
    refine V_aload_n dX10_next_18 rfl 0 rfl ?_
    refine V_getI dX10_next_19 rfl (ci := 9) (T := TX10) rfl (by decide) fl_X10_62 (fun x4 => ?_)
    refine V_if_lt (q := 40) (q2 := 25) dX10_next_22 (by decide) rfl ?_ ?_
    · exact v_X10_next_40 this M3
    · refine V_aload_n dX10_next_25 rfl 0 rfl ?_
      refine V_getI dX10_next_26 rfl (ci := 9) (T := TX10) rfl (by decide) fl_X10_62 (fun x43 => ?_)
      refine V_aload_n dX10_next_29 rfl 0 rfl ?_
      refine V_getI dX10_next_30 rfl (ci := 9) (T := TX10) rfl (by decide) fl_X10_45 (fun x44 => ?_)
      refine V_icmp_ge (q := 40) (q2 := 36) dX10_next_33 (by decide) rfl ?_ ?_
      · exact v_X10_next_40 this M3
      · refine V_iconst (x := 1) dX10_next_36 rfl rfl ?_
        refine V_goto (q := 41) dX10_next_37 (by decide) ?_
        exact v_X10_next_41 this true M3
  · exact V_vret dX10_next_7 rfl rfl ⟨(Nat.le_of_ble_eq_true rfl), (Nat.le_of_ble_eq_true rfl)⟩
theorem k_X10_next (this : Nat) (M : Mem) : K mi_X10_next [.ref this] M (f_X10_next this M) wV := K_of_V ok_X10_next (Nat.le_of_ble_eq_true rfl) (v_X10_next this M)
theorem o_X10_next {this : Nat} {M : Mem} {x} (h : f_X10_next this M = some x) : isO M 9 this = true := (ob_of h).1
theorem dX10_begin_0 : decode cX10_begin 0 = .ok (.aload_n 0, 1) := by decide +kernel
theorem dX10_begin_1 : decode cX10_begin 1 = .ok (.iconst 0, 1) := by decide +kernel
theorem dX10_begin_2 : decode cX10_begin 2 = .ok (.putfield 45, 3) := by decide +kernel
theorem dX10_begin_5 : decode cX10_begin 5 = .ok (.iconst 0, 1) := by decide +kernel
theorem dX10_begin_6 : decode cX10_begin 6 = .ok (.istore_n 1, 1) := by decide +kernel
theorem dX10_begin_7 : decode cX10_begin 7 = .ok (.iconst 0, 1) := by decide +kernel
theorem dX10_begin_8 : decode cX10_begin 8 = .ok (.istore_n 2, 1) := by decide +kernel
theorem dX10_begin_9 : decode cX10_begin 9 = .ok (.iload_n 2, 1) := by decide +kernel
theorem dX10_begin_10 : decode cX10_begin 10 = .ok (.sipush 700, 3) := by decide +kernel
theorem dX10_begin_13 : decode cX10_begin 13 = .ok (.if_icmp .ge 26, 3) := by decide +kernel
theorem dX10_begin_16 : decode cX10_begin 16 = .ok (.iload_n 1, 1) := by decide +kernel
theorem dX10_begin_17 : decode cX10_begin 17 = .ok (.aload_n 0, 1) := by decide +kernel
theorem dX10_begin_18 : decode cX10_begin 18 = .ok (.getfield 9, 3) := by decide +kernel
theorem dX10_begin_21 : decode cX10_begin 21 = .ok (.invokevirtual 48, 3) := by decide +kernel
theorem dX10_begin_24 : decode cX10_begin 24 = .ok (.if_icmp .ge 15, 3) := by decide +kernel
theorem dX10_begin_27 : decode cX10_begin 27 = .ok (.aload_n 0, 1) := by decide +kernel
theorem dX10_begin_28 : decode cX10_begin 28 = .ok (.iload_n 1, 1) := by decide +kernel
theorem dX10_begin_29 : decode cX10_begin 29 = .ok (.invokevirtual 54, 3) := by decide +kernel
theorem dX10_begin_32 : decode cX10_begin 32 = .ok (.istore_n 1, 1) := by decide +kernel
theorem dX10_begin_33 : decode cX10_begin 33 = .ok (.iinc 2 1, 3) := by decide +kernel
theorem dX10_begin_36 : decode cX10_begin 36 = .ok (.goto (-27), 3) := by decide +kernel
theorem dX10_begin_39 : decode cX10_begin 39 = .ok (.aload_n 0, 1) := by decide +kernel
theorem dX10_begin_40 : decode cX10_begin 40 = .ok (.iconst 0, 1) := by decide +kernel
theorem dX10_begin_41 : decode cX10_begin 41 = .ok (.aload_n 0, 1) := by decide +kernel
theorem dX10_begin_42 : decode cX10_begin 42 = .ok (.getfield 9, 3) := by decide +kernel
theorem dX10_begin_45 : decode cX10_begin 45 = .ok (.invokevirtual 48, 3) := by decide +kernel
theorem dX10_begin_48 : decode cX10_begin 48 = .ok (.iconst 0, 1) := by decide +kernel
theorem dX10_begin_49 : decode cX10_begin 49 = .ok (.lconst 0, 1) := by decide +kernel
theorem dX10_begin_50 : decode cX10_begin 50 = .ok (.aconst_null, 1) := by decide +kernel
theorem dX10_begin_51 : decode cX10_begin 51 = .ok (.invokevirtual 58, 3) := by decide +kernel
theorem dX10_begin_54 : decode cX10_begin 54 = .ok (.aload_n 0, 1) := by decide +kernel
theorem dX10_begin_55 : decode cX10_begin 55 = .ok (.iconst 0, 1) := by decide +kernel
theorem dX10_begin_56 : decode cX10_begin 56 = .ok (.putfield 39, 3) := by decide +kernel
theorem dX10_begin_59 : decode cX10_begin 59 = .ok (.aload_n 0, 1) := by decide +kernel
theorem dX10_begin_60 : decode cX10_begin 60 = .ok (.iconst (-1), 1) := by decide +kernel
theorem dX10_begin_61 : decode cX10_begin 61 = .ok (.putfield 42, 3) := by decide +kernel
theorem dX10_begin_64 : decode cX10_begin 64 = .ok (.aload_n 0, 1) := by decide +kernel
theorem dX10_begin_65 : decode cX10_begin 65 = .ok (.iconst (-1), 1) := by decide +kernel
theorem dX10_begin_66 : decode cX10_begin 66 = .ok (.putfield 62, 3) := by decide +kernel
theorem dX10_begin_69 : decode cX10_begin 69 = .ok (.aload_n 0, 1) := by decide +kernel
theorem dX10_begin_70 : decode cX10_begin 70 = .ok (.invokevirtual 65, 3) := by decide +kernel
theorem dX10_begin_73 : decode cX10_begin 73 = .ok (.return_, 1) := by decide +kernel
def mi_X10_begin : MI := (RX10, yX10_begin, cX10_begin, 3, none, [], { frames := 8, cells := 0, slots := 0, locals := 191 })
theorem ok_X10_begin : mOK mi_X10_begin 0 := ⟨rfl, cw_X10_begin, ini_X10, ⟨rfl, by decide⟩, by decide, by decide, rfl⟩
theorem v_X10_begin_39 (this : Nat) (M : Mem) : V mi_X10_begin 39 [(0, .ref this)] [] M 0 0 (f_X10_begin_39 this M) wV := by
  unfold f_X10_begin_39
  refine V_aload_n dX10_begin_39 rfl 0 rfl ?_
  refine V_iconst (x := 0) dX10_begin_40 rfl rfl ?_
  refine V_aload_n dX10_begin_41 rfl 0 rfl ?_
  refine V_getR dX10_begin_42 rfl (ci := 9) (T := TX10) rfl (by decide) fl_X10_9 (fun x2 => ?_)
  refine V_cVeI (As := []) (k_X1_size x2 M) (fun _ h => o_X1_size h) ok_X1_size im_X1_size se_X1_size rfl (ci := 1) rfl ml_X10_48 ⟨⟨(Nat.le_of_ble_eq_true rfl), (Nat.le_of_ble_eq_true rfl)⟩, (Nat.le_of_ble_eq_true rfl), (Nat.le_of_ble_eq_true rfl)⟩ dX10_begin_45 rfl rfl rfl (Nat.le_of_ble_eq_true rfl) rfl rfl (fun x3 => ?_)
  refine V_iconst (x := 0) dX10_begin_48 rfl rfl ?_
  refine V_lconst (x := 0) dX10_begin_49 rfl rfl ?_
  refine V_null dX10_begin_50 rfl ?_
  refine V_cVwV (As := [.int 0, .int x3, .int 0, .long 0, va_rf none]) (k_X10_addToken this 0 x3 0 0 none M) (fun _ h => o_X10_addToken h) ok_X10_addToken im_X10_addToken se_X10_addToken rfl (ci := 9) rfl ml_X10_58 ⟨⟨(Nat.le_of_ble_eq_true rfl), (Nat.le_of_ble_eq_true rfl)⟩, (Nat.le_of_ble_eq_true rfl), (Nat.le_of_ble_eq_true rfl)⟩ dX10_begin_51 rfl rfl rfl (Nat.le_of_ble_eq_true rfl) rfl rfl (fun M5 => ?_)
  refine V_aload_n dX10_begin_54 rfl 0 rfl ?_
  refine V_iconst (x := 0) dX10_begin_55 rfl rfl ?_
  refine V_putI dX10_begin_56 rfl (ci := 9) (T := TX10) rfl (by decide) fl_X10_39 rfl rfl (fun M6 => ?_)
  refine V_aload_n dX10_begin_59 rfl 0 rfl ?_
  refine V_iconst (x := (-1)) dX10_begin_60 rfl rfl ?_
  refine V_putI dX10_begin_61 rfl (ci := 9) (T := TX10) rfl (by decide) fl_X10_42 rfl rfl (fun M7 => ?_)
  refine V_aload_n dX10_begin_64 rfl 0 rfl ?_
  refine V_iconst (x := (-1)) dX10_begin_65 rfl rfl ?_
  refine V_putI dX10_begin_66 rfl (ci := 9) (T := TX10) rfl (by decide) fl_X10_62 rfl rfl (fun M8 => ?_)
  refine V_aload_n dX10_begin_69 rfl 0 rfl ?_
  refine V_cVwV (As := []) (k_X10_next this M8) (fun _ h => o_X10_next h) ok_X10_next im_X10_next se_X10_next rfl (ci := 9) rfl ml_X10_65 ⟨⟨(Nat.le_of_ble_eq_true rfl), (Nat.le_of_ble_eq_true rfl)⟩, (Nat.le_of_ble_eq_true rfl), (Nat.le_of_ble_eq_true rfl)⟩ dX10_begin_70 rfl rfl rfl (Nat.le_of_ble_eq_true rfl) rfl rfl (fun M10 => ?_)
  exact V_vret dX10_begin_73 rfl rfl ⟨(Nat.le_of_ble_eq_true rfl), (Nat.le_of_ble_eq_true rfl)⟩
theorem v_X10_begin_9 : ∀ (fu : Nat) (this : Nat) (l1 : Int32) (l2 : Int32) (M : Mem), V mi_X10_begin 9 [(0, .ref this), (1, .int l1), (2, .int l2)] [] M 0 0 (f_X10_begin_9 fu this l1 l2 M) wV := by
  intro fu
  induction fu with
  | zero => intros; exact V_none
  | succ fu ih =>
    intro this l1 l2 M
    show V mi_X10_begin 9 [(0, .ref this), (1, .int l1), (2, .int l2)] [] M 0 0 (f_X10_begin_9 (fu + 1) this l1 l2 M) wV
    unfold f_X10_begin_9
    refine V_iload_n dX10_begin_9 rfl 2 rfl ?_
    refine V_sipush (x := 700) dX10_begin_10 rfl rfl ?_
    refine V_icmp_ge (q := 39) (q2 := 16) dX10_begin_13 (by decide) rfl ?_ ?_
    · exact V_sub [0] rfl (v_X10_begin_39 this M)
    · refine V_iload_n dX10_begin_16 rfl 1 rfl ?_
      refine V_aload_n dX10_begin_17 rfl 0 rfl ?_
      refine V_getR dX10_begin_18 rfl (ci := 9) (T := TX10) rfl (by decide) fl_X10_9 (fun x11 => ?_)
      refine V_cVeI (As := []) (k_X1_size x11 M) (fun _ h => o_X1_size h) ok_X1_size im_X1_size se_X1_size rfl (ci := 1) rfl ml_X10_48 ⟨⟨(Nat.le_of_ble_eq_true rfl), (Nat.le_of_ble_eq_true rfl)⟩, (Nat.le_of_ble_eq_true rfl), (Nat.le_of_ble_eq_true rfl)⟩ dX10_begin_21 rfl rfl rfl (Nat.le_of_ble_eq_true rfl) rfl rfl (fun x12 => ?_)
      refine V_icmp_ge (q := 39) (q2 := 27) dX10_begin_24 (by decide) rfl ?_ ?_
      · exact V_sub [0] rfl (v_X10_begin_39 this M)
      · refine V_aload_n dX10_begin_27 rfl 0 rfl ?_
        refine V_iload_n dX10_begin_28 rfl 1 rfl ?_
        refine V_cVwI (As := [.int l1]) (k_X10_readOne this l1 M) (fun _ h => o_X10_readOne h) ok_X10_readOne im_X10_readOne se_X10_readOne rfl (ci := 9) rfl ml_X10_54 ⟨⟨(Nat.le_of_ble_eq_true rfl), (Nat.le_of_ble_eq_true rfl)⟩, (Nat.le_of_ble_eq_true rfl), (Nat.le_of_ble_eq_true rfl)⟩ dX10_begin_29 rfl rfl rfl (Nat.le_of_ble_eq_true rfl) rfl rfl (fun x13 M14 => ?_)
        refine V_istore_n (L' := [(0, .ref this), (1, .int x13), (2, .int l2)]) dX10_begin_32 rfl (by decide) rfl ?_
        refine V_iinc (y := (l2 + 1)) (L' := [(0, .ref this), (1, .int x13), (2, .int (l2 + 1))]) dX10_begin_33 rfl 2 rfl rfl (by decide) rfl ?_
        refine V_goto (q := 9) dX10_begin_36 (by decide) ?_
        exact ih this x13 (l2 + 1) M14
theorem v_X10_begin (this : Nat) (M : Mem) : V mi_X10_begin 0 [(0, .ref this)] [] M 0 0 (f_X10_begin this M) wV := by
  unfold f_X10_begin
  refine V_ob fun _ _ => ?_
  refine V_aload_n dX10_begin_0 rfl 0 rfl ?_
  refine V_iconst (x := 0) dX10_begin_1 rfl rfl ?_
  refine V_putI dX10_begin_2 rfl (ci := 9) (T := TX10) rfl (by decide) fl_X10_45 rfl rfl (fun M1 => ?_)
  refine V_iconst (x := 0) dX10_begin_5 rfl rfl ?_
  refine V_istore_n (L' := [(0, .ref this), (1, .int 0)]) dX10_begin_6 rfl (by decide) rfl ?_
  refine V_iconst (x := 0) dX10_begin_7 rfl rfl ?_
  refine V_istore_n (L' := [(0, .ref this), (1, .int 0), (2, .int 0)]) dX10_begin_8 rfl (by decide) rfl ?_
  exact v_X10_begin_9 FU this 0 0 M1
theorem k_X10_begin (this : Nat) (M : Mem) : K mi_X10_begin [.ref this] M (f_X10_begin this M) wV := K_of_V ok_X10_begin (Nat.le_of_ble_eq_true rfl) (v_X10_begin this M)
theorem o_X10_begin {this : Nat} {M : Mem} {x} (h : f_X10_begin this M = some x) : isO M 9 this = true := (ob_of h).1
theorem dX10_isKeyword_0 : decode cX10_isKeyword 0 = .ok (.aload_n 0, 1) := by decide +kernel
theorem dX10_isKeyword_1 : decode cX10_isKeyword 1 = .ok (.getfield 35, 3) := by decide +kernel
theorem dX10_isKeyword_4 : decode cX10_isKeyword 4 = .ok (.iconst 1, 1) := by decide +kernel
theorem dX10_isKeyword_5 : decode cX10_isKeyword 5 = .ok (.if_icmp .ne 15, 3) := by decide +kernel
theorem dX10_isKeyword_8 : decode cX10_isKeyword 8 = .ok (.aload_n 0, 1) := by decide +kernel
theorem dX10_isKeyword_9 : decode cX10_isKeyword 9 = .ok (.getfield 78, 3) := by decide +kernel
theorem dX10_isKeyword_12 : decode cX10_isKeyword 12 = .ok (.aload_n 1, 1) := by decide +kernel
theorem dX10_isKeyword_13 : decode cX10_isKeyword 13 = .ok (.if_acmp .ne 7, 3) := by decide +kernel
theorem dX10_isKeyword_16 : decode cX10_isKeyword 16 = .ok (.iconst 1, 1) := by decide +kernel
theorem dX10_isKeyword_17 : decode cX10_isKeyword 17 = .ok (.goto 4, 3) := by decide +kernel
theorem dX10_isKeyword_20 : decode cX10_isKeyword 20 = .ok (.iconst 0, 1) := by decide +kernel
theorem dX10_isKeyword_21 : decode cX10_isKeyword 21 = .ok (.ireturn, 1) := by decide +kernel
def mi_X10_isKeyword : MI := (RX10, yX10_isKeyword, cX10_isKeyword, 2, some .boolean, [], { frames := 1, cells := 0, slots := 0, locals := 12 })
theorem ok_X10_isKeyword : mOK mi_X10_isKeyword 1 := ⟨rfl, cw_X10_isKeyword, ini_X10, ⟨rfl, by decide⟩, by decide, by decide, rfl⟩
theorem v_X10_isKeyword (this : Nat) (a1 : Nat) (M : Mem) : V mi_X10_isKeyword 0 [(0, .ref this), (1, .ref a1)] [] M 0 0 (f_X10_isKeyword this a1 M) (eZ M) := by
  unfold f_X10_isKeyword
  refine V_ob fun _ _ => ?_
  refine V_aload_n dX10_isKeyword_0 rfl 0 rfl ?_
  refine V_getI dX10_isKeyword_1 rfl (ci := 9) (T := TX10) rfl (by decide) fl_X10_35 (fun x1 => ?_)
  refine V_iconst (x := 1) dX10_isKeyword_4 rfl rfl ?_
  refine V_icmp_ne (q := 20) (q2 := 8) dX10_isKeyword_5 (by decide) rfl ?_ ?_
  · refine V_iconst (x := 0) dX10_isKeyword_20 rfl rfl ?_
    exact V_zret (v := false) dX10_isKeyword_21 rfl rfl ⟨(Nat.le_of_ble_eq_true rfl), (Nat.le_of_ble_eq_true rfl)⟩
  · refine V_aload_n dX10_isKeyword_8 rfl 0 rfl ?_
    refine V_getQ dX10_isKeyword_9 rfl (ci := 9) (T := TX10) rfl (by decide) fl_X10_78 (fun x2 => ?_)
    refine V_aload_n dX10_isKeyword_12 rfl 1 rfl ?_
    refine V_acmp_ne (x := x2) (y := (some a1)) (q := 20) (q2 := 16) dX10_isKeyword_13 (by decide) rfl ?_ ?_
    · refine V_iconst (x := 0) dX10_isKeyword_20 rfl rfl ?_
      exact V_zret (v := false) dX10_isKeyword_21 rfl rfl ⟨(Nat.le_of_ble_eq_true rfl), (Nat.le_of_ble_eq_true rfl)⟩
    · refine V_iconst (x := 1) dX10_isKeyword_16 rfl rfl ?_
      refine V_goto (q := 21) dX10_isKeyword_17 (by decide) ?_
      exact V_zret (v := true) dX10_isKeyword_21 rfl rfl ⟨(Nat.le_of_ble_eq_true rfl), (Nat.le_of_ble_eq_true rfl)⟩
theorem k_X10_isKeyword (this : Nat) (a1 : Nat) (M : Mem) : K mi_X10_isKeyword [.ref this, .ref a1] M (f_X10_isKeyword this a1 M) (eZ M) := K_of_V ok_X10_isKeyword (Nat.le_of_ble_eq_true rfl) (v_X10_isKeyword this a1 M)
theorem o_X10_isKeyword {this : Nat} {a1 : Nat} {M : Mem} {x} (h : f_X10_isKeyword this a1 M = some x) : isO M 9 this = true := (ob_of h).1
theorem dX10_fail_0 : decode cX10_fail 0 = .ok (.aload_n 0, 1) := by decide +kernel
theorem dX10_fail_1 : decode cX10_fail 1 = .ok (.getfield 39, 3) := by decide +kernel
theorem dX10_fail_4 : decode cX10_fail 4 = .ok (.ifCond .ne 26, 3) := by decide +kernel
theorem dX10_fail_7 : decode cX10_fail 7 = .ok (.aload_n 0, 1) := by decide +kernel
theorem dX10_fail_8 : decode cX10_fail 8 = .ok (.iload_n 1, 1) := by decide +kernel
theorem dX10_fail_9 : decode cX10_fail 9 = .ok (.putfield 39, 3) := by decide +kernel
theorem dX10_fail_12 : decode cX10_fail 12 = .ok (.aload_n 0, 1) := by decide +kernel
theorem dX10_fail_13 : decode cX10_fail 13 = .ok (.aload_n 0, 1) := by decide +kernel
theorem dX10_fail_14 : decode cX10_fail 14 = .ok (.getfield 68, 3) := by decide +kernel
theorem dX10_fail_17 : decode cX10_fail 17 = .ok (.putfield 42, 3) := by decide +kernel
theorem dX10_fail_20 : decode cX10_fail 20 = .ok (.aload_n 0, 1) := by decide +kernel
theorem dX10_fail_21 : decode cX10_fail 21 = .ok (.iconst 4, 1) := by decide +kernel
theorem dX10_fail_22 : decode cX10_fail 22 = .ok (.putfield 35, 3) := by decide +kernel
theorem dX10_fail_25 : decode cX10_fail 25 = .ok (.aload_n 0, 1) := by decide +kernel
theorem dX10_fail_26 : decode cX10_fail 26 = .ok (.aconst_null, 1) := by decide +kernel
theorem dX10_fail_27 : decode cX10_fail 27 = .ok (.putfield 78, 3) := by decide +kernel
theorem dX10_fail_30 : decode cX10_fail 30 = .ok (.return_, 1) := by decide +kernel
def mi_X10_fail : MI := (RX10, yX10_fail, cX10_fail, 2, none, [], { frames := 1, cells := 0, slots := 0, locals := 12 })
theorem ok_X10_fail : mOK mi_X10_fail 1 := ⟨rfl, cw_X10_fail, ini_X10, ⟨rfl, by decide⟩, by decide, by decide, rfl⟩
theorem v_X10_fail (this : Nat) (a1 : Int32) (M : Mem) : V mi_X10_fail 0 [(0, .ref this), (1, .int a1)] [] M 0 0 (f_X10_fail this a1 M) wV := by
  unfold f_X10_fail
  refine V_ob fun _ _ => ?_
  refine V_aload_n dX10_fail_0 rfl 0 rfl ?_
  refine V_getI dX10_fail_1 rfl (ci := 9) (T := TX10) rfl (by decide) fl_X10_39 (fun x1 => ?_)
  refine V_if_ne (q := 30) (q2 := 7) dX10_fail_4 (by decide) rfl ?_ ?_
  · exact V_vret dX10_fail_30 rfl rfl ⟨(Nat.le_of_ble_eq_true rfl), (Nat.le_of_ble_eq_true rfl)⟩
  · refine V_aload_n dX10_fail_7 rfl 0 rfl ?_
    refine V_iload_n dX10_fail_8 rfl 1 rfl ?_
    refine V_putI dX10_fail_9 rfl (ci := 9) (T := TX10) rfl (by decide) fl_X10_39 rfl rfl (fun M2 => ?_)
    refine V_aload_n dX10_fail_12 rfl 0 rfl ?_
    refine V_aload_n dX10_fail_13 rfl 0 rfl ?_
    refine V_getI dX10_fail_14 rfl (ci := 9) (T := TX10) rfl (by decide) fl_X10_68 (fun x3 => ?_)
    refine V_putI dX10_fail_17 rfl (ci := 9) (T := TX10) rfl (by decide) fl_X10_42 rfl rfl (fun M4 => ?_)
    refine V_aload_n dX10_fail_20 rfl 0 rfl ?_
    refine V_iconst (x := 4) dX10_fail_21 rfl rfl ?_
    refine V_putI dX10_fail_22 rfl (ci := 9) (T := TX10) rfl (by decide) fl_X10_35 rfl rfl (fun M5 => ?_)
    refine V_aload_n dX10_fail_25 rfl 0 rfl ?_
    refine V_null dX10_fail_26 rfl ?_
    refine V_putQ (v := none) dX10_fail_27 rfl (ci := 9) (T := TX10) rfl (by decide) fl_X10_78 rfl rfl (fun a => by cases a <;> rfl) (fun a => by cases a <;> rfl) (fun M6 => ?_)
    exact V_vret dX10_fail_30 rfl rfl ⟨(Nat.le_of_ble_eq_true rfl), (Nat.le_of_ble_eq_true rfl)⟩
theorem k_X10_fail (this : Nat) (a1 : Int32) (M : Mem) : K mi_X10_fail [.ref this, .int a1] M (f_X10_fail this a1 M) wV := K_of_V ok_X10_fail (Nat.le_of_ble_eq_true rfl) (v_X10_fail this a1 M)
theorem o_X10_fail {this : Nat} {a1 : Int32} {M : Mem} {x} (h : f_X10_fail this a1 M = some x) : isO M 9 this = true := (ob_of h).1
theorem dX10_passNumber_0 : decode cX10_passNumber 0 = .ok (.aload_n 0, 1) := by decide +kernel
theorem dX10_passNumber_1 : decode cX10_passNumber 1 = .ok (.getfield 71, 3) := by decide +kernel
theorem dX10_passNumber_4 : decode cX10_passNumber 4 = .ok (.istore_n 3, 1) := by decide +kernel
theorem dX10_passNumber_5 : decode cX10_passNumber 5 = .ok (.aload_n 0, 1) := by decide +kernel
theorem dX10_passNumber_6 : decode cX10_passNumber 6 = .ok (.getfield 35, 3) := by decide +kernel
theorem dX10_passNumber_9 : decode cX10_passNumber 9 = .ok (.iconst 2, 1) := by decide +kernel
theorem dX10_passNumber_10 : decode cX10_passNumber 10 = .ok (.if_icmp .eq 11, 3) := by decide +kernel
theorem dX10_passNumber_13 : decode cX10_passNumber 13 = .ok (.aload_n 0, 1) := by decide +kernel
theorem dX10_passNumber_14 : decode cX10_passNumber 14 = .ok (.iconst 1, 1) := by decide +kernel
theorem dX10_passNumber_15 : decode cX10_passNumber 15 = .ok (.invokevirtual 89, 3) := by decide +kernel
theorem dX10_passNumber_18 : decode cX10_passNumber 18 = .ok (.goto 18, 3) := by decide +kernel
theorem dX10_passNumber_21 : decode cX10_passNumber 21 = .ok (.iload_n 3, 1) := by decide +kernel
theorem dX10_passNumber_22 : decode cX10_passNumber 22 = .ok (.iload_n 1, 1) := by decide +kernel
theorem dX10_passNumber_23 : decode cX10_passNumber 23 = .ok (.if_icmp .lt 8, 3) := by decide +kernel
theorem dX10_passNumber_26 : decode cX10_passNumber 26 = .ok (.iload_n 3, 1) := by decide +kernel
theorem dX10_passNumber_27 : decode cX10_passNumber 27 = .ok (.iload_n 2, 1) := by decide +kernel
theorem dX10_passNumber_28 : decode cX10_passNumber 28 = .ok (.if_icmp .le 8, 3) := by decide +kernel
theorem dX10_passNumber_31 : decode cX10_passNumber 31 = .ok (.aload_n 0, 1) := by decide +kernel
theorem dX10_passNumber_32 : decode cX10_passNumber 32 = .ok (.iconst 2, 1) := by decide +kernel
theorem dX10_passNumber_33 : decode cX10_passNumber 33 = .ok (.invokevirtual 89, 3) := by decide +kernel
theorem dX10_passNumber_36 : decode cX10_passNumber 36 = .ok (.aload_n 0, 1) := by decide +kernel
theorem dX10_passNumber_37 : decode cX10_passNumber 37 = .ok (.invokevirtual 65, 3) := by decide +kernel
theorem dX10_passNumber_40 : decode cX10_passNumber 40 = .ok (.iload_n 3, 1) := by decide +kernel
theorem dX10_passNumber_41 : decode cX10_passNumber 41 = .ok (.ireturn, 1) := by decide +kernel
def mi_X10_passNumber : MI := (RX10, yX10_passNumber, cX10_passNumber, 4, some .int, [], { frames := 2, cells := 0, slots := 0, locals := 33 })
theorem ok_X10_passNumber : mOK mi_X10_passNumber 2 := ⟨rfl, cw_X10_passNumber, ini_X10, ⟨rfl, by decide⟩, by decide, by decide, rfl⟩
theorem v_X10_passNumber_36 (this : Nat) (l3 : Int32) (M : Mem) : V mi_X10_passNumber 36 [(0, .ref this), (3, .int l3)] [] M 0 0 (f_X10_passNumber_36 this l3 M) wI := by
  unfold f_X10_passNumber_36
  refine V_aload_n dX10_passNumber_36 rfl 0 rfl ?_
  refine V_cVwV (As := []) (k_X10_next this M) (fun _ h => o_X10_next h) ok_X10_next im_X10_next se_X10_next rfl (ci := 9) rfl ml_X10_65 ⟨⟨(Nat.le_of_ble_eq_true rfl), (Nat.le_of_ble_eq_true rfl)⟩, (Nat.le_of_ble_eq_true rfl), (Nat.le_of_ble_eq_true rfl)⟩ dX10_passNumber_37 rfl rfl rfl (Nat.le_of_ble_eq_true rfl) rfl rfl (fun M6 => ?_)
  refine V_iload_n dX10_passNumber_40 rfl 1 rfl ?_
  exact V_iret dX10_passNumber_41 rfl rfl ⟨(Nat.le_of_ble_eq_true rfl), (Nat.le_of_ble_eq_true rfl)⟩
theorem v_X10_passNumber_31 (this : Nat) (l3 : Int32) (M : Mem) : V mi_X10_passNumber 31 [(0, .ref this), (3, .int l3)] [] M 0 0 (f_X10_passNumber_31 this l3 M) wI := by
  unfold f_X10_passNumber_31
  refine V_aload_n dX10_passNumber_31 rfl 0 rfl ?_
  refine V_iconst (x := 2) dX10_passNumber_32 rfl rfl ?_
  refine V_cVwV (As := [.int 2]) (k_X10_fail this 2 M) (fun _ h => o_X10_fail h) ok_X10_fail im_X10_fail se_X10_fail rfl (ci := 9) rfl ml_X10_89 ⟨⟨(Nat.le_of_ble_eq_true rfl), (Nat.le_of_ble_eq_true rfl)⟩, (Nat.le_of_ble_eq_true rfl), (Nat.le_of_ble_eq_true rfl)⟩ dX10_passNumber_33 rfl rfl rfl (Nat.le_of_ble_eq_true rfl) rfl rfl (fun M4 => ?_)
  exact v_X10_passNumber_36 this l3 M4
theorem v_X10_passNumber (this : Nat) (a1 : Int32) (a2 : Int32) (M : Mem) : V mi_X10_passNumber 0 [(0, .ref this), (1, .int a1), (2, .int a2)] [] M 0 0 (f_X10_passNumber this a1 a2 M) wI := by
  unfold f_X10_passNumber
  refine V_ob fun _ _ => ?_
  refine V_aload_n dX10_passNumber_0 rfl 0 rfl ?_
  refine V_getI dX10_passNumber_1 rfl (ci := 9) (T := TX10) rfl (by decide) fl_X10_71 (fun x1 => ?_)
  refine V_istore_n (L' := [(0, .ref this), (1, .int a1), (2, .int a2), (3, .int x1)]) dX10_passNumber_4 rfl (by decide) rfl ?_
  refine V_aload_n dX10_passNumber_5 rfl 0 rfl ?_
  refine V_getI dX10_passNumber_6 rfl (ci := 9) (T := TX10) rfl (by decide) fl_X10_35 (fun x2 => ?_)
  refine V_iconst (x := 2) dX10_passNumber_9 rfl rfl ?_
  refine V_icmp_eq (q := 21) (q2 := 13) dX10_passNumber_10 (by decide) rfl ?_ ?_
  · refine V_iload_n dX10_passNumber_21 rfl 3 rfl ?_
    refine V_iload_n dX10_passNumber_22 rfl 1 rfl ?_
    refine V_icmp_lt (q := 31) (q2 := 26) dX10_passNumber_23 (by decide) rfl ?_ ?_
    · exact V_sub [0, 3] rfl (v_X10_passNumber_31 this x1 M)
    · refine V_iload_n dX10_passNumber_26 rfl 3 rfl ?_
      refine V_iload_n dX10_passNumber_27 rfl 2 rfl ?_
      refine V_icmp_le (q := 36) (q2 := 31) dX10_passNumber_28 (by decide) rfl ?_ ?_
      · exact V_sub [0, 3] rfl (v_X10_passNumber_36 this x1 M)
      · exact V_sub [0, 3] rfl (v_X10_passNumber_31 this x1 M)
  · refine V_aload_n dX10_passNumber_13 rfl 0 rfl ?_
    refine V_iconst (x := 1) dX10_passNumber_14 rfl rfl ?_
    refine V_cVwV (As := [.int 1]) (k_X10_fail this 1 M) (fun _ h => o_X10_fail h) ok_X10_fail im_X10_fail se_X10_fail rfl (ci := 9) rfl ml_X10_89 ⟨⟨(Nat.le_of_ble_eq_true rfl), (Nat.le_of_ble_eq_true rfl)⟩, (Nat.le_of_ble_eq_true rfl), (Nat.le_of_ble_eq_true rfl)⟩ dX10_passNumber_15 rfl rfl rfl (Nat.le_of_ble_eq_true rfl) rfl rfl (fun M8 => ?_)
    refine V_goto (q := 36) dX10_passNumber_18 (by decide) ?_
    exact V_sub [0, 3] rfl (v_X10_passNumber_36 this x1 M8)
theorem k_X10_passNumber (this : Nat) (a1 : Int32) (a2 : Int32) (M : Mem) : K mi_X10_passNumber [.ref this, .int a1, .int a2] M (f_X10_passNumber this a1 a2 M) wI := K_of_V ok_X10_passNumber (Nat.le_of_ble_eq_true rfl) (v_X10_passNumber this a1 a2 M)
theorem o_X10_passNumber {this : Nat} {a1 : Int32} {a2 : Int32} {M : Mem} {x} (h : f_X10_passNumber this a1 a2 M = some x) : isO M 9 this = true := (ob_of h).1
theorem dX10_name_0 : decode cX10_name 0 = .ok (.aload_n 0, 1) := by decide +kernel
theorem dX10_name_1 : decode cX10_name 1 = .ok (.getfield 74, 3) := by decide +kernel
theorem dX10_name_4 : decode cX10_name 4 = .ok (.lreturn, 1) := by decide +kernel
def mi_X10_name : MI := (RX10, yX10_name, cX10_name, 1, some .long, [], { frames := 1, cells := 0, slots := 0, locals := 12 })
theorem ok_X10_name : mOK mi_X10_name 0 := ⟨rfl, cw_X10_name, ini_X10, ⟨rfl, by decide⟩, by decide, by decide, rfl⟩
theorem v_X10_name (this : Nat) (M : Mem) : V mi_X10_name 0 [(0, .ref this)] [] M 0 0 (f_X10_name this M) (eJ M) := by
  unfold f_X10_name
  refine V_ob fun _ _ => ?_
  refine V_aload_n dX10_name_0 rfl 0 rfl ?_
  refine V_getJ dX10_name_1 rfl (ci := 9) (T := TX10) rfl (by decide) fl_X10_74 (fun x1 => ?_)
  exact V_lret dX10_name_4 rfl rfl ⟨(Nat.le_of_ble_eq_true rfl), (Nat.le_of_ble_eq_true rfl)⟩
theorem k_X10_name (this : Nat) (M : Mem) : K mi_X10_name [.ref this] M (f_X10_name this M) (eJ M) := K_of_V ok_X10_name (Nat.le_of_ble_eq_true rfl) (v_X10_name this M)
theorem o_X10_name {this : Nat} {M : Mem} {x} (h : f_X10_name this M = some x) : isO M 9 this = true := (ob_of h).1
theorem dX10_isName_0 : decode cX10_isName 0 = .ok (.aload_n 0, 1) := by decide +kernel
theorem dX10_isName_1 : decode cX10_isName 1 = .ok (.getfield 35, 3) := by decide +kernel
theorem dX10_isName_4 : decode cX10_isName 4 = .ok (.iconst 1, 1) := by decide +kernel
theorem dX10_isName_5 : decode cX10_isName 5 = .ok (.if_icmp .ne 23, 3) := by decide +kernel
theorem dX10_isName_8 : decode cX10_isName 8 = .ok (.aload_n 0, 1) := by decide +kernel
theorem dX10_isName_9 : decode cX10_isName 9 = .ok (.getfield 78, 3) := by decide +kernel
theorem dX10_isName_12 : decode cX10_isName 12 = .ok (.ifnonnull 16, 3) := by decide +kernel
theorem dX10_isName_15 : decode cX10_isName 15 = .ok (.aload_n 0, 1) := by decide +kernel
theorem dX10_isName_16 : decode cX10_isName 16 = .ok (.getfield 74, 3) := by decide +kernel
theorem dX10_isName_19 : decode cX10_isName 19 = .ok (.lconst 0, 1) := by decide +kernel
theorem dX10_isName_20 : decode cX10_isName 20 = .ok (.lcmp, 1) := by decide +kernel
theorem dX10_isName_21 : decode cX10_isName 21 = .ok (.ifCond .eq 7, 3) := by decide +kernel
theorem dX10_isName_24 : decode cX10_isName 24 = .ok (.iconst 1, 1) := by decide +kernel
theorem dX10_isName_25 : decode cX10_isName 25 = .ok (.goto 4, 3) := by decide +kernel
theorem dX10_isName_28 : decode cX10_isName 28 = .ok (.iconst 0, 1) := by decide +kernel
theorem dX10_isName_29 : decode cX10_isName 29 = .ok (.ireturn, 1) := by decide +kernel
def mi_X10_isName : MI := (RX10, yX10_isName, cX10_isName, 1, some .boolean, [], { frames := 1, cells := 0, slots := 0, locals := 12 })
theorem ok_X10_isName : mOK mi_X10_isName 0 := ⟨rfl, cw_X10_isName, ini_X10, ⟨rfl, by decide⟩, by decide, by decide, rfl⟩
theorem v_X10_isName (this : Nat) (M : Mem) : V mi_X10_isName 0 [(0, .ref this)] [] M 0 0 (f_X10_isName this M) (eZ M) := by
  unfold f_X10_isName
  refine V_ob fun _ _ => ?_
  refine V_aload_n dX10_isName_0 rfl 0 rfl ?_
  refine V_getI dX10_isName_1 rfl (ci := 9) (T := TX10) rfl (by decide) fl_X10_35 (fun x1 => ?_)
  refine V_iconst (x := 1) dX10_isName_4 rfl rfl ?_
  refine V_icmp_ne (q := 28) (q2 := 8) dX10_isName_5 (by decide) rfl ?_ ?_
  · refine V_iconst (x := 0) dX10_isName_28 rfl rfl ?_
    exact V_zret (v := false) dX10_isName_29 rfl rfl ⟨(Nat.le_of_ble_eq_true rfl), (Nat.le_of_ble_eq_true rfl)⟩
  · refine V_aload_n dX10_isName_8 rfl 0 rfl ?_
    refine V_getQ dX10_isName_9 rfl (ci := 9) (T := TX10) rfl (by decide) fl_X10_78 (fun x2 => ?_)
    rcases x2 with _ | r3
    · refine V_ifnonnull_n dX10_isName_12 rfl ?_
      refine V_aload_n dX10_isName_15 rfl 0 rfl ?_
      refine V_getJ dX10_isName_16 rfl (ci := 9) (T := TX10) rfl (by decide) fl_X10_74 (fun x4 => ?_)
      refine V_lconst (x := 0) dX10_isName_19 rfl rfl ?_
      refine V_lcmp dX10_isName_20 rfl ?_
      refine V_if_eq (q := 28) (q2 := 24) dX10_isName_21 (by decide) rfl ?_ ?_
      · refine V_iconst (x := 0) dX10_isName_28 rfl rfl ?_
        exact V_zret (v := false) dX10_isName_29 rfl rfl ⟨(Nat.le_of_ble_eq_true rfl), (Nat.le_of_ble_eq_true rfl)⟩
      · refine V_iconst (x := 1) dX10_isName_24 rfl rfl ?_
        refine V_goto (q := 29) dX10_isName_25 (by decide) ?_
        exact V_zret (v := true) dX10_isName_29 rfl rfl ⟨(Nat.le_of_ble_eq_true rfl), (Nat.le_of_ble_eq_true rfl)⟩
    · refine V_ifnonnull_r (q := 28) dX10_isName_12 (by decide) ?_
      refine V_iconst (x := 0) dX10_isName_28 rfl rfl ?_
      exact V_zret (v := false) dX10_isName_29 rfl rfl ⟨(Nat.le_of_ble_eq_true rfl), (Nat.le_of_ble_eq_true rfl)⟩
theorem k_X10_isName (this : Nat) (M : Mem) : K mi_X10_isName [.ref this] M (f_X10_isName this M) (eZ M) := K_of_V ok_X10_isName (Nat.le_of_ble_eq_true rfl) (v_X10_isName this M)
theorem o_X10_isName {this : Nat} {M : Mem} {x} (h : f_X10_isName this M = some x) : isO M 9 this = true := (ob_of h).1
theorem dX10_failed_0 : decode cX10_failed 0 = .ok (.aload_n 0, 1) := by decide +kernel
theorem dX10_failed_1 : decode cX10_failed 1 = .ok (.getfield 39, 3) := by decide +kernel
theorem dX10_failed_4 : decode cX10_failed 4 = .ok (.ifCond .eq 7, 3) := by decide +kernel
theorem dX10_failed_7 : decode cX10_failed 7 = .ok (.iconst 1, 1) := by decide +kernel
theorem dX10_failed_8 : decode cX10_failed 8 = .ok (.goto 4, 3) := by decide +kernel
theorem dX10_failed_11 : decode cX10_failed 11 = .ok (.iconst 0, 1) := by decide +kernel
theorem dX10_failed_12 : decode cX10_failed 12 = .ok (.ireturn, 1) := by decide +kernel
def mi_X10_failed : MI := (RX10, yX10_failed, cX10_failed, 1, some .boolean, [], { frames := 1, cells := 0, slots := 0, locals := 12 })
theorem ok_X10_failed : mOK mi_X10_failed 0 := ⟨rfl, cw_X10_failed, ini_X10, ⟨rfl, by decide⟩, by decide, by decide, rfl⟩
theorem v_X10_failed (this : Nat) (M : Mem) : V mi_X10_failed 0 [(0, .ref this)] [] M 0 0 (f_X10_failed this M) (eZ M) := by
  unfold f_X10_failed
  refine V_ob fun _ _ => ?_
  refine V_aload_n dX10_failed_0 rfl 0 rfl ?_
  refine V_getI dX10_failed_1 rfl (ci := 9) (T := TX10) rfl (by decide) fl_X10_39 (fun x1 => ?_)
  refine V_if_eq (q := 11) (q2 := 7) dX10_failed_4 (by decide) rfl ?_ ?_
  · refine V_iconst (x := 0) dX10_failed_11 rfl rfl ?_
    exact V_zret (v := false) dX10_failed_12 rfl rfl ⟨(Nat.le_of_ble_eq_true rfl), (Nat.le_of_ble_eq_true rfl)⟩
  · refine V_iconst (x := 1) dX10_failed_7 rfl rfl ?_
    refine V_goto (q := 12) dX10_failed_8 (by decide) ?_
    exact V_zret (v := true) dX10_failed_12 rfl rfl ⟨(Nat.le_of_ble_eq_true rfl), (Nat.le_of_ble_eq_true rfl)⟩
theorem k_X10_failed (this : Nat) (M : Mem) : K mi_X10_failed [.ref this] M (f_X10_failed this M) (eZ M) := K_of_V ok_X10_failed (Nat.le_of_ble_eq_true rfl) (v_X10_failed this M)
theorem o_X10_failed {this : Nat} {M : Mem} {x} (h : f_X10_failed this M = some x) : isO M 9 this = true := (ob_of h).1
theorem dX10_passKeyword_0 : decode cX10_passKeyword 0 = .ok (.aload_n 0, 1) := by decide +kernel
theorem dX10_passKeyword_1 : decode cX10_passKeyword 1 = .ok (.aload_n 1, 1) := by decide +kernel
theorem dX10_passKeyword_2 : decode cX10_passKeyword 2 = .ok (.invokevirtual 93, 3) := by decide +kernel
theorem dX10_passKeyword_5 : decode cX10_passKeyword 5 = .ok (.ifCond .ne 8, 3) := by decide +kernel
theorem dX10_passKeyword_8 : decode cX10_passKeyword 8 = .ok (.aload_n 0, 1) := by decide +kernel
theorem dX10_passKeyword_9 : decode cX10_passKeyword 9 = .ok (.iconst 1, 1) := by decide +kernel
theorem dX10_passKeyword_10 : decode cX10_passKeyword 10 = .ok (.invokevirtual 89, 3) := by decide +kernel
theorem dX10_passKeyword_13 : decode cX10_passKeyword 13 = .ok (.aload_n 0, 1) := by decide +kernel
theorem dX10_passKeyword_14 : decode cX10_passKeyword 14 = .ok (.invokevirtual 65, 3) := by decide +kernel
theorem dX10_passKeyword_17 : decode cX10_passKeyword 17 = .ok (.return_, 1) := by decide +kernel
def mi_X10_passKeyword : MI := (RX10, yX10_passKeyword, cX10_passKeyword, 2, none, [], { frames := 2, cells := 0, slots := 0, locals := 33 })
theorem ok_X10_passKeyword : mOK mi_X10_passKeyword 1 := ⟨rfl, cw_X10_passKeyword, ini_X10, ⟨rfl, by decide⟩, by decide, by decide, rfl⟩
theorem v_X10_passKeyword_13 (this : Nat) (M : Mem) : V mi_X10_passKeyword 13 [(0, .ref this)] [] M 0 0 (f_X10_passKeyword_13 this M) wV := by
  unfold f_X10_passKeyword_13
  refine V_aload_n dX10_passKeyword_13 rfl 0 rfl ?_
  refine V_cVwV (As := []) (k_X10_next this M) (fun _ h => o_X10_next h) ok_X10_next im_X10_next se_X10_next rfl (ci := 9) rfl ml_X10_65 ⟨⟨(Nat.le_of_ble_eq_true rfl), (Nat.le_of_ble_eq_true rfl)⟩, (Nat.le_of_ble_eq_true rfl), (Nat.le_of_ble_eq_true rfl)⟩ dX10_passKeyword_14 rfl rfl rfl (Nat.le_of_ble_eq_true rfl) rfl rfl (fun M3 => ?_)
  exact V_vret dX10_passKeyword_17 rfl rfl ⟨(Nat.le_of_ble_eq_true rfl), (Nat.le_of_ble_eq_true rfl)⟩
theorem v_X10_passKeyword (this : Nat) (a1 : Nat) (M : Mem) : V mi_X10_passKeyword 0 [(0, .ref this), (1, .ref a1)] [] M 0 0 (f_X10_passKeyword this a1 M) wV := by
  unfold f_X10_passKeyword
  refine V_ob fun _ _ => ?_
  refine V_aload_n dX10_passKeyword_0 rfl 0 rfl ?_
  refine V_aload_n dX10_passKeyword_1 rfl 1 rfl ?_
  refine V_cVeZ (As := [.ref a1]) (k_X10_isKeyword this a1 M) (fun _ h => o_X10_isKeyword h) ok_X10_isKeyword im_X10_isKeyword se_X10_isKeyword rfl (ci := 9) rfl ml_X10_93 ⟨⟨(Nat.le_of_ble_eq_true rfl), (Nat.le_of_ble_eq_true rfl)⟩, (Nat.le_of_ble_eq_true rfl), (Nat.le_of_ble_eq_true rfl)⟩ dX10_passKeyword_2 rfl rfl rfl (Nat.le_of_ble_eq_true rfl) rfl rfl (fun x1 => ?_)
  refine V_ifz_ne (q := 13) (q2 := 8) dX10_passKeyword_5 (by decide) rfl ?_ ?_
  · exact V_sub [0] rfl (v_X10_passKeyword_13 this M)
  · refine V_aload_n dX10_passKeyword_8 rfl 0 rfl ?_
    refine V_iconst (x := 1) dX10_passKeyword_9 rfl rfl ?_
    refine V_cVwV (As := [.int 1]) (k_X10_fail this 1 M) (fun _ h => o_X10_fail h) ok_X10_fail im_X10_fail se_X10_fail rfl (ci := 9) rfl ml_X10_89 ⟨⟨(Nat.le_of_ble_eq_true rfl), (Nat.le_of_ble_eq_true rfl)⟩, (Nat.le_of_ble_eq_true rfl), (Nat.le_of_ble_eq_true rfl)⟩ dX10_passKeyword_10 rfl rfl rfl (Nat.le_of_ble_eq_true rfl) rfl rfl (fun M5 => ?_)
    exact V_sub [0] rfl (v_X10_passKeyword_13 this M5)
theorem k_X10_passKeyword (this : Nat) (a1 : Nat) (M : Mem) : K mi_X10_passKeyword [.ref this, .ref a1] M (f_X10_passKeyword this a1 M) wV := K_of_V ok_X10_passKeyword (Nat.le_of_ble_eq_true rfl) (v_X10_passKeyword this a1 M)
theorem o_X10_passKeyword {this : Nat} {a1 : Nat} {M : Mem} {x} (h : f_X10_passKeyword this a1 M = some x) : isO M 9 this = true := (ob_of h).1
theorem dX10_flag_0 : decode cX10_flag 0 = .ok (.aload_n 0, 1) := by decide +kernel
theorem dX10_flag_1 : decode cX10_flag 1 = .ok (.getfield 78, 3) := by decide +kernel
theorem dX10_flag_4 : decode cX10_flag 4 = .ok (.astore_n 1, 1) := by decide +kernel
theorem dX10_flag_5 : decode cX10_flag 5 = .ok (.aload_n 1, 1) := by decide +kernel
theorem dX10_flag_6 : decode cX10_flag 6 = .ok (.ifnonnull 7, 3) := by decide +kernel
theorem dX10_flag_9 : decode cX10_flag 9 = .ok (.iconst 0, 1) := by decide +kernel
theorem dX10_flag_10 : decode cX10_flag 10 = .ok (.goto 7, 3) := by decide +kernel
theorem dX10_flag_13 : decode cX10_flag 13 = .ok (.aload_n 1, 1) := by decide +kernel
theorem dX10_flag_14 : decode cX10_flag 14 = .ok (.getfield 82, 3) := by decide +kernel
theorem dX10_flag_17 : decode cX10_flag 17 = .ok (.ireturn, 1) := by decide +kernel
def mi_X10_flag : MI := (RX10, yX10_flag, cX10_flag, 2, some .int, [], { frames := 1, cells := 0, slots := 0, locals := 12 })
theorem ok_X10_flag : mOK mi_X10_flag 0 := ⟨rfl, cw_X10_flag, ini_X10, ⟨rfl, by decide⟩, by decide, by decide, rfl⟩
theorem v_X10_flag (this : Nat) (M : Mem) : V mi_X10_flag 0 [(0, .ref this)] [] M 0 0 (f_X10_flag this M) (eI M) := by
  unfold f_X10_flag
  refine V_ob fun _ _ => ?_
  refine V_aload_n dX10_flag_0 rfl 0 rfl ?_
  refine V_getQ dX10_flag_1 rfl (ci := 9) (T := TX10) rfl (by decide) fl_X10_78 (fun x1 => ?_)
  refine V_astore_nQ (L' := [(0, .ref this), (1, va_rf x1)]) dX10_flag_4 rfl (by decide) (by rcases (x1 : Option Nat) with _ | _ <;> rfl) ?_
  refine V_aload_nQ dX10_flag_5 rfl 1 rfl ?_
  rcases x1 with _ | r2
  · refine V_ifnonnull_n dX10_flag_6 rfl ?_
    refine V_iconst (x := 0) dX10_flag_9 rfl rfl ?_
    refine V_goto (q := 17) dX10_flag_10 (by decide) ?_
    exact V_iret dX10_flag_17 rfl rfl ⟨(Nat.le_of_ble_eq_true rfl), (Nat.le_of_ble_eq_true rfl)⟩
  · refine V_ifnonnull_r (q := 13) dX10_flag_6 (by decide) ?_
    refine V_aload_n dX10_flag_13 rfl 1 rfl ?_
    refine V_kFlag fw_X10_82 dX10_flag_14 rfl (fun x3 => ?_)
    exact V_iret dX10_flag_17 rfl rfl ⟨(Nat.le_of_ble_eq_true rfl), (Nat.le_of_ble_eq_true rfl)⟩
theorem k_X10_flag (this : Nat) (M : Mem) : K mi_X10_flag [.ref this] M (f_X10_flag this M) (eI M) := K_of_V ok_X10_flag (Nat.le_of_ble_eq_true rfl) (v_X10_flag this M)
theorem o_X10_flag {this : Nat} {M : Mem} {x} (h : f_X10_flag this M = some x) : isO M 9 this = true := (ob_of h).1
theorem dX10_isSymbol_0 : decode cX10_isSymbol 0 = .ok (.aload_n 0, 1) := by decide +kernel
theorem dX10_isSymbol_1 : decode cX10_isSymbol 1 = .ok (.getfield 35, 3) := by decide +kernel
theorem dX10_isSymbol_4 : decode cX10_isSymbol 4 = .ok (.iconst 3, 1) := by decide +kernel
theorem dX10_isSymbol_5 : decode cX10_isSymbol 5 = .ok (.if_icmp .ne 15, 3) := by decide +kernel
theorem dX10_isSymbol_8 : decode cX10_isSymbol 8 = .ok (.aload_n 0, 1) := by decide +kernel
theorem dX10_isSymbol_9 : decode cX10_isSymbol 9 = .ok (.getfield 71, 3) := by decide +kernel
theorem dX10_isSymbol_12 : decode cX10_isSymbol 12 = .ok (.iload_n 1, 1) := by decide +kernel
theorem dX10_isSymbol_13 : decode cX10_isSymbol 13 = .ok (.if_icmp .ne 7, 3) := by decide +kernel
theorem dX10_isSymbol_16 : decode cX10_isSymbol 16 = .ok (.iconst 1, 1) := by decide +kernel
theorem dX10_isSymbol_17 : decode cX10_isSymbol 17 = .ok (.goto 4, 3) := by decide +kernel
theorem dX10_isSymbol_20 : decode cX10_isSymbol 20 = .ok (.iconst 0, 1) := by decide +kernel
theorem dX10_isSymbol_21 : decode cX10_isSymbol 21 = .ok (.ireturn, 1) := by decide +kernel
def mi_X10_isSymbol : MI := (RX10, yX10_isSymbol, cX10_isSymbol, 2, some .boolean, [], { frames := 1, cells := 0, slots := 0, locals := 12 })
theorem ok_X10_isSymbol : mOK mi_X10_isSymbol 1 := ⟨rfl, cw_X10_isSymbol, ini_X10, ⟨rfl, by decide⟩, by decide, by decide, rfl⟩
theorem v_X10_isSymbol (this : Nat) (a1 : Int32) (M : Mem) : V mi_X10_isSymbol 0 [(0, .ref this), (1, .int a1)] [] M 0 0 (f_X10_isSymbol this a1 M) (eZ M) := by
  unfold f_X10_isSymbol
  refine V_ob fun _ _ => ?_
  refine V_aload_n dX10_isSymbol_0 rfl 0 rfl ?_
  refine V_getI dX10_isSymbol_1 rfl (ci := 9) (T := TX10) rfl (by decide) fl_X10_35 (fun x1 => ?_)
  refine V_iconst (x := 3) dX10_isSymbol_4 rfl rfl ?_
  refine V_icmp_ne (q := 20) (q2 := 8) dX10_isSymbol_5 (by decide) rfl ?_ ?_
  · refine V_iconst (x := 0) dX10_isSymbol_20 rfl rfl ?_
    exact V_zret (v := false) dX10_isSymbol_21 rfl rfl ⟨(Nat.le_of_ble_eq_true rfl), (Nat.le_of_ble_eq_true rfl)⟩
  · refine V_aload_n dX10_isSymbol_8 rfl 0 rfl ?_
    refine V_getI dX10_isSymbol_9 rfl (ci := 9) (T := TX10) rfl (by decide) fl_X10_71 (fun x2 => ?_)
    refine V_iload_n dX10_isSymbol_12 rfl 1 rfl ?_
    refine V_icmp_ne (q := 20) (q2 := 16) dX10_isSymbol_13 (by decide) rfl ?_ ?_
    · refine V_iconst (x := 0) dX10_isSymbol_20 rfl rfl ?_
      exact V_zret (v := false) dX10_isSymbol_21 rfl rfl ⟨(Nat.le_of_ble_eq_true rfl), (Nat.le_of_ble_eq_true rfl)⟩
    · refine V_iconst (x := 1) dX10_isSymbol_16 rfl rfl ?_
      refine V_goto (q := 21) dX10_isSymbol_17 (by decide) ?_
      exact V_zret (v := true) dX10_isSymbol_21 rfl rfl ⟨(Nat.le_of_ble_eq_true rfl), (Nat.le_of_ble_eq_true rfl)⟩
theorem k_X10_isSymbol (this : Nat) (a1 : Int32) (M : Mem) : K mi_X10_isSymbol [.ref this, .int a1] M (f_X10_isSymbol this a1 M) (eZ M) := K_of_V ok_X10_isSymbol (Nat.le_of_ble_eq_true rfl) (v_X10_isSymbol this a1 M)
theorem o_X10_isSymbol {this : Nat} {a1 : Int32} {M : Mem} {x} (h : f_X10_isSymbol this a1 M = some x) : isO M 9 this = true := (ob_of h).1
theorem dX10_passSymbol_0 : decode cX10_passSymbol 0 = .ok (.aload_n 0, 1) := by decide +kernel
theorem dX10_passSymbol_1 : decode cX10_passSymbol 1 = .ok (.iload_n 1, 1) := by decide +kernel
theorem dX10_passSymbol_2 : decode cX10_passSymbol 2 = .ok (.invokevirtual 85, 3) := by decide +kernel
theorem dX10_passSymbol_5 : decode cX10_passSymbol 5 = .ok (.ifCond .ne 8, 3) := by decide +kernel
theorem dX10_passSymbol_8 : decode cX10_passSymbol 8 = .ok (.aload_n 0, 1) := by decide +kernel
theorem dX10_passSymbol_9 : decode cX10_passSymbol 9 = .ok (.iconst 1, 1) := by decide +kernel
theorem dX10_passSymbol_10 : decode cX10_passSymbol 10 = .ok (.invokevirtual 89, 3) := by decide +kernel
theorem dX10_passSymbol_13 : decode cX10_passSymbol 13 = .ok (.aload_n 0, 1) := by decide +kernel
theorem dX10_passSymbol_14 : decode cX10_passSymbol 14 = .ok (.invokevirtual 65, 3) := by decide +kernel
theorem dX10_passSymbol_17 : decode cX10_passSymbol 17 = .ok (.return_, 1) := by decide +kernel
def mi_X10_passSymbol : MI := (RX10, yX10_passSymbol, cX10_passSymbol, 2, none, [], { frames := 2, cells := 0, slots := 0, locals := 33 })
theorem ok_X10_passSymbol : mOK mi_X10_passSymbol 1 := ⟨rfl, cw_X10_passSymbol, ini_X10, ⟨rfl, by decide⟩, by decide, by decide, rfl⟩
theorem v_X10_passSymbol_13 (this : Nat) (M : Mem) : V mi_X10_passSymbol 13 [(0, .ref this)] [] M 0 0 (f_X10_passSymbol_13 this M) wV := by
  unfold f_X10_passSymbol_13
  refine V_aload_n dX10_passSymbol_13 rfl 0 rfl ?_
  refine V_cVwV (As := []) (k_X10_next this M) (fun _ h => o_X10_next h) ok_X10_next im_X10_next se_X10_next rfl (ci := 9) rfl ml_X10_65 ⟨⟨(Nat.le_of_ble_eq_true rfl), (Nat.le_of_ble_eq_true rfl)⟩, (Nat.le_of_ble_eq_true rfl), (Nat.le_of_ble_eq_true rfl)⟩ dX10_passSymbol_14 rfl rfl rfl (Nat.le_of_ble_eq_true rfl) rfl rfl (fun M3 => ?_)
  exact V_vret dX10_passSymbol_17 rfl rfl ⟨(Nat.le_of_ble_eq_true rfl), (Nat.le_of_ble_eq_true rfl)⟩
theorem v_X10_passSymbol (this : Nat) (a1 : Int32) (M : Mem) : V mi_X10_passSymbol 0 [(0, .ref this), (1, .int a1)] [] M 0 0 (f_X10_passSymbol this a1 M) wV := by
  unfold f_X10_passSymbol
  refine V_ob fun _ _ => ?_
  refine V_aload_n dX10_passSymbol_0 rfl 0 rfl ?_
  refine V_iload_n dX10_passSymbol_1 rfl 1 rfl ?_
  refine V_cVeZ (As := [.int a1]) (k_X10_isSymbol this a1 M) (fun _ h => o_X10_isSymbol h) ok_X10_isSymbol im_X10_isSymbol se_X10_isSymbol rfl (ci := 9) rfl ml_X10_85 ⟨⟨(Nat.le_of_ble_eq_true rfl), (Nat.le_of_ble_eq_true rfl)⟩, (Nat.le_of_ble_eq_true rfl), (Nat.le_of_ble_eq_true rfl)⟩ dX10_passSymbol_2 rfl rfl rfl (Nat.le_of_ble_eq_true rfl) rfl rfl (fun x1 => ?_)
  refine V_ifz_ne (q := 13) (q2 := 8) dX10_passSymbol_5 (by decide) rfl ?_ ?_
  · exact V_sub [0] rfl (v_X10_passSymbol_13 this M)
  · refine V_aload_n dX10_passSymbol_8 rfl 0 rfl ?_
    refine V_iconst (x := 1) dX10_passSymbol_9 rfl rfl ?_
    refine V_cVwV (As := [.int 1]) (k_X10_fail this 1 M) (fun _ h => o_X10_fail h) ok_X10_fail im_X10_fail se_X10_fail rfl (ci := 9) rfl ml_X10_89 ⟨⟨(Nat.le_of_ble_eq_true rfl), (Nat.le_of_ble_eq_true rfl)⟩, (Nat.le_of_ble_eq_true rfl), (Nat.le_of_ble_eq_true rfl)⟩ dX10_passSymbol_10 rfl rfl rfl (Nat.le_of_ble_eq_true rfl) rfl rfl (fun M5 => ?_)
    exact V_sub [0] rfl (v_X10_passSymbol_13 this M5)
theorem k_X10_passSymbol (this : Nat) (a1 : Int32) (M : Mem) : K mi_X10_passSymbol [.ref this, .int a1] M (f_X10_passSymbol this a1 M) wV := K_of_V ok_X10_passSymbol (Nat.le_of_ble_eq_true rfl) (v_X10_passSymbol this a1 M)
theorem o_X10_passSymbol {this : Nat} {a1 : Int32} {M : Mem} {x} (h : f_X10_passSymbol this a1 M = some x) : isO M 9 this = true := (ob_of h).1
theorem dX10_atEnd_0 : decode cX10_atEnd 0 = .ok (.aload_n 0, 1) := by decide +kernel
theorem dX10_atEnd_1 : decode cX10_atEnd 1 = .ok (.getfield 35, 3) := by decide +kernel
theorem dX10_atEnd_4 : decode cX10_atEnd 4 = .ok (.ifCond .ne 7, 3) := by decide +kernel
theorem dX10_atEnd_7 : decode cX10_atEnd 7 = .ok (.iconst 1, 1) := by decide +kernel
theorem dX10_atEnd_8 : decode cX10_atEnd 8 = .ok (.goto 4, 3) := by decide +kernel
theorem dX10_atEnd_11 : decode cX10_atEnd 11 = .ok (.iconst 0, 1) := by decide +kernel
theorem dX10_atEnd_12 : decode cX10_atEnd 12 = .ok (.ireturn, 1) := by decide +kernel
def mi_X10_atEnd : MI := (RX10, yX10_atEnd, cX10_atEnd, 1, some .boolean, [], { frames := 1, cells := 0, slots := 0, locals := 12 })
theorem ok_X10_atEnd : mOK mi_X10_atEnd 0 := ⟨rfl, cw_X10_atEnd, ini_X10, ⟨rfl, by decide⟩, by decide, by decide, rfl⟩
theorem v_X10_atEnd (this : Nat) (M : Mem) : V mi_X10_atEnd 0 [(0, .ref this)] [] M 0 0 (f_X10_atEnd this M) (eZ M) := by
  unfold f_X10_atEnd
  refine V_ob fun _ _ => ?_
  refine V_aload_n dX10_atEnd_0 rfl 0 rfl ?_
  refine V_getI dX10_atEnd_1 rfl (ci := 9) (T := TX10) rfl (by decide) fl_X10_35 (fun x1 => ?_)
  refine V_if_ne (q := 11) (q2 := 7) dX10_atEnd_4 (by decide) rfl ?_ ?_
  · refine V_iconst (x := 0) dX10_atEnd_11 rfl rfl ?_
    exact V_zret (v := false) dX10_atEnd_12 rfl rfl ⟨(Nat.le_of_ble_eq_true rfl), (Nat.le_of_ble_eq_true rfl)⟩
  · refine V_iconst (x := 1) dX10_atEnd_7 rfl rfl ?_
    refine V_goto (q := 12) dX10_atEnd_8 (by decide) ?_
    exact V_zret (v := true) dX10_atEnd_12 rfl rfl ⟨(Nat.le_of_ble_eq_true rfl), (Nat.le_of_ble_eq_true rfl)⟩
theorem k_X10_atEnd (this : Nat) (M : Mem) : K mi_X10_atEnd [.ref this] M (f_X10_atEnd this M) (eZ M) := K_of_V ok_X10_atEnd (Nat.le_of_ble_eq_true rfl) (v_X10_atEnd this M)
theorem o_X10_atEnd {this : Nat} {M : Mem} {x} (h : f_X10_atEnd this M = some x) : isO M 9 this = true := (ob_of h).1
theorem dX10_init_0 : decode cX10_init 0 = .ok (.aload_n 0, 1) := by decide +kernel
theorem dX10_init_1 : decode cX10_init 1 = .ok (.invokespecial 3, 3) := by decide +kernel
theorem dX10_init_4 : decode cX10_init 4 = .ok (.aload_n 0, 1) := by decide +kernel
theorem dX10_init_5 : decode cX10_init 5 = .ok (.aload_n 1, 1) := by decide +kernel
theorem dX10_init_6 : decode cX10_init 6 = .ok (.putfield 9, 3) := by decide +kernel
theorem dX10_init_9 : decode cX10_init 9 = .ok (.aload_n 0, 1) := by decide +kernel
theorem dX10_init_10 : decode cX10_init 10 = .ok (.sipush 701, 3) := by decide +kernel
theorem dX10_init_13 : decode cX10_init 13 = .ok (.newarray .int, 2) := by decide +kernel
theorem dX10_init_15 : decode cX10_init 15 = .ok (.putfield 15, 3) := by decide +kernel
theorem dX10_init_18 : decode cX10_init 18 = .ok (.aload_n 0, 1) := by decide +kernel
theorem dX10_init_19 : decode cX10_init 19 = .ok (.sipush 701, 3) := by decide +kernel
theorem dX10_init_22 : decode cX10_init 22 = .ok (.newarray .int, 2) := by decide +kernel
theorem dX10_init_24 : decode cX10_init 24 = .ok (.putfield 19, 3) := by decide +kernel
theorem dX10_init_27 : decode cX10_init 27 = .ok (.aload_n 0, 1) := by decide +kernel
theorem dX10_init_28 : decode cX10_init 28 = .ok (.sipush 701, 3) := by decide +kernel
theorem dX10_init_31 : decode cX10_init 31 = .ok (.newarray .int, 2) := by decide +kernel
theorem dX10_init_33 : decode cX10_init 33 = .ok (.putfield 22, 3) := by decide +kernel
theorem dX10_init_36 : decode cX10_init 36 = .ok (.aload_n 0, 1) := by decide +kernel
theorem dX10_init_37 : decode cX10_init 37 = .ok (.sipush 701, 3) := by decide +kernel
theorem dX10_init_40 : decode cX10_init 40 = .ok (.newarray .long, 2) := by decide +kernel
theorem dX10_init_42 : decode cX10_init 42 = .ok (.putfield 25, 3) := by decide +kernel
theorem dX10_init_45 : decode cX10_init 45 = .ok (.aload_n 0, 1) := by decide +kernel
theorem dX10_init_46 : decode cX10_init 46 = .ok (.sipush 701, 3) := by decide +kernel
theorem dX10_init_49 : decode cX10_init 49 = .ok (.anewarray 29, 3) := by decide +kernel
theorem dX10_init_52 : decode cX10_init 52 = .ok (.putfield 31, 3) := by decide +kernel
theorem dX10_init_55 : decode cX10_init 55 = .ok (.aload_n 0, 1) := by decide +kernel
theorem dX10_init_56 : decode cX10_init 56 = .ok (.iconst 4, 1) := by decide +kernel
theorem dX10_init_57 : decode cX10_init 57 = .ok (.putfield 35, 3) := by decide +kernel
theorem dX10_init_60 : decode cX10_init 60 = .ok (.aload_n 0, 1) := by decide +kernel
theorem dX10_init_61 : decode cX10_init 61 = .ok (.iconst 0, 1) := by decide +kernel
theorem dX10_init_62 : decode cX10_init 62 = .ok (.putfield 39, 3) := by decide +kernel
theorem dX10_init_65 : decode cX10_init 65 = .ok (.aload_n 0, 1) := by decide +kernel
theorem dX10_init_66 : decode cX10_init 66 = .ok (.iconst (-1), 1) := by decide +kernel
theorem dX10_init_67 : decode cX10_init 67 = .ok (.putfield 42, 3) := by decide +kernel
theorem dX10_init_70 : decode cX10_init 70 = .ok (.return_, 1) := by decide +kernel
def mi_X10_init : MI := (RX10, yX10_init, cX10_init, 2, none, [], { frames := 1, cells := 5, slots := 3505, locals := 12 })
theorem ok_X10_init : mOK mi_X10_init 1 := ⟨rfl, cw_X10_init, ini_X10, ⟨rfl, by decide⟩, by decide, by decide, rfl⟩
theorem v_X10_init (this : Nat) (a1 : Nat) (M : Mem) : V mi_X10_init 0 [(0, .ref this), (1, .ref a1)] [] M 0 0 (f_X10_init this a1 M) wV := by
  unfold f_X10_init
  refine V_ob fun _ _ => ?_
  refine V_aload_n dX10_init_0 rfl 0 rfl ?_
  refine V_objInit ml_X10_3 dX10_init_1 rfl ⟨(Nat.le_of_ble_eq_true rfl), (Nat.le_of_ble_eq_true rfl)⟩ ?_
  refine V_aload_n dX10_init_4 rfl 0 rfl ?_
  refine V_aload_n dX10_init_5 rfl 1 rfl ?_
  refine V_putFR dX10_init_6 rfl (ci := 9) (T := TX10) rfl (by decide) fl_X10_9_w rfl rfl rfl rfl (fun _ => rfl) (fun _ => rfl) (fun M1 => ?_)
  refine V_aload_n dX10_init_9 rfl 0 rfl ?_
  refine V_sipush (x := 701) dX10_init_10 rfl rfl ?_
  refine V_newarray dX10_init_13 rfl (t := 0) (N := 701) (x := (701, .inl (fun _ => 0))) rfl ar_0 (by decide) rfl (Nat.le_of_ble_eq_true rfl) (fun _ _ => rfl) (fun _ _ h => h) ⟨(Nat.le_of_ble_eq_true rfl), (Nat.le_of_ble_eq_true rfl)⟩ (fun r2 => ?_)
  refine V_putFR dX10_init_15 rfl (ci := 9) (T := TX10) rfl (by decide) fl_X10_15_w rfl rfl rfl rfl (fun _ => rfl) (fun _ => rfl) (fun M3 => ?_)
  refine V_aload_n dX10_init_18 rfl 0 rfl ?_
  refine V_sipush (x := 701) dX10_init_19 rfl rfl ?_
  refine V_newarray dX10_init_22 rfl (t := 0) (N := 701) (x := (701, .inl (fun _ => 0))) rfl ar_0 (by decide) rfl (Nat.le_of_ble_eq_true rfl) (fun _ _ => rfl) (fun _ _ h => h) ⟨(Nat.le_of_ble_eq_true rfl), (Nat.le_of_ble_eq_true rfl)⟩ (fun r4 => ?_)
  refine V_putFR dX10_init_24 rfl (ci := 9) (T := TX10) rfl (by decide) fl_X10_19_w rfl rfl rfl rfl (fun _ => rfl) (fun _ => rfl) (fun M5 => ?_)
  refine V_aload_n dX10_init_27 rfl 0 rfl ?_
  refine V_sipush (x := 701) dX10_init_28 rfl rfl ?_
  refine V_newarray dX10_init_31 rfl (t := 0) (N := 701) (x := (701, .inl (fun _ => 0))) rfl ar_0 (by decide) rfl (Nat.le_of_ble_eq_true rfl) (fun _ _ => rfl) (fun _ _ h => h) ⟨(Nat.le_of_ble_eq_true rfl), (Nat.le_of_ble_eq_true rfl)⟩ (fun r6 => ?_)
  refine V_putFR dX10_init_33 rfl (ci := 9) (T := TX10) rfl (by decide) fl_X10_22_w rfl rfl rfl rfl (fun _ => rfl) (fun _ => rfl) (fun M7 => ?_)
  refine V_aload_n dX10_init_36 rfl 0 rfl ?_
  refine V_sipush (x := 701) dX10_init_37 rfl rfl ?_
  refine V_newarray dX10_init_40 rfl (t := 1) (N := 701) (x := (701, .inr (.inl (fun _ => 0)))) rfl ar_1 (by decide) rfl (Nat.le_of_ble_eq_true rfl) (fun _ _ => rfl) (fun _ _ h => h) ⟨(Nat.le_of_ble_eq_true rfl), (Nat.le_of_ble_eq_true rfl)⟩ (fun r8 => ?_)
  refine V_putFR dX10_init_42 rfl (ci := 9) (T := TX10) rfl (by decide) fl_X10_25_w rfl rfl rfl rfl (fun _ => rfl) (fun _ => rfl) (fun M9 => ?_)
  refine V_aload_n dX10_init_45 rfl 0 rfl ?_
  refine V_sipush (x := 701) dX10_init_46 rfl rfl ?_
  refine V_anewarray dX10_init_49 rfl (t := 8) (N := 701) rfl cl_X10_29 ao_8 (by decide) rfl (Nat.le_of_ble_eq_true rfl) ⟨(Nat.le_of_ble_eq_true rfl), (Nat.le_of_ble_eq_true rfl)⟩ (fun r10 => ?_)
  refine V_putFR dX10_init_52 rfl (ci := 9) (T := TX10) rfl (by decide) fl_X10_31_w rfl rfl rfl rfl (fun _ => rfl) (fun _ => rfl) (fun M11 => ?_)
  refine V_aload_n dX10_init_55 rfl 0 rfl ?_
  refine V_iconst (x := 4) dX10_init_56 rfl rfl ?_
  refine V_putI dX10_init_57 rfl (ci := 9) (T := TX10) rfl (by decide) fl_X10_35 rfl rfl (fun M12 => ?_)
  refine V_aload_n dX10_init_60 rfl 0 rfl ?_
  refine V_iconst (x := 0) dX10_init_61 rfl rfl ?_
  refine V_putI dX10_init_62 rfl (ci := 9) (T := TX10) rfl (by decide) fl_X10_39 rfl rfl (fun M13 => ?_)
  refine V_aload_n dX10_init_65 rfl 0 rfl ?_
  refine V_iconst (x := (-1)) dX10_init_66 rfl rfl ?_
  refine V_putI dX10_init_67 rfl (ci := 9) (T := TX10) rfl (by decide) fl_X10_42 rfl rfl (fun M14 => ?_)
  exact V_vret dX10_init_70 rfl rfl ⟨(Nat.le_of_ble_eq_true rfl), (Nat.le_of_ble_eq_true rfl)⟩
theorem k_X10_init (this : Nat) (a1 : Nat) (M : Mem) : K mi_X10_init [.ref this, .ref a1] M (f_X10_init this a1 M) wV := K_of_V ok_X10_init (Nat.le_of_ble_eq_true rfl) (v_X10_init this a1 M)
theorem o_X10_init {this : Nat} {a1 : Nat} {M : Mem} {x} (h : f_X10_init this a1 M = some x) : isO M 9 this = true := (ob_of h).1
