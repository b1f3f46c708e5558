def f_X6_init (this : Nat) (a1 : Nat) (M : Mem) : Option Mem :=
  ob M 5 this (
    (pV M 5 0 this (.ref a1)).bind fun M1 =>
    some M1
  )
def f_X6_parseComparison_41 (this : Nat) (l1 : Nat) (l2 : Bool) (l3 : Bool) (M : Mem) : Option (Int32 × Mem) :=
  (gR M 5 0 this).bind fun x6 =>
  (f_X10_next x6 M).bind fun M8 =>
  (gR M8 5 0 this).bind fun x9 =>
  (f_X10_passNumber x9 0 9999 M8).bind fun (x10, M11) =>
  (f_X0_compared l1 l2 l3 x10 M11).bind fun x12 =>
  some (x12, M11)
def f_X6_parseComparison (this : Nat) (a1 : Nat) (a2 : Bool) (M : Mem) : Option (Int32 × Mem) :=
  ob M 5 this (
    (gR M 5 0 this).bind fun x1 =>
    (f_X10_next x1 M).bind fun M3 =>
    (gR M3 5 0 this).bind fun x4 =>
    (f_X10_isSymbol x4 60 M3).bind fun x5 =>
    bif x5 then (
      f_X6_parseComparison_41 this a1 a2 x5 M3
    ) else (
      (gR M3 5 0 this).bind fun x13 =>
      (f_X10_isSymbol x13 62 M3).bind fun x14 =>
      bif x14 then (
        f_X6_parseComparison_41 this a1 a2 x5 M3
      ) else (
        (gR M3 5 0 this).bind fun x15 =>
        (f_X10_fail x15 1 M3).bind fun M17 =>
        f_X6_parseComparison_41 this a1 a2 x5 M17
      )
    )
  )
def f_X6_beginsFactor (this : Nat) (M : Mem) : Option Bool :=
  ob M 5 this (
    (gR M 5 0 this).bind fun x1 =>
    (f_X10_isKeyword x1 13 M).bind fun x2 =>
    bif x2 then (
      some true
    ) else (
      (gR M 5 0 this).bind fun x3 =>
      (f_X10_isSymbol x3 40 M).bind fun x4 =>
      bif x4 then (
        some true
      ) else (
        (gR M 5 0 this).bind fun x5 =>
        (f_X10_isKeyword x5 11 M).bind fun x6 =>
        bif x6 then (
          some true
        ) else (
          (gR M 5 0 this).bind fun x7 =>
          (f_X10_flag x7 M).bind fun x8 =>
          if x8 = 0 then (
            (gR M 5 0 this).bind fun x9 =>
            (f_X10_isKeyword x9 3 M).bind fun x10 =>
            bif x10 then (
              some true
            ) else (
              (gR M 5 0 this).bind fun x11 =>
              (f_X10_isKeyword x11 12 M).bind fun x12 =>
              bif x12 then (
                some true
              ) else (
                some false
              )
            )
          ) else (
            some true
          )
        )
      )
    )
  )
def f_X6_parseQuery_10 (r0 : Nat → Nat → Int32 → Mem → Option (Int32 × Mem)) (r1 : Nat → Nat → Int32 → Mem → Option (Int32 × Mem)) (r2 : Nat → Nat → Int32 → Mem → Option (Int32 × Mem)) (r3 : Nat → Nat → Int32 → Mem → Option (Int32 × Mem)) (r4 : Nat → Nat → Int32 → Mem → Option (Int32 × Mem)) : Nat → Nat → Nat → Int32 → Int32 → Int32 → Mem → Option (Int32 × Mem)
  | 0 => fun _ _ _ _ _ _ => none
  | fu + 1 => fun this l1 l2 l3 l4 M =>
    if 700 ≤ l4 then (
      some (l3, M)
    ) else (
      (gR M 5 0 this).bind fun x3 =>
      (f_X10_isKeyword x3 14 M).bind fun x4 =>
      bif x4 then (
        (gR M 5 0 this).bind fun x5 =>
        (f_X10_next x5 M).bind fun M7 =>
        (r1 this l1 l2 M7).bind fun (x8, M9) =>
        (f_X6_parseQuery_10 r0 r1 r2 r3 r4 fu) this l1 l2 (l3 ||| x8) (l4 + 1) M9
      ) else (
        some (l3, M)
      )
    )
def b_X6_parseQuery (r0 : Nat → Nat → Int32 → Mem → Option (Int32 × Mem)) (r1 : Nat → Nat → Int32 → Mem → Option (Int32 × Mem)) (r2 : Nat → Nat → Int32 → Mem → Option (Int32 × Mem)) (r3 : Nat → Nat → Int32 → Mem → Option (Int32 × Mem)) (r4 : Nat → Nat → Int32 → Mem → Option (Int32 × Mem)) (this : Nat) (a1 : Nat) (a2 : Int32) (M : Mem) : Option (Int32 × Mem) :=
  ob M 5 this (
    (r1 this a1 a2 M).bind fun (x1, M2) =>
    f_X6_parseQuery_10 r0 r1 r2 r3 r4 FU this a1 a2 x1 0 M2
  )
def f_X6_parseTerm_10 (r0 : Nat → Nat → Int32 → Mem → Option (Int32 × Mem)) (r1 : Nat → Nat → Int32 → Mem → Option (Int32 × Mem)) (r2 : Nat → Nat → Int32 → Mem → Option (Int32 × Mem)) (r3 : Nat → Nat → Int32 → Mem → Option (Int32 × Mem)) (r4 : Nat → Nat → Int32 → Mem → Option (Int32 × Mem)) : Nat → Nat → Nat → Int32 → Int32 → Int32 → Mem → Option (Int32 × Mem)
  | 0 => fun _ _ _ _ _ _ => none
  | fu + 1 => fun this l1 l2 l3 l4 M =>
    if 700 ≤ l4 then (
      some (l3, M)
    ) else (
      (f_X6_beginsFactor this M).bind fun x3 =>
      bif x3 then (
        (r2 this l1 l2 M).bind fun (x4, M5) =>
        (f_X6_parseTerm_10 r0 r1 r2 r3 r4 fu) this l1 l2 (l3 &&& x4) (l4 + 1) M5
      ) else (
        some (l3, M)
      )
    )
def b_X6_parseTerm (r0 : Nat → Nat → Int32 → Mem → Option (Int32 × Mem)) (r1 : Nat → Nat → Int32 → Mem → Option (Int32 × Mem)) (r2 : Nat → Nat → Int32 → Mem → Option (Int32 × Mem)) (r3 : Nat → Nat → Int32 → Mem → Option (Int32 × Mem)) (r4 : Nat → Nat → Int32 → Mem → Option (Int32 × Mem)) (this : Nat) (a1 : Nat) (a2 : Int32) (M : Mem) : Option (Int32 × Mem) :=
  ob M 5 this (
    (r2 this a1 a2 M).bind fun (x1, M2) =>
    f_X6_parseTerm_10 r0 r1 r2 r3 r4 FU this a1 a2 x1 0 M2
  )
def f_X6_parseFactor_129 (r0 : Nat → Nat → Int32 → Mem → Option (Int32 × Mem)) (r1 : Nat → Nat → Int32 → Mem → Option (Int32 × Mem)) (r2 : Nat → Nat → Int32 → Mem → Option (Int32 × Mem)) (r3 : Nat → Nat → Int32 → Mem → Option (Int32 × Mem)) (r4 : Nat → Nat → Int32 → Mem → Option (Int32 × Mem)) (this : Nat) (l1 : Nat) (l2 : Int32) (l4 : Bool) (M : Mem) : Option (Int32 × Mem) :=
  if l2 < 5 then (
    (gR M 5 0 this).bind fun x11 =>
    (f_X10_next x11 M).bind fun M13 =>
    bif l4 then (
      (r3 this l1 (l2 + 1) M13).bind fun (x16, M17) =>
      some (x16, M17)
    ) else (
      (r4 this l1 (l2 + 1) M13).bind fun (x14, M15) =>
      some (x14, M15)
    )
  ) else (
    (gR M 5 0 this).bind fun x18 =>
    (f_X10_fail x18 5 M).bind fun M20 =>
    some (0, M20)
  )
def b_X6_parseFactor (r0 : Nat → Nat → Int32 → Mem → Option (Int32 × Mem)) (r1 : Nat → Nat → Int32 → Mem → Option (Int32 × Mem)) (r2 : Nat → Nat → Int32 → Mem → Option (Int32 × Mem)) (r3 : Nat → Nat → Int32 → Mem → Option (Int32 × Mem)) (r4 : Nat → Nat → Int32 → Mem → Option (Int32 × Mem)) (this : Nat) (a1 : Nat) (a2 : Int32) (M : Mem) : Option (Int32 × Mem) :=
  ob M 5 this (
    (gR M 5 0 this).bind fun x1 =>
    (f_X10_flag x1 M).bind fun x2 =>
    if x2 = 0 then (
      (gR M 5 0 this).bind fun x3 =>
      (f_X10_isKeyword x3 11 M).bind fun x4 =>
      bif x4 then (
        (gR M 5 0 this).bind fun x30 =>
        (f_X10_next x30 M).bind fun M32 =>
        (f_X0_everyMessage a1 M32).bind fun x33 =>
        some (x33, M32)
      ) else (
        (gR M 5 0 this).bind fun x5 =>
        (f_X10_isKeyword x5 3 M).bind fun x6 =>
        bif x6 then (
          (f_X6_parseComparison this a1 true M).bind fun (x28, M29) =>
          some (x28, M29)
        ) else (
          (gR M 5 0 this).bind fun x7 =>
          (f_X10_isKeyword x7 12 M).bind fun x8 =>
          bif x8 then (
            (f_X6_parseComparison this a1 false M).bind fun (x26, M27) =>
            some (x26, M27)
          ) else (
            (gR M 5 0 this).bind fun x9 =>
            (f_X10_isKeyword x9 13 M).bind fun x10 =>
            bif x10 then (
              f_X6_parseFactor_129 r0 r1 r2 r3 r4 this a1 a2 x10 M
            ) else (
              (gR M 5 0 this).bind fun x21 =>
              (f_X10_isSymbol x21 40 M).bind fun x22 =>
              bif x22 then (
                f_X6_parseFactor_129 r0 r1 r2 r3 r4 this a1 a2 x10 M
              ) else (
                (gR M 5 0 this).bind fun x23 =>
                (f_X10_fail x23 1 M).bind fun M25 =>
                some (0, M25)
              )
            )
          )
        )
      )
    ) else (
      (gR M 5 0 this).bind fun x34 =>
      (f_X10_next x34 M).bind fun M36 =>
      (f_X0_withFlag a1 x2 M36).bind fun x37 =>
      some (x37, M36)
    )
  )
def b_X6_parseNegated (r0 : Nat → Nat → Int32 → Mem → Option (Int32 × Mem)) (r1 : Nat → Nat → Int32 → Mem → Option (Int32 × Mem)) (r2 : Nat → Nat → Int32 → Mem → Option (Int32 × Mem)) (r3 : Nat → Nat → Int32 → Mem → Option (Int32 × Mem)) (r4 : Nat → Nat → Int32 → Mem → Option (Int32 × Mem)) (this : Nat) (a1 : Nat) (a2 : Int32) (M : Mem) : Option (Int32 × Mem) :=
  ob M 5 this (
    (f_X0_everyMessage a1 M).bind fun x1 =>
    (r2 this a1 a2 M).bind fun (x2, M3) =>
    some ((x1 &&& (x2 ^^^ (-1))), M3)
  )
def b_X6_parseEnclosed (r0 : Nat → Nat → Int32 → Mem → Option (Int32 × Mem)) (r1 : Nat → Nat → Int32 → Mem → Option (Int32 × Mem)) (r2 : Nat → Nat → Int32 → Mem → Option (Int32 × Mem)) (r3 : Nat → Nat → Int32 → Mem → Option (Int32 × Mem)) (r4 : Nat → Nat → Int32 → Mem → Option (Int32 × Mem)) (this : Nat) (a1 : Nat) (a2 : Int32) (M : Mem) : Option (Int32 × Mem) :=
  ob M 5 this (
    (r0 this a1 a2 M).bind fun (x1, M2) =>
    (gR M2 5 0 this).bind fun x3 =>
    (f_X10_passSymbol x3 41 M2).bind fun M5 =>
    some (x1, M5)
  )
def GX6 : Nat → (Nat → Nat → Int32 → Mem → Option (Int32 × Mem)) × (Nat → Nat → Int32 → Mem → Option (Int32 × Mem)) × (Nat → Nat → Int32 → Mem → Option (Int32 × Mem)) × (Nat → Nat → Int32 → Mem → Option (Int32 × Mem)) × (Nat → Nat → Int32 → Mem → Option (Int32 × Mem))
  | 0 => (fun _ _ _ _ => none, fun _ _ _ _ => none, fun _ _ _ _ => none, fun _ _ _ _ => none, fun _ _ _ _ => none)
  | d + 1 => (b_X6_parseQuery (GX6 d).1 (GX6 d).2.1 (GX6 d).2.2.1 (GX6 d).2.2.2.1 (GX6 d).2.2.2.2, b_X6_parseTerm (GX6 d).1 (GX6 d).2.1 (GX6 d).2.2.1 (GX6 d).2.2.2.1 (GX6 d).2.2.2.2, b_X6_parseFactor (GX6 d).1 (GX6 d).2.1 (GX6 d).2.2.1 (GX6 d).2.2.2.1 (GX6 d).2.2.2.2, b_X6_parseNegated (GX6 d).1 (GX6 d).2.1 (GX6 d).2.2.1 (GX6 d).2.2.2.1 (GX6 d).2.2.2.2, b_X6_parseEnclosed (GX6 d).1 (GX6 d).2.1 (GX6 d).2.2.1 (GX6 d).2.2.2.1 (GX6 d).2.2.2.2)
def f_X6_parseQuery (this : Nat) (a1 : Nat) (a2 : Int32) (M : Mem) : Option (Int32 × Mem) := (GX6 40).1 this a1 a2 M
def f_X6_parseTerm (this : Nat) (a1 : Nat) (a2 : Int32) (M : Mem) : Option (Int32 × Mem) := (GX6 40).2.1 this a1 a2 M
def f_X6_parseFactor (this : Nat) (a1 : Nat) (a2 : Int32) (M : Mem) : Option (Int32 × Mem) := (GX6 40).2.2.1 this a1 a2 M
def f_X6_parseNegated (this : Nat) (a1 : Nat) (a2 : Int32) (M : Mem) : Option (Int32 × Mem) := (GX6 40).2.2.2.1 this a1 a2 M
def f_X6_parseEnclosed (this : Nat) (a1 : Nat) (a2 : Int32) (M : Mem) : Option (Int32 × Mem) := (GX6 40).2.2.2.2 this a1 a2 M
def f_X6_parseFor (this : Nat) (a1 : Nat) (M : Mem) : Option (Int32 × Mem) :=
  ob M 5 this (
    (gR M 5 0 this).bind fun x1 =>
    (f_X10_begin x1 M).bind fun M3 =>
    (f_X6_parseQuery this a1 0 M3).bind fun (x4, M5) =>
    (gR M5 5 0 this).bind fun x6 =>
    (f_X10_atEnd x6 M5).bind fun x7 =>
    bif x7 then (
      some (x4, M5)
    ) else (
      (gR M5 5 0 this).bind fun x8 =>
      (f_X10_fail x8 1 M5).bind fun M10 =>
      some (x4, M10)
    )
  )
theorem fl_X6_9_w : (Cond.fieldLink RX6 9 (TX6 0).1 (TX6 0).2.1 (TX6 0).2.2.1) ∈ cr_U := mem_U (i := 428) (by decide +kernel) rfl
theorem fl_X6_9 : flk RX6 9 (TX6 0) := Or.inl fl_X6_9_w
theorem ml_X6_3 : (Cond.methodLink RX6 3 Lib.objectInit) ∈ cr_U := mem_U (i := 427) (by decide +kernel) rfl
theorem cw_X6_init : (Cond.code yX6_init cX6_init 2 (none)) ∈ cr_U := mem_U (i := 426) (by decide +kernel) rfl
theorem ini_X6 : (Cond.initialized RX6) ∈ cr_U := mem_U (i := 146) (by decide +kernel) rfl
theorem ml_X6_45 : (Cond.methodLink RX6 45 yX10_next) ∈ cr_U := mem_U (i := 1303) (by decide +kernel) rfl
theorem ml_X6_57 : (Cond.methodLink RX6 57 yX10_isSymbol) ∈ cr_U := mem_U (i := 1317) (by decide +kernel) rfl
theorem ml_X6_97 : (Cond.methodLink RX6 97 yX10_passNumber) ∈ cr_U := mem_U (i := 1319) (by decide +kernel) rfl
theorem ml_X6_101 : (Cond.methodLink RX6 101 yX0_compared) ∈ cr_U := mem_U (i := 1320) (by decide +kernel) rfl
theorem im_X0_compared : (Cond.instanceMethod yX0_compared) ∈ cr_U := mem_U (i := 1321) (by decide +kernel) rfl
theorem se_X0_compared : (Cond.selects RX0 yX0_compared yX0_compared) ∈ cr_U := mem_U (i := 1322) (by decide +kernel) rfl
theorem ml_X6_28 : (Cond.methodLink RX6 28 yX10_fail) ∈ cr_U := mem_U (i := 1318) (by decide +kernel) rfl
theorem cw_X6_parseComparison : (Cond.code yX6_parseComparison cX6_parseComparison 5 (some .int)) ∈ cr_U := mem_U (i := 1316) (by decide +kernel) rfl
theorem ml_X6_41 : (Cond.methodLink RX6 41 yX10_isKeyword) ∈ cr_U := mem_U (i := 1307) (by decide +kernel) rfl
theorem ml_X6_64 : (Cond.methodLink RX6 64 yX10_flag) ∈ cr_U := mem_U (i := 1302) (by decide +kernel) rfl
theorem fk_X6_71_w : (Cond.fieldLink RX6 71 kwT "UID" kwD) ∈ cr_U := mem_U (i := 1324) (by decide +kernel) rfl
theorem fk_X6_71 : flk RX6 71 (kwT, "UID", kwD, true) := Or.inl fk_X6_71_w
theorem fk_X6_68_w : (Cond.fieldLink RX6 68 kwT "SIZE" kwD) ∈ cr_U := mem_U (i := 1312) (by decide +kernel) rfl
theorem fk_X6_68 : flk RX6 68 (kwT, "SIZE", kwD, true) := Or.inl fk_X6_68_w
theorem fk_X6_61_w : (Cond.fieldLink RX6 61 kwT "ALL" kwD) ∈ cr_U := mem_U (i := 1305) (by decide +kernel) rfl
theorem fk_X6_61 : flk RX6 61 (kwT, "ALL", kwD, true) := Or.inl fk_X6_61_w
theorem fk_X6_54_w : (Cond.fieldLink RX6 54 kwT "NOT" kwD) ∈ cr_U := mem_U (i := 1326) (by decide +kernel) rfl
theorem fk_X6_54 : flk RX6 54 (kwT, "NOT", kwD, true) := Or.inl fk_X6_54_w
theorem cw_X6_beginsFactor : (Cond.code yX6_beginsFactor cX6_beginsFactor 1 (some .boolean)) ∈ cr_U := mem_U (i := 1340) (by decide +kernel) rfl
theorem cw_X6_parseQuery : (Cond.code yX6_parseQuery cX6_parseQuery 5 (some .int)) ∈ cr_U := mem_U (i := 1293) (by decide +kernel) rfl
theorem cw_X6_parseTerm : (Cond.code yX6_parseTerm cX6_parseTerm 5 (some .int)) ∈ cr_U := mem_U (i := 1297) (by decide +kernel) rfl
theorem cw_X6_parseFactor : (Cond.code yX6_parseFactor cX6_parseFactor 5 (some .int)) ∈ cr_U := mem_U (i := 1301) (by decide +kernel) rfl
theorem cw_X6_parseNegated : (Cond.code yX6_parseNegated cX6_parseNegated 3 (some .int)) ∈ cr_U := mem_U (i := 1331) (by decide +kernel) rfl
theorem cw_X6_parseEnclosed : (Cond.code yX6_parseEnclosed cX6_parseEnclosed 4 (some .int)) ∈ cr_U := mem_U (i := 1335) (by decide +kernel) rfl
theorem ml_X6_32 : (Cond.methodLink RX6 32 yX6_parseTerm) ∈ cr_U := mem_U (i := 1294) (by decide +kernel) rfl
theorem im_X6_parseTerm : (Cond.instanceMethod yX6_parseTerm) ∈ cr_U := mem_U (i := 1296) (by decide +kernel) rfl
theorem se_X6_parseTerm : (Cond.selects RX6 yX6_parseTerm yX6_parseTerm) ∈ cr_U := mem_U (i := 22) (by decide +kernel) rfl
theorem fk_X6_35_w : (Cond.fieldLink RX6 35 kwT "OR" kwD) ∈ cr_U := mem_U (i := 1341) (by decide +kernel) rfl
theorem fk_X6_35 : flk RX6 35 (kwT, "OR", kwD, true) := Or.inl fk_X6_35_w
theorem ml_X6_48 : (Cond.methodLink RX6 48 yX6_parseFactor) ∈ cr_U := mem_U (i := 1298) (by decide +kernel) rfl
theorem im_X6_parseFactor : (Cond.instanceMethod yX6_parseFactor) ∈ cr_U := mem_U (i := 1300) (by decide +kernel) rfl
theorem se_X6_parseFactor : (Cond.selects RX6 yX6_parseFactor yX6_parseFactor) ∈ cr_U := mem_U (i := 23) (by decide +kernel) rfl
theorem ml_X6_51 : (Cond.methodLink RX6 51 yX6_beginsFactor) ∈ cr_U := mem_U (i := 1337) (by decide +kernel) rfl
theorem im_X6_beginsFactor : (Cond.instanceMethod yX6_beginsFactor) ∈ cr_U := mem_U (i := 1339) (by decide +kernel) rfl
theorem se_X6_beginsFactor : (Cond.selects RX6 yX6_beginsFactor yX6_beginsFactor) ∈ cr_U := mem_U (i := 27) (by decide +kernel) rfl
theorem ml_X6_90 : (Cond.methodLink RX6 90 yX6_parseEnclosed) ∈ cr_U := mem_U (i := 1332) (by decide +kernel) rfl
theorem im_X6_parseEnclosed : (Cond.instanceMethod yX6_parseEnclosed) ∈ cr_U := mem_U (i := 1334) (by decide +kernel) rfl
theorem se_X6_parseEnclosed : (Cond.selects RX6 yX6_parseEnclosed yX6_parseEnclosed) ∈ cr_U := mem_U (i := 26) (by decide +kernel) rfl
theorem ml_X6_87 : (Cond.methodLink RX6 87 yX6_parseNegated) ∈ cr_U := mem_U (i := 1328) (by decide +kernel) rfl
theorem im_X6_parseNegated : (Cond.instanceMethod yX6_parseNegated) ∈ cr_U := mem_U (i := 1330) (by decide +kernel) rfl
theorem se_X6_parseNegated : (Cond.selects RX6 yX6_parseNegated yX6_parseNegated) ∈ cr_U := mem_U (i := 25) (by decide +kernel) rfl
theorem ml_X6_83 : (Cond.methodLink RX6 83 yX6_parseComparison) ∈ cr_U := mem_U (i := 1313) (by decide +kernel) rfl
theorem im_X6_parseComparison : (Cond.instanceMethod yX6_parseComparison) ∈ cr_U := mem_U (i := 1315) (by decide +kernel) rfl
theorem se_X6_parseComparison : (Cond.selects RX6 yX6_parseComparison yX6_parseComparison) ∈ cr_U := mem_U (i := 24) (by decide +kernel) rfl
theorem ml_X6_80 : (Cond.methodLink RX6 80 yX0_everyMessage) ∈ cr_U := mem_U (i := 1308) (by decide +kernel) rfl
theorem im_X0_everyMessage : (Cond.instanceMethod yX0_everyMessage) ∈ cr_U := mem_U (i := 1309) (by decide +kernel) rfl
theorem se_X0_everyMessage : (Cond.selects RX0 yX0_everyMessage yX0_everyMessage) ∈ cr_U := mem_U (i := 1310) (by decide +kernel) rfl
theorem ml_X6_74 : (Cond.methodLink RX6 74 yX0_withFlag) ∈ cr_U := mem_U (i := 1304) (by decide +kernel) rfl
theorem im_X0_withFlag : (Cond.instanceMethod yX0_withFlag) ∈ cr_U := mem_U (i := 1084) (by decide +kernel) rfl
theorem se_X0_withFlag : (Cond.selects RX0 yX0_withFlag yX0_withFlag) ∈ cr_U := mem_U (i := 1085) (by decide +kernel) rfl
theorem ml_X6_20 : (Cond.methodLink RX6 20 yX6_parseQuery) ∈ cr_U := mem_U (i := 1290) (by decide +kernel) rfl
theorem im_X6_parseQuery : (Cond.instanceMethod yX6_parseQuery) ∈ cr_U := mem_U (i := 1292) (by decide +kernel) rfl
theorem se_X6_parseQuery : (Cond.selects RX6 yX6_parseQuery yX6_parseQuery) ∈ cr_U := mem_U (i := 21) (by decide +kernel) rfl
theorem ml_X6_93 : (Cond.methodLink RX6 93 yX10_passSymbol) ∈ cr_U := mem_U (i := 1336) (by decide +kernel) rfl
theorem ml_X6_15 : (Cond.methodLink RX6 15 yX10_begin) ∈ cr_U := mem_U (i := 1289) (by decide +kernel) rfl
theorem ml_X6_24 : (Cond.methodLink RX6 24 yX10_atEnd) ∈ cr_U := mem_U (i := 1343) (by decide +kernel) rfl
theorem cw_X6_parseFor : (Cond.code yX6_parseFor cX6_parseFor 3 (some .int)) ∈ cr_U := mem_U (i := 1288) (by decide +kernel) rfl
theorem dX6_init_0 : decode cX6_init 0 = .ok (.aload_n 0, 1) := by decide +kernel
theorem dX6_init_1 : decode cX6_init 1 = .ok (.invokespecial 3, 3) := by decide +kernel
theorem dX6_init_4 : decode cX6_init 4 = .ok (.aload_n 0, 1) := by decide +kernel
theorem dX6_init_5 : decode cX6_init 5 = .ok (.aload_n 1, 1) := by decide +kernel
theorem dX6_init_6 : decode cX6_init 6 = .ok (.putfield 9, 3) := by decide +kernel
theorem dX6_init_9 : decode cX6_init 9 = .ok (.return_, 1) := by decide +kernel
def mi_X6_init : MI := (RX6, yX6_init, cX6_init, 2, none, [], { frames := 1, cells := 0, slots := 0, locals := 12 })
theorem ok_X6_init : mOK mi_X6_init 1 := ⟨rfl, cw_X6_init, ini_X6, ⟨rfl, by decide⟩, by decide, by decide, rfl⟩
theorem v_X6_init (this : Nat) (a1 : Nat) (M : Mem) : V mi_X6_init 0 [(0, .ref this), (1, .ref a1)] [] M 0 0 (f_X6_init this a1 M) wV := by
  unfold f_X6_init
  refine V_ob fun _ _ => ?_
  refine V_aload_n dX6_init_0 rfl 0 rfl ?_
  refine V_objInit ml_X6_3 dX6_init_1 rfl ⟨(Nat.le_of_ble_eq_true rfl), (Nat.le_of_ble_eq_true rfl)⟩ ?_
  refine V_aload_n dX6_init_4 rfl 0 rfl ?_
  refine V_aload_n dX6_init_5 rfl 1 rfl ?_
  refine V_putFR dX6_init_6 rfl (ci := 5) (T := TX6) rfl (by decide) fl_X6_9_w rfl rfl rfl rfl (fun _ => rfl) (fun _ => rfl) (fun M1 => ?_)
  exact V_vret dX6_init_9 rfl rfl ⟨(Nat.le_of_ble_eq_true rfl), (Nat.le_of_ble_eq_true rfl)⟩
theorem k_X6_init (this : Nat) (a1 : Nat) (M : Mem) : K mi_X6_init [.ref this, .ref a1] M (f_X6_init this a1 M) wV := K_of_V ok_X6_init (Nat.le_of_ble_eq_true rfl) (v_X6_init this a1 M)
theorem o_X6_init {this : Nat} {a1 : Nat} {M : Mem} {x} (h : f_X6_init this a1 M = some x) : isO M 5 this = true := (ob_of h).1
theorem dX6_parseComparison_0 : decode cX6_parseComparison 0 = .ok (.aload_n 0, 1) := by decide +kernel
theorem dX6_parseComparison_1 : decode cX6_parseComparison 1 = .ok (.getfield 9, 3) := by decide +kernel
theorem dX6_parseComparison_4 : decode cX6_parseComparison 4 = .ok (.invokevirtual 45, 3) := by decide +kernel
theorem dX6_parseComparison_7 : decode cX6_parseComparison 7 = .ok (.aload_n 0, 1) := by decide +kernel
theorem dX6_parseComparison_8 : decode cX6_parseComparison 8 = .ok (.getfield 9, 3) := by decide +kernel
theorem dX6_parseComparison_11 : decode cX6_parseComparison 11 = .ok (.bipush 60, 2) := by decide +kernel
theorem dX6_parseComparison_13 : decode cX6_parseComparison 13 = .ok (.invokevirtual 57, 3) := by decide +kernel
theorem dX6_parseComparison_16 : decode cX6_parseComparison 16 = .ok (.istore_n 3, 1) := by decide +kernel
theorem dX6_parseComparison_17 : decode cX6_parseComparison 17 = .ok (.iload_n 3, 1) := by decide +kernel
theorem dX6_parseComparison_18 : decode cX6_parseComparison 18 = .ok (.ifCond .ne 23, 3) := by decide +kernel
theorem dX6_parseComparison_21 : decode cX6_parseComparison 21 = .ok (.aload_n 0, 1) := by decide +kernel
theorem dX6_parseComparison_22 : decode cX6_parseComparison 22 = .ok (.getfield 9, 3) := by decide +kernel
theorem dX6_parseComparison_25 : decode cX6_parseComparison 25 = .ok (.bipush 62, 2) := by decide +kernel
theorem dX6_parseComparison_27 : decode cX6_parseComparison 27 = .ok (.invokevirtual 57, 3) := by decide +kernel
theorem dX6_parseComparison_30 : decode cX6_parseComparison 30 = .ok (.ifCond .ne 11, 3) := by decide +kernel
theorem dX6_parseComparison_33 : decode cX6_parseComparison 33 = .ok (.aload_n 0, 1) := by decide +kernel
theorem dX6_parseComparison_34 : decode cX6_parseComparison 34 = .ok (.getfield 9, 3) := by decide +kernel
theorem dX6_parseComparison_37 : decode cX6_parseComparison 37 = .ok (.iconst 1, 1) := by decide +kernel
theorem dX6_parseComparison_38 : decode cX6_parseComparison 38 = .ok (.invokevirtual 28, 3) := by decide +kernel
theorem dX6_parseComparison_41 : decode cX6_parseComparison 41 = .ok (.aload_n 0, 1) := by decide +kernel
theorem dX6_parseComparison_42 : decode cX6_parseComparison 42 = .ok (.getfield 9, 3) := by decide +kernel
theorem dX6_parseComparison_45 : decode cX6_parseComparison 45 = .ok (.invokevirtual 45, 3) := by decide +kernel
theorem dX6_parseComparison_48 : decode cX6_parseComparison 48 = .ok (.aload_n 0, 1) := by decide +kernel
theorem dX6_parseComparison_49 : decode cX6_parseComparison 49 = .ok (.getfield 9, 3) := by decide +kernel
theorem dX6_parseComparison_52 : decode cX6_parseComparison 52 = .ok (.iconst 0, 1) := by decide +kernel
theorem dX6_parseComparison_53 : decode cX6_parseComparison 53 = .ok (.sipush 9999, 3) := by decide +kernel
theorem dX6_parseComparison_56 : decode cX6_parseComparison 56 = .ok (.invokevirtual 97, 3) := by decide +kernel
theorem dX6_parseComparison_59 : decode cX6_parseComparison 59 = .ok (.istore 4, 2) := by decide +kernel
theorem dX6_parseComparison_61 : decode cX6_parseComparison 61 = .ok (.aload_n 1, 1) := by decide +kernel
theorem dX6_parseComparison_62 : decode cX6_parseComparison 62 = .ok (.iload_n 2, 1) := by decide +kernel
theorem dX6_parseComparison_63 : decode cX6_parseComparison 63 = .ok (.iload_n 3, 1) := by decide +kernel
theorem dX6_parseComparison_64 : decode cX6_parseComparison 64 = .ok (.iload 4, 2) := by decide +kernel
theorem dX6_parseComparison_66 : decode cX6_parseComparison 66 = .ok (.invokevirtual 101, 3) := by decide +kernel
theorem dX6_parseComparison_69 : decode cX6_parseComparison 69 = .ok (.ireturn, 1) := by decide +kernel
def mi_X6_parseComparison : MI := (RX6, yX6_parseComparison, cX6_parseComparison, 5, some .int, [], { frames := 3, cells := 0, slots := 0, locals := 59 })
theorem ok_X6_parseComparison : mOK mi_X6_parseComparison 2 := ⟨rfl, cw_X6_parseComparison, ini_X6, ⟨rfl, by decide⟩, by decide, by decide, rfl⟩
theorem v_X6_parseComparison_41 (this : Nat) (l1 : Nat) (l2 : Bool) (l3 : Bool) (M : Mem) : V mi_X6_parseComparison 41 [(0, .ref this), (1, .ref l1), (2, .int (b2i l2)), (3, .int (b2i l3))] [] M 0 0 (f_X6_parseComparison_41 this l1 l2 l3 M) wI := by
  unfold f_X6_parseComparison_41
  refine V_aload_n dX6_parseComparison_41 rfl 0 rfl ?_
  refine V_getR dX6_parseComparison_42 rfl (ci := 5) (T := TX6) rfl (by decide) fl_X6_9 (fun x6 => ?_)
  refine V_cVwV (As := []) (k_X10_next x6 M) (fun _ h => o_X10_next h) ok_X10_next im_X10_next se_X10_next rfl (ci := 9) rfl ml_X6_45 ⟨⟨(Nat.le_of_ble_eq_true rfl), (Nat.le_of_ble_eq_true rfl)⟩, (Nat.le_of_ble_eq_true rfl), (Nat.le_of_ble_eq_true rfl)⟩ dX6_parseComparison_45 rfl rfl rfl (Nat.le_of_ble_eq_true rfl) rfl rfl (fun M8 => ?_)
  refine V_aload_n dX6_parseComparison_48 rfl 0 rfl ?_
  refine V_getR dX6_parseComparison_49 rfl (ci := 5) (T := TX6) rfl (by decide) fl_X6_9 (fun x9 => ?_)
  refine V_iconst (x := 0) dX6_parseComparison_52 rfl rfl ?_
  refine V_sipush (x := 9999) dX6_parseComparison_53 rfl rfl ?_
  refine V_cVwI (As := [.int 0, .int 9999]) (k_X10_passNumber x9 0 9999 M8) (fun _ h => o_X10_passNumber h) ok_X10_passNumber im_X10_passNumber se_X10_passNumber rfl (ci := 9) rfl ml_X6_97 ⟨⟨(Nat.le_of_ble_eq_true rfl), (Nat.le_of_ble_eq_true rfl)⟩, (Nat.le_of_ble_eq_true rfl), (Nat.le_of_ble_eq_true rfl)⟩ dX6_parseComparison_56 rfl rfl rfl (Nat.le_of_ble_eq_true rfl) rfl rfl (fun x10 M11 => ?_)
  refine V_istore (L' := [(0, .ref this), (1, .ref l1), (2, .int (b2i l2)), (3, .int (b2i l3)), (4, .int x10)]) dX6_parseComparison_59 rfl (by decide) rfl ?_
  refine V_aload_n dX6_parseComparison_61 rfl 1 rfl ?_
  refine V_iload_n dX6_parseComparison_62 rfl 2 rfl ?_
  refine V_iload_n dX6_parseComparison_63 rfl 3 rfl ?_
  refine V_iload dX6_parseComparison_64 rfl 4 rfl ?_
  refine V_cVeI (As := [.int (b2i l2), .int (b2i l3), .int x10]) (k_X0_compared l1 l2 l3 x10 M11) (fun _ h => o_X0_compared h) ok_X0_compared im_X0_compared se_X0_compared rfl (ci := 0) rfl ml_X6_101 ⟨⟨(Nat.le_of_ble_eq_true rfl), (Nat.le_of_ble_eq_true rfl)⟩, (Nat.le_of_ble_eq_true rfl), (Nat.le_of_ble_eq_true rfl)⟩ dX6_parseComparison_66 rfl rfl rfl (Nat.le_of_ble_eq_true rfl) rfl rfl (fun x12 => ?_)
  exact V_iret dX6_parseComparison_69 rfl rfl ⟨(Nat.le_of_ble_eq_true rfl), (Nat.le_of_ble_eq_true rfl)⟩
theorem v_X6_parseComparison (this : Nat) (a1 : Nat) (a2 : Bool) (M : Mem) : V mi_X6_parseComparison 0 [(0, .ref this), (1, .ref a1), (2, .int (b2i a2))] [] M 0 0 (f_X6_parseComparison this a1 a2 M) wI := by
  unfold f_X6_parseComparison
  refine V_ob fun _ _ => ?_
  refine V_aload_n dX6_parseComparison_0 rfl 0 rfl ?_
  refine V_getR dX6_parseComparison_1 rfl (ci := 5) (T := TX6) rfl (by decide) fl_X6_9 (fun x1 => ?_)
  refine V_cVwV (As := []) (k_X10_next x1 M) (fun _ h => o_X10_next h) ok_X10_next im_X10_next se_X10_next rfl (ci := 9) rfl ml_X6_45 ⟨⟨(Nat.le_of_ble_eq_true rfl), (Nat.le_of_ble_eq_true rfl)⟩, (Nat.le_of_ble_eq_true rfl), (Nat.le_of_ble_eq_true rfl)⟩ dX6_parseComparison_4 rfl rfl rfl (Nat.le_of_ble_eq_true rfl) rfl rfl (fun M3 => ?_)
  refine V_aload_n dX6_parseComparison_7 rfl 0 rfl ?_
  refine V_getR dX6_parseComparison_8 rfl (ci := 5) (T := TX6) rfl (by decide) fl_X6_9 (fun x4 => ?_)
  refine V_bipush (x := 60) dX6_parseComparison_11 rfl rfl ?_
  refine V_cVeZ (As := [.int 60]) (k_X10_isSymbol x4 60 M3) (fun _ h => o_X10_isSymbol h) ok_X10_isSymbol im_X10_isSymbol se_X10_isSymbol rfl (ci := 9) rfl ml_X6_57 ⟨⟨(Nat.le_of_ble_eq_true rfl), (Nat.le_of_ble_eq_true rfl)⟩, (Nat.le_of_ble_eq_true rfl), (Nat.le_of_ble_eq_true rfl)⟩ dX6_parseComparison_13 rfl rfl rfl (Nat.le_of_ble_eq_true rfl) rfl rfl (fun x5 => ?_)
  refine V_istore_n (L' := [(0, .ref this), (1, .ref a1), (2, .int (b2i a2)), (3, .int (b2i x5))]) dX6_parseComparison_16 rfl (by decide) rfl ?_
  refine V_iload_n dX6_parseComparison_17 rfl 3 rfl ?_
  refine V_ifz_ne (q := 41) (q2 := 21) dX6_parseComparison_18 (by decide) rfl ?_ ?_
  · exact v_X6_parseComparison_41 this a1 a2 x5 M3
  · refine V_aload_n dX6_parseComparison_21 rfl 0 rfl ?_
    refine V_getR dX6_parseComparison_22 rfl (ci := 5) (T := TX6) rfl (by decide) fl_X6_9 (fun x13 => ?_)
    refine V_bipush (x := 62) dX6_parseComparison_25 rfl rfl ?_
    refine V_cVeZ (As := [.int 62]) (k_X10_isSymbol x13 62 M3) (fun _ h => o_X10_isSymbol h) ok_X10_isSymbol im_X10_isSymbol se_X10_isSymbol rfl (ci := 9) rfl ml_X6_57 ⟨⟨(Nat.le_of_ble_eq_true rfl), (Nat.le_of_ble_eq_true rfl)⟩, (Nat.le_of_ble_eq_true rfl), (Nat.le_of_ble_eq_true rfl)⟩ dX6_parseComparison_27 rfl rfl rfl (Nat.le_of_ble_eq_true rfl) rfl rfl (fun x14 => ?_)
    refine V_ifz_ne (q := 41) (q2 := 33) dX6_parseComparison_30 (by decide) rfl ?_ ?_
    · exact v_X6_parseComparison_41 this a1 a2 x5 M3
    · refine V_aload_n dX6_parseComparison_33 rfl 0 rfl ?_
      refine V_getR dX6_parseComparison_34 rfl (ci := 5) (T := TX6) rfl (by decide) fl_X6_9 (fun x15 => ?_)
      refine V_iconst (x := 1) dX6_parseComparison_37 rfl rfl ?_
      refine V_cVwV (As := [.int 1]) (k_X10_fail x15 1 M3) (fun _ h => o_X10_fail h) ok_X10_fail im_X10_fail se_X10_fail rfl (ci := 9) rfl ml_X6_28 ⟨⟨(Nat.le_of_ble_eq_true rfl), (Nat.le_of_ble_eq_true rfl)⟩, (Nat.le_of_ble_eq_true rfl), (Nat.le_of_ble_eq_true rfl)⟩ dX6_parseComparison_38 rfl rfl rfl (Nat.le_of_ble_eq_true rfl) rfl rfl (fun M17 => ?_)
      exact v_X6_parseComparison_41 this a1 a2 x5 M17
theorem k_X6_parseComparison (this : Nat) (a1 : Nat) (a2 : Bool) (M : Mem) : K mi_X6_parseComparison [.ref this, .ref a1, .int (b2i a2)] M (f_X6_parseComparison this a1 a2 M) wI := K_of_V ok_X6_parseComparison (Nat.le_of_ble_eq_true rfl) (v_X6_parseComparison this a1 a2 M)
theorem o_X6_parseComparison {this : Nat} {a1 : Nat} {a2 : Bool} {M : Mem} {x} (h : f_X6_parseComparison this a1 a2 M = some x) : isO M 5 this = true := (ob_of h).1
theorem dX6_beginsFactor_0 : decode cX6_beginsFactor 0 = .ok (.aload_n 0, 1) := by decide +kernel
theorem dX6_beginsFactor_1 : decode cX6_beginsFactor 1 = .ok (.getfield 9, 3) := by decide +kernel
theorem dX6_beginsFactor_4 : decode cX6_beginsFactor 4 = .ok (.getstatic 54, 3) := by decide +kernel
theorem dX6_beginsFactor_7 : decode cX6_beginsFactor 7 = .ok (.invokevirtual 41, 3) := by decide +kernel
theorem dX6_beginsFactor_10 : decode cX6_beginsFactor 10 = .ok (.ifCond .ne 64, 3) := by decide +kernel
theorem dX6_beginsFactor_13 : decode cX6_beginsFactor 13 = .ok (.aload_n 0, 1) := by decide +kernel
theorem dX6_beginsFactor_14 : decode cX6_beginsFactor 14 = .ok (.getfield 9, 3) := by decide +kernel
theorem dX6_beginsFactor_17 : decode cX6_beginsFactor 17 = .ok (.bipush 40, 2) := by decide +kernel
theorem dX6_beginsFactor_19 : decode cX6_beginsFactor 19 = .ok (.invokevirtual 57, 3) := by decide +kernel
theorem dX6_beginsFactor_22 : decode cX6_beginsFactor 22 = .ok (.ifCond .ne 52, 3) := by decide +kernel
theorem dX6_beginsFactor_25 : decode cX6_beginsFactor 25 = .ok (.aload_n 0, 1) := by decide +kernel
theorem dX6_beginsFactor_26 : decode cX6_beginsFactor 26 = .ok (.getfield 9, 3) := by decide +kernel
theorem dX6_beginsFactor_29 : decode cX6_beginsFactor 29 = .ok (.getstatic 61, 3) := by decide +kernel
theorem dX6_beginsFactor_32 : decode cX6_beginsFactor 32 = .ok (.invokevirtual 41, 3) := by decide +kernel
theorem dX6_beginsFactor_35 : decode cX6_beginsFactor 35 = .ok (.ifCond .ne 39, 3) := by decide +kernel
theorem dX6_beginsFactor_38 : decode cX6_beginsFactor 38 = .ok (.aload_n 0, 1) := by decide +kernel
theorem dX6_beginsFactor_39 : decode cX6_beginsFactor 39 = .ok (.getfield 9, 3) := by decide +kernel
theorem dX6_beginsFactor_42 : decode cX6_beginsFactor 42 = .ok (.invokevirtual 64, 3) := by decide +kernel
theorem dX6_beginsFactor_45 : decode cX6_beginsFactor 45 = .ok (.ifCond .ne 29, 3) := by decide +kernel
theorem dX6_beginsFactor_48 : decode cX6_beginsFactor 48 = .ok (.aload_n 0, 1) := by decide +kernel
theorem dX6_beginsFactor_49 : decode cX6_beginsFactor 49 = .ok (.getfield 9, 3) := by decide +kernel
theorem dX6_beginsFactor_52 : decode cX6_beginsFactor 52 = .ok (.getstatic 68, 3) := by decide +kernel
theorem dX6_beginsFactor_55 : decode cX6_beginsFactor 55 = .ok (.invokevirtual 41, 3) := by decide +kernel
theorem dX6_beginsFactor_58 : decode cX6_beginsFactor 58 = .ok (.ifCond .ne 16, 3) := by decide +kernel
theorem dX6_beginsFactor_61 : decode cX6_beginsFactor 61 = .ok (.aload_n 0, 1) := by decide +kernel
theorem dX6_beginsFactor_62 : decode cX6_beginsFactor 62 = .ok (.getfield 9, 3) := by decide +kernel
theorem dX6_beginsFactor_65 : decode cX6_beginsFactor 65 = .ok (.getstatic 71, 3) := by decide +kernel
theorem dX6_beginsFactor_68 : decode cX6_beginsFactor 68 = .ok (.invokevirtual 41, 3) := by decide +kernel
theorem dX6_beginsFactor_71 : decode cX6_beginsFactor 71 = .ok (.ifCond .eq 7, 3) := by decide +kernel
theorem dX6_beginsFactor_74 : decode cX6_beginsFactor 74 = .ok (.iconst 1, 1) := by decide +kernel
theorem dX6_beginsFactor_75 : decode cX6_beginsFactor 75 = .ok (.goto 4, 3) := by decide +kernel
theorem dX6_beginsFactor_78 : decode cX6_beginsFactor 78 = .ok (.iconst 0, 1) := by decide +kernel
theorem dX6_beginsFactor_79 : decode cX6_beginsFactor 79 = .ok (.ireturn, 1) := by decide +kernel
def mi_X6_beginsFactor : MI := (RX6, yX6_beginsFactor, cX6_beginsFactor, 1, some .boolean, [], { frames := 2, cells := 0, slots := 0, locals := 33 })
theorem ok_X6_beginsFactor : mOK mi_X6_beginsFactor 0 := ⟨rfl, cw_X6_beginsFactor, ini_X6, ⟨rfl, by decide⟩, by decide, by decide, rfl⟩
theorem v_X6_beginsFactor (this : Nat) (M : Mem) : V mi_X6_beginsFactor 0 [(0, .ref this)] [] M 0 0 (f_X6_beginsFactor this M) (eZ M) := by
  unfold f_X6_beginsFactor
  refine V_ob fun _ _ => ?_
  refine V_aload_n dX6_beginsFactor_0 rfl 0 rfl ?_
  refine V_getR dX6_beginsFactor_1 rfl (ci := 5) (T := TX6) rfl (by decide) fl_X6_9 (fun x1 => ?_)
  refine V_kw (i := 13) (by decide) fk_X6_54 dX6_beginsFactor_4 rfl ?_
  refine V_cVeZ (As := [.ref 13]) (k_X10_isKeyword x1 13 M) (fun _ h => o_X10_isKeyword h) ok_X10_isKeyword im_X10_isKeyword se_X10_isKeyword rfl (ci := 9) rfl ml_X6_41 ⟨⟨(Nat.le_of_ble_eq_true rfl), (Nat.le_of_ble_eq_true rfl)⟩, (Nat.le_of_ble_eq_true rfl), (Nat.le_of_ble_eq_true rfl)⟩ dX6_beginsFactor_7 rfl rfl rfl (Nat.le_of_ble_eq_true rfl) rfl rfl (fun x2 => ?_)
  refine V_ifz_ne (q := 74) (q2 := 13) dX6_beginsFactor_10 (by decide) rfl ?_ ?_
  · refine V_iconst (x := 1) dX6_beginsFactor_74 rfl rfl ?_
    refine V_goto (q := 79) dX6_beginsFactor_75 (by decide) ?_
    exact V_zret (v := true) dX6_beginsFactor_79 rfl rfl ⟨(Nat.le_of_ble_eq_true rfl), (Nat.le_of_ble_eq_true rfl)⟩
  · refine V_aload_n dX6_beginsFactor_13 rfl 0 rfl ?_
    refine V_getR dX6_beginsFactor_14 rfl (ci := 5) (T := TX6) rfl (by decide) fl_X6_9 (fun x3 => ?_)
    refine V_bipush (x := 40) dX6_beginsFactor_17 rfl rfl ?_
    refine V_cVeZ (As := [.int 40]) (k_X10_isSymbol x3 40 M) (fun _ h => o_X10_isSymbol h) ok_X10_isSymbol im_X10_isSymbol se_X10_isSymbol rfl (ci := 9) rfl ml_X6_57 ⟨⟨(Nat.le_of_ble_eq_true rfl), (Nat.le_of_ble_eq_true rfl)⟩, (Nat.le_of_ble_eq_true rfl), (Nat.le_of_ble_eq_true rfl)⟩ dX6_beginsFactor_19 rfl rfl rfl (Nat.le_of_ble_eq_true rfl) rfl rfl (fun x4 => ?_)
    refine V_ifz_ne (q := 74) (q2 := 25) dX6_beginsFactor_22 (by decide) rfl ?_ ?_
    · refine V_iconst (x := 1) dX6_beginsFactor_74 rfl rfl ?_
      refine V_goto (q := 79) dX6_beginsFactor_75 (by decide) ?_
      exact V_zret (v := true) dX6_beginsFactor_79 rfl rfl ⟨(Nat.le_of_ble_eq_true rfl), (Nat.le_of_ble_eq_true rfl)⟩
    · refine V_aload_n dX6_beginsFactor_25 rfl 0 rfl ?_
      refine V_getR dX6_beginsFactor_26 rfl (ci := 5) (T := TX6) rfl (by decide) fl_X6_9 (fun x5 => ?_)
      refine V_kw (i := 11) (by decide) fk_X6_61 dX6_beginsFactor_29 rfl ?_
      refine V_cVeZ (As := [.ref 11]) (k_X10_isKeyword x5 11 M) (fun _ h => o_X10_isKeyword h) ok_X10_isKeyword im_X10_isKeyword se_X10_isKeyword rfl (ci := 9) rfl ml_X6_41 ⟨⟨(Nat.le_of_ble_eq_true rfl), (Nat.le_of_ble_eq_true rfl)⟩, (Nat.le_of_ble_eq_true rfl), (Nat.le_of_ble_eq_true rfl)⟩ dX6_beginsFactor_32 rfl rfl rfl (Nat.le_of_ble_eq_true rfl) rfl rfl (fun x6 => ?_)
      refine V_ifz_ne (q := 74) (q2 := 38) dX6_beginsFactor_35 (by decide) rfl ?_ ?_
      · refine V_iconst (x := 1) dX6_beginsFactor_74 rfl rfl ?_
        refine V_goto (q := 79) dX6_beginsFactor_75 (by decide) ?_
        exact V_zret (v := true) dX6_beginsFactor_79 rfl rfl ⟨(Nat.le_of_ble_eq_true rfl), (Nat.le_of_ble_eq_true rfl)⟩
      · refine V_aload_n dX6_beginsFactor_38 rfl 0 rfl ?_
        refine V_getR dX6_beginsFactor_39 rfl (ci := 5) (T := TX6) rfl (by decide) fl_X6_9 (fun x7 => ?_)
        refine V_cVeI (As := []) (k_X10_flag x7 M) (fun _ h => o_X10_flag h) ok_X10_flag im_X10_flag se_X10_flag rfl (ci := 9) rfl ml_X6_64 ⟨⟨(Nat.le_of_ble_eq_true rfl), (Nat.le_of_ble_eq_true rfl)⟩, (Nat.le_of_ble_eq_true rfl), (Nat.le_of_ble_eq_true rfl)⟩ dX6_beginsFactor_42 rfl rfl rfl (Nat.le_of_ble_eq_true rfl) rfl rfl (fun x8 => ?_)
        refine V_if_ne (q := 74) (q2 := 48) dX6_beginsFactor_45 (by decide) rfl ?_ ?_
        · refine V_iconst (x := 1) dX6_beginsFactor_74 rfl rfl ?_
          refine V_goto (q := 79) dX6_beginsFactor_75 (by decide) ?_
          exact V_zret (v := true) dX6_beginsFactor_79 rfl rfl ⟨(Nat.le_of_ble_eq_true rfl), (Nat.le_of_ble_eq_true rfl)⟩
        · refine V_aload_n dX6_beginsFactor_48 rfl 0 rfl ?_
          refine V_getR dX6_beginsFactor_49 rfl (ci := 5) (T := TX6) rfl (by decide) fl_X6_9 (fun x9 => ?_)
          refine V_kw (i := 3) (by decide) fk_X6_68 dX6_beginsFactor_52 rfl ?_
          refine V_cVeZ (As := [.ref 3]) (k_X10_isKeyword x9 3 M) (fun _ h => o_X10_isKeyword h) ok_X10_isKeyword im_X10_isKeyword se_X10_isKeyword rfl (ci := 9) rfl ml_X6_41 ⟨⟨(Nat.le_of_ble_eq_true rfl), (Nat.le_of_ble_eq_true rfl)⟩, (Nat.le_of_ble_eq_true rfl), (Nat.le_of_ble_eq_true rfl)⟩ dX6_beginsFactor_55 rfl rfl rfl (Nat.le_of_ble_eq_true rfl) rfl rfl (fun x10 => ?_)
          refine V_ifz_ne (q := 74) (q2 := 61) dX6_beginsFactor_58 (by decide) rfl ?_ ?_
          · refine V_iconst (x := 1) dX6_beginsFactor_74 rfl rfl ?_
            refine V_goto (q := 79) dX6_beginsFactor_75 (by decide) ?_
            exact V_zret (v := true) dX6_beginsFactor_79 rfl rfl ⟨(Nat.le_of_ble_eq_true rfl), (Nat.le_of_ble_eq_true rfl)⟩
          · refine V_aload_n dX6_beginsFactor_61 rfl 0 rfl ?_
            refine V_getR dX6_beginsFactor_62 rfl (ci := 5) (T := TX6) rfl (by decide) fl_X6_9 (fun x11 => ?_)
            refine V_kw (i := 12) (by decide) fk_X6_71 dX6_beginsFactor_65 rfl ?_
            refine V_cVeZ (As := [.ref 12]) (k_X10_isKeyword x11 12 M) (fun _ h => o_X10_isKeyword h) ok_X10_isKeyword im_X10_isKeyword se_X10_isKeyword rfl (ci := 9) rfl ml_X6_41 ⟨⟨(Nat.le_of_ble_eq_true rfl), (Nat.le_of_ble_eq_true rfl)⟩, (Nat.le_of_ble_eq_true rfl), (Nat.le_of_ble_eq_true rfl)⟩ dX6_beginsFactor_68 rfl rfl rfl (Nat.le_of_ble_eq_true rfl) rfl rfl (fun x12 => ?_)
            refine V_ifz_eq (q := 78) (q2 := 74) dX6_beginsFactor_71 (by decide) rfl ?_ ?_
            · refine V_iconst (x := 0) dX6_beginsFactor_78 rfl rfl ?_
              exact V_zret (v := false) dX6_beginsFactor_79 rfl rfl ⟨(Nat.le_of_ble_eq_true rfl), (Nat.le_of_ble_eq_true rfl)⟩
            · refine V_iconst (x := 1) dX6_beginsFactor_74 rfl rfl ?_
              refine V_goto (q := 79) dX6_beginsFactor_75 (by decide) ?_
              exact V_zret (v := true) dX6_beginsFactor_79 rfl rfl ⟨(Nat.le_of_ble_eq_true rfl), (Nat.le_of_ble_eq_true rfl)⟩
theorem k_X6_beginsFactor (this : Nat) (M : Mem) : K mi_X6_beginsFactor [.ref this] M (f_X6_beginsFactor this M) (eZ M) := K_of_V ok_X6_beginsFactor (Nat.le_of_ble_eq_true rfl) (v_X6_beginsFactor this M)
theorem o_X6_beginsFactor {this : Nat} {M : Mem} {x} (h : f_X6_beginsFactor this M = some x) : isO M 5 this = true := (ob_of h).1
theorem dX6_parseQuery_0 : decode cX6_parseQuery 0 = .ok (.aload_n 0, 1) := by decide +kernel
theorem dX6_parseQuery_1 : decode cX6_parseQuery 1 = .ok (.aload_n 1, 1) := by decide +kernel
theorem dX6_parseQuery_2 : decode cX6_parseQuery 2 = .ok (.iload_n 2, 1) := by decide +kernel
theorem dX6_parseQuery_3 : decode cX6_parseQuery 3 = .ok (.invokevirtual 32, 3) := by decide +kernel
theorem dX6_parseQuery_6 : decode cX6_parseQuery 6 = .ok (.istore_n 3, 1) := by decide +kernel
theorem dX6_parseQuery_7 : decode cX6_parseQuery 7 = .ok (.iconst 0, 1) := by decide +kernel
theorem dX6_parseQuery_8 : decode cX6_parseQuery 8 = .ok (.istore 4, 2) := by decide +kernel
theorem dX6_parseQuery_10 : decode cX6_parseQuery 10 = .ok (.iload 4, 2) := by decide +kernel
theorem dX6_parseQuery_12 : decode cX6_parseQuery 12 = .ok (.sipush 700, 3) := by decide +kernel
theorem dX6_parseQuery_15 : decode cX6_parseQuery 15 = .ok (.if_icmp .ge 38, 3) := by decide +kernel
theorem dX6_parseQuery_18 : decode cX6_parseQuery 18 = .ok (.aload_n 0, 1) := by decide +kernel
theorem dX6_parseQuery_19 : decode cX6_parseQuery 19 = .ok (.getfield 9, 3) := by decide +kernel
theorem dX6_parseQuery_22 : decode cX6_parseQuery 22 = .ok (.getstatic 35, 3) := by decide +kernel
theorem dX6_parseQuery_25 : decode cX6_parseQuery 25 = .ok (.invokevirtual 41, 3) := by decide +kernel
theorem dX6_parseQuery_28 : decode cX6_parseQuery 28 = .ok (.ifCond .eq 25, 3) := by decide +kernel
theorem dX6_parseQuery_31 : decode cX6_parseQuery 31 = .ok (.aload_n 0, 1) := by decide +kernel
theorem dX6_parseQuery_32 : decode cX6_parseQuery 32 = .ok (.getfield 9, 3) := by decide +kernel
theorem dX6_parseQuery_35 : decode cX6_parseQuery 35 = .ok (.invokevirtual 45, 3) := by decide +kernel
theorem dX6_parseQuery_38 : decode cX6_parseQuery 38 = .ok (.iload_n 3, 1) := by decide +kernel
theorem dX6_parseQuery_39 : decode cX6_parseQuery 39 = .ok (.aload_n 0, 1) := by decide +kernel
theorem dX6_parseQuery_40 : decode cX6_parseQuery 40 = .ok (.aload_n 1, 1) := by decide +kernel
theorem dX6_parseQuery_41 : decode cX6_parseQuery 41 = .ok (.iload_n 2, 1) := by decide +kernel
theorem dX6_parseQuery_42 : decode cX6_parseQuery 42 = .ok (.invokevirtual 32, 3) := by decide +kernel
theorem dX6_parseQuery_45 : decode cX6_parseQuery 45 = .ok (.ior, 1) := by decide +kernel
theorem dX6_parseQuery_46 : decode cX6_parseQuery 46 = .ok (.istore_n 3, 1) := by decide +kernel
theorem dX6_parseQuery_47 : decode cX6_parseQuery 47 = .ok (.iinc 4 1, 3) := by decide +kernel
theorem dX6_parseQuery_50 : decode cX6_parseQuery 50 = .ok (.goto (-40), 3) := by decide +kernel
theorem dX6_parseQuery_53 : decode cX6_parseQuery 53 = .ok (.iload_n 3, 1) := by decide +kernel
theorem dX6_parseQuery_54 : decode cX6_parseQuery 54 = .ok (.ireturn, 1) := by decide +kernel
theorem dX6_parseTerm_0 : decode cX6_parseTerm 0 = .ok (.aload_n 0, 1) := by decide +kernel
theorem dX6_parseTerm_1 : decode cX6_parseTerm 1 = .ok (.aload_n 1, 1) := by decide +kernel
theorem dX6_parseTerm_2 : decode cX6_parseTerm 2 = .ok (.iload_n 2, 1) := by decide +kernel
theorem dX6_parseTerm_3 : decode cX6_parseTerm 3 = .ok (.invokevirtual 48, 3) := by decide +kernel
theorem dX6_parseTerm_6 : decode cX6_parseTerm 6 = .ok (.istore_n 3, 1) := by decide +kernel
theorem dX6_parseTerm_7 : decode cX6_parseTerm 7 = .ok (.iconst 0, 1) := by decide +kernel
theorem dX6_parseTerm_8 : decode cX6_parseTerm 8 = .ok (.istore 4, 2) := by decide +kernel
theorem dX6_parseTerm_10 : decode cX6_parseTerm 10 = .ok (.iload 4, 2) := by decide +kernel
theorem dX6_parseTerm_12 : decode cX6_parseTerm 12 = .ok (.sipush 700, 3) := by decide +kernel
theorem dX6_parseTerm_15 : decode cX6_parseTerm 15 = .ok (.if_icmp .ge 25, 3) := by decide +kernel
theorem dX6_parseTerm_18 : decode cX6_parseTerm 18 = .ok (.aload_n 0, 1) := by decide +kernel
theorem dX6_parseTerm_19 : decode cX6_parseTerm 19 = .ok (.invokevirtual 51, 3) := by decide +kernel
theorem dX6_parseTerm_22 : decode cX6_parseTerm 22 = .ok (.ifCond .eq 18, 3) := by decide +kernel
theorem dX6_parseTerm_25 : decode cX6_parseTerm 25 = .ok (.iload_n 3, 1) := by decide +kernel
theorem dX6_parseTerm_26 : decode cX6_parseTerm 26 = .ok (.aload_n 0, 1) := by decide +kernel
theorem dX6_parseTerm_27 : decode cX6_parseTerm 27 = .ok (.aload_n 1, 1) := by decide +kernel
theorem dX6_parseTerm_28 : decode cX6_parseTerm 28 = .ok (.iload_n 2, 1) := by decide +kernel
theorem dX6_parseTerm_29 : decode cX6_parseTerm 29 = .ok (.invokevirtual 48, 3) := by decide +kernel
theorem dX6_parseTerm_32 : decode cX6_parseTerm 32 = .ok (.iand, 1) := by decide +kernel
theorem dX6_parseTerm_33 : decode cX6_parseTerm 33 = .ok (.istore_n 3, 1) := by decide +kernel
theorem dX6_parseTerm_34 : decode cX6_parseTerm 34 = .ok (.iinc 4 1, 3) := by decide +kernel
theorem dX6_parseTerm_37 : decode cX6_parseTerm 37 = .ok (.goto (-27), 3) := by decide +kernel
theorem dX6_parseTerm_40 : decode cX6_parseTerm 40 = .ok (.iload_n 3, 1) := by decide +kernel
theorem dX6_parseTerm_41 : decode cX6_parseTerm 41 = .ok (.ireturn, 1) := by decide +kernel
theorem dX6_parseFactor_0 : decode cX6_parseFactor 0 = .ok (.aload_n 0, 1) := by decide +kernel
theorem dX6_parseFactor_1 : decode cX6_parseFactor 1 = .ok (.getfield 9, 3) := by decide +kernel
theorem dX6_parseFactor_4 : decode cX6_parseFactor 4 = .ok (.invokevirtual 64, 3) := by decide +kernel
theorem dX6_parseFactor_7 : decode cX6_parseFactor 7 = .ok (.istore_n 3, 1) := by decide +kernel
theorem dX6_parseFactor_8 : decode cX6_parseFactor 8 = .ok (.iload_n 3, 1) := by decide +kernel
theorem dX6_parseFactor_9 : decode cX6_parseFactor 9 = .ok (.ifCond .eq 16, 3) := by decide +kernel
theorem dX6_parseFactor_12 : decode cX6_parseFactor 12 = .ok (.aload_n 0, 1) := by decide +kernel
theorem dX6_parseFactor_13 : decode cX6_parseFactor 13 = .ok (.getfield 9, 3) := by decide +kernel
theorem dX6_parseFactor_16 : decode cX6_parseFactor 16 = .ok (.invokevirtual 45, 3) := by decide +kernel
theorem dX6_parseFactor_19 : decode cX6_parseFactor 19 = .ok (.aload_n 1, 1) := by decide +kernel
theorem dX6_parseFactor_20 : decode cX6_parseFactor 20 = .ok (.iload_n 3, 1) := by decide +kernel
theorem dX6_parseFactor_21 : decode cX6_parseFactor 21 = .ok (.invokevirtual 74, 3) := by decide +kernel
theorem dX6_parseFactor_24 : decode cX6_parseFactor 24 = .ok (.ireturn, 1) := by decide +kernel
theorem dX6_parseFactor_25 : decode cX6_parseFactor 25 = .ok (.aload_n 0, 1) := by decide +kernel
theorem dX6_parseFactor_26 : decode cX6_parseFactor 26 = .ok (.getfield 9, 3) := by decide +kernel
theorem dX6_parseFactor_29 : decode cX6_parseFactor 29 = .ok (.getstatic 61, 3) := by decide +kernel
theorem dX6_parseFactor_32 : decode cX6_parseFactor 32 = .ok (.invokevirtual 41, 3) := by decide +kernel
theorem dX6_parseFactor_35 : decode cX6_parseFactor 35 = .ok (.ifCond .eq 15, 3) := by decide +kernel
theorem dX6_parseFactor_38 : decode cX6_parseFactor 38 = .ok (.aload_n 0, 1) := by decide +kernel
theorem dX6_parseFactor_39 : decode cX6_parseFactor 39 = .ok (.getfield 9, 3) := by decide +kernel
theorem dX6_parseFactor_42 : decode cX6_parseFactor 42 = .ok (.invokevirtual 45, 3) := by decide +kernel
theorem dX6_parseFactor_45 : decode cX6_parseFactor 45 = .ok (.aload_n 1, 1) := by decide +kernel
theorem dX6_parseFactor_46 : decode cX6_parseFactor 46 = .ok (.invokevirtual 80, 3) := by decide +kernel
theorem dX6_parseFactor_49 : decode cX6_parseFactor 49 = .ok (.ireturn, 1) := by decide +kernel
theorem dX6_parseFactor_50 : decode cX6_parseFactor 50 = .ok (.aload_n 0, 1) := by decide +kernel
theorem dX6_parseFactor_51 : decode cX6_parseFactor 51 = .ok (.getfield 9, 3) := by decide +kernel
theorem dX6_parseFactor_54 : decode cX6_parseFactor 54 = .ok (.getstatic 68, 3) := by decide +kernel
theorem dX6_parseFactor_57 : decode cX6_parseFactor 57 = .ok (.invokevirtual 41, 3) := by decide +kernel
theorem dX6_parseFactor_60 : decode cX6_parseFactor 60 = .ok (.ifCond .eq 10, 3) := by decide +kernel
theorem dX6_parseFactor_63 : decode cX6_parseFactor 63 = .ok (.aload_n 0, 1) := by decide +kernel
theorem dX6_parseFactor_64 : decode cX6_parseFactor 64 = .ok (.aload_n 1, 1) := by decide +kernel
theorem dX6_parseFactor_65 : decode cX6_parseFactor 65 = .ok (.iconst 1, 1) := by decide +kernel
theorem dX6_parseFactor_66 : decode cX6_parseFactor 66 = .ok (.invokevirtual 83, 3) := by decide +kernel
theorem dX6_parseFactor_69 : decode cX6_parseFactor 69 = .ok (.ireturn, 1) := by decide +kernel
theorem dX6_parseFactor_70 : decode cX6_parseFactor 70 = .ok (.aload_n 0, 1) := by decide +kernel
theorem dX6_parseFactor_71 : decode cX6_parseFactor 71 = .ok (.getfield 9, 3) := by decide +kernel
theorem dX6_parseFactor_74 : decode cX6_parseFactor 74 = .ok (.getstatic 71, 3) := by decide +kernel
theorem dX6_parseFactor_77 : decode cX6_parseFactor 77 = .ok (.invokevirtual 41, 3) := by decide +kernel
theorem dX6_parseFactor_80 : decode cX6_parseFactor 80 = .ok (.ifCond .eq 10, 3) := by decide +kernel
theorem dX6_parseFactor_83 : decode cX6_parseFactor 83 = .ok (.aload_n 0, 1) := by decide +kernel
theorem dX6_parseFactor_84 : decode cX6_parseFactor 84 = .ok (.aload_n 1, 1) := by decide +kernel
theorem dX6_parseFactor_85 : decode cX6_parseFactor 85 = .ok (.iconst 0, 1) := by decide +kernel
theorem dX6_parseFactor_86 : decode cX6_parseFactor 86 = .ok (.invokevirtual 83, 3) := by decide +kernel
theorem dX6_parseFactor_89 : decode cX6_parseFactor 89 = .ok (.ireturn, 1) := by decide +kernel
theorem dX6_parseFactor_90 : decode cX6_parseFactor 90 = .ok (.aload_n 0, 1) := by decide +kernel
theorem dX6_parseFactor_91 : decode cX6_parseFactor 91 = .ok (.getfield 9, 3) := by decide +kernel
theorem dX6_parseFactor_94 : decode cX6_parseFactor 94 = .ok (.getstatic 54, 3) := by decide +kernel
theorem dX6_parseFactor_97 : decode cX6_parseFactor 97 = .ok (.invokevirtual 41, 3) := by decide +kernel
theorem dX6_parseFactor_100 : decode cX6_parseFactor 100 = .ok (.istore 4, 2) := by decide +kernel
theorem dX6_parseFactor_102 : decode cX6_parseFactor 102 = .ok (.iload 4, 2) := by decide +kernel
theorem dX6_parseFactor_104 : decode cX6_parseFactor 104 = .ok (.ifCond .ne 25, 3) := by decide +kernel
theorem dX6_parseFactor_107 : decode cX6_parseFactor 107 = .ok (.aload_n 0, 1) := by decide +kernel
theorem dX6_parseFactor_108 : decode cX6_parseFactor 108 = .ok (.getfield 9, 3) := by decide +kernel
theorem dX6_parseFactor_111 : decode cX6_parseFactor 111 = .ok (.bipush 40, 2) := by decide +kernel
theorem dX6_parseFactor_113 : decode cX6_parseFactor 113 = .ok (.invokevirtual 57, 3) := by decide +kernel
theorem dX6_parseFactor_116 : decode cX6_parseFactor 116 = .ok (.ifCond .ne 13, 3) := by decide +kernel
theorem dX6_parseFactor_119 : decode cX6_parseFactor 119 = .ok (.aload_n 0, 1) := by decide +kernel
theorem dX6_parseFactor_120 : decode cX6_parseFactor 120 = .ok (.getfield 9, 3) := by decide +kernel
theorem dX6_parseFactor_123 : decode cX6_parseFactor 123 = .ok (.iconst 1, 1) := by decide +kernel
theorem dX6_parseFactor_124 : decode cX6_parseFactor 124 = .ok (.invokevirtual 28, 3) := by decide +kernel
theorem dX6_parseFactor_127 : decode cX6_parseFactor 127 = .ok (.iconst 0, 1) := by decide +kernel
theorem dX6_parseFactor_128 : decode cX6_parseFactor 128 = .ok (.ireturn, 1) := by decide +kernel
theorem dX6_parseFactor_129 : decode cX6_parseFactor 129 = .ok (.iload_n 2, 1) := by decide +kernel
theorem dX6_parseFactor_130 : decode cX6_parseFactor 130 = .ok (.iconst 5, 1) := by decide +kernel
theorem dX6_parseFactor_131 : decode cX6_parseFactor 131 = .ok (.if_icmp .lt 13, 3) := by decide +kernel
theorem dX6_parseFactor_134 : decode cX6_parseFactor 134 = .ok (.aload_n 0, 1) := by decide +kernel
theorem dX6_parseFactor_135 : decode cX6_parseFactor 135 = .ok (.getfield 9, 3) := by decide +kernel
theorem dX6_parseFactor_138 : decode cX6_parseFactor 138 = .ok (.iconst 5, 1) := by decide +kernel
theorem dX6_parseFactor_139 : decode cX6_parseFactor 139 = .ok (.invokevirtual 28, 3) := by decide +kernel
theorem dX6_parseFactor_142 : decode cX6_parseFactor 142 = .ok (.iconst 0, 1) := by decide +kernel
theorem dX6_parseFactor_143 : decode cX6_parseFactor 143 = .ok (.ireturn, 1) := by decide +kernel
theorem dX6_parseFactor_144 : decode cX6_parseFactor 144 = .ok (.aload_n 0, 1) := by decide +kernel
theorem dX6_parseFactor_145 : decode cX6_parseFactor 145 = .ok (.getfield 9, 3) := by decide +kernel
theorem dX6_parseFactor_148 : decode cX6_parseFactor 148 = .ok (.invokevirtual 45, 3) := by decide +kernel
theorem dX6_parseFactor_151 : decode cX6_parseFactor 151 = .ok (.iload 4, 2) := by decide +kernel
theorem dX6_parseFactor_153 : decode cX6_parseFactor 153 = .ok (.ifCond .eq 14, 3) := by decide +kernel
theorem dX6_parseFactor_156 : decode cX6_parseFactor 156 = .ok (.aload_n 0, 1) := by decide +kernel
theorem dX6_parseFactor_157 : decode cX6_parseFactor 157 = .ok (.aload_n 1, 1) := by decide +kernel
theorem dX6_parseFactor_158 : decode cX6_parseFactor 158 = .ok (.iload_n 2, 1) := by decide +kernel
theorem dX6_parseFactor_159 : decode cX6_parseFactor 159 = .ok (.iconst 1, 1) := by decide +kernel
theorem dX6_parseFactor_160 : decode cX6_parseFactor 160 = .ok (.iadd, 1) := by decide +kernel
theorem dX6_parseFactor_161 : decode cX6_parseFactor 161 = .ok (.invokevirtual 87, 3) := by decide +kernel
theorem dX6_parseFactor_164 : decode cX6_parseFactor 164 = .ok (.goto 11, 3) := by decide +kernel
theorem dX6_parseFactor_167 : decode cX6_parseFactor 167 = .ok (.aload_n 0, 1) := by decide +kernel
theorem dX6_parseFactor_168 : decode cX6_parseFactor 168 = .ok (.aload_n 1, 1) := by decide +kernel
theorem dX6_parseFactor_169 : decode cX6_parseFactor 169 = .ok (.iload_n 2, 1) := by decide +kernel
theorem dX6_parseFactor_170 : decode cX6_parseFactor 170 = .ok (.iconst 1, 1) := by decide +kernel
theorem dX6_parseFactor_171 : decode cX6_parseFactor 171 = .ok (.iadd, 1) := by decide +kernel
theorem dX6_parseFactor_172 : decode cX6_parseFactor 172 = .ok (.invokevirtual 90, 3) := by decide +kernel
theorem dX6_parseFactor_175 : decode cX6_parseFactor 175 = .ok (.ireturn, 1) := by decide +kernel
theorem dX6_parseNegated_0 : decode cX6_parseNegated 0 = .ok (.aload_n 1, 1) := by decide +kernel
theorem dX6_parseNegated_1 : decode cX6_parseNegated 1 = .ok (.invokevirtual 80, 3) := by decide +kernel
theorem dX6_parseNegated_4 : decode cX6_parseNegated 4 = .ok (.aload_n 0, 1) := by decide +kernel
theorem dX6_parseNegated_5 : decode cX6_parseNegated 5 = .ok (.aload_n 1, 1) := by decide +kernel
theorem dX6_parseNegated_6 : decode cX6_parseNegated 6 = .ok (.iload_n 2, 1) := by decide +kernel
theorem dX6_parseNegated_7 : decode cX6_parseNegated 7 = .ok (.invokevirtual 48, 3) := by decide +kernel
theorem dX6_parseNegated_10 : decode cX6_parseNegated 10 = .ok (.iconst (-1), 1) := by decide +kernel
theorem dX6_parseNegated_11 : decode cX6_parseNegated 11 = .ok (.ixor, 1) := by decide +kernel
theorem dX6_parseNegated_12 : decode cX6_parseNegated 12 = .ok (.iand, 1) := by decide +kernel
theorem dX6_parseNegated_13 : decode cX6_parseNegated 13 = .ok (.ireturn, 1) := by decide +kernel
theorem dX6_parseEnclosed_0 : decode cX6_parseEnclosed 0 = .ok (.aload_n 0, 1) := by decide +kernel
theorem dX6_parseEnclosed_1 : decode cX6_parseEnclosed 1 = .ok (.aload_n 1, 1) := by decide +kernel
theorem dX6_parseEnclosed_2 : decode cX6_parseEnclosed 2 = .ok (.iload_n 2, 1) := by decide +kernel
theorem dX6_parseEnclosed_3 : decode cX6_parseEnclosed 3 = .ok (.invokevirtual 20, 3) := by decide +kernel
theorem dX6_parseEnclosed_6 : decode cX6_parseEnclosed 6 = .ok (.istore_n 3, 1) := by decide +kernel
theorem dX6_parseEnclosed_7 : decode cX6_parseEnclosed 7 = .ok (.aload_n 0, 1) := by decide +kernel
theorem dX6_parseEnclosed_8 : decode cX6_parseEnclosed 8 = .ok (.getfield 9, 3) := by decide +kernel
theorem dX6_parseEnclosed_11 : decode cX6_parseEnclosed 11 = .ok (.bipush 41, 2) := by decide +kernel
theorem dX6_parseEnclosed_13 : decode cX6_parseEnclosed 13 = .ok (.invokevirtual 93, 3) := by decide +kernel
theorem dX6_parseEnclosed_16 : decode cX6_parseEnclosed 16 = .ok (.iload_n 3, 1) := by decide +kernel
theorem dX6_parseEnclosed_17 : decode cX6_parseEnclosed 17 = .ok (.ireturn, 1) := by decide +kernel
def mi_X6_parseQuery (d : Nat) : MI := (RX6, yX6_parseQuery, cX6_parseQuery, 5, some .int, [], { frames := 5 + d, cells := 0, slots := 0, locals := 123 + 24 * d })
theorem pd_X6_parseQuery : (parseMethodDescriptor yX6_parseQuery.desc).map (fun d => d.parameters.length) = some 2 := rfl
theorem ok_X6_parseQuery (d : Nat) : mOK (mi_X6_parseQuery d) 2 := ⟨rfl, cw_X6_parseQuery, ini_X6, ⟨rfl, (by decide : plainName RX6 = true)⟩, (by decide : RX6 ≠ "java/lang/invoke/MethodHandle"), (by decide : RX6 ≠ "java/lang/invoke/VarHandle"), pd_X6_parseQuery⟩
def mi_X6_parseTerm (d : Nat) : MI := (RX6, yX6_parseTerm, cX6_parseTerm, 5, some .int, [], { frames := 5 + d, cells := 0, slots := 0, locals := 123 + 24 * d })
theorem pd_X6_parseTerm : (parseMethodDescriptor yX6_parseTerm.desc).map (fun d => d.parameters.length) = some 2 := rfl
theorem ok_X6_parseTerm (d : Nat) : mOK (mi_X6_parseTerm d) 2 := ⟨rfl, cw_X6_parseTerm, ini_X6, ⟨rfl, (by decide : plainName RX6 = true)⟩, (by decide : RX6 ≠ "java/lang/invoke/MethodHandle"), (by decide : RX6 ≠ "java/lang/invoke/VarHandle"), pd_X6_parseTerm⟩
def mi_X6_parseFactor (d : Nat) : MI := (RX6, yX6_parseFactor, cX6_parseFactor, 5, some .int, [], { frames := 5 + d, cells := 0, slots := 0, locals := 123 + 24 * d })
theorem pd_X6_parseFactor : (parseMethodDescriptor yX6_parseFactor.desc).map (fun d => d.parameters.length) = some 2 := rfl
theorem ok_X6_parseFactor (d : Nat) : mOK (mi_X6_parseFactor d) 2 := ⟨rfl, cw_X6_parseFactor, ini_X6, ⟨rfl, (by decide : plainName RX6 = true)⟩, (by decide : RX6 ≠ "java/lang/invoke/MethodHandle"), (by decide : RX6 ≠ "java/lang/invoke/VarHandle"), pd_X6_parseFactor⟩
def mi_X6_parseNegated (d : Nat) : MI := (RX6, yX6_parseNegated, cX6_parseNegated, 3, some .int, [], { frames := 5 + d, cells := 0, slots := 0, locals := 123 + 24 * d })
theorem pd_X6_parseNegated : (parseMethodDescriptor yX6_parseNegated.desc).map (fun d => d.parameters.length) = some 2 := rfl
theorem ok_X6_parseNegated (d : Nat) : mOK (mi_X6_parseNegated d) 2 := ⟨rfl, cw_X6_parseNegated, ini_X6, ⟨rfl, (by decide : plainName RX6 = true)⟩, (by decide : RX6 ≠ "java/lang/invoke/MethodHandle"), (by decide : RX6 ≠ "java/lang/invoke/VarHandle"), pd_X6_parseNegated⟩
def mi_X6_parseEnclosed (d : Nat) : MI := (RX6, yX6_parseEnclosed, cX6_parseEnclosed, 4, some .int, [], { frames := 5 + d, cells := 0, slots := 0, locals := 123 + 24 * d })
theorem pd_X6_parseEnclosed : (parseMethodDescriptor yX6_parseEnclosed.desc).map (fun d => d.parameters.length) = some 2 := rfl
theorem ok_X6_parseEnclosed (d : Nat) : mOK (mi_X6_parseEnclosed d) 2 := ⟨rfl, cw_X6_parseEnclosed, ini_X6, ⟨rfl, (by decide : plainName RX6 = true)⟩, (by decide : RX6 ≠ "java/lang/invoke/MethodHandle"), (by decide : RX6 ≠ "java/lang/invoke/VarHandle"), pd_X6_parseEnclosed⟩
theorem v_X6_parseQuery_10 (r0 : Nat → Nat → Int32 → Mem → Option (Int32 × Mem)) (r1 : Nat → Nat → Int32 → Mem → Option (Int32 × Mem)) (r2 : Nat → Nat → Int32 → Mem → Option (Int32 × Mem)) (r3 : Nat → Nat → Int32 → Mem → Option (Int32 × Mem)) (r4 : Nat → Nat → Int32 → Mem → Option (Int32 × Mem)) (d : Nat) (hk0 : ∀ (this : Nat) (a1 : Nat) (a2 : Int32) (M : Mem), K (mi_X6_parseQuery d) [.ref this, .ref a1, .int a2] M (r0 this a1 a2 M) wI) (ho0 : ∀ {this : Nat} {a1 : Nat} {a2 : Int32} {M : Mem} {x}, r0 this a1 a2 M = some x → isO M 5 this = true) (hk1 : ∀ (this : Nat) (a1 : Nat) (a2 : Int32) (M : Mem), K (mi_X6_parseTerm d) [.ref this, .ref a1, .int a2] M (r1 this a1 a2 M) wI) (ho1 : ∀ {this : Nat} {a1 : Nat} {a2 : Int32} {M : Mem} {x}, r1 this a1 a2 M = some x → isO M 5 this = true) (hk2 : ∀ (this : Nat) (a1 : Nat) (a2 : Int32) (M : Mem), K (mi_X6_parseFactor d) [.ref this, .ref a1, .int a2] M (r2 this a1 a2 M) wI) (ho2 : ∀ {this : Nat} {a1 : Nat} {a2 : Int32} {M : Mem} {x}, r2 this a1 a2 M = some x → isO M 5 this = true) (hk3 : ∀ (this : Nat) (a1 : Nat) (a2 : Int32) (M : Mem), K (mi_X6_parseNegated d) [.ref this, .ref a1, .int a2] M (r3 this a1 a2 M) wI) (ho3 : ∀ {this : Nat} {a1 : Nat} {a2 : Int32} {M : Mem} {x}, r3 this a1 a2 M = some x → isO M 5 this = true) (hk4 : ∀ (this : Nat) (a1 : Nat) (a2 : Int32) (M : Mem), K (mi_X6_parseEnclosed d) [.ref this, .ref a1, .int a2] M (r4 this a1 a2 M) wI) (ho4 : ∀ {this : Nat} {a1 : Nat} {a2 : Int32} {M : Mem} {x}, r4 this a1 a2 M = some x → isO M 5 this = true) : ∀ (fu : Nat) (this : Nat) (l1 : Nat) (l2 : Int32) (l3 : Int32) (l4 : Int32) (M : Mem), V (mi_X6_parseQuery (d + 1)) 10 [(0, .ref this), (1, .ref l1), (2, .int l2), (3, .int l3), (4, .int l4)] [] M 0 0 (f_X6_parseQuery_10 r0 r1 r2 r3 r4 fu this l1 l2 l3 l4 M) wI := by
  intro fu
  induction fu with
  | zero => intros; exact V_none
  | succ fu ih =>
    intro this l1 l2 l3 l4 M
    show V (mi_X6_parseQuery (d + 1)) 10 [(0, .ref this), (1, .ref l1), (2, .int l2), (3, .int l3), (4, .int l4)] [] M 0 0 (f_X6_parseQuery_10 r0 r1 r2 r3 r4 (fu + 1) this l1 l2 l3 l4 M) wI
    unfold f_X6_parseQuery_10
    refine V_iload dX6_parseQuery_10 rfl 4 rfl ?_
    refine V_sipush (x := 700) dX6_parseQuery_12 rfl rfl ?_
    refine V_icmp_ge (q := 53) (q2 := 18) dX6_parseQuery_15 (by decide) rfl ?_ ?_
    · refine V_iload_n dX6_parseQuery_53 rfl 3 rfl ?_
      exact V_iret dX6_parseQuery_54 rfl rfl ⟨(Nat.le_of_ble_eq_true rfl), (Nat.le_of_ble_eq_true rfl)⟩
    · refine V_aload_n dX6_parseQuery_18 rfl 0 rfl ?_
      refine V_getR dX6_parseQuery_19 rfl (ci := 5) (T := TX6) rfl (by decide) fl_X6_9 (fun x3 => ?_)
      refine V_kw (i := 14) (by decide) fk_X6_35 dX6_parseQuery_22 rfl ?_
      refine V_cVeZ (As := [.ref 14]) (k_X10_isKeyword x3 14 M) (fun _ h => o_X10_isKeyword h) ok_X10_isKeyword im_X10_isKeyword se_X10_isKeyword rfl (ci := 9) rfl ml_X6_41 ⟨⟨Nat.le_trans (m := 5) (Nat.le_of_ble_eq_true rfl) (Nat.le_add_right _ _), Nat.le_trans (m := 123) (Nat.le_of_ble_eq_true rfl) (Nat.le_add_right _ _)⟩, (Nat.le_of_ble_eq_true rfl), (Nat.le_of_ble_eq_true rfl)⟩ dX6_parseQuery_25 rfl rfl rfl (Nat.le_of_ble_eq_true rfl) rfl rfl (fun x4 => ?_)
      refine V_ifz_eq (q := 53) (q2 := 31) dX6_parseQuery_28 (by decide) rfl ?_ ?_
      · refine V_iload_n dX6_parseQuery_53 rfl 3 rfl ?_
        exact V_iret dX6_parseQuery_54 rfl rfl ⟨(Nat.le_of_ble_eq_true rfl), (Nat.le_of_ble_eq_true rfl)⟩
      · refine V_aload_n dX6_parseQuery_31 rfl 0 rfl ?_
        refine V_getR dX6_parseQuery_32 rfl (ci := 5) (T := TX6) rfl (by decide) fl_X6_9 (fun x5 => ?_)
        refine V_cVwV (As := []) (k_X10_next x5 M) (fun _ h => o_X10_next h) ok_X10_next im_X10_next se_X10_next rfl (ci := 9) rfl ml_X6_45 ⟨⟨Nat.le_trans (m := 5) (Nat.le_of_ble_eq_true rfl) (Nat.le_add_right _ _), Nat.le_trans (m := 123) (Nat.le_of_ble_eq_true rfl) (Nat.le_add_right _ _)⟩, (Nat.le_of_ble_eq_true rfl), (Nat.le_of_ble_eq_true rfl)⟩ dX6_parseQuery_35 rfl rfl rfl (Nat.le_of_ble_eq_true rfl) rfl rfl (fun M7 => ?_)
        refine V_iload_n dX6_parseQuery_38 rfl 3 rfl ?_
        refine V_aload_n dX6_parseQuery_39 rfl 0 rfl ?_
        refine V_aload_n dX6_parseQuery_40 rfl 1 rfl ?_
        refine V_iload_n dX6_parseQuery_41 rfl 2 rfl ?_
        refine V_cVwI (As := [.ref l1, .int l2]) (hk1 this l1 l2 M7) (fun _ h => ho1 h) (ok_X6_parseTerm d) im_X6_parseTerm se_X6_parseTerm rfl (ci := 5) rfl ml_X6_32 ⟨⟨Nat.le_refl _, rm_loc (x := 24) (Nat.le_of_ble_eq_true rfl)⟩, (Nat.le_of_ble_eq_true rfl), (Nat.le_of_ble_eq_true rfl)⟩ dX6_parseQuery_42 rfl rfl rfl (Nat.le_of_ble_eq_true rfl) rfl rfl (fun x8 M9 => ?_)
        refine V_ior dX6_parseQuery_45 rfl ?_
        refine V_istore_n (L' := [(0, .ref this), (1, .ref l1), (2, .int l2), (3, .int (l3 ||| x8)), (4, .int l4)]) dX6_parseQuery_46 rfl (Nat.le_of_ble_eq_true rfl) rfl ?_
        refine V_iinc (y := (l4 + 1)) (L' := [(0, .ref this), (1, .ref l1), (2, .int l2), (3, .int (l3 ||| x8)), (4, .int (l4 + 1))]) dX6_parseQuery_47 rfl 4 rfl rfl (Nat.le_of_ble_eq_true rfl) rfl ?_
        refine V_goto (q := 10) dX6_parseQuery_50 (by decide) ?_
        exact ih this l1 l2 (l3 ||| x8) (l4 + 1) M9
theorem v_X6_parseQuery_b (r0 : Nat → Nat → Int32 → Mem → Option (Int32 × Mem)) (r1 : Nat → Nat → Int32 → Mem → Option (Int32 × Mem)) (r2 : Nat → Nat → Int32 → Mem → Option (Int32 × Mem)) (r3 : Nat → Nat → Int32 → Mem → Option (Int32 × Mem)) (r4 : Nat → Nat → Int32 → Mem → Option (Int32 × Mem)) (d : Nat) (hk0 : ∀ (this : Nat) (a1 : Nat) (a2 : Int32) (M : Mem), K (mi_X6_parseQuery d) [.ref this, .ref a1, .int a2] M (r0 this a1 a2 M) wI) (ho0 : ∀ {this : Nat} {a1 : Nat} {a2 : Int32} {M : Mem} {x}, r0 this a1 a2 M = some x → isO M 5 this = true) (hk1 : ∀ (this : Nat) (a1 : Nat) (a2 : Int32) (M : Mem), K (mi_X6_parseTerm d) [.ref this, .ref a1, .int a2] M (r1 this a1 a2 M) wI) (ho1 : ∀ {this : Nat} {a1 : Nat} {a2 : Int32} {M : Mem} {x}, r1 this a1 a2 M = some x → isO M 5 this = true) (hk2 : ∀ (this : Nat) (a1 : Nat) (a2 : Int32) (M : Mem), K (mi_X6_parseFactor d) [.ref this, .ref a1, .int a2] M (r2 this a1 a2 M) wI) (ho2 : ∀ {this : Nat} {a1 : Nat} {a2 : Int32} {M : Mem} {x}, r2 this a1 a2 M = some x → isO M 5 this = true) (hk3 : ∀ (this : Nat) (a1 : Nat) (a2 : Int32) (M : Mem), K (mi_X6_parseNegated d) [.ref this, .ref a1, .int a2] M (r3 this a1 a2 M) wI) (ho3 : ∀ {this : Nat} {a1 : Nat} {a2 : Int32} {M : Mem} {x}, r3 this a1 a2 M = some x → isO M 5 this = true) (hk4 : ∀ (this : Nat) (a1 : Nat) (a2 : Int32) (M : Mem), K (mi_X6_parseEnclosed d) [.ref this, .ref a1, .int a2] M (r4 this a1 a2 M) wI) (ho4 : ∀ {this : Nat} {a1 : Nat} {a2 : Int32} {M : Mem} {x}, r4 this a1 a2 M = some x → isO M 5 this = true) (this : Nat) (a1 : Nat) (a2 : Int32) (M : Mem) : V (mi_X6_parseQuery (d + 1)) 0 [(0, .ref this), (1, .ref a1), (2, .int a2)] [] M 0 0 (b_X6_parseQuery r0 r1 r2 r3 r4 this a1 a2 M) wI := by
  unfold b_X6_parseQuery
  refine V_ob fun _ _ => ?_
  refine V_aload_n dX6_parseQuery_0 rfl 0 rfl ?_
  refine V_aload_n dX6_parseQuery_1 rfl 1 rfl ?_
  refine V_iload_n dX6_parseQuery_2 rfl 2 rfl ?_
  refine V_cVwI (As := [.ref a1, .int a2]) (hk1 this a1 a2 M) (fun _ h => ho1 h) (ok_X6_parseTerm d) im_X6_parseTerm se_X6_parseTerm rfl (ci := 5) rfl ml_X6_32 ⟨⟨Nat.le_refl _, rm_loc (x := 24) (Nat.le_of_ble_eq_true rfl)⟩, (Nat.le_of_ble_eq_true rfl), (Nat.le_of_ble_eq_true rfl)⟩ dX6_parseQuery_3 rfl rfl rfl (Nat.le_of_ble_eq_true rfl) rfl rfl (fun x1 M2 => ?_)
  refine V_istore_n (L' := [(0, .ref this), (1, .ref a1), (2, .int a2), (3, .int x1)]) dX6_parseQuery_6 rfl (Nat.le_of_ble_eq_true rfl) rfl ?_
  refine V_iconst (x := 0) dX6_parseQuery_7 rfl rfl ?_
  refine V_istore (L' := [(0, .ref this), (1, .ref a1), (2, .int a2), (3, .int x1), (4, .int 0)]) dX6_parseQuery_8 rfl (Nat.le_of_ble_eq_true rfl) rfl ?_
  exact v_X6_parseQuery_10 r0 r1 r2 r3 r4 d hk0 ho0 hk1 ho1 hk2 ho2 hk3 ho3 hk4 ho4 FU this a1 a2 x1 0 M2
theorem k_X6_parseQuery_b (r0 : Nat → Nat → Int32 → Mem → Option (Int32 × Mem)) (r1 : Nat → Nat → Int32 → Mem → Option (Int32 × Mem)) (r2 : Nat → Nat → Int32 → Mem → Option (Int32 × Mem)) (r3 : Nat → Nat → Int32 → Mem → Option (Int32 × Mem)) (r4 : Nat → Nat → Int32 → Mem → Option (Int32 × Mem)) (d : Nat) (hk0 : ∀ (this : Nat) (a1 : Nat) (a2 : Int32) (M : Mem), K (mi_X6_parseQuery d) [.ref this, .ref a1, .int a2] M (r0 this a1 a2 M) wI) (ho0 : ∀ {this : Nat} {a1 : Nat} {a2 : Int32} {M : Mem} {x}, r0 this a1 a2 M = some x → isO M 5 this = true) (hk1 : ∀ (this : Nat) (a1 : Nat) (a2 : Int32) (M : Mem), K (mi_X6_parseTerm d) [.ref this, .ref a1, .int a2] M (r1 this a1 a2 M) wI) (ho1 : ∀ {this : Nat} {a1 : Nat} {a2 : Int32} {M : Mem} {x}, r1 this a1 a2 M = some x → isO M 5 this = true) (hk2 : ∀ (this : Nat) (a1 : Nat) (a2 : Int32) (M : Mem), K (mi_X6_parseFactor d) [.ref this, .ref a1, .int a2] M (r2 this a1 a2 M) wI) (ho2 : ∀ {this : Nat} {a1 : Nat} {a2 : Int32} {M : Mem} {x}, r2 this a1 a2 M = some x → isO M 5 this = true) (hk3 : ∀ (this : Nat) (a1 : Nat) (a2 : Int32) (M : Mem), K (mi_X6_parseNegated d) [.ref this, .ref a1, .int a2] M (r3 this a1 a2 M) wI) (ho3 : ∀ {this : Nat} {a1 : Nat} {a2 : Int32} {M : Mem} {x}, r3 this a1 a2 M = some x → isO M 5 this = true) (hk4 : ∀ (this : Nat) (a1 : Nat) (a2 : Int32) (M : Mem), K (mi_X6_parseEnclosed d) [.ref this, .ref a1, .int a2] M (r4 this a1 a2 M) wI) (ho4 : ∀ {this : Nat} {a1 : Nat} {a2 : Int32} {M : Mem} {x}, r4 this a1 a2 M = some x → isO M 5 this = true) (this : Nat) (a1 : Nat) (a2 : Int32) (M : Mem) : K (mi_X6_parseQuery (d + 1)) [.ref this, .ref a1, .int a2] M (b_X6_parseQuery r0 r1 r2 r3 r4 this a1 a2 M) wI := K_of_V (ok_X6_parseQuery (d + 1)) (Nat.le_of_ble_eq_true rfl) (v_X6_parseQuery_b r0 r1 r2 r3 r4 d hk0 ho0 hk1 ho1 hk2 ho2 hk3 ho3 hk4 ho4 this a1 a2 M)
theorem o_X6_parseQuery_b (r0 : Nat → Nat → Int32 → Mem → Option (Int32 × Mem)) (r1 : Nat → Nat → Int32 → Mem → Option (Int32 × Mem)) (r2 : Nat → Nat → Int32 → Mem → Option (Int32 × Mem)) (r3 : Nat → Nat → Int32 → Mem → Option (Int32 × Mem)) (r4 : Nat → Nat → Int32 → Mem → Option (Int32 × Mem)) : ∀ {this : Nat} {a1 : Nat} {a2 : Int32} {M : Mem} {x}, b_X6_parseQuery r0 r1 r2 r3 r4 this a1 a2 M = some x → isO M 5 this = true := fun h => (ob_of h).1
theorem v_X6_parseTerm_10 (r0 : Nat → Nat → Int32 → Mem → Option (Int32 × Mem)) (r1 : Nat → Nat → Int32 → Mem → Option (Int32 × Mem)) (r2 : Nat → Nat → Int32 → Mem → Option (Int32 × Mem)) (r3 : Nat → Nat → Int32 → Mem → Option (Int32 × Mem)) (r4 : Nat → Nat → Int32 → Mem → Option (Int32 × Mem)) (d : Nat) (hk0 : ∀ (this : Nat) (a1 : Nat) (a2 : Int32) (M : Mem), K (mi_X6_parseQuery d) [.ref this, .ref a1, .int a2] M (r0 this a1 a2 M) wI) (ho0 : ∀ {this : Nat} {a1 : Nat} {a2 : Int32} {M : Mem} {x}, r0 this a1 a2 M = some x → isO M 5 this = true) (hk1 : ∀ (this : Nat) (a1 : Nat) (a2 : Int32) (M : Mem), K (mi_X6_parseTerm d) [.ref this, .ref a1, .int a2] M (r1 this a1 a2 M) wI) (ho1 : ∀ {this : Nat} {a1 : Nat} {a2 : Int32} {M : Mem} {x}, r1 this a1 a2 M = some x → isO M 5 this = true) (hk2 : ∀ (this : Nat) (a1 : Nat) (a2 : Int32) (M : Mem), K (mi_X6_parseFactor d) [.ref this, .ref a1, .int a2] M (r2 this a1 a2 M) wI) (ho2 : ∀ {this : Nat} {a1 : Nat} {a2 : Int32} {M : Mem} {x}, r2 this a1 a2 M = some x → isO M 5 this = true) (hk3 : ∀ (this : Nat) (a1 : Nat) (a2 : Int32) (M : Mem), K (mi_X6_parseNegated d) [.ref this, .ref a1, .int a2] M (r3 this a1 a2 M) wI) (ho3 : ∀ {this : Nat} {a1 : Nat} {a2 : Int32} {M : Mem} {x}, r3 this a1 a2 M = some x → isO M 5 this = true) (hk4 : ∀ (this : Nat) (a1 : Nat) (a2 : Int32) (M : Mem), K (mi_X6_parseEnclosed d) [.ref this, .ref a1, .int a2] M (r4 this a1 a2 M) wI) (ho4 : ∀ {this : Nat} {a1 : Nat} {a2 : Int32} {M : Mem} {x}, r4 this a1 a2 M = some x → isO M 5 this = true) : ∀ (fu : Nat) (this : Nat) (l1 : Nat) (l2 : Int32) (l3 : Int32) (l4 : Int32) (M : Mem), V (mi_X6_parseTerm (d + 1)) 10 [(0, .ref this), (1, .ref l1), (2, .int l2), (3, .int l3), (4, .int l4)] [] M 0 0 (f_X6_parseTerm_10 r0 r1 r2 r3 r4 fu this l1 l2 l3 l4 M) wI := by
  intro fu
  induction fu with
  | zero => intros; exact V_none
  | succ fu ih =>
    intro this l1 l2 l3 l4 M
    show V (mi_X6_parseTerm (d + 1)) 10 [(0, .ref this), (1, .ref l1), (2, .int l2), (3, .int l3), (4, .int l4)] [] M 0 0 (f_X6_parseTerm_10 r0 r1 r2 r3 r4 (fu + 1) this l1 l2 l3 l4 M) wI
    unfold f_X6_parseTerm_10
    refine V_iload dX6_parseTerm_10 rfl 4 rfl ?_
    refine V_sipush (x := 700) dX6_parseTerm_12 rfl rfl ?_
    refine V_icmp_ge (q := 40) (q2 := 18) dX6_parseTerm_15 (by decide) rfl ?_ ?_
    · refine V_iload_n dX6_parseTerm_40 rfl 3 rfl ?_
      exact V_iret dX6_parseTerm_41 rfl rfl ⟨(Nat.le_of_ble_eq_true rfl), (Nat.le_of_ble_eq_true rfl)⟩
    · refine V_aload_n dX6_parseTerm_18 rfl 0 rfl ?_
      refine V_cVeZ (As := []) (k_X6_beginsFactor this M) (fun _ h => o_X6_beginsFactor h) ok_X6_beginsFactor im_X6_beginsFactor se_X6_beginsFactor rfl (ci := 5) rfl ml_X6_51 ⟨⟨Nat.le_trans (m := 5) (Nat.le_of_ble_eq_true rfl) (Nat.le_add_right _ _), Nat.le_trans (m := 123) (Nat.le_of_ble_eq_true rfl) (Nat.le_add_right _ _)⟩, (Nat.le_of_ble_eq_true rfl), (Nat.le_of_ble_eq_true rfl)⟩ dX6_parseTerm_19 rfl rfl rfl (Nat.le_of_ble_eq_true rfl) rfl rfl (fun x3 => ?_)
      refine V_ifz_eq (q := 40) (q2 := 25) dX6_parseTerm_22 (by decide) rfl ?_ ?_
      · refine V_iload_n dX6_parseTerm_40 rfl 3 rfl ?_
        exact V_iret dX6_parseTerm_41 rfl rfl ⟨(Nat.le_of_ble_eq_true rfl), (Nat.le_of_ble_eq_true rfl)⟩
      · refine V_iload_n dX6_parseTerm_25 rfl 3 rfl ?_
        refine V_aload_n dX6_parseTerm_26 rfl 0 rfl ?_
        refine V_aload_n dX6_parseTerm_27 rfl 1 rfl ?_
        refine V_iload_n dX6_parseTerm_28 rfl 2 rfl ?_
        refine V_cVwI (As := [.ref l1, .int l2]) (hk2 this l1 l2 M) (fun _ h => ho2 h) (ok_X6_parseFactor d) im_X6_parseFactor se_X6_parseFactor rfl (ci := 5) rfl ml_X6_48 ⟨⟨Nat.le_refl _, rm_loc (x := 24) (Nat.le_of_ble_eq_true rfl)⟩, (Nat.le_of_ble_eq_true rfl), (Nat.le_of_ble_eq_true rfl)⟩ dX6_parseTerm_29 rfl rfl rfl (Nat.le_of_ble_eq_true rfl) rfl rfl (fun x4 M5 => ?_)
        refine V_iand dX6_parseTerm_32 rfl ?_
        refine V_istore_n (L' := [(0, .ref this), (1, .ref l1), (2, .int l2), (3, .int (l3 &&& x4)), (4, .int l4)]) dX6_parseTerm_33 rfl (Nat.le_of_ble_eq_true rfl) rfl ?_
        refine V_iinc (y := (l4 + 1)) (L' := [(0, .ref this), (1, .ref l1), (2, .int l2), (3, .int (l3 &&& x4)), (4, .int (l4 + 1))]) dX6_parseTerm_34 rfl 4 rfl rfl (Nat.le_of_ble_eq_true rfl) rfl ?_
        refine V_goto (q := 10) dX6_parseTerm_37 (by decide) ?_
        exact ih this l1 l2 (l3 &&& x4) (l4 + 1) M5
theorem v_X6_parseTerm_b (r0 : Nat → Nat → Int32 → Mem → Option (Int32 × Mem)) (r1 : Nat → Nat → Int32 → Mem → Option (Int32 × Mem)) (r2 : Nat → Nat → Int32 → Mem → Option (Int32 × Mem)) (r3 : Nat → Nat → Int32 → Mem → Option (Int32 × Mem)) (r4 : Nat → Nat → Int32 → Mem → Option (Int32 × Mem)) (d : Nat) (hk0 : ∀ (this : Nat) (a1 : Nat) (a2 : Int32) (M : Mem), K (mi_X6_parseQuery d) [.ref this, .ref a1, .int a2] M (r0 this a1 a2 M) wI) (ho0 : ∀ {this : Nat} {a1 : Nat} {a2 : Int32} {M : Mem} {x}, r0 this a1 a2 M = some x → isO M 5 this = true) (hk1 : ∀ (this : Nat) (a1 : Nat) (a2 : Int32) (M : Mem), K (mi_X6_parseTerm d) [.ref this, .ref a1, .int a2] M (r1 this a1 a2 M) wI) (ho1 : ∀ {this : Nat} {a1 : Nat} {a2 : Int32} {M : Mem} {x}, r1 this a1 a2 M = some x → isO M 5 this = true) (hk2 : ∀ (this : Nat) (a1 : Nat) (a2 : Int32) (M : Mem), K (mi_X6_parseFactor d) [.ref this, .ref a1, .int a2] M (r2 this a1 a2 M) wI) (ho2 : ∀ {this : Nat} {a1 : Nat} {a2 : Int32} {M : Mem} {x}, r2 this a1 a2 M = some x → isO M 5 this = true) (hk3 : ∀ (this : Nat) (a1 : Nat) (a2 : Int32) (M : Mem), K (mi_X6_parseNegated d) [.ref this, .ref a1, .int a2] M (r3 this a1 a2 M) wI) (ho3 : ∀ {this : Nat} {a1 : Nat} {a2 : Int32} {M : Mem} {x}, r3 this a1 a2 M = some x → isO M 5 this = true) (hk4 : ∀ (this : Nat) (a1 : Nat) (a2 : Int32) (M : Mem), K (mi_X6_parseEnclosed d) [.ref this, .ref a1, .int a2] M (r4 this a1 a2 M) wI) (ho4 : ∀ {this : Nat} {a1 : Nat} {a2 : Int32} {M : Mem} {x}, r4 this a1 a2 M = some x → isO M 5 this = true) (this : Nat) (a1 : Nat) (a2 : Int32) (M : Mem) : V (mi_X6_parseTerm (d + 1)) 0 [(0, .ref this), (1, .ref a1), (2, .int a2)] [] M 0 0 (b_X6_parseTerm r0 r1 r2 r3 r4 this a1 a2 M) wI := by
  unfold b_X6_parseTerm
  refine V_ob fun _ _ => ?_
  refine V_aload_n dX6_parseTerm_0 rfl 0 rfl ?_
  refine V_aload_n dX6_parseTerm_1 rfl 1 rfl ?_
  refine V_iload_n dX6_parseTerm_2 rfl 2 rfl ?_
  refine V_cVwI (As := [.ref a1, .int a2]) (hk2 this a1 a2 M) (fun _ h => ho2 h) (ok_X6_parseFactor d) im_X6_parseFactor se_X6_parseFactor rfl (ci := 5) rfl ml_X6_48 ⟨⟨Nat.le_refl _, rm_loc (x := 24) (Nat.le_of_ble_eq_true rfl)⟩, (Nat.le_of_ble_eq_true rfl), (Nat.le_of_ble_eq_true rfl)⟩ dX6_parseTerm_3 rfl rfl rfl (Nat.le_of_ble_eq_true rfl) rfl rfl (fun x1 M2 => ?_)
  refine V_istore_n (L' := [(0, .ref this), (1, .ref a1), (2, .int a2), (3, .int x1)]) dX6_parseTerm_6 rfl (Nat.le_of_ble_eq_true rfl) rfl ?_
  refine V_iconst (x := 0) dX6_parseTerm_7 rfl rfl ?_
  refine V_istore (L' := [(0, .ref this), (1, .ref a1), (2, .int a2), (3, .int x1), (4, .int 0)]) dX6_parseTerm_8 rfl (Nat.le_of_ble_eq_true rfl) rfl ?_
  exact v_X6_parseTerm_10 r0 r1 r2 r3 r4 d hk0 ho0 hk1 ho1 hk2 ho2 hk3 ho3 hk4 ho4 FU this a1 a2 x1 0 M2
theorem k_X6_parseTerm_b (r0 : Nat → Nat → Int32 → Mem → Option (Int32 × Mem)) (r1 : Nat → Nat → Int32 → Mem → Option (Int32 × Mem)) (r2 : Nat → Nat → Int32 → Mem → Option (Int32 × Mem)) (r3 : Nat → Nat → Int32 → Mem → Option (Int32 × Mem)) (r4 : Nat → Nat → Int32 → Mem → Option (Int32 × Mem)) (d : Nat) (hk0 : ∀ (this : Nat) (a1 : Nat) (a2 : Int32) (M : Mem), K (mi_X6_parseQuery d) [.ref this, .ref a1, .int a2] M (r0 this a1 a2 M) wI) (ho0 : ∀ {this : Nat} {a1 : Nat} {a2 : Int32} {M : Mem} {x}, r0 this a1 a2 M = some x → isO M 5 this = true) (hk1 : ∀ (this : Nat) (a1 : Nat) (a2 : Int32) (M : Mem), K (mi_X6_parseTerm d) [.ref this, .ref a1, .int a2] M (r1 this a1 a2 M) wI) (ho1 : ∀ {this : Nat} {a1 : Nat} {a2 : Int32} {M : Mem} {x}, r1 this a1 a2 M = some x → isO M 5 this = true) (hk2 : ∀ (this : Nat) (a1 : Nat) (a2 : Int32) (M : Mem), K (mi_X6_parseFactor d) [.ref this, .ref a1, .int a2] M (r2 this a1 a2 M) wI) (ho2 : ∀ {this : Nat} {a1 : Nat} {a2 : Int32} {M : Mem} {x}, r2 this a1 a2 M = some x → isO M 5 this = true) (hk3 : ∀ (this : Nat) (a1 : Nat) (a2 : Int32) (M : Mem), K (mi_X6_parseNegated d) [.ref this, .ref a1, .int a2] M (r3 this a1 a2 M) wI) (ho3 : ∀ {this : Nat} {a1 : Nat} {a2 : Int32} {M : Mem} {x}, r3 this a1 a2 M = some x → isO M 5 this = true) (hk4 : ∀ (this : Nat) (a1 : Nat) (a2 : Int32) (M : Mem), K (mi_X6_parseEnclosed d) [.ref this, .ref a1, .int a2] M (r4 this a1 a2 M) wI) (ho4 : ∀ {this : Nat} {a1 : Nat} {a2 : Int32} {M : Mem} {x}, r4 this a1 a2 M = some x → isO M 5 this = true) (this : Nat) (a1 : Nat) (a2 : Int32) (M : Mem) : K (mi_X6_parseTerm (d + 1)) [.ref this, .ref a1, .int a2] M (b_X6_parseTerm r0 r1 r2 r3 r4 this a1 a2 M) wI := K_of_V (ok_X6_parseTerm (d + 1)) (Nat.le_of_ble_eq_true rfl) (v_X6_parseTerm_b r0 r1 r2 r3 r4 d hk0 ho0 hk1 ho1 hk2 ho2 hk3 ho3 hk4 ho4 this a1 a2 M)
theorem o_X6_parseTerm_b (r0 : Nat → Nat → Int32 → Mem → Option (Int32 × Mem)) (r1 : Nat → Nat → Int32 → Mem → Option (Int32 × Mem)) (r2 : Nat → Nat → Int32 → Mem → Option (Int32 × Mem)) (r3 : Nat → Nat → Int32 → Mem → Option (Int32 × Mem)) (r4 : Nat → Nat → Int32 → Mem → Option (Int32 × Mem)) : ∀ {this : Nat} {a1 : Nat} {a2 : Int32} {M : Mem} {x}, b_X6_parseTerm r0 r1 r2 r3 r4 this a1 a2 M = some x → isO M 5 this = true := fun h => (ob_of h).1
theorem v_X6_parseFactor_129 (r0 : Nat → Nat → Int32 → Mem → Option (Int32 × Mem)) (r1 : Nat → Nat → Int32 → Mem → Option (Int32 × Mem)) (r2 : Nat → Nat → Int32 → Mem → Option (Int32 × Mem)) (r3 : Nat → Nat → Int32 → Mem → Option (Int32 × Mem)) (r4 : Nat → Nat → Int32 → Mem → Option (Int32 × Mem)) (d : Nat) (hk0 : ∀ (this : Nat) (a1 : Nat) (a2 : Int32) (M : Mem), K (mi_X6_parseQuery d) [.ref this, .ref a1, .int a2] M (r0 this a1 a2 M) wI) (ho0 : ∀ {this : Nat} {a1 : Nat} {a2 : Int32} {M : Mem} {x}, r0 this a1 a2 M = some x → isO M 5 this = true) (hk1 : ∀ (this : Nat) (a1 : Nat) (a2 : Int32) (M : Mem), K (mi_X6_parseTerm d) [.ref this, .ref a1, .int a2] M (r1 this a1 a2 M) wI) (ho1 : ∀ {this : Nat} {a1 : Nat} {a2 : Int32} {M : Mem} {x}, r1 this a1 a2 M = some x → isO M 5 this = true) (hk2 : ∀ (this : Nat) (a1 : Nat) (a2 : Int32) (M : Mem), K (mi_X6_parseFactor d) [.ref this, .ref a1, .int a2] M (r2 this a1 a2 M) wI) (ho2 : ∀ {this : Nat} {a1 : Nat} {a2 : Int32} {M : Mem} {x}, r2 this a1 a2 M = some x → isO M 5 this = true) (hk3 : ∀ (this : Nat) (a1 : Nat) (a2 : Int32) (M : Mem), K (mi_X6_parseNegated d) [.ref this, .ref a1, .int a2] M (r3 this a1 a2 M) wI) (ho3 : ∀ {this : Nat} {a1 : Nat} {a2 : Int32} {M : Mem} {x}, r3 this a1 a2 M = some x → isO M 5 this = true) (hk4 : ∀ (this : Nat) (a1 : Nat) (a2 : Int32) (M : Mem), K (mi_X6_parseEnclosed d) [.ref this, .ref a1, .int a2] M (r4 this a1 a2 M) wI) (ho4 : ∀ {this : Nat} {a1 : Nat} {a2 : Int32} {M : Mem} {x}, r4 this a1 a2 M = some x → isO M 5 this = true) (this : Nat) (l1 : Nat) (l2 : Int32) (l4 : Bool) (M : Mem) : V (mi_X6_parseFactor (d + 1)) 129 [(0, .ref this), (1, .ref l1), (2, .int l2), (4, .int (b2i l4))] [] M 0 0 (f_X6_parseFactor_129 r0 r1 r2 r3 r4 this l1 l2 l4 M) wI := by
  unfold f_X6_parseFactor_129
  refine V_iload_n dX6_parseFactor_129 rfl 2 rfl ?_
  refine V_iconst (x := 5) dX6_parseFactor_130 rfl rfl ?_
  refine V_icmp_lt (q := 144) (q2 := 134) dX6_parseFactor_131 (by decide) rfl ?_ ?_
  · refine V_aload_n dX6_parseFactor_144 rfl 0 rfl ?_
    refine V_getR dX6_parseFactor_145 rfl (ci := 5) (T := TX6) rfl (by decide) fl_X6_9 (fun x11 => ?_)
    refine V_cVwV (As := []) (k_X10_next x11 M) (fun _ h => o_X10_next h) ok_X10_next im_X10_next se_X10_next rfl (ci := 9) rfl ml_X6_45 ⟨⟨Nat.le_trans (m := 5) (Nat.le_of_ble_eq_true rfl) (Nat.le_add_right _ _), Nat.le_trans (m := 123) (Nat.le_of_ble_eq_true rfl) (Nat.le_add_right _ _)⟩, (Nat.le_of_ble_eq_true rfl), (Nat.le_of_ble_eq_true rfl)⟩ dX6_parseFactor_148 rfl rfl rfl (Nat.le_of_ble_eq_true rfl) rfl rfl (fun M13 => ?_)
    refine V_iload dX6_parseFactor_151 rfl 3 rfl ?_
    refine V_ifz_eq (q := 167) (q2 := 156) dX6_parseFactor_153 (by decide) rfl ?_ ?_
    · refine V_aload_n dX6_parseFactor_167 rfl 0 rfl ?_
      refine V_aload_n dX6_parseFactor_168 rfl 1 rfl ?_
      refine V_iload_n dX6_parseFactor_169 rfl 2 rfl ?_
      refine V_iconst (x := 1) dX6_parseFactor_170 rfl rfl ?_
      refine V_iadd dX6_parseFactor_171 rfl ?_
      refine V_cVwI (As := [.ref l1, .int (l2 + 1)]) (hk4 this l1 (l2 + 1) M13) (fun _ h => ho4 h) (ok_X6_parseEnclosed d) im_X6_parseEnclosed se_X6_parseEnclosed rfl (ci := 5) rfl ml_X6_90 ⟨⟨Nat.le_refl _, rm_loc (x := 23) (Nat.le_of_ble_eq_true rfl)⟩, (Nat.le_of_ble_eq_true rfl), (Nat.le_of_ble_eq_true rfl)⟩ dX6_parseFactor_172 rfl rfl rfl (Nat.le_of_ble_eq_true rfl) rfl rfl (fun x14 M15 => ?_)
      exact V_iret dX6_parseFactor_175 rfl rfl ⟨(Nat.le_of_ble_eq_true rfl), (Nat.le_of_ble_eq_true rfl)⟩
    · refine V_aload_n dX6_parseFactor_156 rfl 0 rfl ?_
      refine V_aload_n dX6_parseFactor_157 rfl 1 rfl ?_
      refine V_iload_n dX6_parseFactor_158 rfl 2 rfl ?_
      refine V_iconst (x := 1) dX6_parseFactor_159 rfl rfl ?_
      refine V_iadd dX6_parseFactor_160 rfl ?_
      refine V_cVwI (As := [.ref l1, .int (l2 + 1)]) (hk3 this l1 (l2 + 1) M13) (fun _ h => ho3 h) (ok_X6_parseNegated d) im_X6_parseNegated se_X6_parseNegated rfl (ci := 5) rfl ml_X6_87 ⟨⟨Nat.le_refl _, rm_loc (x := 22) (Nat.le_of_ble_eq_true rfl)⟩, (Nat.le_of_ble_eq_true rfl), (Nat.le_of_ble_eq_true rfl)⟩ dX6_parseFactor_161 rfl rfl rfl (Nat.le_of_ble_eq_true rfl) rfl rfl (fun x16 M17 => ?_)
      refine V_goto (q := 175) dX6_parseFactor_164 (by decide) ?_
      exact V_iret dX6_parseFactor_175 rfl rfl ⟨(Nat.le_of_ble_eq_true rfl), (Nat.le_of_ble_eq_true rfl)⟩
  · refine V_aload_n dX6_parseFactor_134 rfl 0 rfl ?_
    refine V_getR dX6_parseFactor_135 rfl (ci := 5) (T := TX6) rfl (by decide) fl_X6_9 (fun x18 => ?_)
    refine V_iconst (x := 5) dX6_parseFactor_138 rfl rfl ?_
    refine V_cVwV (As := [.int 5]) (k_X10_fail x18 5 M) (fun _ h => o_X10_fail h) ok_X10_fail im_X10_fail se_X10_fail rfl (ci := 9) rfl ml_X6_28 ⟨⟨Nat.le_trans (m := 5) (Nat.le_of_ble_eq_true rfl) (Nat.le_add_right _ _), Nat.le_trans (m := 123) (Nat.le_of_ble_eq_true rfl) (Nat.le_add_right _ _)⟩, (Nat.le_of_ble_eq_true rfl), (Nat.le_of_ble_eq_true rfl)⟩ dX6_parseFactor_139 rfl rfl rfl (Nat.le_of_ble_eq_true rfl) rfl rfl (fun M20 => ?_)
    refine V_iconst (x := 0) dX6_parseFactor_142 rfl rfl ?_
    exact V_iret dX6_parseFactor_143 rfl rfl ⟨(Nat.le_of_ble_eq_true rfl), (Nat.le_of_ble_eq_true rfl)⟩
theorem v_X6_parseFactor_b (r0 : Nat → Nat → Int32 → Mem → Option (Int32 × Mem)) (r1 : Nat → Nat → Int32 → Mem → Option (Int32 × Mem)) (r2 : Nat → Nat → Int32 → Mem → Option (Int32 × Mem)) (r3 : Nat → Nat → Int32 → Mem → Option (Int32 × Mem)) (r4 : Nat → Nat → Int32 → Mem → Option (Int32 × Mem)) (d : Nat) (hk0 : ∀ (this : Nat) (a1 : Nat) (a2 : Int32) (M : Mem), K (mi_X6_parseQuery d) [.ref this, .ref a1, .int a2] M (r0 this a1 a2 M) wI) (ho0 : ∀ {this : Nat} {a1 : Nat} {a2 : Int32} {M : Mem} {x}, r0 this a1 a2 M = some x → isO M 5 this = true) (hk1 : ∀ (this : Nat) (a1 : Nat) (a2 : Int32) (M : Mem), K (mi_X6_parseTerm d) [.ref this, .ref a1, .int a2] M (r1 this a1 a2 M) wI) (ho1 : ∀ {this : Nat} {a1 : Nat} {a2 : Int32} {M : Mem} {x}, r1 this a1 a2 M = some x → isO M 5 this = true) (hk2 : ∀ (this : Nat) (a1 : Nat) (a2 : Int32) (M : Mem), K (mi_X6_parseFactor d) [.ref this, .ref a1, .int a2] M (r2 this a1 a2 M) wI) (ho2 : ∀ {this : Nat} {a1 : Nat} {a2 : Int32} {M : Mem} {x}, r2 this a1 a2 M = some x → isO M 5 this = true) (hk3 : ∀ (this : Nat) (a1 : Nat) (a2 : Int32) (M : Mem), K (mi_X6_parseNegated d) [.ref this, .ref a1, .int a2] M (r3 this a1 a2 M) wI) (ho3 : ∀ {this : Nat} {a1 : Nat} {a2 : Int32} {M : Mem} {x}, r3 this a1 a2 M = some x → isO M 5 this = true) (hk4 : ∀ (this : Nat) (a1 : Nat) (a2 : Int32) (M : Mem), K (mi_X6_parseEnclosed d) [.ref this, .ref a1, .int a2] M (r4 this a1 a2 M) wI) (ho4 : ∀ {this : Nat} {a1 : Nat} {a2 : Int32} {M : Mem} {x}, r4 this a1 a2 M = some x → isO M 5 this = true) (this : Nat) (a1 : Nat) (a2 : Int32) (M : Mem) : V (mi_X6_parseFactor (d + 1)) 0 [(0, .ref this), (1, .ref a1), (2, .int a2)] [] M 0 0 (b_X6_parseFactor r0 r1 r2 r3 r4 this a1 a2 M) wI := by
  unfold b_X6_parseFactor
  refine V_ob fun _ _ => ?_
  refine V_aload_n dX6_parseFactor_0 rfl 0 rfl ?_
  refine V_getR dX6_parseFactor_1 rfl (ci := 5) (T := TX6) rfl (by decide) fl_X6_9 (fun x1 => ?_)
  refine V_cVeI (As := []) (k_X10_flag x1 M) (fun _ h => o_X10_flag h) ok_X10_flag im_X10_flag se_X10_flag rfl (ci := 9) rfl ml_X6_64 ⟨⟨Nat.le_trans (m := 5) (Nat.le_of_ble_eq_true rfl) (Nat.le_add_right _ _), Nat.le_trans (m := 123) (Nat.le_of_ble_eq_true rfl) (Nat.le_add_right _ _)⟩, (Nat.le_of_ble_eq_true rfl), (Nat.le_of_ble_eq_true rfl)⟩ dX6_parseFactor_4 rfl rfl rfl (Nat.le_of_ble_eq_true rfl) rfl rfl (fun x2 => ?_)
  refine V_istore_n (L' := [(0, .ref this), (1, .ref a1), (2, .int a2), (3, .int x2)]) dX6_parseFactor_7 rfl (Nat.le_of_ble_eq_true rfl) rfl ?_
  refine V_iload_n dX6_parseFactor_8 rfl 3 rfl ?_
  refine V_if_eq (q := 25) (q2 := 12) dX6_parseFactor_9 (by decide) rfl ?_ ?_
  · refine V_aload_n dX6_parseFactor_25 rfl 0 rfl ?_
    refine V_getR dX6_parseFactor_26 rfl (ci := 5) (T := TX6) rfl (by decide) fl_X6_9 (fun x3 => ?_)
    refine V_kw (i := 11) (by decide) fk_X6_61 dX6_parseFactor_29 rfl ?_
    refine V_cVeZ (As := [.ref 11]) (k_X10_isKeyword x3 11 M) (fun _ h => o_X10_isKeyword h) ok_X10_isKeyword im_X10_isKeyword se_X10_isKeyword rfl (ci := 9) rfl ml_X6_41 ⟨⟨Nat.le_trans (m := 5) (Nat.le_of_ble_eq_true rfl) (Nat.le_add_right _ _), Nat.le_trans (m := 123) (Nat.le_of_ble_eq_true rfl) (Nat.le_add_right _ _)⟩, (Nat.le_of_ble_eq_true rfl), (Nat.le_of_ble_eq_true rfl)⟩ dX6_parseFactor_32 rfl rfl rfl (Nat.le_of_ble_eq_true rfl) rfl rfl (fun x4 => ?_)
    refine V_ifz_eq (q := 50) (q2 := 38) dX6_parseFactor_35 (by decide) rfl ?_ ?_
    · refine V_aload_n dX6_parseFactor_50 rfl 0 rfl ?_
      refine V_getR dX6_parseFactor_51 rfl (ci := 5) (T := TX6) rfl (by decide) fl_X6_9 (fun x5 => ?_)
      refine V_kw (i := 3) (by decide) fk_X6_68 dX6_parseFactor_54 rfl ?_
      refine V_cVeZ (As := [.ref 3]) (k_X10_isKeyword x5 3 M) (fun _ h => o_X10_isKeyword h) ok_X10_isKeyword im_X10_isKeyword se_X10_isKeyword rfl (ci := 9) rfl ml_X6_41 ⟨⟨Nat.le_trans (m := 5) (Nat.le_of_ble_eq_true rfl) (Nat.le_add_right _ _), Nat.le_trans (m := 123) (Nat.le_of_ble_eq_true rfl) (Nat.le_add_right _ _)⟩, (Nat.le_of_ble_eq_true rfl), (Nat.le_of_ble_eq_true rfl)⟩ dX6_parseFactor_57 rfl rfl rfl (Nat.le_of_ble_eq_true rfl) rfl rfl (fun x6 => ?_)
      refine V_ifz_eq (q := 70) (q2 := 63) dX6_parseFactor_60 (by decide) rfl ?_ ?_
      · refine V_aload_n dX6_parseFactor_70 rfl 0 rfl ?_
        refine V_getR dX6_parseFactor_71 rfl (ci := 5) (T := TX6) rfl (by decide) fl_X6_9 (fun x7 => ?_)
        refine V_kw (i := 12) (by decide) fk_X6_71 dX6_parseFactor_74 rfl ?_
        refine V_cVeZ (As := [.ref 12]) (k_X10_isKeyword x7 12 M) (fun _ h => o_X10_isKeyword h) ok_X10_isKeyword im_X10_isKeyword se_X10_isKeyword rfl (ci := 9) rfl ml_X6_41 ⟨⟨Nat.le_trans (m := 5) (Nat.le_of_ble_eq_true rfl) (Nat.le_add_right _ _), Nat.le_trans (m := 123) (Nat.le_of_ble_eq_true rfl) (Nat.le_add_right _ _)⟩, (Nat.le_of_ble_eq_true rfl), (Nat.le_of_ble_eq_true rfl)⟩ dX6_parseFactor_77 rfl rfl rfl (Nat.le_of_ble_eq_true rfl) rfl rfl (fun x8 => ?_)
        refine V_ifz_eq (q := 90) (q2 := 83) dX6_parseFactor_80 (by decide) rfl ?_ ?_
        · refine V_aload_n dX6_parseFactor_90 rfl 0 rfl ?_
          refine V_getR dX6_parseFactor_91 rfl (ci := 5) (T := TX6) rfl (by decide) fl_X6_9 (fun x9 => ?_)
          refine V_kw (i := 13) (by decide) fk_X6_54 dX6_parseFactor_94 rfl ?_
          refine V_cVeZ (As := [.ref 13]) (k_X10_isKeyword x9 13 M) (fun _ h => o_X10_isKeyword h) ok_X10_isKeyword im_X10_isKeyword se_X10_isKeyword rfl (ci := 9) rfl ml_X6_41 ⟨⟨Nat.le_trans (m := 5) (Nat.le_of_ble_eq_true rfl) (Nat.le_add_right _ _), Nat.le_trans (m := 123) (Nat.le_of_ble_eq_true rfl) (Nat.le_add_right _ _)⟩, (Nat.le_of_ble_eq_true rfl), (Nat.le_of_ble_eq_true rfl)⟩ dX6_parseFactor_97 rfl rfl rfl (Nat.le_of_ble_eq_true rfl) rfl rfl (fun x10 => ?_)
          refine V_istore (L' := [(0, .ref this), (1, .ref a1), (2, .int a2), (3, .int x2), (4, .int (b2i x10))]) dX6_parseFactor_100 rfl (Nat.le_of_ble_eq_true rfl) rfl ?_
          refine V_iload dX6_parseFactor_102 rfl 4 rfl ?_
          refine V_ifz_ne (q := 129) (q2 := 107) dX6_parseFactor_104 (by decide) rfl ?_ ?_
          · exact V_sub [0, 1, 2, 4] rfl (v_X6_parseFactor_129 r0 r1 r2 r3 r4 d hk0 ho0 hk1 ho1 hk2 ho2 hk3 ho3 hk4 ho4 this a1 a2 x10 M)
          · refine V_aload_n dX6_parseFactor_107 rfl 0 rfl ?_
            refine V_getR dX6_parseFactor_108 rfl (ci := 5) (T := TX6) rfl (by decide) fl_X6_9 (fun x21 => ?_)
            refine V_bipush (x := 40) dX6_parseFactor_111 rfl rfl ?_
            refine V_cVeZ (As := [.int 40]) (k_X10_isSymbol x21 40 M) (fun _ h => o_X10_isSymbol h) ok_X10_isSymbol im_X10_isSymbol se_X10_isSymbol rfl (ci := 9) rfl ml_X6_57 ⟨⟨Nat.le_trans (m := 5) (Nat.le_of_ble_eq_true rfl) (Nat.le_add_right _ _), Nat.le_trans (m := 123) (Nat.le_of_ble_eq_true rfl) (Nat.le_add_right _ _)⟩, (Nat.le_of_ble_eq_true rfl), (Nat.le_of_ble_eq_true rfl)⟩ dX6_parseFactor_113 rfl rfl rfl (Nat.le_of_ble_eq_true rfl) rfl rfl (fun x22 => ?_)
            refine V_ifz_ne (q := 129) (q2 := 119) dX6_parseFactor_116 (by decide) rfl ?_ ?_
            · exact V_sub [0, 1, 2, 4] rfl (v_X6_parseFactor_129 r0 r1 r2 r3 r4 d hk0 ho0 hk1 ho1 hk2 ho2 hk3 ho3 hk4 ho4 this a1 a2 x10 M)
            · refine V_aload_n dX6_parseFactor_119 rfl 0 rfl ?_
              refine V_getR dX6_parseFactor_120 rfl (ci := 5) (T := TX6) rfl (by decide) fl_X6_9 (fun x23 => ?_)
              refine V_iconst (x := 1) dX6_parseFactor_123 rfl rfl ?_
              refine V_cVwV (As := [.int 1]) (k_X10_fail x23 1 M) (fun _ h => o_X10_fail h) ok_X10_fail im_X10_fail se_X10_fail rfl (ci := 9) rfl ml_X6_28 ⟨⟨Nat.le_trans (m := 5) (Nat.le_of_ble_eq_true rfl) (Nat.le_add_right _ _), Nat.le_trans (m := 123) (Nat.le_of_ble_eq_true rfl) (Nat.le_add_right _ _)⟩, (Nat.le_of_ble_eq_true rfl), (Nat.le_of_ble_eq_true rfl)⟩ dX6_parseFactor_124 rfl rfl rfl (Nat.le_of_ble_eq_true rfl) rfl rfl (fun M25 => ?_)
              refine V_iconst (x := 0) dX6_parseFactor_127 rfl rfl ?_
              exact V_iret dX6_parseFactor_128 rfl rfl ⟨(Nat.le_of_ble_eq_true rfl), (Nat.le_of_ble_eq_true rfl)⟩
        · refine V_aload_n dX6_parseFactor_83 rfl 0 rfl ?_
          refine V_aload_n dX6_parseFactor_84 rfl 1 rfl ?_
          refine V_iconst (x := 0) dX6_parseFactor_85 rfl rfl ?_
          refine V_cVwI (As := [.ref a1, .int (b2i false)]) (k_X6_parseComparison this a1 false M) (fun _ h => o_X6_parseComparison h) ok_X6_parseComparison im_X6_parseComparison se_X6_parseComparison rfl (ci := 5) rfl ml_X6_83 ⟨⟨Nat.le_trans (m := 5) (Nat.le_of_ble_eq_true rfl) (Nat.le_add_right _ _), Nat.le_trans (m := 123) (Nat.le_of_ble_eq_true rfl) (Nat.le_add_right _ _)⟩, (Nat.le_of_ble_eq_true rfl), (Nat.le_of_ble_eq_true rfl)⟩ dX6_parseFactor_86 rfl rfl rfl (Nat.le_of_ble_eq_true rfl) rfl rfl (fun x26 M27 => ?_)
          exact V_iret dX6_parseFactor_89 rfl rfl ⟨(Nat.le_of_ble_eq_true rfl), (Nat.le_of_ble_eq_true rfl)⟩
      · refine V_aload_n dX6_parseFactor_63 rfl 0 rfl ?_
        refine V_aload_n dX6_parseFactor_64 rfl 1 rfl ?_
        refine V_iconst (x := 1) dX6_parseFactor_65 rfl rfl ?_
        refine V_cVwI (As := [.ref a1, .int (b2i true)]) (k_X6_parseComparison this a1 true M) (fun _ h => o_X6_parseComparison h) ok_X6_parseComparison im_X6_parseComparison se_X6_parseComparison rfl (ci := 5) rfl ml_X6_83 ⟨⟨Nat.le_trans (m := 5) (Nat.le_of_ble_eq_true rfl) (Nat.le_add_right _ _), Nat.le_trans (m := 123) (Nat.le_of_ble_eq_true rfl) (Nat.le_add_right _ _)⟩, (Nat.le_of_ble_eq_true rfl), (Nat.le_of_ble_eq_true rfl)⟩ dX6_parseFactor_66 rfl rfl rfl (Nat.le_of_ble_eq_true rfl) rfl rfl (fun x28 M29 => ?_)
        exact V_iret dX6_parseFactor_69 rfl rfl ⟨(Nat.le_of_ble_eq_true rfl), (Nat.le_of_ble_eq_true rfl)⟩
    · refine V_aload_n dX6_parseFactor_38 rfl 0 rfl ?_
      refine V_getR dX6_parseFactor_39 rfl (ci := 5) (T := TX6) rfl (by decide) fl_X6_9 (fun x30 => ?_)
      refine V_cVwV (As := []) (k_X10_next x30 M) (fun _ h => o_X10_next h) ok_X10_next im_X10_next se_X10_next rfl (ci := 9) rfl ml_X6_45 ⟨⟨Nat.le_trans (m := 5) (Nat.le_of_ble_eq_true rfl) (Nat.le_add_right _ _), Nat.le_trans (m := 123) (Nat.le_of_ble_eq_true rfl) (Nat.le_add_right _ _)⟩, (Nat.le_of_ble_eq_true rfl), (Nat.le_of_ble_eq_true rfl)⟩ dX6_parseFactor_42 rfl rfl rfl (Nat.le_of_ble_eq_true rfl) rfl rfl (fun M32 => ?_)
      refine V_aload_n dX6_parseFactor_45 rfl 1 rfl ?_
      refine V_cVeI (As := []) (k_X0_everyMessage a1 M32) (fun _ h => o_X0_everyMessage h) ok_X0_everyMessage im_X0_everyMessage se_X0_everyMessage rfl (ci := 0) rfl ml_X6_80 ⟨⟨Nat.le_trans (m := 5) (Nat.le_of_ble_eq_true rfl) (Nat.le_add_right _ _), Nat.le_trans (m := 123) (Nat.le_of_ble_eq_true rfl) (Nat.le_add_right _ _)⟩, (Nat.le_of_ble_eq_true rfl), (Nat.le_of_ble_eq_true rfl)⟩ dX6_parseFactor_46 rfl rfl rfl (Nat.le_of_ble_eq_true rfl) rfl rfl (fun x33 => ?_)
      exact V_iret dX6_parseFactor_49 rfl rfl ⟨(Nat.le_of_ble_eq_true rfl), (Nat.le_of_ble_eq_true rfl)⟩
  · refine V_aload_n dX6_parseFactor_12 rfl 0 rfl ?_
    refine V_getR dX6_parseFactor_13 rfl (ci := 5) (T := TX6) rfl (by decide) fl_X6_9 (fun x34 => ?_)
    refine V_cVwV (As := []) (k_X10_next x34 M) (fun _ h => o_X10_next h) ok_X10_next im_X10_next se_X10_next rfl (ci := 9) rfl ml_X6_45 ⟨⟨Nat.le_trans (m := 5) (Nat.le_of_ble_eq_true rfl) (Nat.le_add_right _ _), Nat.le_trans (m := 123) (Nat.le_of_ble_eq_true rfl) (Nat.le_add_right _ _)⟩, (Nat.le_of_ble_eq_true rfl), (Nat.le_of_ble_eq_true rfl)⟩ dX6_parseFactor_16 rfl rfl rfl (Nat.le_of_ble_eq_true rfl) rfl rfl (fun M36 => ?_)
    refine V_aload_n dX6_parseFactor_19 rfl 1 rfl ?_
    refine V_iload_n dX6_parseFactor_20 rfl 3 rfl ?_
    refine V_cVeI (As := [.int x2]) (k_X0_withFlag a1 x2 M36) (fun _ h => o_X0_withFlag h) ok_X0_withFlag im_X0_withFlag se_X0_withFlag rfl (ci := 0) rfl ml_X6_74 ⟨⟨Nat.le_trans (m := 5) (Nat.le_of_ble_eq_true rfl) (Nat.le_add_right _ _), Nat.le_trans (m := 123) (Nat.le_of_ble_eq_true rfl) (Nat.le_add_right _ _)⟩, (Nat.le_of_ble_eq_true rfl), (Nat.le_of_ble_eq_true rfl)⟩ dX6_parseFactor_21 rfl rfl rfl (Nat.le_of_ble_eq_true rfl) rfl rfl (fun x37 => ?_)
    exact V_iret dX6_parseFactor_24 rfl rfl ⟨(Nat.le_of_ble_eq_true rfl), (Nat.le_of_ble_eq_true rfl)⟩
theorem k_X6_parseFactor_b (r0 : Nat → Nat → Int32 → Mem → Option (Int32 × Mem)) (r1 : Nat → Nat → Int32 → Mem → Option (Int32 × Mem)) (r2 : Nat → Nat → Int32 → Mem → Option (Int32 × Mem)) (r3 : Nat → Nat → Int32 → Mem → Option (Int32 × Mem)) (r4 : Nat → Nat → Int32 → Mem → Option (Int32 × Mem)) (d : Nat) (hk0 : ∀ (this : Nat) (a1 : Nat) (a2 : Int32) (M : Mem), K (mi_X6_parseQuery d) [.ref this, .ref a1, .int a2] M (r0 this a1 a2 M) wI) (ho0 : ∀ {this : Nat} {a1 : Nat} {a2 : Int32} {M : Mem} {x}, r0 this a1 a2 M = some x → isO M 5 this = true) (hk1 : ∀ (this : Nat) (a1 : Nat) (a2 : Int32) (M : Mem), K (mi_X6_parseTerm d) [.ref this, .ref a1, .int a2] M (r1 this a1 a2 M) wI) (ho1 : ∀ {this : Nat} {a1 : Nat} {a2 : Int32} {M : Mem} {x}, r1 this a1 a2 M = some x → isO M 5 this = true) (hk2 : ∀ (this : Nat) (a1 : Nat) (a2 : Int32) (M : Mem), K (mi_X6_parseFactor d) [.ref this, .ref a1, .int a2] M (r2 this a1 a2 M) wI) (ho2 : ∀ {this : Nat} {a1 : Nat} {a2 : Int32} {M : Mem} {x}, r2 this a1 a2 M = some x → isO M 5 this = true) (hk3 : ∀ (this : Nat) (a1 : Nat) (a2 : Int32) (M : Mem), K (mi_X6_parseNegated d) [.ref this, .ref a1, .int a2] M (r3 this a1 a2 M) wI) (ho3 : ∀ {this : Nat} {a1 : Nat} {a2 : Int32} {M : Mem} {x}, r3 this a1 a2 M = some x → isO M 5 this = true) (hk4 : ∀ (this : Nat) (a1 : Nat) (a2 : Int32) (M : Mem), K (mi_X6_parseEnclosed d) [.ref this, .ref a1, .int a2] M (r4 this a1 a2 M) wI) (ho4 : ∀ {this : Nat} {a1 : Nat} {a2 : Int32} {M : Mem} {x}, r4 this a1 a2 M = some x → isO M 5 this = true) (this : Nat) (a1 : Nat) (a2 : Int32) (M : Mem) : K (mi_X6_parseFactor (d + 1)) [.ref this, .ref a1, .int a2] M (b_X6_parseFactor r0 r1 r2 r3 r4 this a1 a2 M) wI := K_of_V (ok_X6_parseFactor (d + 1)) (Nat.le_of_ble_eq_true rfl) (v_X6_parseFactor_b r0 r1 r2 r3 r4 d hk0 ho0 hk1 ho1 hk2 ho2 hk3 ho3 hk4 ho4 this a1 a2 M)
theorem o_X6_parseFactor_b (r0 : Nat → Nat → Int32 → Mem → Option (Int32 × Mem)) (r1 : Nat → Nat → Int32 → Mem → Option (Int32 × Mem)) (r2 : Nat → Nat → Int32 → Mem → Option (Int32 × Mem)) (r3 : Nat → Nat → Int32 → Mem → Option (Int32 × Mem)) (r4 : Nat → Nat → Int32 → Mem → Option (Int32 × Mem)) : ∀ {this : Nat} {a1 : Nat} {a2 : Int32} {M : Mem} {x}, b_X6_parseFactor r0 r1 r2 r3 r4 this a1 a2 M = some x → isO M 5 this = true := fun h => (ob_of h).1
theorem v_X6_parseNegated_b (r0 : Nat → Nat → Int32 → Mem → Option (Int32 × Mem)) (r1 : Nat → Nat → Int32 → Mem → Option (Int32 × Mem)) (r2 : Nat → Nat → Int32 → Mem → Option (Int32 × Mem)) (r3 : Nat → Nat → Int32 → Mem → Option (Int32 × Mem)) (r4 : Nat → Nat → Int32 → Mem → Option (Int32 × Mem)) (d : Nat) (hk0 : ∀ (this : Nat) (a1 : Nat) (a2 : Int32) (M : Mem), K (mi_X6_parseQuery d) [.ref this, .ref a1, .int a2] M (r0 this a1 a2 M) wI) (ho0 : ∀ {this : Nat} {a1 : Nat} {a2 : Int32} {M : Mem} {x}, r0 this a1 a2 M = some x → isO M 5 this = true) (hk1 : ∀ (this : Nat) (a1 : Nat) (a2 : Int32) (M : Mem), K (mi_X6_parseTerm d) [.ref this, .ref a1, .int a2] M (r1 this a1 a2 M) wI) (ho1 : ∀ {this : Nat} {a1 : Nat} {a2 : Int32} {M : Mem} {x}, r1 this a1 a2 M = some x → isO M 5 this = true) (hk2 : ∀ (this : Nat) (a1 : Nat) (a2 : Int32) (M : Mem), K (mi_X6_parseFactor d) [.ref this, .ref a1, .int a2] M (r2 this a1 a2 M) wI) (ho2 : ∀ {this : Nat} {a1 : Nat} {a2 : Int32} {M : Mem} {x}, r2 this a1 a2 M = some x → isO M 5 this = true) (hk3 : ∀ (this : Nat) (a1 : Nat) (a2 : Int32) (M : Mem), K (mi_X6_parseNegated d) [.ref this, .ref a1, .int a2] M (r3 this a1 a2 M) wI) (ho3 : ∀ {this : Nat} {a1 : Nat} {a2 : Int32} {M : Mem} {x}, r3 this a1 a2 M = some x → isO M 5 this = true) (hk4 : ∀ (this : Nat) (a1 : Nat) (a2 : Int32) (M : Mem), K (mi_X6_parseEnclosed d) [.ref this, .ref a1, .int a2] M (r4 this a1 a2 M) wI) (ho4 : ∀ {this : Nat} {a1 : Nat} {a2 : Int32} {M : Mem} {x}, r4 this a1 a2 M = some x → isO M 5 this = true) (this : Nat) (a1 : Nat) (a2 : Int32) (M : Mem) : V (mi_X6_parseNegated (d + 1)) 0 [(0, .ref this), (1, .ref a1), (2, .int a2)] [] M 0 0 (b_X6_parseNegated r0 r1 r2 r3 r4 this a1 a2 M) wI := by
  unfold b_X6_parseNegated
  refine V_ob fun _ _ => ?_
  refine V_aload_n dX6_parseNegated_0 rfl 1 rfl ?_
  refine V_cVeI (As := []) (k_X0_everyMessage a1 M) (fun _ h => o_X0_everyMessage h) ok_X0_everyMessage im_X0_everyMessage se_X0_everyMessage rfl (ci := 0) rfl ml_X6_80 ⟨⟨Nat.le_trans (m := 5) (Nat.le_of_ble_eq_true rfl) (Nat.le_add_right _ _), Nat.le_trans (m := 123) (Nat.le_of_ble_eq_true rfl) (Nat.le_add_right _ _)⟩, (Nat.le_of_ble_eq_true rfl), (Nat.le_of_ble_eq_true rfl)⟩ dX6_parseNegated_1 rfl rfl rfl (Nat.le_of_ble_eq_true rfl) rfl rfl (fun x1 => ?_)
  refine V_aload_n dX6_parseNegated_4 rfl 0 rfl ?_
  refine V_aload_n dX6_parseNegated_5 rfl 1 rfl ?_
  refine V_iload_n dX6_parseNegated_6 rfl 2 rfl ?_
  refine V_cVwI (As := [.ref a1, .int a2]) (hk2 this a1 a2 M) (fun _ h => ho2 h) (ok_X6_parseFactor d) im_X6_parseFactor se_X6_parseFactor rfl (ci := 5) rfl ml_X6_48 ⟨⟨Nat.le_refl _, rm_loc (x := 24) (Nat.le_of_ble_eq_true rfl)⟩, (Nat.le_of_ble_eq_true rfl), (Nat.le_of_ble_eq_true rfl)⟩ dX6_parseNegated_7 rfl rfl rfl (Nat.le_of_ble_eq_true rfl) rfl rfl (fun x2 M3 => ?_)
  refine V_iconst (x := (-1)) dX6_parseNegated_10 rfl rfl ?_
  refine V_ixor dX6_parseNegated_11 rfl ?_
  refine V_iand dX6_parseNegated_12 rfl ?_
  exact V_iret dX6_parseNegated_13 rfl rfl ⟨(Nat.le_of_ble_eq_true rfl), (Nat.le_of_ble_eq_true rfl)⟩
theorem k_X6_parseNegated_b (r0 : Nat → Nat → Int32 → Mem → Option (Int32 × Mem)) (r1 : Nat → Nat → Int32 → Mem → Option (Int32 × Mem)) (r2 : Nat → Nat → Int32 → Mem → Option (Int32 × Mem)) (r3 : Nat → Nat → Int32 → Mem → Option (Int32 × Mem)) (r4 : Nat → Nat → Int32 → Mem → Option (Int32 × Mem)) (d : Nat) (hk0 : ∀ (this : Nat) (a1 : Nat) (a2 : Int32) (M : Mem), K (mi_X6_parseQuery d) [.ref this, .ref a1, .int a2] M (r0 this a1 a2 M) wI) (ho0 : ∀ {this : Nat} {a1 : Nat} {a2 : Int32} {M : Mem} {x}, r0 this a1 a2 M = some x → isO M 5 this = true) (hk1 : ∀ (this : Nat) (a1 : Nat) (a2 : Int32) (M : Mem), K (mi_X6_parseTerm d) [.ref this, .ref a1, .int a2] M (r1 this a1 a2 M) wI) (ho1 : ∀ {this : Nat} {a1 : Nat} {a2 : Int32} {M : Mem} {x}, r1 this a1 a2 M = some x → isO M 5 this = true) (hk2 : ∀ (this : Nat) (a1 : Nat) (a2 : Int32) (M : Mem), K (mi_X6_parseFactor d) [.ref this, .ref a1, .int a2] M (r2 this a1 a2 M) wI) (ho2 : ∀ {this : Nat} {a1 : Nat} {a2 : Int32} {M : Mem} {x}, r2 this a1 a2 M = some x → isO M 5 this = true) (hk3 : ∀ (this : Nat) (a1 : Nat) (a2 : Int32) (M : Mem), K (mi_X6_parseNegated d) [.ref this, .ref a1, .int a2] M (r3 this a1 a2 M) wI) (ho3 : ∀ {this : Nat} {a1 : Nat} {a2 : Int32} {M : Mem} {x}, r3 this a1 a2 M = some x → isO M 5 this = true) (hk4 : ∀ (this : Nat) (a1 : Nat) (a2 : Int32) (M : Mem), K (mi_X6_parseEnclosed d) [.ref this, .ref a1, .int a2] M (r4 this a1 a2 M) wI) (ho4 : ∀ {this : Nat} {a1 : Nat} {a2 : Int32} {M : Mem} {x}, r4 this a1 a2 M = some x → isO M 5 this = true) (this : Nat) (a1 : Nat) (a2 : Int32) (M : Mem) : K (mi_X6_parseNegated (d + 1)) [.ref this, .ref a1, .int a2] M (b_X6_parseNegated r0 r1 r2 r3 r4 this a1 a2 M) wI := K_of_V (ok_X6_parseNegated (d + 1)) (Nat.le_of_ble_eq_true rfl) (v_X6_parseNegated_b r0 r1 r2 r3 r4 d hk0 ho0 hk1 ho1 hk2 ho2 hk3 ho3 hk4 ho4 this a1 a2 M)
theorem o_X6_parseNegated_b (r0 : Nat → Nat → Int32 → Mem → Option (Int32 × Mem)) (r1 : Nat → Nat → Int32 → Mem → Option (Int32 × Mem)) (r2 : Nat → Nat → Int32 → Mem → Option (Int32 × Mem)) (r3 : Nat → Nat → Int32 → Mem → Option (Int32 × Mem)) (r4 : Nat → Nat → Int32 → Mem → Option (Int32 × Mem)) : ∀ {this : Nat} {a1 : Nat} {a2 : Int32} {M : Mem} {x}, b_X6_parseNegated r0 r1 r2 r3 r4 this a1 a2 M = some x → isO M 5 this = true := fun h => (ob_of h).1
theorem v_X6_parseEnclosed_b (r0 : Nat → Nat → Int32 → Mem → Option (Int32 × Mem)) (r1 : Nat → Nat → Int32 → Mem → Option (Int32 × Mem)) (r2 : Nat → Nat → Int32 → Mem → Option (Int32 × Mem)) (r3 : Nat → Nat → Int32 → Mem → Option (Int32 × Mem)) (r4 : Nat → Nat → Int32 → Mem → Option (Int32 × Mem)) (d : Nat) (hk0 : ∀ (this : Nat) (a1 : Nat) (a2 : Int32) (M : Mem), K (mi_X6_parseQuery d) [.ref this, .ref a1, .int a2] M (r0 this a1 a2 M) wI) (ho0 : ∀ {this : Nat} {a1 : Nat} {a2 : Int32} {M : Mem} {x}, r0 this a1 a2 M = some x → isO M 5 this = true) (hk1 : ∀ (this : Nat) (a1 : Nat) (a2 : Int32) (M : Mem), K (mi_X6_parseTerm d) [.ref this, .ref a1, .int a2] M (r1 this a1 a2 M) wI) (ho1 : ∀ {this : Nat} {a1 : Nat} {a2 : Int32} {M : Mem} {x}, r1 this a1 a2 M = some x → isO M 5 this = true) (hk2 : ∀ (this : Nat) (a1 : Nat) (a2 : Int32) (M : Mem), K (mi_X6_parseFactor d) [.ref this, .ref a1, .int a2] M (r2 this a1 a2 M) wI) (ho2 : ∀ {this : Nat} {a1 : Nat} {a2 : Int32} {M : Mem} {x}, r2 this a1 a2 M = some x → isO M 5 this = true) (hk3 : ∀ (this : Nat) (a1 : Nat) (a2 : Int32) (M : Mem), K (mi_X6_parseNegated d) [.ref this, .ref a1, .int a2] M (r3 this a1 a2 M) wI) (ho3 : ∀ {this : Nat} {a1 : Nat} {a2 : Int32} {M : Mem} {x}, r3 this a1 a2 M = some x → isO M 5 this = true) (hk4 : ∀ (this : Nat) (a1 : Nat) (a2 : Int32) (M : Mem), K (mi_X6_parseEnclosed d) [.ref this, .ref a1, .int a2] M (r4 this a1 a2 M) wI) (ho4 : ∀ {this : Nat} {a1 : Nat} {a2 : Int32} {M : Mem} {x}, r4 this a1 a2 M = some x → isO M 5 this = true) (this : Nat) (a1 : Nat) (a2 : Int32) (M : Mem) : V (mi_X6_parseEnclosed (d + 1)) 0 [(0, .ref this), (1, .ref a1), (2, .int a2)] [] M 0 0 (b_X6_parseEnclosed r0 r1 r2 r3 r4 this a1 a2 M) wI := by
  unfold b_X6_parseEnclosed
  refine V_ob fun _ _ => ?_
  refine V_aload_n dX6_parseEnclosed_0 rfl 0 rfl ?_
  refine V_aload_n dX6_parseEnclosed_1 rfl 1 rfl ?_
  refine V_iload_n dX6_parseEnclosed_2 rfl 2 rfl ?_
  refine V_cVwI (As := [.ref a1, .int a2]) (hk0 this a1 a2 M) (fun _ h => ho0 h) (ok_X6_parseQuery d) im_X6_parseQuery se_X6_parseQuery rfl (ci := 5) rfl ml_X6_20 ⟨⟨Nat.le_refl _, rm_loc (x := 24) (Nat.le_of_ble_eq_true rfl)⟩, (Nat.le_of_ble_eq_true rfl), (Nat.le_of_ble_eq_true rfl)⟩ dX6_parseEnclosed_3 rfl rfl rfl (Nat.le_of_ble_eq_true rfl) rfl rfl (fun x1 M2 => ?_)
  refine V_istore_n (L' := [(0, .ref this), (1, .ref a1), (2, .int a2), (3, .int x1)]) dX6_parseEnclosed_6 rfl (Nat.le_of_ble_eq_true rfl) rfl ?_
  refine V_aload_n dX6_parseEnclosed_7 rfl 0 rfl ?_
  refine V_getR dX6_parseEnclosed_8 rfl (ci := 5) (T := TX6) rfl (by decide) fl_X6_9 (fun x3 => ?_)
  refine V_bipush (x := 41) dX6_parseEnclosed_11 rfl rfl ?_
  refine V_cVwV (As := [.int 41]) (k_X10_passSymbol x3 41 M2) (fun _ h => o_X10_passSymbol h) ok_X10_passSymbol im_X10_passSymbol se_X10_passSymbol rfl (ci := 9) rfl ml_X6_93 ⟨⟨Nat.le_trans (m := 5) (Nat.le_of_ble_eq_true rfl) (Nat.le_add_right _ _), Nat.le_trans (m := 123) (Nat.le_of_ble_eq_true rfl) (Nat.le_add_right _ _)⟩, (Nat.le_of_ble_eq_true rfl), (Nat.le_of_ble_eq_true rfl)⟩ dX6_parseEnclosed_13 rfl rfl rfl (Nat.le_of_ble_eq_true rfl) rfl rfl (fun M5 => ?_)
  refine V_iload_n dX6_parseEnclosed_16 rfl 3 rfl ?_
  exact V_iret dX6_parseEnclosed_17 rfl rfl ⟨(Nat.le_of_ble_eq_true rfl), (Nat.le_of_ble_eq_true rfl)⟩
theorem k_X6_parseEnclosed_b (r0 : Nat → Nat → Int32 → Mem → Option (Int32 × Mem)) (r1 : Nat → Nat → Int32 → Mem → Option (Int32 × Mem)) (r2 : Nat → Nat → Int32 → Mem → Option (Int32 × Mem)) (r3 : Nat → Nat → Int32 → Mem → Option (Int32 × Mem)) (r4 : Nat → Nat → Int32 → Mem → Option (Int32 × Mem)) (d : Nat) (hk0 : ∀ (this : Nat) (a1 : Nat) (a2 : Int32) (M : Mem), K (mi_X6_parseQuery d) [.ref this, .ref a1, .int a2] M (r0 this a1 a2 M) wI) (ho0 : ∀ {this : Nat} {a1 : Nat} {a2 : Int32} {M : Mem} {x}, r0 this a1 a2 M = some x → isO M 5 this = true) (hk1 : ∀ (this : Nat) (a1 : Nat) (a2 : Int32) (M : Mem), K (mi_X6_parseTerm d) [.ref this, .ref a1, .int a2] M (r1 this a1 a2 M) wI) (ho1 : ∀ {this : Nat} {a1 : Nat} {a2 : Int32} {M : Mem} {x}, r1 this a1 a2 M = some x → isO M 5 this = true) (hk2 : ∀ (this : Nat) (a1 : Nat) (a2 : Int32) (M : Mem), K (mi_X6_parseFactor d) [.ref this, .ref a1, .int a2] M (r2 this a1 a2 M) wI) (ho2 : ∀ {this : Nat} {a1 : Nat} {a2 : Int32} {M : Mem} {x}, r2 this a1 a2 M = some x → isO M 5 this = true) (hk3 : ∀ (this : Nat) (a1 : Nat) (a2 : Int32) (M : Mem), K (mi_X6_parseNegated d) [.ref this, .ref a1, .int a2] M (r3 this a1 a2 M) wI) (ho3 : ∀ {this : Nat} {a1 : Nat} {a2 : Int32} {M : Mem} {x}, r3 this a1 a2 M = some x → isO M 5 this = true) (hk4 : ∀ (this : Nat) (a1 : Nat) (a2 : Int32) (M : Mem), K (mi_X6_parseEnclosed d) [.ref this, .ref a1, .int a2] M (r4 this a1 a2 M) wI) (ho4 : ∀ {this : Nat} {a1 : Nat} {a2 : Int32} {M : Mem} {x}, r4 this a1 a2 M = some x → isO M 5 this = true) (this : Nat) (a1 : Nat) (a2 : Int32) (M : Mem) : K (mi_X6_parseEnclosed (d + 1)) [.ref this, .ref a1, .int a2] M (b_X6_parseEnclosed r0 r1 r2 r3 r4 this a1 a2 M) wI := K_of_V (ok_X6_parseEnclosed (d + 1)) (Nat.le_of_ble_eq_true rfl) (v_X6_parseEnclosed_b r0 r1 r2 r3 r4 d hk0 ho0 hk1 ho1 hk2 ho2 hk3 ho3 hk4 ho4 this a1 a2 M)
theorem o_X6_parseEnclosed_b (r0 : Nat → Nat → Int32 → Mem → Option (Int32 × Mem)) (r1 : Nat → Nat → Int32 → Mem → Option (Int32 × Mem)) (r2 : Nat → Nat → Int32 → Mem → Option (Int32 × Mem)) (r3 : Nat → Nat → Int32 → Mem → Option (Int32 × Mem)) (r4 : Nat → Nat → Int32 → Mem → Option (Int32 × Mem)) : ∀ {this : Nat} {a1 : Nat} {a2 : Int32} {M : Mem} {x}, b_X6_parseEnclosed r0 r1 r2 r3 r4 this a1 a2 M = some x → isO M 5 this = true := fun h => (ob_of h).1
theorem t_GX6 : ∀ d : Nat, ((∀ (this : Nat) (a1 : Nat) (a2 : Int32) (M : Mem), K (mi_X6_parseQuery d) [.ref this, .ref a1, .int a2] M ((GX6 d).1 this a1 a2 M) wI) ∧ (∀ (this : Nat) (a1 : Nat) (a2 : Int32) (M : Mem), K (mi_X6_parseTerm d) [.ref this, .ref a1, .int a2] M ((GX6 d).2.1 this a1 a2 M) wI) ∧ (∀ (this : Nat) (a1 : Nat) (a2 : Int32) (M : Mem), K (mi_X6_parseFactor d) [.ref this, .ref a1, .int a2] M ((GX6 d).2.2.1 this a1 a2 M) wI) ∧ (∀ (this : Nat) (a1 : Nat) (a2 : Int32) (M : Mem), K (mi_X6_parseNegated d) [.ref this, .ref a1, .int a2] M ((GX6 d).2.2.2.1 this a1 a2 M) wI) ∧ (∀ (this : Nat) (a1 : Nat) (a2 : Int32) (M : Mem), K (mi_X6_parseEnclosed d) [.ref this, .ref a1, .int a2] M ((GX6 d).2.2.2.2 this a1 a2 M) wI)) ∧ ((∀ {this : Nat} {a1 : Nat} {a2 : Int32} {M : Mem} {x}, (GX6 d).1 this a1 a2 M = some x → isO M 5 this = true) ∧ (∀ {this : Nat} {a1 : Nat} {a2 : Int32} {M : Mem} {x}, (GX6 d).2.1 this a1 a2 M = some x → isO M 5 this = true) ∧ (∀ {this : Nat} {a1 : Nat} {a2 : Int32} {M : Mem} {x}, (GX6 d).2.2.1 this a1 a2 M = some x → isO M 5 this = true) ∧ (∀ {this : Nat} {a1 : Nat} {a2 : Int32} {M : Mem} {x}, (GX6 d).2.2.2.1 this a1 a2 M = some x → isO M 5 this = true) ∧ (∀ {this : Nat} {a1 : Nat} {a2 : Int32} {M : Mem} {x}, (GX6 d).2.2.2.2 this a1 a2 M = some x → isO M 5 this = true)) := by
  intro d
  induction d with
  | zero => exact ⟨⟨fun _ _ _ _ => fun _ h => (nomatch (show (none : Option (Int32 × Mem)) = some _ from h)), fun _ _ _ _ => fun _ h => (nomatch (show (none : Option (Int32 × Mem)) = some _ from h)), fun _ _ _ _ => fun _ h => (nomatch (show (none : Option (Int32 × Mem)) = some _ from h)), fun _ _ _ _ => fun _ h => (nomatch (show (none : Option (Int32 × Mem)) = some _ from h)), fun _ _ _ _ => fun _ h => (nomatch (show (none : Option (Int32 × Mem)) = some _ from h))⟩, ⟨fun h => (nomatch (show (none : Option (Int32 × Mem)) = some _ from h)), fun h => (nomatch (show (none : Option (Int32 × Mem)) = some _ from h)), fun h => (nomatch (show (none : Option (Int32 × Mem)) = some _ from h)), fun h => (nomatch (show (none : Option (Int32 × Mem)) = some _ from h)), fun h => (nomatch (show (none : Option (Int32 × Mem)) = some _ from h))⟩⟩
  | succ d ih => exact ⟨⟨k_X6_parseQuery_b (GX6 d).1 (GX6 d).2.1 (GX6 d).2.2.1 (GX6 d).2.2.2.1 (GX6 d).2.2.2.2 d ih.1.1 ih.2.1 ih.1.2.1 ih.2.2.1 ih.1.2.2.1 ih.2.2.2.1 ih.1.2.2.2.1 ih.2.2.2.2.1 ih.1.2.2.2.2 ih.2.2.2.2.2, k_X6_parseTerm_b (GX6 d).1 (GX6 d).2.1 (GX6 d).2.2.1 (GX6 d).2.2.2.1 (GX6 d).2.2.2.2 d ih.1.1 ih.2.1 ih.1.2.1 ih.2.2.1 ih.1.2.2.1 ih.2.2.2.1 ih.1.2.2.2.1 ih.2.2.2.2.1 ih.1.2.2.2.2 ih.2.2.2.2.2, k_X6_parseFactor_b (GX6 d).1 (GX6 d).2.1 (GX6 d).2.2.1 (GX6 d).2.2.2.1 (GX6 d).2.2.2.2 d ih.1.1 ih.2.1 ih.1.2.1 ih.2.2.1 ih.1.2.2.1 ih.2.2.2.1 ih.1.2.2.2.1 ih.2.2.2.2.1 ih.1.2.2.2.2 ih.2.2.2.2.2, k_X6_parseNegated_b (GX6 d).1 (GX6 d).2.1 (GX6 d).2.2.1 (GX6 d).2.2.2.1 (GX6 d).2.2.2.2 d ih.1.1 ih.2.1 ih.1.2.1 ih.2.2.1 ih.1.2.2.1 ih.2.2.2.1 ih.1.2.2.2.1 ih.2.2.2.2.1 ih.1.2.2.2.2 ih.2.2.2.2.2, k_X6_parseEnclosed_b (GX6 d).1 (GX6 d).2.1 (GX6 d).2.2.1 (GX6 d).2.2.2.1 (GX6 d).2.2.2.2 d ih.1.1 ih.2.1 ih.1.2.1 ih.2.2.1 ih.1.2.2.1 ih.2.2.2.1 ih.1.2.2.2.1 ih.2.2.2.2.1 ih.1.2.2.2.2 ih.2.2.2.2.2⟩, ⟨o_X6_parseQuery_b (GX6 d).1 (GX6 d).2.1 (GX6 d).2.2.1 (GX6 d).2.2.2.1 (GX6 d).2.2.2.2, o_X6_parseTerm_b (GX6 d).1 (GX6 d).2.1 (GX6 d).2.2.1 (GX6 d).2.2.2.1 (GX6 d).2.2.2.2, o_X6_parseFactor_b (GX6 d).1 (GX6 d).2.1 (GX6 d).2.2.1 (GX6 d).2.2.2.1 (GX6 d).2.2.2.2, o_X6_parseNegated_b (GX6 d).1 (GX6 d).2.1 (GX6 d).2.2.1 (GX6 d).2.2.2.1 (GX6 d).2.2.2.2, o_X6_parseEnclosed_b (GX6 d).1 (GX6 d).2.1 (GX6 d).2.2.1 (GX6 d).2.2.2.1 (GX6 d).2.2.2.2⟩⟩
theorem k_X6_parseQuery : ∀ (this : Nat) (a1 : Nat) (a2 : Int32) (M : Mem), K (mi_X6_parseQuery 40) [.ref this, .ref a1, .int a2] M (f_X6_parseQuery this a1 a2 M) wI := (t_GX6 40).1.1
theorem o_X6_parseQuery : ∀ {this : Nat} {a1 : Nat} {a2 : Int32} {M : Mem} {x}, f_X6_parseQuery this a1 a2 M = some x → isO M 5 this = true := (t_GX6 40).2.1
theorem k_X6_parseTerm : ∀ (this : Nat) (a1 : Nat) (a2 : Int32) (M : Mem), K (mi_X6_parseTerm 40) [.ref this, .ref a1, .int a2] M (f_X6_parseTerm this a1 a2 M) wI := (t_GX6 40).1.2.1
theorem o_X6_parseTerm : ∀ {this : Nat} {a1 : Nat} {a2 : Int32} {M : Mem} {x}, f_X6_parseTerm this a1 a2 M = some x → isO M 5 this = true := (t_GX6 40).2.2.1
theorem k_X6_parseFactor : ∀ (this : Nat) (a1 : Nat) (a2 : Int32) (M : Mem), K (mi_X6_parseFactor 40) [.ref this, .ref a1, .int a2] M (f_X6_parseFactor this a1 a2 M) wI := (t_GX6 40).1.2.2.1
theorem o_X6_parseFactor : ∀ {this : Nat} {a1 : Nat} {a2 : Int32} {M : Mem} {x}, f_X6_parseFactor this a1 a2 M = some x → isO M 5 this = true := (t_GX6 40).2.2.2.1
theorem k_X6_parseNegated : ∀ (this : Nat) (a1 : Nat) (a2 : Int32) (M : Mem), K (mi_X6_parseNegated 40) [.ref this, .ref a1, .int a2] M (f_X6_parseNegated this a1 a2 M) wI := (t_GX6 40).1.2.2.2.1
theorem o_X6_parseNegated : ∀ {this : Nat} {a1 : Nat} {a2 : Int32} {M : Mem} {x}, f_X6_parseNegated this a1 a2 M = some x → isO M 5 this = true := (t_GX6 40).2.2.2.2.1
theorem k_X6_parseEnclosed : ∀ (this : Nat) (a1 : Nat) (a2 : Int32) (M : Mem), K (mi_X6_parseEnclosed 40) [.ref this, .ref a1, .int a2] M (f_X6_parseEnclosed this a1 a2 M) wI := (t_GX6 40).1.2.2.2.2
theorem o_X6_parseEnclosed : ∀ {this : Nat} {a1 : Nat} {a2 : Int32} {M : Mem} {x}, f_X6_parseEnclosed this a1 a2 M = some x → isO M 5 this = true := (t_GX6 40).2.2.2.2.2
theorem dX6_parseFor_0 : decode cX6_parseFor 0 = .ok (.aload_n 0, 1) := by decide +kernel
theorem dX6_parseFor_1 : decode cX6_parseFor 1 = .ok (.getfield 9, 3) := by decide +kernel
theorem dX6_parseFor_4 : decode cX6_parseFor 4 = .ok (.invokevirtual 15, 3) := by decide +kernel
theorem dX6_parseFor_7 : decode cX6_parseFor 7 = .ok (.aload_n 0, 1) := by decide +kernel
theorem dX6_parseFor_8 : decode cX6_parseFor 8 = .ok (.aload_n 1, 1) := by decide +kernel
theorem dX6_parseFor_9 : decode cX6_parseFor 9 = .ok (.iconst 0, 1) := by decide +kernel
theorem dX6_parseFor_10 : decode cX6_parseFor 10 = .ok (.invokevirtual 20, 3) := by decide +kernel
theorem dX6_parseFor_13 : decode cX6_parseFor 13 = .ok (.istore_n 2, 1) := by decide +kernel
theorem dX6_parseFor_14 : decode cX6_parseFor 14 = .ok (.aload_n 0, 1) := by decide +kernel
theorem dX6_parseFor_15 : decode cX6_parseFor 15 = .ok (.getfield 9, 3) := by decide +kernel
theorem dX6_parseFor_18 : decode cX6_parseFor 18 = .ok (.invokevirtual 24, 3) := by decide +kernel
theorem dX6_parseFor_21 : decode cX6_parseFor 21 = .ok (.ifCond .ne 11, 3) := by decide +kernel
theorem dX6_parseFor_24 : decode cX6_parseFor 24 = .ok (.aload_n 0, 1) := by decide +kernel
theorem dX6_parseFor_25 : decode cX6_parseFor 25 = .ok (.getfield 9, 3) := by decide +kernel
theorem dX6_parseFor_28 : decode cX6_parseFor 28 = .ok (.iconst 1, 1) := by decide +kernel
theorem dX6_parseFor_29 : decode cX6_parseFor 29 = .ok (.invokevirtual 28, 3) := by decide +kernel
theorem dX6_parseFor_32 : decode cX6_parseFor 32 = .ok (.iload_n 2, 1) := by decide +kernel
theorem dX6_parseFor_33 : decode cX6_parseFor 33 = .ok (.ireturn, 1) := by decide +kernel
def mi_X6_parseFor : MI := (RX6, yX6_parseFor, cX6_parseFor, 3, some .int, [], { frames := 46, cells := 0, slots := 0, locals := 1107 })
theorem ok_X6_parseFor : mOK mi_X6_parseFor 1 := ⟨rfl, cw_X6_parseFor, ini_X6, ⟨rfl, by decide⟩, by decide, by decide, rfl⟩
theorem v_X6_parseFor (this : Nat) (a1 : Nat) (M : Mem) : V mi_X6_parseFor 0 [(0, .ref this), (1, .ref a1)] [] M 0 0 (f_X6_parseFor this a1 M) wI := by
  unfold f_X6_parseFor
  refine V_ob fun _ _ => ?_
  refine V_aload_n dX6_parseFor_0 rfl 0 rfl ?_
  refine V_getR dX6_parseFor_1 rfl (ci := 5) (T := TX6) rfl (by decide) fl_X6_9 (fun x1 => ?_)
  refine V_cVwV (As := []) (k_X10_begin x1 M) (fun _ h => o_X10_begin h) ok_X10_begin im_X10_begin se_X10_begin rfl (ci := 9) rfl ml_X6_15 ⟨⟨(Nat.le_of_ble_eq_true rfl), (Nat.le_of_ble_eq_true rfl)⟩, (Nat.le_of_ble_eq_true rfl), (Nat.le_of_ble_eq_true rfl)⟩ dX6_parseFor_4 rfl rfl rfl (Nat.le_of_ble_eq_true rfl) rfl rfl (fun M3 => ?_)
  refine V_aload_n dX6_parseFor_7 rfl 0 rfl ?_
  refine V_aload_n dX6_parseFor_8 rfl 1 rfl ?_
  refine V_iconst (x := 0) dX6_parseFor_9 rfl rfl ?_
  refine V_cVwI (As := [.ref a1, .int 0]) (k_X6_parseQuery this a1 0 M3) (fun _ h => o_X6_parseQuery h) (ok_X6_parseQuery 40) im_X6_parseQuery se_X6_parseQuery rfl (ci := 5) rfl ml_X6_20 ⟨⟨(Nat.le_of_ble_eq_true rfl), (Nat.le_of_ble_eq_true rfl)⟩, (Nat.le_of_ble_eq_true rfl), (Nat.le_of_ble_eq_true rfl)⟩ dX6_parseFor_10 rfl rfl rfl (Nat.le_of_ble_eq_true rfl) rfl rfl (fun x4 M5 => ?_)
  refine V_istore_n (L' := [(0, .ref this), (1, .ref a1), (2, .int x4)]) dX6_parseFor_13 rfl (by decide) rfl ?_
  refine V_aload_n dX6_parseFor_14 rfl 0 rfl ?_
  refine V_getR dX6_parseFor_15 rfl (ci := 5) (T := TX6) rfl (by decide) fl_X6_9 (fun x6 => ?_)
  refine V_cVeZ (As := []) (k_X10_atEnd x6 M5) (fun _ h => o_X10_atEnd h) ok_X10_atEnd im_X10_atEnd se_X10_atEnd rfl (ci := 9) rfl ml_X6_24 ⟨⟨(Nat.le_of_ble_eq_true rfl), (Nat.le_of_ble_eq_true rfl)⟩, (Nat.le_of_ble_eq_true rfl), (Nat.le_of_ble_eq_true rfl)⟩ dX6_parseFor_18 rfl rfl rfl (Nat.le_of_ble_eq_true rfl) rfl rfl (fun x7 => ?_)
  refine V_ifz_ne (q := 32) (q2 := 24) dX6_parseFor_21 (by decide) rfl ?_ ?_
  · refine V_iload_n dX6_parseFor_32 rfl 2 rfl ?_
    exact V_iret dX6_parseFor_33 rfl rfl ⟨(Nat.le_of_ble_eq_true rfl), (Nat.le_of_ble_eq_true rfl)⟩
  · refine V_aload_n dX6_parseFor_24 rfl 0 rfl ?_
    refine V_getR dX6_parseFor_25 rfl (ci := 5) (T := TX6) rfl (by decide) fl_X6_9 (fun x8 => ?_)
    refine V_iconst (x := 1) dX6_parseFor_28 rfl rfl ?_
    refine V_cVwV (As := [.int 1]) (k_X10_fail x8 1 M5) (fun _ h => o_X10_fail h) ok_X10_fail im_X10_fail se_X10_fail rfl (ci := 9) rfl ml_X6_28 ⟨⟨(Nat.le_of_ble_eq_true rfl), (Nat.le_of_ble_eq_true rfl)⟩, (Nat.le_of_ble_eq_true rfl), (Nat.le_of_ble_eq_true rfl)⟩ dX6_parseFor_29 rfl rfl rfl (Nat.le_of_ble_eq_true rfl) rfl rfl (fun M10 => ?_)
    refine V_iload_n dX6_parseFor_32 rfl 2 rfl ?_
    exact V_iret dX6_parseFor_33 rfl rfl ⟨(Nat.le_of_ble_eq_true rfl), (Nat.le_of_ble_eq_true rfl)⟩
theorem k_X6_parseFor (this : Nat) (a1 : Nat) (M : Mem) : K mi_X6_parseFor [.ref this, .ref a1] M (f_X6_parseFor this a1 M) wI := K_of_V ok_X6_parseFor (Nat.le_of_ble_eq_true rfl) (v_X6_parseFor this a1 M)
theorem o_X6_parseFor {this : Nat} {a1 : Nat} {M : Mem} {x} (h : f_X6_parseFor this a1 M = some x) : isO M 5 this = true := (ob_of h).1
