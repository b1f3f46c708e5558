def f_X9_init (this : Nat) (a1 : Nat) (M : Mem) : Option Mem :=
  ob M 8 this (
    (pV M 8 0 this (.ref a1)).bind fun M1 =>
    some M1
  )
def f_X9_parseLimit_33 (this : Nat) (l1 : Nat) (M : Mem) : Option Mem :=
  (gR M 8 0 this).bind fun x3 =>
  (f_X10_next x3 M).bind fun M5 =>
  (gR M5 8 0 this).bind fun x6 =>
  (f_X10_passNumber x6 1 30 M5).bind fun (x7, M8) =>
  (pV M8 7 0 l1 (.int x7)).bind fun M9 =>
  (pV M9 8 1 this (.int (b2i true))).bind fun M10 =>
  some M10
def f_X9_parseLimit (this : Nat) (a1 : Nat) (M : Mem) : Option Mem :=
  ob M 8 this (
    (gZ M 8 2 this).bind fun x1 =>
    bif x1 then (
      (gR M 8 0 this).bind fun x14 =>
      (f_X10_fail x14 1 M).bind fun M16 =>
      f_X9_parseLimit_33 this a1 M16
    ) else (
      (gZ M 8 1 this).bind fun x2 =>
      bif x2 then (
        (gR M 8 0 this).bind fun x11 =>
        (f_X10_fail x11 3 M).bind fun M13 =>
        f_X9_parseLimit_33 this a1 M13
      ) else (
        f_X9_parseLimit_33 this a1 M
      )
    )
  )
def f_X9_passNewName_42 (this : Nat) (l2 : Int64) (M : Mem) : Option (Int64 × Mem) :=
  (gR M 8 0 this).bind fun x5 =>
  (f_X10_next x5 M).bind fun M7 =>
  some (l2, M7)
def f_X9_passNewName (this : Nat) (a1 : Int32) (M : Mem) : Option (Int64 × Mem) :=
  ob M 8 this (
    (gR M 8 0 this).bind fun x1 =>
    (f_X10_name x1 M).bind fun x2 =>
    (gR M 8 0 this).bind fun x3 =>
    (f_X10_isName x3 M).bind fun x4 =>
    bif x4 then (
      if a1 = (-1) then (
        f_X9_passNewName_42 this x2 M
      ) else (
        (gR M 8 0 this).bind fun x8 =>
        (f_X10_fail x8 3 M).bind fun M10 =>
        f_X9_passNewName_42 this x2 M10
      )
    ) else (
      (gR M 8 0 this).bind fun x11 =>
      (f_X10_fail x11 1 M).bind fun M13 =>
      f_X9_passNewName_42 this x2 M13
    )
  )
def f_X9_parseBox_57 (l2 : Int64) (s0 : Option Nat) (M : Mem) : Option Mem :=
  match s0 with
  | none => (
    some M
  )
  | some r14 => (
    (f_X0_begin r14 l2 M).bind fun M16 =>
    some M16
  )
def f_X9_parseBox_16 (this : Nat) (l1 : Nat) (M : Mem) : Option Mem :=
  (gR M 8 0 this).bind fun x2 =>
  (f_X10_next x2 M).bind fun M4 =>
  (gR M4 8 0 this).bind fun x5 =>
  (f_X10_name x5 M4).bind fun x6 =>
  (f_X8_boxNamed l1 x6 M4).bind fun x7 =>
  (f_X9_passNewName this x7 M4).bind fun (x8, M9) =>
  (gR M9 8 0 this).bind fun x10 =>
  (f_X10_failed x10 M9).bind fun x11 =>
  bif x11 then (
    f_X9_parseBox_57 x8 none M9
  ) else (
    (f_X8_addBox l1 M9).bind fun (x12, M13) =>
    f_X9_parseBox_57 x8 x12 M13
  )
def f_X9_parseBox (this : Nat) (a1 : Nat) (M : Mem) : Option Mem :=
  ob M 8 this (
    (gI M 7 1 a1).bind fun x1 =>
    if (x1 : Int32) < 3 then (
      f_X9_parseBox_16 this a1 M
    ) else (
      (gR M 8 0 this).bind fun x17 =>
      (f_X10_fail x17 4 M).bind fun M19 =>
      f_X9_parseBox_16 this a1 M19
    )
  )
def f_X9_knownBox (this : Nat) (a1 : Nat) (M : Mem) : Option (Int32 × Mem) :=
  ob M 8 this (
    (gR M 8 0 this).bind fun x1 =>
    (f_X10_isName x1 M).bind fun x2 =>
    bif x2 then (
      (gR M 8 0 this).bind fun x6 =>
      (f_X10_name x6 M).bind fun x7 =>
      (f_X8_boxNamed a1 x7 M).bind fun x8 =>
      if x8 = (-1) then (
        (gR M 8 0 this).bind fun x9 =>
        (f_X10_fail x9 3 M).bind fun M11 =>
        some (x8, M11)
      ) else (
        some (x8, M)
      )
    ) else (
      (gR M 8 0 this).bind fun x3 =>
      (f_X10_fail x3 1 M).bind fun M5 =>
      some ((-1), M5)
    )
  )
def f_X9_passFlags_41 (rc4 : Nat → Int32 → Int32 → Mem → Option (Int32 × Mem)) (this : Nat) (l1 : Int32) (l2 : Int32) (M : Mem) : Option (Int32 × Mem) :=
  (gR M 8 0 this).bind fun x5 =>
  (f_X10_flag x5 M).bind fun x6 =>
  (gR M 8 0 this).bind fun x7 =>
  (f_X10_next x7 M).bind fun M9 =>
  rc4 this (l1 ||| x6) (l2 + 1) M9
def f_X9_passFlags_4 : Nat → Nat → Int32 → Int32 → Mem → Option (Int32 × Mem)
  | 0 => fun _ _ _ _ => none
  | fu + 1 => fun this l1 l2 M =>
    if 700 ≤ l2 then (
      some (l1, M)
    ) else (
      (gR M 8 0 this).bind fun x1 =>
      (f_X10_flag x1 M).bind fun x2 =>
      if x2 = 0 then (
        some (l1, M)
      ) else (
        (gR M 8 0 this).bind fun x3 =>
        (f_X10_flag x3 M).bind fun x4 =>
        if (l1 &&& x4) = 0 then (
          f_X9_passFlags_41 (f_X9_passFlags_4 fu) this l1 l2 M
        ) else (
          (gR M 8 0 this).bind fun x10 =>
          (f_X10_fail x10 3 M).bind fun M12 =>
          f_X9_passFlags_41 (f_X9_passFlags_4 fu) this l1 l2 M12
        )
      )
    )
def f_X9_passFlags (this : Nat) (M : Mem) : Option (Int32 × Mem) :=
  ob M 8 this (
    f_X9_passFlags_4 FU this 0 0 M
  )
def f_X9_parseMessage_41 (this : Nat) (l2 : Nat) (M : Mem) : Option Mem :=
  (gR M 8 0 this).bind fun x10 =>
  (f_X10_next x10 M).bind fun M12 =>
  (gR M12 8 0 this).bind fun x13 =>
  (f_X10_passKeyword x13 3 M12).bind fun M15 =>
  (gR M15 8 0 this).bind fun x16 =>
  (f_X10_passNumber x16 1 9999 M15).bind fun (x17, M18) =>
  (f_X9_passFlags this M18).bind fun (x19, M20) =>
  (gR M20 8 0 this).bind fun x21 =>
  (f_X10_failed x21 M20).bind fun x22 =>
  bif x22 then (
    some M20
  ) else (
    (f_X0_addMessage l2 x17 x19 M20).bind fun M24 =>
    (pV M24 8 2 this (.int (b2i true))).bind fun M25 =>
    some M25
  )
def f_X9_parseMessage (this : Nat) (a1 : Nat) (M : Mem) : Option Mem :=
  ob M 8 this (
    (gR M 8 0 this).bind fun x1 =>
    (f_X10_next x1 M).bind fun M3 =>
    (f_X9_knownBox this a1 M3).bind fun (x4, M5) =>
    (f_X8_boxAt a1 x4 M5).bind fun x6 =>
    match x6 with
    | none => (
      some M5
    )
    | some r7 => (
      (f_X0_size r7 M5).bind fun x8 =>
      (gI M5 7 0 a1).bind fun x9 =>
      if x8 < x9 then (
        f_X9_parseMessage_41 this r7 M5
      ) else (
        (gR M5 8 0 this).bind fun x26 =>
        (f_X10_fail x26 4 M5).bind fun M28 =>
        f_X9_parseMessage_41 this r7 M28
      )
    )
  )
def f_X9_parseSession_115 (l2 : Int64) (l4 : Bool) (l5 : Int32) (s0 : Option Nat) (M : Mem) : Option Mem :=
  match s0 with
  | none => (
    some M
  )
  | some r21 => (
    (f_X7_begin r21 l2 l5 l4 M).bind fun M23 =>
    some M23
  )
def f_X9_parseSession_97 (this : Nat) (l1 : Nat) (l2 : Int64) (l4 : Bool) (l5 : Int32) (M : Mem) : Option Mem :=
  (gR M 8 0 this).bind fun x17 =>
  (f_X10_failed x17 M).bind fun x18 =>
  bif x18 then (
    f_X9_parseSession_115 l2 l4 l5 none M
  ) else (
    (f_X8_addSession l1 M).bind fun (x19, M20) =>
    f_X9_parseSession_115 l2 l4 l5 x19 M20
  )
def f_X9_parseSession_83 (this : Nat) (l1 : Nat) (l2 : Int64) (l4 : Bool) (M : Mem) : Option Mem :=
  (f_X9_knownBox this l1 M).bind fun (x12, M13) =>
  (gR M13 8 0 this).bind fun x14 =>
  (f_X10_next x14 M13).bind fun M16 =>
  f_X9_parseSession_97 this l1 l2 l4 x12 M16
def f_X9_parseSession_63 (this : Nat) (l1 : Nat) (l2 : Int64) (l4 : Bool) (M : Mem) : Option Mem :=
  bif l4 then (
    f_X9_parseSession_83 this l1 l2 l4 M
  ) else (
    (gR M 8 0 this).bind fun x24 =>
    (f_X10_isSymbol x24 59 M).bind fun x25 =>
    bif x25 then (
      f_X9_parseSession_97 this l1 l2 l4 (-1) M
    ) else (
      f_X9_parseSession_83 this l1 l2 l4 M
    )
  )
def f_X9_parseSession_16 (this : Nat) (l1 : Nat) (M : Mem) : Option Mem :=
  (gR M 8 0 this).bind fun x2 =>
  (f_X10_next x2 M).bind fun M4 =>
  (gR M4 8 0 this).bind fun x5 =>
  (f_X10_name x5 M4).bind fun x6 =>
  (f_X8_sessionNamed l1 x6 M4).bind fun x7 =>
  (f_X9_passNewName this x7 M4).bind fun (x8, M9) =>
  (gR M9 8 0 this).bind fun x10 =>
  (f_X10_isKeyword x10 5 M9).bind fun x11 =>
  bif x11 then (
    (gR M9 8 0 this).bind fun x26 =>
    (f_X10_next x26 M9).bind fun M28 =>
    f_X9_parseSession_63 this l1 x8 x11 M28
  ) else (
    f_X9_parseSession_63 this l1 x8 x11 M9
  )
def f_X9_parseSession (this : Nat) (a1 : Nat) (M : Mem) : Option Mem :=
  ob M 8 this (
    (gI M 7 2 a1).bind fun x1 =>
    if (x1 : Int32) < 4 then (
      f_X9_parseSession_16 this a1 M
    ) else (
      (gR M 8 0 this).bind fun x29 =>
      (f_X10_fail x29 4 M).bind fun M31 =>
      f_X9_parseSession_16 this a1 M31
    )
  )
def f_X9_parseStatement_92 (this : Nat) (M : Mem) : Option Mem :=
  (gR M 8 0 this).bind fun x12 =>
  (f_X10_passSymbol x12 59 M).bind fun M14 =>
  some M14
def f_X9_parseStatement (this : Nat) (a1 : Nat) (M : Mem) : Option Mem :=
  ob M 8 this (
    (gR M 8 0 this).bind fun x1 =>
    (f_X10_isKeyword x1 0 M).bind fun x2 =>
    bif x2 then (
      (f_X9_parseLimit this a1 M).bind fun M22 =>
      f_X9_parseStatement_92 this M22
    ) else (
      (gR M 8 0 this).bind fun x3 =>
      (f_X10_isKeyword x3 1 M).bind fun x4 =>
      bif x4 then (
        (f_X9_parseBox this a1 M).bind fun M20 =>
        f_X9_parseStatement_92 this M20
      ) else (
        (gR M 8 0 this).bind fun x5 =>
        (f_X10_isKeyword x5 2 M).bind fun x6 =>
        bif x6 then (
          (f_X9_parseMessage this a1 M).bind fun M18 =>
          f_X9_parseStatement_92 this M18
        ) else (
          (gR M 8 0 this).bind fun x7 =>
          (f_X10_isKeyword x7 4 M).bind fun x8 =>
          bif x8 then (
            (f_X9_parseSession this a1 M).bind fun M16 =>
            f_X9_parseStatement_92 this M16
          ) else (
            (gR M 8 0 this).bind fun x9 =>
            (f_X10_fail x9 1 M).bind fun M11 =>
            f_X9_parseStatement_92 this M11
          )
        )
      )
    )
  )
def f_X9_parseInto_66 (l1 : Nat) (M : Mem) : Option Mem :=
  (f_X8_enterBoxes l1 M).bind fun M11 =>
  some M11
def f_X9_parseInto_28 : Nat → Nat → Nat → Int32 → Mem → Option Mem
  | 0 => fun _ _ _ _ => none
  | fu + 1 => fun this l1 l2 M =>
    if 700 ≤ l2 then (
      f_X9_parseInto_66 l1 M
    ) else (
      (gR M 8 0 this).bind fun x12 =>
      (f_X10_failed x12 M).bind fun x13 =>
      bif x13 then (
        f_X9_parseInto_66 l1 M
      ) else (
        (gR M 8 0 this).bind fun x14 =>
        (f_X10_atEnd x14 M).bind fun x15 =>
        bif x15 then (
          f_X9_parseInto_66 l1 M
        ) else (
          (f_X9_parseStatement this l1 M).bind fun M17 =>
          (f_X9_parseInto_28 fu) this l1 (l2 + 1) M17
        )
      )
    )
def f_X9_parseInto (this : Nat) (a1 : Nat) (M : Mem) : Option Mem :=
  ob M 8 this (
    (f_X8_clear a1 M).bind fun M2 =>
    (pV M2 8 1 this (.int (b2i false))).bind fun M3 =>
    (pV M3 8 2 this (.int (b2i false))).bind fun M4 =>
    (gR M4 8 0 this).bind fun x5 =>
    (f_X10_begin x5 M4).bind fun M7 =>
    (f_X9_parseStatement this a1 M7).bind fun M9 =>
    f_X9_parseInto_28 FU this a1 0 M9
  )
theorem fl_X9_9_w : (Cond.fieldLink RX9 9 (TX9 0).1 (TX9 0).2.1 (TX9 0).2.2.1) ∈ cr_U := mem_U (i := 307) (by decide +kernel) rfl
theorem fl_X9_9 : flk RX9 9 (TX9 0) := Or.inl fl_X9_9_w
theorem ml_X9_3 : (Cond.methodLink RX9 3 Lib.objectInit) ∈ cr_U := mem_U (i := 306) (by decide +kernel) rfl
theorem cw_X9_init : (Cond.code yX9_init cX9_init 2 (none)) ∈ cr_U := mem_U (i := 305) (by decide +kernel) rfl
theorem ini_X9 : (Cond.initialized RX9) ∈ cr_U := mem_U (i := 35) (by decide +kernel) rfl
theorem fl_X9_24_w : (Cond.fieldLink RX9 24 (TX9 2).1 (TX9 2).2.1 (TX9 2).2.2.1) ∈ cr_U := mem_U (i := 309) (by decide +kernel) rfl
theorem fl_X9_24 : flk RX9 24 (TX9 2) := Or.inl fl_X9_24_w
theorem fl_X9_20_w : (Cond.fieldLink RX9 20 (TX9 1).1 (TX9 1).2.1 (TX9 1).2.2.1) ∈ cr_U := mem_U (i := 308) (by decide +kernel) rfl
theorem fl_X9_20 : flk RX9 20 (TX9 1) := Or.inl fl_X9_20_w
theorem ml_X9_85 : (Cond.methodLink RX9 85 yX10_next) ∈ cr_U := mem_U (i := 1024) (by decide +kernel) rfl
theorem ml_X9_88 : (Cond.methodLink RX9 88 yX10_passNumber) ∈ cr_U := mem_U (i := 1025) (by decide +kernel) rfl
theorem im_X10_passNumber : (Cond.instanceMethod yX10_passNumber) ∈ cr_U := mem_U (i := 1026) (by decide +kernel) rfl
theorem se_X10_passNumber : (Cond.selects RX10 yX10_passNumber yX10_passNumber) ∈ cr_U := mem_U (i := 1027) (by decide +kernel) rfl
theorem fl_X9_92_w : (Cond.fieldLinkNest RX9 92 (TX8 0).1 (TX8 0).2.1 (TX8 0).2.2.1 RX11) ∈ lw_tbl := List.mem_of_getElem? (i := 175) (by decide +kernel)
theorem fl_X9_92 : flk RX9 92 (TX8 0) := Or.inr ⟨_, fl_X9_92_w⟩
theorem ml_X9_77 : (Cond.methodLink RX9 77 yX10_fail) ∈ cr_U := mem_U (i := 1020) (by decide +kernel) rfl
theorem cw_X9_parseLimit : (Cond.code yX9_parseLimit cX9_parseLimit 2 (none)) ∈ cr_U := mem_U (i := 1019) (by decide +kernel) rfl
theorem ml_X9_99 : (Cond.methodLink RX9 99 yX10_name) ∈ cr_U := mem_U (i := 1036) (by decide +kernel) rfl
theorem im_X10_name : (Cond.instanceMethod yX10_name) ∈ cr_U := mem_U (i := 1037) (by decide +kernel) rfl
theorem se_X10_name : (Cond.selects RX10 yX10_name yX10_name) ∈ cr_U := mem_U (i := 1038) (by decide +kernel) rfl
theorem ml_X9_171 : (Cond.methodLink RX9 171 yX10_isName) ∈ cr_U := mem_U (i := 1048) (by decide +kernel) rfl
theorem im_X10_isName : (Cond.instanceMethod yX10_isName) ∈ cr_U := mem_U (i := 1049) (by decide +kernel) rfl
theorem se_X10_isName : (Cond.selects RX10 yX10_isName yX10_isName) ∈ cr_U := mem_U (i := 1050) (by decide +kernel) rfl
theorem cw_X9_passNewName : (Cond.code yX9_passNewName cX9_passNewName 4 (some .long)) ∈ cr_U := mem_U (i := 1047) (by decide +kernel) rfl
theorem fl_X9_96_w : (Cond.fieldLinkNest RX9 96 (TX8 1).1 (TX8 1).2.1 (TX8 1).2.2.1 RX11) ∈ lw_tbl := List.mem_of_getElem? (i := 178) (by decide +kernel)
theorem fl_X9_96 : flk RX9 96 (TX8 1) := Or.inr ⟨_, fl_X9_96_w⟩
theorem ml_X9_103 : (Cond.methodLink RX9 103 yX8_boxNamed) ∈ cr_U := mem_U (i := 1040) (by decide +kernel) rfl
theorem im_X8_boxNamed : (Cond.instanceMethod yX8_boxNamed) ∈ cr_U := mem_U (i := 1041) (by decide +kernel) rfl
theorem se_X8_boxNamed : (Cond.selects RX8 yX8_boxNamed yX8_boxNamed) ∈ cr_U := mem_U (i := 1042) (by decide +kernel) rfl
theorem ml_X9_107 : (Cond.methodLink RX9 107 yX9_passNewName) ∈ cr_U := mem_U (i := 1044) (by decide +kernel) rfl
theorem im_X9_passNewName : (Cond.instanceMethod yX9_passNewName) ∈ cr_U := mem_U (i := 1046) (by decide +kernel) rfl
theorem se_X9_passNewName : (Cond.selects RX9 yX9_passNewName yX9_passNewName) ∈ cr_U := mem_U (i := 10) (by decide +kernel) rfl
theorem ml_X9_36 : (Cond.methodLink RX9 36 yX10_failed) ∈ cr_U := mem_U (i := 1052) (by decide +kernel) rfl
theorem im_X10_failed : (Cond.instanceMethod yX10_failed) ∈ cr_U := mem_U (i := 1053) (by decide +kernel) rfl
theorem se_X10_failed : (Cond.selects RX10 yX10_failed yX10_failed) ∈ cr_U := mem_U (i := 1054) (by decide +kernel) rfl
theorem ml_X9_111 : (Cond.methodLink RX9 111 yX8_addBox) ∈ cr_U := mem_U (i := 1056) (by decide +kernel) rfl
theorem ml_X9_115 : (Cond.methodLink RX9 115 yX0_begin) ∈ cr_U := mem_U (i := 1060) (by decide +kernel) rfl
theorem im_X0_begin : (Cond.instanceMethod yX0_begin) ∈ cr_U := mem_U (i := 1061) (by decide +kernel) rfl
theorem se_X0_begin : (Cond.selects RX0 yX0_begin yX0_begin) ∈ cr_U := mem_U (i := 1062) (by decide +kernel) rfl
theorem cw_X9_parseBox : (Cond.code yX9_parseBox cX9_parseBox 5 (none)) ∈ cr_U := mem_U (i := 1035) (by decide +kernel) rfl
theorem cw_X9_knownBox : (Cond.code yX9_knownBox cX9_knownBox 3 (some .int)) ∈ cr_U := mem_U (i := 1077) (by decide +kernel) rfl
theorem ml_X9_146 : (Cond.methodLink RX9 146 yX10_flag) ∈ cr_U := mem_U (i := 1091) (by decide +kernel) rfl
theorem im_X10_flag : (Cond.instanceMethod yX10_flag) ∈ cr_U := mem_U (i := 1092) (by decide +kernel) rfl
theorem se_X10_flag : (Cond.selects RX10 yX10_flag yX10_flag) ∈ cr_U := mem_U (i := 1093) (by decide +kernel) rfl
theorem cw_X9_passFlags : (Cond.code yX9_passFlags cX9_passFlags 3 (some .int)) ∈ cr_U := mem_U (i := 1090) (by decide +kernel) rfl
theorem ml_X9_120 : (Cond.methodLink RX9 120 yX9_knownBox) ∈ cr_U := mem_U (i := 1074) (by decide +kernel) rfl
theorem im_X9_knownBox : (Cond.instanceMethod yX9_knownBox) ∈ cr_U := mem_U (i := 1076) (by decide +kernel) rfl
theorem se_X9_knownBox : (Cond.selects RX9 yX9_knownBox yX9_knownBox) ∈ cr_U := mem_U (i := 12) (by decide +kernel) rfl
theorem ml_X9_124 : (Cond.methodLink RX9 124 yX8_boxAt) ∈ cr_U := mem_U (i := 1078) (by decide +kernel) rfl
theorem ml_X9_128 : (Cond.methodLink RX9 128 yX0_size) ∈ cr_U := mem_U (i := 1079) (by decide +kernel) rfl
theorem ml_X9_135 : (Cond.methodLink RX9 135 yX10_passKeyword) ∈ cr_U := mem_U (i := 1082) (by decide +kernel) rfl
theorem im_X10_passKeyword : (Cond.instanceMethod yX10_passKeyword) ∈ cr_U := mem_U (i := 1083) (by decide +kernel) rfl
theorem se_X10_passKeyword : (Cond.selects RX10 yX10_passKeyword yX10_passKeyword) ∈ cr_U := mem_U (i := 1084) (by decide +kernel) rfl
theorem ml_X9_139 : (Cond.methodLink RX9 139 yX9_passFlags) ∈ cr_U := mem_U (i := 1087) (by decide +kernel) rfl
theorem im_X9_passFlags : (Cond.instanceMethod yX9_passFlags) ∈ cr_U := mem_U (i := 1089) (by decide +kernel) rfl
theorem se_X9_passFlags : (Cond.selects RX9 yX9_passFlags yX9_passFlags) ∈ cr_U := mem_U (i := 13) (by decide +kernel) rfl
theorem ml_X9_142 : (Cond.methodLink RX9 142 yX0_addMessage) ∈ cr_U := mem_U (i := 1095) (by decide +kernel) rfl
theorem fk_X9_132_w : (Cond.fieldLink RX9 132 kwT "SIZE" kwD) ∈ cr_U := mem_U (i := 1080) (by decide +kernel) rfl
theorem fk_X9_132 : flk RX9 132 (kwT, "SIZE", kwD, true) := Or.inl fk_X9_132_w
theorem cw_X9_parseMessage : (Cond.code yX9_parseMessage cX9_parseMessage 5 (none)) ∈ cr_U := mem_U (i := 1073) (by decide +kernel) rfl
theorem fl_X9_149_w : (Cond.fieldLinkNest RX9 149 (TX8 2).1 (TX8 2).2.1 (TX8 2).2.2.1 RX11) ∈ lw_tbl := List.mem_of_getElem? (i := 181) (by decide +kernel)
theorem fl_X9_149 : flk RX9 149 (TX8 2) := Or.inr ⟨_, fl_X9_149_w⟩
theorem ml_X9_152 : (Cond.methodLink RX9 152 yX8_sessionNamed) ∈ cr_U := mem_U (i := 1109) (by decide +kernel) rfl
theorem im_X8_sessionNamed : (Cond.instanceMethod yX8_sessionNamed) ∈ cr_U := mem_U (i := 1110) (by decide +kernel) rfl
theorem se_X8_sessionNamed : (Cond.selects RX8 yX8_sessionNamed yX8_sessionNamed) ∈ cr_U := mem_U (i := 1111) (by decide +kernel) rfl
theorem ml_X9_52 : (Cond.methodLink RX9 52 yX10_isKeyword) ∈ cr_U := mem_U (i := 1012) (by decide +kernel) rfl
theorem ml_X9_162 : (Cond.methodLink RX9 162 yX8_addSession) ∈ cr_U := mem_U (i := 1120) (by decide +kernel) rfl
theorem ml_X9_166 : (Cond.methodLink RX9 166 yX7_begin) ∈ cr_U := mem_U (i := 1124) (by decide +kernel) rfl
theorem im_X7_begin : (Cond.instanceMethod yX7_begin) ∈ cr_U := mem_U (i := 1125) (by decide +kernel) rfl
theorem se_X7_begin : (Cond.selects RX7 yX7_begin yX7_begin) ∈ cr_U := mem_U (i := 1126) (by decide +kernel) rfl
theorem ml_X9_158 : (Cond.methodLink RX9 158 yX10_isSymbol) ∈ cr_U := mem_U (i := 1116) (by decide +kernel) rfl
theorem fk_X9_155_w : (Cond.fieldLink RX9 155 kwT "READS" kwD) ∈ cr_U := mem_U (i := 1114) (by decide +kernel) rfl
theorem fk_X9_155 : flk RX9 155 (kwT, "READS", kwD, true) := Or.inl fk_X9_155_w
theorem cw_X9_parseSession : (Cond.code yX9_parseSession cX9_parseSession 7 (none)) ∈ cr_U := mem_U (i := 1108) (by decide +kernel) rfl
theorem ml_X9_81 : (Cond.methodLink RX9 81 yX10_passSymbol) ∈ cr_U := mem_U (i := 1139) (by decide +kernel) rfl
theorem im_X10_passSymbol : (Cond.instanceMethod yX10_passSymbol) ∈ cr_U := mem_U (i := 1140) (by decide +kernel) rfl
theorem se_X10_passSymbol : (Cond.selects RX10 yX10_passSymbol yX10_passSymbol) ∈ cr_U := mem_U (i := 1141) (by decide +kernel) rfl
theorem ml_X9_74 : (Cond.methodLink RX9 74 yX9_parseSession) ∈ cr_U := mem_U (i := 1105) (by decide +kernel) rfl
theorem im_X9_parseSession : (Cond.instanceMethod yX9_parseSession) ∈ cr_U := mem_U (i := 1107) (by decide +kernel) rfl
theorem se_X9_parseSession : (Cond.selects RX9 yX9_parseSession yX9_parseSession) ∈ cr_U := mem_U (i := 14) (by decide +kernel) rfl
theorem fk_X9_71_w : (Cond.fieldLink RX9 71 kwT "SESSION" kwD) ∈ cr_U := mem_U (i := 1103) (by decide +kernel) rfl
theorem fk_X9_71 : flk RX9 71 (kwT, "SESSION", kwD, true) := Or.inl fk_X9_71_w
theorem ml_X9_68 : (Cond.methodLink RX9 68 yX9_parseMessage) ∈ cr_U := mem_U (i := 1070) (by decide +kernel) rfl
theorem im_X9_parseMessage : (Cond.instanceMethod yX9_parseMessage) ∈ cr_U := mem_U (i := 1072) (by decide +kernel) rfl
theorem se_X9_parseMessage : (Cond.selects RX9 yX9_parseMessage yX9_parseMessage) ∈ cr_U := mem_U (i := 11) (by decide +kernel) rfl
theorem fk_X9_65_w : (Cond.fieldLink RX9 65 kwT "MESSAGE" kwD) ∈ cr_U := mem_U (i := 1068) (by decide +kernel) rfl
theorem fk_X9_65 : flk RX9 65 (kwT, "MESSAGE", kwD, true) := Or.inl fk_X9_65_w
theorem ml_X9_62 : (Cond.methodLink RX9 62 yX9_parseBox) ∈ cr_U := mem_U (i := 1032) (by decide +kernel) rfl
theorem im_X9_parseBox : (Cond.instanceMethod yX9_parseBox) ∈ cr_U := mem_U (i := 1034) (by decide +kernel) rfl
theorem se_X9_parseBox : (Cond.selects RX9 yX9_parseBox yX9_parseBox) ∈ cr_U := mem_U (i := 9) (by decide +kernel) rfl
theorem fk_X9_59_w : (Cond.fieldLink RX9 59 kwT "BOX" kwD) ∈ cr_U := mem_U (i := 1030) (by decide +kernel) rfl
theorem fk_X9_59 : flk RX9 59 (kwT, "BOX", kwD, true) := Or.inl fk_X9_59_w
theorem ml_X9_56 : (Cond.methodLink RX9 56 yX9_parseLimit) ∈ cr_U := mem_U (i := 1016) (by decide +kernel) rfl
theorem im_X9_parseLimit : (Cond.instanceMethod yX9_parseLimit) ∈ cr_U := mem_U (i := 1018) (by decide +kernel) rfl
theorem se_X9_parseLimit : (Cond.selects RX9 yX9_parseLimit yX9_parseLimit) ∈ cr_U := mem_U (i := 8) (by decide +kernel) rfl
theorem fk_X9_46_w : (Cond.fieldLink RX9 46 kwT "LIMIT" kwD) ∈ cr_U := mem_U (i := 1010) (by decide +kernel) rfl
theorem fk_X9_46 : flk RX9 46 (kwT, "LIMIT", kwD, true) := Or.inl fk_X9_46_w
theorem cw_X9_parseStatement : (Cond.code yX9_parseStatement cX9_parseStatement 2 (none)) ∈ cr_U := mem_U (i := 1009) (by decide +kernel) rfl
theorem ml_X9_15 : (Cond.methodLink RX9 15 yX8_clear) ∈ cr_U := mem_U (i := 950) (by decide +kernel) rfl
theorem ml_X9_27 : (Cond.methodLink RX9 27 yX10_begin) ∈ cr_U := mem_U (i := 954) (by decide +kernel) rfl
theorem im_X10_begin : (Cond.instanceMethod yX10_begin) ∈ cr_U := mem_U (i := 955) (by decide +kernel) rfl
theorem se_X10_begin : (Cond.selects RX10 yX10_begin yX10_begin) ∈ cr_U := mem_U (i := 956) (by decide +kernel) rfl
theorem ml_X9_32 : (Cond.methodLink RX9 32 yX9_parseStatement) ∈ cr_U := mem_U (i := 1006) (by decide +kernel) rfl
theorem im_X9_parseStatement : (Cond.instanceMethod yX9_parseStatement) ∈ cr_U := mem_U (i := 1008) (by decide +kernel) rfl
theorem se_X9_parseStatement : (Cond.selects RX9 yX9_parseStatement yX9_parseStatement) ∈ cr_U := mem_U (i := 7) (by decide +kernel) rfl
theorem ml_X9_43 : (Cond.methodLink RX9 43 yX8_enterBoxes) ∈ cr_U := mem_U (i := 1148) (by decide +kernel) rfl
theorem im_X8_enterBoxes : (Cond.instanceMethod yX8_enterBoxes) ∈ cr_U := mem_U (i := 1149) (by decide +kernel) rfl
theorem se_X8_enterBoxes : (Cond.selects RX8 yX8_enterBoxes yX8_enterBoxes) ∈ cr_U := mem_U (i := 1150) (by decide +kernel) rfl
theorem ml_X9_40 : (Cond.methodLink RX9 40 yX10_atEnd) ∈ cr_U := mem_U (i := 1144) (by decide +kernel) rfl
theorem im_X10_atEnd : (Cond.instanceMethod yX10_atEnd) ∈ cr_U := mem_U (i := 1145) (by decide +kernel) rfl
theorem se_X10_atEnd : (Cond.selects RX10 yX10_atEnd yX10_atEnd) ∈ cr_U := mem_U (i := 1146) (by decide +kernel) rfl
theorem cw_X9_parseInto : (Cond.code yX9_parseInto cX9_parseInto 3 (none)) ∈ cr_U := mem_U (i := 949) (by decide +kernel) rfl
theorem dX9_init_0 : decode cX9_init 0 = .ok (.aload_n 0, 1) := by decide +kernel
theorem dX9_init_1 : decode cX9_init 1 = .ok (.invokespecial 3, 3) := by decide +kernel
theorem dX9_init_4 : decode cX9_init 4 = .ok (.aload_n 0, 1) := by decide +kernel
theorem dX9_init_5 : decode cX9_init 5 = .ok (.aload_n 1, 1) := by decide +kernel
theorem dX9_init_6 : decode cX9_init 6 = .ok (.putfield 9, 3) := by decide +kernel
theorem dX9_init_9 : decode cX9_init 9 = .ok (.return_, 1) := by decide +kernel
def mi_X9_init : MI := (RX9, yX9_init, cX9_init, 2, none, [], { frames := 1, cells := 0, slots := 0, locals := 12 })
theorem ok_X9_init : mOK mi_X9_init 1 := ⟨rfl, cw_X9_init, ini_X9, ⟨rfl, by decide⟩, by decide, by decide, rfl⟩
theorem v_X9_init (this : Nat) (a1 : Nat) (M : Mem) : V mi_X9_init 0 [(0, .ref this), (1, .ref a1)] [] M 0 0 (f_X9_init this a1 M) wV := by
  unfold f_X9_init
  refine V_ob fun _ _ => ?_
  refine V_aload_n dX9_init_0 rfl 0 rfl ?_
  refine V_objInit ml_X9_3 dX9_init_1 rfl ⟨(Nat.le_of_ble_eq_true rfl), (Nat.le_of_ble_eq_true rfl)⟩ ?_
  refine V_aload_n dX9_init_4 rfl 0 rfl ?_
  refine V_aload_n dX9_init_5 rfl 1 rfl ?_
  refine V_putFR dX9_init_6 rfl (ci := 8) (T := TX9) rfl (by decide) fl_X9_9_w rfl rfl rfl rfl (fun _ => rfl) (fun _ => rfl) (fun M1 => ?_)
  exact V_vret dX9_init_9 rfl rfl ⟨(Nat.le_of_ble_eq_true rfl), (Nat.le_of_ble_eq_true rfl)⟩
theorem k_X9_init (this : Nat) (a1 : Nat) (M : Mem) : K mi_X9_init [.ref this, .ref a1] M (f_X9_init this a1 M) wV := K_of_V ok_X9_init (Nat.le_of_ble_eq_true rfl) (v_X9_init this a1 M)
theorem o_X9_init {this : Nat} {a1 : Nat} {M : Mem} {x} (h : f_X9_init this a1 M = some x) : isO M 8 this = true := (ob_of h).1
theorem dX9_parseLimit_0 : decode cX9_parseLimit 0 = .ok (.aload_n 0, 1) := by decide +kernel
theorem dX9_parseLimit_1 : decode cX9_parseLimit 1 = .ok (.getfield 24, 3) := by decide +kernel
theorem dX9_parseLimit_4 : decode cX9_parseLimit 4 = .ok (.ifCond .eq 14, 3) := by decide +kernel
theorem dX9_parseLimit_7 : decode cX9_parseLimit 7 = .ok (.aload_n 0, 1) := by decide +kernel
theorem dX9_parseLimit_8 : decode cX9_parseLimit 8 = .ok (.getfield 9, 3) := by decide +kernel
theorem dX9_parseLimit_11 : decode cX9_parseLimit 11 = .ok (.iconst 1, 1) := by decide +kernel
theorem dX9_parseLimit_12 : decode cX9_parseLimit 12 = .ok (.invokevirtual 77, 3) := by decide +kernel
theorem dX9_parseLimit_15 : decode cX9_parseLimit 15 = .ok (.goto 18, 3) := by decide +kernel
theorem dX9_parseLimit_18 : decode cX9_parseLimit 18 = .ok (.aload_n 0, 1) := by decide +kernel
theorem dX9_parseLimit_19 : decode cX9_parseLimit 19 = .ok (.getfield 20, 3) := by decide +kernel
theorem dX9_parseLimit_22 : decode cX9_parseLimit 22 = .ok (.ifCond .eq 11, 3) := by decide +kernel
theorem dX9_parseLimit_25 : decode cX9_parseLimit 25 = .ok (.aload_n 0, 1) := by decide +kernel
theorem dX9_parseLimit_26 : decode cX9_parseLimit 26 = .ok (.getfield 9, 3) := by decide +kernel
theorem dX9_parseLimit_29 : decode cX9_parseLimit 29 = .ok (.iconst 3, 1) := by decide +kernel
theorem dX9_parseLimit_30 : decode cX9_parseLimit 30 = .ok (.invokevirtual 77, 3) := by decide +kernel
theorem dX9_parseLimit_33 : decode cX9_parseLimit 33 = .ok (.aload_n 0, 1) := by decide +kernel
theorem dX9_parseLimit_34 : decode cX9_parseLimit 34 = .ok (.getfield 9, 3) := by decide +kernel
theorem dX9_parseLimit_37 : decode cX9_parseLimit 37 = .ok (.invokevirtual 85, 3) := by decide +kernel
theorem dX9_parseLimit_40 : decode cX9_parseLimit 40 = .ok (.aload_n 1, 1) := by decide +kernel
theorem dX9_parseLimit_41 : decode cX9_parseLimit 41 = .ok (.aload_n 0, 1) := by decide +kernel
theorem dX9_parseLimit_42 : decode cX9_parseLimit 42 = .ok (.getfield 9, 3) := by decide +kernel
theorem dX9_parseLimit_45 : decode cX9_parseLimit 45 = .ok (.iconst 1, 1) := by decide +kernel
theorem dX9_parseLimit_46 : decode cX9_parseLimit 46 = .ok (.bipush 30, 2) := by decide +kernel
theorem dX9_parseLimit_48 : decode cX9_parseLimit 48 = .ok (.invokevirtual 88, 3) := by decide +kernel
theorem dX9_parseLimit_51 : decode cX9_parseLimit 51 = .ok (.putfield 92, 3) := by decide +kernel
theorem dX9_parseLimit_54 : decode cX9_parseLimit 54 = .ok (.aload_n 0, 1) := by decide +kernel
theorem dX9_parseLimit_55 : decode cX9_parseLimit 55 = .ok (.iconst 1, 1) := by decide +kernel
theorem dX9_parseLimit_56 : decode cX9_parseLimit 56 = .ok (.putfield 20, 3) := by decide +kernel
theorem dX9_parseLimit_59 : decode cX9_parseLimit 59 = .ok (.return_, 1) := by decide +kernel
def mi_X9_parseLimit : MI := (RX9, yX9_parseLimit, cX9_parseLimit, 2, none, [], { frames := 3, cells := 0, slots := 0, locals := 56 })
theorem ok_X9_parseLimit : mOK mi_X9_parseLimit 1 := ⟨rfl, cw_X9_parseLimit, ini_X9, ⟨rfl, by decide⟩, by decide, by decide, rfl⟩
theorem v_X9_parseLimit_33 (this : Nat) (l1 : Nat) (M : Mem) : V mi_X9_parseLimit 33 [(0, .ref this), (1, .ref l1)] [] M 0 0 (f_X9_parseLimit_33 this l1 M) wV := by
  unfold f_X9_parseLimit_33
  refine V_aload_n dX9_parseLimit_33 rfl 0 rfl ?_
  refine V_getR dX9_parseLimit_34 rfl (ci := 8) (T := TX9) rfl (by decide) fl_X9_9 (fun x3 => ?_)
  refine V_cVwV (As := []) (k_X10_next x3 M) (fun _ h => o_X10_next h) ok_X10_next im_X10_next se_X10_next rfl (ci := 9) rfl ml_X9_85 ⟨⟨(Nat.le_of_ble_eq_true rfl), (Nat.le_of_ble_eq_true rfl)⟩, (Nat.le_of_ble_eq_true rfl), (Nat.le_of_ble_eq_true rfl)⟩ dX9_parseLimit_37 rfl rfl rfl (Nat.le_of_ble_eq_true rfl) rfl rfl (fun M5 => ?_)
  refine V_aload_n dX9_parseLimit_40 rfl 1 rfl ?_
  refine V_aload_n dX9_parseLimit_41 rfl 0 rfl ?_
  refine V_getR dX9_parseLimit_42 rfl (ci := 8) (T := TX9) rfl (by decide) fl_X9_9 (fun x6 => ?_)
  refine V_iconst (x := 1) dX9_parseLimit_45 rfl rfl ?_
  refine V_bipush (x := 30) dX9_parseLimit_46 rfl rfl ?_
  refine V_cVwI (As := [.int 1, .int 30]) (k_X10_passNumber x6 1 30 M5) (fun _ h => o_X10_passNumber h) ok_X10_passNumber im_X10_passNumber se_X10_passNumber rfl (ci := 9) rfl ml_X9_88 ⟨⟨(Nat.le_of_ble_eq_true rfl), (Nat.le_of_ble_eq_true rfl)⟩, (Nat.le_of_ble_eq_true rfl), (Nat.le_of_ble_eq_true rfl)⟩ dX9_parseLimit_48 rfl rfl rfl (Nat.le_of_ble_eq_true rfl) rfl rfl (fun x7 M8 => ?_)
  refine V_putI dX9_parseLimit_51 rfl (ci := 7) (T := TX8) rfl (by decide) fl_X9_92 rfl rfl (fun M9 => ?_)
  refine V_aload_n dX9_parseLimit_54 rfl 0 rfl ?_
  refine V_iconst (x := 1) dX9_parseLimit_55 rfl rfl ?_
  refine V_putZ (v := true) dX9_parseLimit_56 rfl (ci := 8) (T := TX9) rfl (by decide) fl_X9_20 rfl rfl (fun M10 => ?_)
  exact V_vret dX9_parseLimit_59 rfl rfl ⟨(Nat.le_of_ble_eq_true rfl), (Nat.le_of_ble_eq_true rfl)⟩
theorem v_X9_parseLimit (this : Nat) (a1 : Nat) (M : Mem) : V mi_X9_parseLimit 0 [(0, .ref this), (1, .ref a1)] [] M 0 0 (f_X9_parseLimit this a1 M) wV := by
  unfold f_X9_parseLimit
  refine V_ob fun _ _ => ?_
  refine V_aload_n dX9_parseLimit_0 rfl 0 rfl ?_
  refine V_getZ dX9_parseLimit_1 rfl (ci := 8) (T := TX9) rfl (by decide) fl_X9_24 (fun x1 => ?_)
  refine V_ifz_eq (q := 18) (q2 := 7) dX9_parseLimit_4 (by decide) rfl ?_ ?_
  · refine V_aload_n dX9_parseLimit_18 rfl 0 rfl ?_
    refine V_getZ dX9_parseLimit_19 rfl (ci := 8) (T := TX9) rfl (by decide) fl_X9_20 (fun x2 => ?_)
    refine V_ifz_eq (q := 33) (q2 := 25) dX9_parseLimit_22 (by decide) rfl ?_ ?_
    · exact v_X9_parseLimit_33 this a1 M
    · refine V_aload_n dX9_parseLimit_25 rfl 0 rfl ?_
      refine V_getR dX9_parseLimit_26 rfl (ci := 8) (T := TX9) rfl (by decide) fl_X9_9 (fun x11 => ?_)
      refine V_iconst (x := 3) dX9_parseLimit_29 rfl rfl ?_
      refine V_cVwV (As := [.int 3]) (k_X10_fail x11 3 M) (fun _ h => o_X10_fail h) ok_X10_fail im_X10_fail se_X10_fail rfl (ci := 9) rfl ml_X9_77 ⟨⟨(Nat.le_of_ble_eq_true rfl), (Nat.le_of_ble_eq_true rfl)⟩, (Nat.le_of_ble_eq_true rfl), (Nat.le_of_ble_eq_true rfl)⟩ dX9_parseLimit_30 rfl rfl rfl (Nat.le_of_ble_eq_true rfl) rfl rfl (fun M13 => ?_)
      exact v_X9_parseLimit_33 this a1 M13
  · refine V_aload_n dX9_parseLimit_7 rfl 0 rfl ?_
    refine V_getR dX9_parseLimit_8 rfl (ci := 8) (T := TX9) rfl (by decide) fl_X9_9 (fun x14 => ?_)
    refine V_iconst (x := 1) dX9_parseLimit_11 rfl rfl ?_
    refine V_cVwV (As := [.int 1]) (k_X10_fail x14 1 M) (fun _ h => o_X10_fail h) ok_X10_fail im_X10_fail se_X10_fail rfl (ci := 9) rfl ml_X9_77 ⟨⟨(Nat.le_of_ble_eq_true rfl), (Nat.le_of_ble_eq_true rfl)⟩, (Nat.le_of_ble_eq_true rfl), (Nat.le_of_ble_eq_true rfl)⟩ dX9_parseLimit_12 rfl rfl rfl (Nat.le_of_ble_eq_true rfl) rfl rfl (fun M16 => ?_)
    refine V_goto (q := 33) dX9_parseLimit_15 (by decide) ?_
    exact v_X9_parseLimit_33 this a1 M16
theorem k_X9_parseLimit (this : Nat) (a1 : Nat) (M : Mem) : K mi_X9_parseLimit [.ref this, .ref a1] M (f_X9_parseLimit this a1 M) wV := K_of_V ok_X9_parseLimit (Nat.le_of_ble_eq_true rfl) (v_X9_parseLimit this a1 M)
theorem o_X9_parseLimit {this : Nat} {a1 : Nat} {M : Mem} {x} (h : f_X9_parseLimit this a1 M = some x) : isO M 8 this = true := (ob_of h).1
theorem dX9_passNewName_0 : decode cX9_passNewName 0 = .ok (.aload_n 0, 1) := by decide +kernel
theorem dX9_passNewName_1 : decode cX9_passNewName 1 = .ok (.getfield 9, 3) := by decide +kernel
theorem dX9_passNewName_4 : decode cX9_passNewName 4 = .ok (.invokevirtual 99, 3) := by decide +kernel
theorem dX9_passNewName_7 : decode cX9_passNewName 7 = .ok (.lstore_n 2, 1) := by decide +kernel
theorem dX9_passNewName_8 : decode cX9_passNewName 8 = .ok (.aload_n 0, 1) := by decide +kernel
theorem dX9_passNewName_9 : decode cX9_passNewName 9 = .ok (.getfield 9, 3) := by decide +kernel
theorem dX9_passNewName_12 : decode cX9_passNewName 12 = .ok (.invokevirtual 171, 3) := by decide +kernel
theorem dX9_passNewName_15 : decode cX9_passNewName 15 = .ok (.ifCond .ne 14, 3) := by decide +kernel
theorem dX9_passNewName_18 : decode cX9_passNewName 18 = .ok (.aload_n 0, 1) := by decide +kernel
theorem dX9_passNewName_19 : decode cX9_passNewName 19 = .ok (.getfield 9, 3) := by decide +kernel
theorem dX9_passNewName_22 : decode cX9_passNewName 22 = .ok (.iconst 1, 1) := by decide +kernel
theorem dX9_passNewName_23 : decode cX9_passNewName 23 = .ok (.invokevirtual 77, 3) := by decide +kernel
theorem dX9_passNewName_26 : decode cX9_passNewName 26 = .ok (.goto 16, 3) := by decide +kernel
theorem dX9_passNewName_29 : decode cX9_passNewName 29 = .ok (.iload_n 1, 1) := by decide +kernel
theorem dX9_passNewName_30 : decode cX9_passNewName 30 = .ok (.iconst (-1), 1) := by decide +kernel
theorem dX9_passNewName_31 : decode cX9_passNewName 31 = .ok (.if_icmp .eq 11, 3) := by decide +kernel
theorem dX9_passNewName_34 : decode cX9_passNewName 34 = .ok (.aload_n 0, 1) := by decide +kernel
theorem dX9_passNewName_35 : decode cX9_passNewName 35 = .ok (.getfield 9, 3) := by decide +kernel
theorem dX9_passNewName_38 : decode cX9_passNewName 38 = .ok (.iconst 3, 1) := by decide +kernel
theorem dX9_passNewName_39 : decode cX9_passNewName 39 = .ok (.invokevirtual 77, 3) := by decide +kernel
theorem dX9_passNewName_42 : decode cX9_passNewName 42 = .ok (.aload_n 0, 1) := by decide +kernel
theorem dX9_passNewName_43 : decode cX9_passNewName 43 = .ok (.getfield 9, 3) := by decide +kernel
theorem dX9_passNewName_46 : decode cX9_passNewName 46 = .ok (.invokevirtual 85, 3) := by decide +kernel
theorem dX9_passNewName_49 : decode cX9_passNewName 49 = .ok (.lload_n 2, 1) := by decide +kernel
theorem dX9_passNewName_50 : decode cX9_passNewName 50 = .ok (.lreturn, 1) := by decide +kernel
def mi_X9_passNewName : MI := (RX9, yX9_passNewName, cX9_passNewName, 4, some .long, [], { frames := 2, cells := 0, slots := 0, locals := 33 })
theorem ok_X9_passNewName : mOK mi_X9_passNewName 1 := ⟨rfl, cw_X9_passNewName, ini_X9, ⟨rfl, by decide⟩, by decide, by decide, rfl⟩
theorem v_X9_passNewName_42 (this : Nat) (l2 : Int64) (M : Mem) : V mi_X9_passNewName 42 [(0, .ref this), (2, .long l2)] [] M 0 0 (f_X9_passNewName_42 this l2 M) wJ := by
  unfold f_X9_passNewName_42
  refine V_aload_n dX9_passNewName_42 rfl 0 rfl ?_
  refine V_getR dX9_passNewName_43 rfl (ci := 8) (T := TX9) rfl (by decide) fl_X9_9 (fun x5 => ?_)
  refine V_cVwV (As := []) (k_X10_next x5 M) (fun _ h => o_X10_next h) ok_X10_next im_X10_next se_X10_next rfl (ci := 9) rfl ml_X9_85 ⟨⟨(Nat.le_of_ble_eq_true rfl), (Nat.le_of_ble_eq_true rfl)⟩, (Nat.le_of_ble_eq_true rfl), (Nat.le_of_ble_eq_true rfl)⟩ dX9_passNewName_46 rfl rfl rfl (Nat.le_of_ble_eq_true rfl) rfl rfl (fun M7 => ?_)
  refine V_lload_n dX9_passNewName_49 rfl 1 rfl ?_
  exact V_lret dX9_passNewName_50 rfl rfl ⟨(Nat.le_of_ble_eq_true rfl), (Nat.le_of_ble_eq_true rfl)⟩
theorem v_X9_passNewName (this : Nat) (a1 : Int32) (M : Mem) : V mi_X9_passNewName 0 [(0, .ref this), (1, .int a1)] [] M 0 0 (f_X9_passNewName this a1 M) wJ := by
  unfold f_X9_passNewName
  refine V_ob fun _ _ => ?_
  refine V_aload_n dX9_passNewName_0 rfl 0 rfl ?_
  refine V_getR dX9_passNewName_1 rfl (ci := 8) (T := TX9) rfl (by decide) fl_X9_9 (fun x1 => ?_)
  refine V_cVeJ (As := []) (k_X10_name x1 M) (fun _ h => o_X10_name h) ok_X10_name im_X10_name se_X10_name rfl (ci := 9) rfl ml_X9_99 ⟨⟨(Nat.le_of_ble_eq_true rfl), (Nat.le_of_ble_eq_true rfl)⟩, (Nat.le_of_ble_eq_true rfl), (Nat.le_of_ble_eq_true rfl)⟩ dX9_passNewName_4 rfl rfl rfl (Nat.le_of_ble_eq_true rfl) rfl rfl (fun x2 => ?_)
  refine V_lstore_n (L' := [(0, .ref this), (1, .int a1), (2, .long x2)]) dX9_passNewName_7 rfl (by decide) rfl ?_
  refine V_aload_n dX9_passNewName_8 rfl 0 rfl ?_
  refine V_getR dX9_passNewName_9 rfl (ci := 8) (T := TX9) rfl (by decide) fl_X9_9 (fun x3 => ?_)
  refine V_cVeZ (As := []) (k_X10_isName x3 M) (fun _ h => o_X10_isName h) ok_X10_isName im_X10_isName se_X10_isName rfl (ci := 9) rfl ml_X9_171 ⟨⟨(Nat.le_of_ble_eq_true rfl), (Nat.le_of_ble_eq_true rfl)⟩, (Nat.le_of_ble_eq_true rfl), (Nat.le_of_ble_eq_true rfl)⟩ dX9_passNewName_12 rfl rfl rfl (Nat.le_of_ble_eq_true rfl) rfl rfl (fun x4 => ?_)
  refine V_ifz_ne (q := 29) (q2 := 18) dX9_passNewName_15 (by decide) rfl ?_ ?_
  · refine V_iload_n dX9_passNewName_29 rfl 1 rfl ?_
    refine V_iconst (x := (-1)) dX9_passNewName_30 rfl rfl ?_
    refine V_icmp_eq (q := 42) (q2 := 34) dX9_passNewName_31 (by decide) rfl ?_ ?_
    · exact V_sub [0, 2] rfl (v_X9_passNewName_42 this x2 M)
    · refine V_aload_n dX9_passNewName_34 rfl 0 rfl ?_
      refine V_getR dX9_passNewName_35 rfl (ci := 8) (T := TX9) rfl (by decide) fl_X9_9 (fun x8 => ?_)
      refine V_iconst (x := 3) dX9_passNewName_38 rfl rfl ?_
      refine V_cVwV (As := [.int 3]) (k_X10_fail x8 3 M) (fun _ h => o_X10_fail h) ok_X10_fail im_X10_fail se_X10_fail rfl (ci := 9) rfl ml_X9_77 ⟨⟨(Nat.le_of_ble_eq_true rfl), (Nat.le_of_ble_eq_true rfl)⟩, (Nat.le_of_ble_eq_true rfl), (Nat.le_of_ble_eq_true rfl)⟩ dX9_passNewName_39 rfl rfl rfl (Nat.le_of_ble_eq_true rfl) rfl rfl (fun M10 => ?_)
      exact V_sub [0, 2] rfl (v_X9_passNewName_42 this x2 M10)
  · refine V_aload_n dX9_passNewName_18 rfl 0 rfl ?_
    refine V_getR dX9_passNewName_19 rfl (ci := 8) (T := TX9) rfl (by decide) fl_X9_9 (fun x11 => ?_)
    refine V_iconst (x := 1) dX9_passNewName_22 rfl rfl ?_
    refine V_cVwV (As := [.int 1]) (k_X10_fail x11 1 M) (fun _ h => o_X10_fail h) ok_X10_fail im_X10_fail se_X10_fail rfl (ci := 9) rfl ml_X9_77 ⟨⟨(Nat.le_of_ble_eq_true rfl), (Nat.le_of_ble_eq_true rfl)⟩, (Nat.le_of_ble_eq_true rfl), (Nat.le_of_ble_eq_true rfl)⟩ dX9_passNewName_23 rfl rfl rfl (Nat.le_of_ble_eq_true rfl) rfl rfl (fun M13 => ?_)
    refine V_goto (q := 42) dX9_passNewName_26 (by decide) ?_
    exact V_sub [0, 2] rfl (v_X9_passNewName_42 this x2 M13)
theorem k_X9_passNewName (this : Nat) (a1 : Int32) (M : Mem) : K mi_X9_passNewName [.ref this, .int a1] M (f_X9_passNewName this a1 M) wJ := K_of_V ok_X9_passNewName (Nat.le_of_ble_eq_true rfl) (v_X9_passNewName this a1 M)
theorem o_X9_passNewName {this : Nat} {a1 : Int32} {M : Mem} {x} (h : f_X9_passNewName this a1 M = some x) : isO M 8 this = true := (ob_of h).1
theorem dX9_parseBox_0 : decode cX9_parseBox 0 = .ok (.aload_n 1, 1) := by decide +kernel
theorem dX9_parseBox_1 : decode cX9_parseBox 1 = .ok (.getfield 96, 3) := by decide +kernel
theorem dX9_parseBox_4 : decode cX9_parseBox 4 = .ok (.iconst 3, 1) := by decide +kernel
theorem dX9_parseBox_5 : decode cX9_parseBox 5 = .ok (.if_icmp .lt 11, 3) := by decide +kernel
theorem dX9_parseBox_8 : decode cX9_parseBox 8 = .ok (.aload_n 0, 1) := by decide +kernel
theorem dX9_parseBox_9 : decode cX9_parseBox 9 = .ok (.getfield 9, 3) := by decide +kernel
theorem dX9_parseBox_12 : decode cX9_parseBox 12 = .ok (.iconst 4, 1) := by decide +kernel
theorem dX9_parseBox_13 : decode cX9_parseBox 13 = .ok (.invokevirtual 77, 3) := by decide +kernel
theorem dX9_parseBox_16 : decode cX9_parseBox 16 = .ok (.aload_n 0, 1) := by decide +kernel
theorem dX9_parseBox_17 : decode cX9_parseBox 17 = .ok (.getfield 9, 3) := by decide +kernel
theorem dX9_parseBox_20 : decode cX9_parseBox 20 = .ok (.invokevirtual 85, 3) := by decide +kernel
theorem dX9_parseBox_23 : decode cX9_parseBox 23 = .ok (.aload_n 0, 1) := by decide +kernel
theorem dX9_parseBox_24 : decode cX9_parseBox 24 = .ok (.aload_n 1, 1) := by decide +kernel
theorem dX9_parseBox_25 : decode cX9_parseBox 25 = .ok (.aload_n 0, 1) := by decide +kernel
theorem dX9_parseBox_26 : decode cX9_parseBox 26 = .ok (.getfield 9, 3) := by decide +kernel
theorem dX9_parseBox_29 : decode cX9_parseBox 29 = .ok (.invokevirtual 99, 3) := by decide +kernel
theorem dX9_parseBox_32 : decode cX9_parseBox 32 = .ok (.invokevirtual 103, 3) := by decide +kernel
theorem dX9_parseBox_35 : decode cX9_parseBox 35 = .ok (.invokevirtual 107, 3) := by decide +kernel
theorem dX9_parseBox_38 : decode cX9_parseBox 38 = .ok (.lstore_n 2, 1) := by decide +kernel
theorem dX9_parseBox_39 : decode cX9_parseBox 39 = .ok (.aload_n 0, 1) := by decide +kernel
theorem dX9_parseBox_40 : decode cX9_parseBox 40 = .ok (.getfield 9, 3) := by decide +kernel
theorem dX9_parseBox_43 : decode cX9_parseBox 43 = .ok (.invokevirtual 36, 3) := by decide +kernel
theorem dX9_parseBox_46 : decode cX9_parseBox 46 = .ok (.ifCond .eq 7, 3) := by decide +kernel
theorem dX9_parseBox_49 : decode cX9_parseBox 49 = .ok (.aconst_null, 1) := by decide +kernel
theorem dX9_parseBox_50 : decode cX9_parseBox 50 = .ok (.goto 7, 3) := by decide +kernel
theorem dX9_parseBox_53 : decode cX9_parseBox 53 = .ok (.aload_n 1, 1) := by decide +kernel
theorem dX9_parseBox_54 : decode cX9_parseBox 54 = .ok (.invokevirtual 111, 3) := by decide +kernel
theorem dX9_parseBox_57 : decode cX9_parseBox 57 = .ok (.astore 4, 2) := by decide +kernel
theorem dX9_parseBox_59 : decode cX9_parseBox 59 = .ok (.aload 4, 2) := by decide +kernel
theorem dX9_parseBox_61 : decode cX9_parseBox 61 = .ok (.ifnull 9, 3) := by decide +kernel
theorem dX9_parseBox_64 : decode cX9_parseBox 64 = .ok (.aload 4, 2) := by decide +kernel
theorem dX9_parseBox_66 : decode cX9_parseBox 66 = .ok (.lload_n 2, 1) := by decide +kernel
theorem dX9_parseBox_67 : decode cX9_parseBox 67 = .ok (.invokevirtual 115, 3) := by decide +kernel
theorem dX9_parseBox_70 : decode cX9_parseBox 70 = .ok (.return_, 1) := by decide +kernel
def mi_X9_parseBox : MI := (RX9, yX9_parseBox, cX9_parseBox, 5, none, [], { frames := 3, cells := 0, slots := 0, locals := 57 })
theorem ok_X9_parseBox : mOK mi_X9_parseBox 1 := ⟨rfl, cw_X9_parseBox, ini_X9, ⟨rfl, by decide⟩, by decide, by decide, rfl⟩
theorem v_X9_parseBox_57 (l2 : Int64) (s0 : Option Nat) (M : Mem) : V mi_X9_parseBox 57 [(2, .long l2)] [va_rf s0] M 0 0 (f_X9_parseBox_57 l2 s0 M) wV := by
  unfold f_X9_parseBox_57
  refine V_astoreQ (L' := [(2, .long l2), (4, va_rf s0)]) dX9_parseBox_57 rfl (by decide) (by rcases (s0 : Option Nat) with _ | _ <;> rfl) ?_
  refine V_aloadQ dX9_parseBox_59 rfl 1 rfl ?_
  rcases s0 with _ | r14
  · refine V_ifnull_n (q := 70) dX9_parseBox_61 (by decide) ?_
    exact V_vret dX9_parseBox_70 rfl rfl ⟨(Nat.le_of_ble_eq_true rfl), (Nat.le_of_ble_eq_true rfl)⟩
  · refine V_ifnull_r dX9_parseBox_61 rfl ?_
    refine V_aload dX9_parseBox_64 rfl 1 rfl ?_
    refine V_lload_n dX9_parseBox_66 rfl 0 rfl ?_
    refine V_cVwV (As := [.long l2]) (k_X0_begin r14 l2 M) (fun _ h => o_X0_begin h) ok_X0_begin im_X0_begin se_X0_begin rfl (ci := 0) rfl ml_X9_115 ⟨⟨(Nat.le_of_ble_eq_true rfl), (Nat.le_of_ble_eq_true rfl)⟩, (Nat.le_of_ble_eq_true rfl), (Nat.le_of_ble_eq_true rfl)⟩ dX9_parseBox_67 rfl rfl rfl (Nat.le_of_ble_eq_true rfl) rfl rfl (fun M16 => ?_)
    exact V_vret dX9_parseBox_70 rfl rfl ⟨(Nat.le_of_ble_eq_true rfl), (Nat.le_of_ble_eq_true rfl)⟩
theorem v_X9_parseBox_16 (this : Nat) (l1 : Nat) (M : Mem) : V mi_X9_parseBox 16 [(0, .ref this), (1, .ref l1)] [] M 0 0 (f_X9_parseBox_16 this l1 M) wV := by
  unfold f_X9_parseBox_16
  refine V_aload_n dX9_parseBox_16 rfl 0 rfl ?_
  refine V_getR dX9_parseBox_17 rfl (ci := 8) (T := TX9) rfl (by decide) fl_X9_9 (fun x2 => ?_)
  refine V_cVwV (As := []) (k_X10_next x2 M) (fun _ h => o_X10_next h) ok_X10_next im_X10_next se_X10_next rfl (ci := 9) rfl ml_X9_85 ⟨⟨(Nat.le_of_ble_eq_true rfl), (Nat.le_of_ble_eq_true rfl)⟩, (Nat.le_of_ble_eq_true rfl), (Nat.le_of_ble_eq_true rfl)⟩ dX9_parseBox_20 rfl rfl rfl (Nat.le_of_ble_eq_true rfl) rfl rfl (fun M4 => ?_)
  refine V_aload_n dX9_parseBox_23 rfl 0 rfl ?_
  refine V_aload_n dX9_parseBox_24 rfl 1 rfl ?_
  refine V_aload_n dX9_parseBox_25 rfl 0 rfl ?_
  refine V_getR dX9_parseBox_26 rfl (ci := 8) (T := TX9) rfl (by decide) fl_X9_9 (fun x5 => ?_)
  refine V_cVeJ (As := []) (k_X10_name x5 M4) (fun _ h => o_X10_name h) ok_X10_name im_X10_name se_X10_name rfl (ci := 9) rfl ml_X9_99 ⟨⟨(Nat.le_of_ble_eq_true rfl), (Nat.le_of_ble_eq_true rfl)⟩, (Nat.le_of_ble_eq_true rfl), (Nat.le_of_ble_eq_true rfl)⟩ dX9_parseBox_29 rfl rfl rfl (Nat.le_of_ble_eq_true rfl) rfl rfl (fun x6 => ?_)
  refine V_cVeI (As := [.long x6]) (k_X8_boxNamed l1 x6 M4) (fun _ h => o_X8_boxNamed h) ok_X8_boxNamed im_X8_boxNamed se_X8_boxNamed rfl (ci := 7) rfl ml_X9_103 ⟨⟨(Nat.le_of_ble_eq_true rfl), (Nat.le_of_ble_eq_true rfl)⟩, (Nat.le_of_ble_eq_true rfl), (Nat.le_of_ble_eq_true rfl)⟩ dX9_parseBox_32 rfl rfl rfl (Nat.le_of_ble_eq_true rfl) rfl rfl (fun x7 => ?_)
  refine V_cVwJ (As := [.int x7]) (k_X9_passNewName this x7 M4) (fun _ h => o_X9_passNewName h) ok_X9_passNewName im_X9_passNewName se_X9_passNewName rfl (ci := 8) rfl ml_X9_107 ⟨⟨(Nat.le_of_ble_eq_true rfl), (Nat.le_of_ble_eq_true rfl)⟩, (Nat.le_of_ble_eq_true rfl), (Nat.le_of_ble_eq_true rfl)⟩ dX9_parseBox_35 rfl rfl rfl (Nat.le_of_ble_eq_true rfl) rfl rfl (fun x8 M9 => ?_)
  refine V_lstore_n (L' := [(0, .ref this), (1, .ref l1), (2, .long x8)]) dX9_parseBox_38 rfl (by decide) rfl ?_
  refine V_aload_n dX9_parseBox_39 rfl 0 rfl ?_
  refine V_getR dX9_parseBox_40 rfl (ci := 8) (T := TX9) rfl (by decide) fl_X9_9 (fun x10 => ?_)
  refine V_cVeZ (As := []) (k_X10_failed x10 M9) (fun _ h => o_X10_failed h) ok_X10_failed im_X10_failed se_X10_failed rfl (ci := 9) rfl ml_X9_36 ⟨⟨(Nat.le_of_ble_eq_true rfl), (Nat.le_of_ble_eq_true rfl)⟩, (Nat.le_of_ble_eq_true rfl), (Nat.le_of_ble_eq_true rfl)⟩ dX9_parseBox_43 rfl rfl rfl (Nat.le_of_ble_eq_true rfl) rfl rfl (fun x11 => ?_)
  refine V_ifz_eq (q := 53) (q2 := 49) dX9_parseBox_46 (by decide) rfl ?_ ?_
  · refine V_aload_n dX9_parseBox_53 rfl 1 rfl ?_
    refine V_cVwQ (As := []) (k_X8_addBox l1 M9) (fun _ h => o_X8_addBox h) ok_X8_addBox im_X8_addBox se_X8_addBox rfl (ci := 7) rfl ml_X9_111 ⟨⟨(Nat.le_of_ble_eq_true rfl), (Nat.le_of_ble_eq_true rfl)⟩, (Nat.le_of_ble_eq_true rfl), (Nat.le_of_ble_eq_true rfl)⟩ dX9_parseBox_54 rfl rfl rfl (Nat.le_of_ble_eq_true rfl) rfl rfl (fun x12 M13 => ?_)
    exact V_sub [2] rfl (v_X9_parseBox_57 x8 x12 M13)
  · refine V_null dX9_parseBox_49 rfl ?_
    refine V_goto (q := 57) dX9_parseBox_50 (by decide) ?_
    exact V_sub [2] rfl (v_X9_parseBox_57 x8 none M9)
theorem v_X9_parseBox (this : Nat) (a1 : Nat) (M : Mem) : V mi_X9_parseBox 0 [(0, .ref this), (1, .ref a1)] [] M 0 0 (f_X9_parseBox this a1 M) wV := by
  unfold f_X9_parseBox
  refine V_ob fun _ _ => ?_
  refine V_aload_n dX9_parseBox_0 rfl 1 rfl ?_
  refine V_getI dX9_parseBox_1 rfl (ci := 7) (T := TX8) rfl (by decide) fl_X9_96 (fun x1 => ?_)
  refine V_iconst (x := 3) dX9_parseBox_4 rfl rfl ?_
  refine V_icmp_lt (q := 16) (q2 := 8) dX9_parseBox_5 (by decide) rfl ?_ ?_
  · exact v_X9_parseBox_16 this a1 M
  · refine V_aload_n dX9_parseBox_8 rfl 0 rfl ?_
    refine V_getR dX9_parseBox_9 rfl (ci := 8) (T := TX9) rfl (by decide) fl_X9_9 (fun x17 => ?_)
    refine V_iconst (x := 4) dX9_parseBox_12 rfl rfl ?_
    refine V_cVwV (As := [.int 4]) (k_X10_fail x17 4 M) (fun _ h => o_X10_fail h) ok_X10_fail im_X10_fail se_X10_fail rfl (ci := 9) rfl ml_X9_77 ⟨⟨(Nat.le_of_ble_eq_true rfl), (Nat.le_of_ble_eq_true rfl)⟩, (Nat.le_of_ble_eq_true rfl), (Nat.le_of_ble_eq_true rfl)⟩ dX9_parseBox_13 rfl rfl rfl (Nat.le_of_ble_eq_true rfl) rfl rfl (fun M19 => ?_)
    exact v_X9_parseBox_16 this a1 M19
theorem k_X9_parseBox (this : Nat) (a1 : Nat) (M : Mem) : K mi_X9_parseBox [.ref this, .ref a1] M (f_X9_parseBox this a1 M) wV := K_of_V ok_X9_parseBox (Nat.le_of_ble_eq_true rfl) (v_X9_parseBox this a1 M)
theorem o_X9_parseBox {this : Nat} {a1 : Nat} {M : Mem} {x} (h : f_X9_parseBox this a1 M = some x) : isO M 8 this = true := (ob_of h).1
theorem dX9_knownBox_0 : decode cX9_knownBox 0 = .ok (.iconst (-1), 1) := by decide +kernel
theorem dX9_knownBox_1 : decode cX9_knownBox 1 = .ok (.istore_n 2, 1) := by decide +kernel
theorem dX9_knownBox_2 : decode cX9_knownBox 2 = .ok (.aload_n 0, 1) := by decide +kernel
theorem dX9_knownBox_3 : decode cX9_knownBox 3 = .ok (.getfield 9, 3) := by decide +kernel
theorem dX9_knownBox_6 : decode cX9_knownBox 6 = .ok (.invokevirtual 171, 3) := by decide +kernel
theorem dX9_knownBox_9 : decode cX9_knownBox 9 = .ok (.ifCond .eq 31, 3) := by decide +kernel
theorem dX9_knownBox_12 : decode cX9_knownBox 12 = .ok (.aload_n 1, 1) := by decide +kernel
theorem dX9_knownBox_13 : decode cX9_knownBox 13 = .ok (.aload_n 0, 1) := by decide +kernel
theorem dX9_knownBox_14 : decode cX9_knownBox 14 = .ok (.getfield 9, 3) := by decide +kernel
theorem dX9_knownBox_17 : decode cX9_knownBox 17 = .ok (.invokevirtual 99, 3) := by decide +kernel
theorem dX9_knownBox_20 : decode cX9_knownBox 20 = .ok (.invokevirtual 103, 3) := by decide +kernel
theorem dX9_knownBox_23 : decode cX9_knownBox 23 = .ok (.istore_n 2, 1) := by decide +kernel
theorem dX9_knownBox_24 : decode cX9_knownBox 24 = .ok (.iload_n 2, 1) := by decide +kernel
theorem dX9_knownBox_25 : decode cX9_knownBox 25 = .ok (.iconst (-1), 1) := by decide +kernel
theorem dX9_knownBox_26 : decode cX9_knownBox 26 = .ok (.if_icmp .ne 22, 3) := by decide +kernel
theorem dX9_knownBox_29 : decode cX9_knownBox 29 = .ok (.aload_n 0, 1) := by decide +kernel
theorem dX9_knownBox_30 : decode cX9_knownBox 30 = .ok (.getfield 9, 3) := by decide +kernel
theorem dX9_knownBox_33 : decode cX9_knownBox 33 = .ok (.iconst 3, 1) := by decide +kernel
theorem dX9_knownBox_34 : decode cX9_knownBox 34 = .ok (.invokevirtual 77, 3) := by decide +kernel
theorem dX9_knownBox_37 : decode cX9_knownBox 37 = .ok (.goto 11, 3) := by decide +kernel
theorem dX9_knownBox_40 : decode cX9_knownBox 40 = .ok (.aload_n 0, 1) := by decide +kernel
theorem dX9_knownBox_41 : decode cX9_knownBox 41 = .ok (.getfield 9, 3) := by decide +kernel
theorem dX9_knownBox_44 : decode cX9_knownBox 44 = .ok (.iconst 1, 1) := by decide +kernel
theorem dX9_knownBox_45 : decode cX9_knownBox 45 = .ok (.invokevirtual 77, 3) := by decide +kernel
theorem dX9_knownBox_48 : decode cX9_knownBox 48 = .ok (.iload_n 2, 1) := by decide +kernel
theorem dX9_knownBox_49 : decode cX9_knownBox 49 = .ok (.ireturn, 1) := by decide +kernel
def mi_X9_knownBox : MI := (RX9, yX9_knownBox, cX9_knownBox, 3, some .int, [], { frames := 3, cells := 0, slots := 0, locals := 57 })
theorem ok_X9_knownBox : mOK mi_X9_knownBox 1 := ⟨rfl, cw_X9_knownBox, ini_X9, ⟨rfl, by decide⟩, by decide, by decide, rfl⟩
theorem v_X9_knownBox (this : Nat) (a1 : Nat) (M : Mem) : V mi_X9_knownBox 0 [(0, .ref this), (1, .ref a1)] [] M 0 0 (f_X9_knownBox this a1 M) wI := by
  unfold f_X9_knownBox
  refine V_ob fun _ _ => ?_
  refine V_iconst (x := (-1)) dX9_knownBox_0 rfl rfl ?_
  refine V_istore_n (L' := [(0, .ref this), (1, .ref a1), (2, .int (-1))]) dX9_knownBox_1 rfl (by decide) rfl ?_
  refine V_aload_n dX9_knownBox_2 rfl 0 rfl ?_
  refine V_getR dX9_knownBox_3 rfl (ci := 8) (T := TX9) rfl (by decide) fl_X9_9 (fun x1 => ?_)
  refine V_cVeZ (As := []) (k_X10_isName x1 M) (fun _ h => o_X10_isName h) ok_X10_isName im_X10_isName se_X10_isName rfl (ci := 9) rfl ml_X9_171 ⟨⟨(Nat.le_of_ble_eq_true rfl), (Nat.le_of_ble_eq_true rfl)⟩, (Nat.le_of_ble_eq_true rfl), (Nat.le_of_ble_eq_true rfl)⟩ dX9_knownBox_6 rfl rfl rfl (Nat.le_of_ble_eq_true rfl) rfl rfl (fun x2 => ?_)
  refine V_ifz_eq (q := 40) (q2 := 12) dX9_knownBox_9 (by decide) rfl ?_ ?_
  · refine V_aload_n dX9_knownBox_40 rfl 0 rfl ?_
    refine V_getR dX9_knownBox_41 rfl (ci := 8) (T := TX9) rfl (by decide) fl_X9_9 (fun x3 => ?_)
    refine V_iconst (x := 1) dX9_knownBox_44 rfl rfl ?_
    refine V_cVwV (As := [.int 1]) (k_X10_fail x3 1 M) (fun _ h => o_X10_fail h) ok_X10_fail im_X10_fail se_X10_fail rfl (ci := 9) rfl ml_X9_77 ⟨⟨(Nat.le_of_ble_eq_true rfl), (Nat.le_of_ble_eq_true rfl)⟩, (Nat.le_of_ble_eq_true rfl), (Nat.le_of_ble_eq_true rfl)⟩ dX9_knownBox_45 rfl rfl rfl (Nat.le_of_ble_eq_true rfl) rfl rfl (fun M5 => ?_)
    refine V_iload_n dX9_knownBox_48 rfl 2 rfl ?_
    exact V_iret dX9_knownBox_49 rfl rfl ⟨(Nat.le_of_ble_eq_true rfl), (Nat.le_of_ble_eq_true rfl)⟩
  · refine V_aload_n dX9_knownBox_12 rfl 1 rfl ?_
    refine V_aload_n dX9_knownBox_13 rfl 0 rfl ?_
    refine V_getR dX9_knownBox_14 rfl (ci := 8) (T := TX9) rfl (by decide) fl_X9_9 (fun x6 => ?_)
    refine V_cVeJ (As := []) (k_X10_name x6 M) (fun _ h => o_X10_name h) ok_X10_name im_X10_name se_X10_name rfl (ci := 9) rfl ml_X9_99 ⟨⟨(Nat.le_of_ble_eq_true rfl), (Nat.le_of_ble_eq_true rfl)⟩, (Nat.le_of_ble_eq_true rfl), (Nat.le_of_ble_eq_true rfl)⟩ dX9_knownBox_17 rfl rfl rfl (Nat.le_of_ble_eq_true rfl) rfl rfl (fun x7 => ?_)
    refine V_cVeI (As := [.long x7]) (k_X8_boxNamed a1 x7 M) (fun _ h => o_X8_boxNamed h) ok_X8_boxNamed im_X8_boxNamed se_X8_boxNamed rfl (ci := 7) rfl ml_X9_103 ⟨⟨(Nat.le_of_ble_eq_true rfl), (Nat.le_of_ble_eq_true rfl)⟩, (Nat.le_of_ble_eq_true rfl), (Nat.le_of_ble_eq_true rfl)⟩ dX9_knownBox_20 rfl rfl rfl (Nat.le_of_ble_eq_true rfl) rfl rfl (fun x8 => ?_)
    refine V_istore_n (L' := [(0, .ref this), (1, .ref a1), (2, .int x8)]) dX9_knownBox_23 rfl (by decide) rfl ?_
    refine V_iload_n dX9_knownBox_24 rfl 2 rfl ?_
    refine V_iconst (x := (-1)) dX9_knownBox_25 rfl rfl ?_
    refine V_icmp_ne (q := 48) (q2 := 29) dX9_knownBox_26 (by decide) rfl ?_ ?_
    · refine V_iload_n dX9_knownBox_48 rfl 2 rfl ?_
      exact V_iret dX9_knownBox_49 rfl rfl ⟨(Nat.le_of_ble_eq_true rfl), (Nat.le_of_ble_eq_true rfl)⟩
    · refine V_aload_n dX9_knownBox_29 rfl 0 rfl ?_
      refine V_getR dX9_knownBox_30 rfl (ci := 8) (T := TX9) rfl (by decide) fl_X9_9 (fun x9 => ?_)
      refine V_iconst (x := 3) dX9_knownBox_33 rfl rfl ?_
      refine V_cVwV (As := [.int 3]) (k_X10_fail x9 3 M) (fun _ h => o_X10_fail h) ok_X10_fail im_X10_fail se_X10_fail rfl (ci := 9) rfl ml_X9_77 ⟨⟨(Nat.le_of_ble_eq_true rfl), (Nat.le_of_ble_eq_true rfl)⟩, (Nat.le_of_ble_eq_true rfl), (Nat.le_of_ble_eq_true rfl)⟩ dX9_knownBox_34 rfl rfl rfl (Nat.le_of_ble_eq_true rfl) rfl rfl (fun M11 => ?_)
      refine V_goto (q := 48) dX9_knownBox_37 (by decide) ?_
      refine V_iload_n dX9_knownBox_48 rfl 2 rfl ?_
      exact V_iret dX9_knownBox_49 rfl rfl ⟨(Nat.le_of_ble_eq_true rfl), (Nat.le_of_ble_eq_true rfl)⟩
theorem k_X9_knownBox (this : Nat) (a1 : Nat) (M : Mem) : K mi_X9_knownBox [.ref this, .ref a1] M (f_X9_knownBox this a1 M) wI := K_of_V ok_X9_knownBox (Nat.le_of_ble_eq_true rfl) (v_X9_knownBox this a1 M)
theorem o_X9_knownBox {this : Nat} {a1 : Nat} {M : Mem} {x} (h : f_X9_knownBox this a1 M = some x) : isO M 8 this = true := (ob_of h).1
theorem dX9_passFlags_0 : decode cX9_passFlags 0 = .ok (.iconst 0, 1) := by decide +kernel
theorem dX9_passFlags_1 : decode cX9_passFlags 1 = .ok (.istore_n 1, 1) := by decide +kernel
theorem dX9_passFlags_2 : decode cX9_passFlags 2 = .ok (.iconst 0, 1) := by decide +kernel
theorem dX9_passFlags_3 : decode cX9_passFlags 3 = .ok (.istore_n 2, 1) := by decide +kernel
theorem dX9_passFlags_4 : decode cX9_passFlags 4 = .ok (.iload_n 2, 1) := by decide +kernel
theorem dX9_passFlags_5 : decode cX9_passFlags 5 = .ok (.sipush 700, 3) := by decide +kernel
theorem dX9_passFlags_8 : decode cX9_passFlags 8 = .ok (.if_icmp .ge 56, 3) := by decide +kernel
theorem dX9_passFlags_11 : decode cX9_passFlags 11 = .ok (.aload_n 0, 1) := by decide +kernel
theorem dX9_passFlags_12 : decode cX9_passFlags 12 = .ok (.getfield 9, 3) := by decide +kernel
theorem dX9_passFlags_15 : decode cX9_passFlags 15 = .ok (.invokevirtual 146, 3) := by decide +kernel
theorem dX9_passFlags_18 : decode cX9_passFlags 18 = .ok (.ifCond .eq 46, 3) := by decide +kernel
theorem dX9_passFlags_21 : decode cX9_passFlags 21 = .ok (.iload_n 1, 1) := by decide +kernel
theorem dX9_passFlags_22 : decode cX9_passFlags 22 = .ok (.aload_n 0, 1) := by decide +kernel
theorem dX9_passFlags_23 : decode cX9_passFlags 23 = .ok (.getfield 9, 3) := by decide +kernel
theorem dX9_passFlags_26 : decode cX9_passFlags 26 = .ok (.invokevirtual 146, 3) := by decide +kernel
theorem dX9_passFlags_29 : decode cX9_passFlags 29 = .ok (.iand, 1) := by decide +kernel
theorem dX9_passFlags_30 : decode cX9_passFlags 30 = .ok (.ifCond .eq 11, 3) := by decide +kernel
theorem dX9_passFlags_33 : decode cX9_passFlags 33 = .ok (.aload_n 0, 1) := by decide +kernel
theorem dX9_passFlags_34 : decode cX9_passFlags 34 = .ok (.getfield 9, 3) := by decide +kernel
theorem dX9_passFlags_37 : decode cX9_passFlags 37 = .ok (.iconst 3, 1) := by decide +kernel
theorem dX9_passFlags_38 : decode cX9_passFlags 38 = .ok (.invokevirtual 77, 3) := by decide +kernel
theorem dX9_passFlags_41 : decode cX9_passFlags 41 = .ok (.iload_n 1, 1) := by decide +kernel
theorem dX9_passFlags_42 : decode cX9_passFlags 42 = .ok (.aload_n 0, 1) := by decide +kernel
theorem dX9_passFlags_43 : decode cX9_passFlags 43 = .ok (.getfield 9, 3) := by decide +kernel
theorem dX9_passFlags_46 : decode cX9_passFlags 46 = .ok (.invokevirtual 146, 3) := by decide +kernel
theorem dX9_passFlags_49 : decode cX9_passFlags 49 = .ok (.ior, 1) := by decide +kernel
theorem dX9_passFlags_50 : decode cX9_passFlags 50 = .ok (.istore_n 1, 1) := by decide +kernel
theorem dX9_passFlags_51 : decode cX9_passFlags 51 = .ok (.aload_n 0, 1) := by decide +kernel
theorem dX9_passFlags_52 : decode cX9_passFlags 52 = .ok (.getfield 9, 3) := by decide +kernel
theorem dX9_passFlags_55 : decode cX9_passFlags 55 = .ok (.invokevirtual 85, 3) := by decide +kernel
theorem dX9_passFlags_58 : decode cX9_passFlags 58 = .ok (.iinc 2 1, 3) := by decide +kernel
theorem dX9_passFlags_61 : decode cX9_passFlags 61 = .ok (.goto (-57), 3) := by decide +kernel
theorem dX9_passFlags_64 : decode cX9_passFlags 64 = .ok (.iload_n 1, 1) := by decide +kernel
theorem dX9_passFlags_65 : decode cX9_passFlags 65 = .ok (.ireturn, 1) := by decide +kernel
def mi_X9_passFlags : MI := (RX9, yX9_passFlags, cX9_passFlags, 3, some .int, [], { frames := 2, cells := 0, slots := 0, locals := 33 })
theorem ok_X9_passFlags : mOK mi_X9_passFlags 0 := ⟨rfl, cw_X9_passFlags, ini_X9, ⟨rfl, by decide⟩, by decide, by decide, rfl⟩
theorem v_X9_passFlags_41 (rc4 : Nat → Int32 → Int32 → Mem → Option (Int32 × Mem)) (h4 : ∀ (l0 : Nat) (l1 : Int32) (l2 : Int32) (M : Mem), V mi_X9_passFlags 4 [(0, .ref l0), (1, .int l1), (2, .int l2)] [] M 0 0 (rc4 l0 l1 l2 M) wI) (this : Nat) (l1 : Int32) (l2 : Int32) (M : Mem) : V mi_X9_passFlags 41 [(0, .ref this), (1, .int l1), (2, .int l2)] [] M 0 0 (f_X9_passFlags_41 rc4 this l1 l2 M) wI := by
  unfold f_X9_passFlags_41
  refine V_iload_n dX9_passFlags_41 rfl 1 rfl ?_
  refine V_aload_n dX9_passFlags_42 rfl 0 rfl ?_
  refine V_getR dX9_passFlags_43 rfl (ci := 8) (T := TX9) rfl (by decide) fl_X9_9 (fun x5 => ?_)
  refine V_cVeI (As := []) (k_X10_flag x5 M) (fun _ h => o_X10_flag h) ok_X10_flag im_X10_flag se_X10_flag rfl (ci := 9) rfl ml_X9_146 ⟨⟨(Nat.le_of_ble_eq_true rfl), (Nat.le_of_ble_eq_true rfl)⟩, (Nat.le_of_ble_eq_true rfl), (Nat.le_of_ble_eq_true rfl)⟩ dX9_passFlags_46 rfl rfl rfl (Nat.le_of_ble_eq_true rfl) rfl rfl (fun x6 => ?_)
  refine V_ior dX9_passFlags_49 rfl ?_
  refine V_istore_n (L' := [(0, .ref this), (1, .int (l1 ||| x6)), (2, .int l2)]) dX9_passFlags_50 rfl (by decide) rfl ?_
  refine V_aload_n dX9_passFlags_51 rfl 0 rfl ?_
  refine V_getR dX9_passFlags_52 rfl (ci := 8) (T := TX9) rfl (by decide) fl_X9_9 (fun x7 => ?_)
  refine V_cVwV (As := []) (k_X10_next x7 M) (fun _ h => o_X10_next h) ok_X10_next im_X10_next se_X10_next rfl (ci := 9) rfl ml_X9_85 ⟨⟨(Nat.le_of_ble_eq_true rfl), (Nat.le_of_ble_eq_true rfl)⟩, (Nat.le_of_ble_eq_true rfl), (Nat.le_of_ble_eq_true rfl)⟩ dX9_passFlags_55 rfl rfl rfl (Nat.le_of_ble_eq_true rfl) rfl rfl (fun M9 => ?_)
  refine V_iinc (y := (l2 + 1)) (L' := [(0, .ref this), (1, .int (l1 ||| x6)), (2, .int (l2 + 1))]) dX9_passFlags_58 rfl 2 rfl rfl (by decide) rfl ?_
  refine V_goto (q := 4) dX9_passFlags_61 (by decide) ?_
  exact h4 this (l1 ||| x6) (l2 + 1) M9
theorem v_X9_passFlags_4 : ∀ (fu : Nat) (this : Nat) (l1 : Int32) (l2 : Int32) (M : Mem), V mi_X9_passFlags 4 [(0, .ref this), (1, .int l1), (2, .int l2)] [] M 0 0 (f_X9_passFlags_4 fu this l1 l2 M) wI := by
  intro fu
  induction fu with
  | zero => intros; exact V_none
  | succ fu ih =>
    intro this l1 l2 M
    show V mi_X9_passFlags 4 [(0, .ref this), (1, .int l1), (2, .int l2)] [] M 0 0 (f_X9_passFlags_4 (fu + 1) this l1 l2 M) wI
    unfold f_X9_passFlags_4
    refine V_iload_n dX9_passFlags_4 rfl 2 rfl ?_
    refine V_sipush (x := 700) dX9_passFlags_5 rfl rfl ?_
    refine V_icmp_ge (q := 64) (q2 := 11) dX9_passFlags_8 (by decide) rfl ?_ ?_
    · refine V_iload_n dX9_passFlags_64 rfl 1 rfl ?_
      exact V_iret dX9_passFlags_65 rfl rfl ⟨(Nat.le_of_ble_eq_true rfl), (Nat.le_of_ble_eq_true rfl)⟩
    · refine V_aload_n dX9_passFlags_11 rfl 0 rfl ?_
      refine V_getR dX9_passFlags_12 rfl (ci := 8) (T := TX9) rfl (by decide) fl_X9_9 (fun x1 => ?_)
      refine V_cVeI (As := []) (k_X10_flag x1 M) (fun _ h => o_X10_flag h) ok_X10_flag im_X10_flag se_X10_flag rfl (ci := 9) rfl ml_X9_146 ⟨⟨(Nat.le_of_ble_eq_true rfl), (Nat.le_of_ble_eq_true rfl)⟩, (Nat.le_of_ble_eq_true rfl), (Nat.le_of_ble_eq_true rfl)⟩ dX9_passFlags_15 rfl rfl rfl (Nat.le_of_ble_eq_true rfl) rfl rfl (fun x2 => ?_)
      refine V_if_eq (q := 64) (q2 := 21) dX9_passFlags_18 (by decide) rfl ?_ ?_
      · refine V_iload_n dX9_passFlags_64 rfl 1 rfl ?_
        exact V_iret dX9_passFlags_65 rfl rfl ⟨(Nat.le_of_ble_eq_true rfl), (Nat.le_of_ble_eq_true rfl)⟩
      · refine V_iload_n dX9_passFlags_21 rfl 1 rfl ?_
        refine V_aload_n dX9_passFlags_22 rfl 0 rfl ?_
        refine V_getR dX9_passFlags_23 rfl (ci := 8) (T := TX9) rfl (by decide) fl_X9_9 (fun x3 => ?_)
        refine V_cVeI (As := []) (k_X10_flag x3 M) (fun _ h => o_X10_flag h) ok_X10_flag im_X10_flag se_X10_flag rfl (ci := 9) rfl ml_X9_146 ⟨⟨(Nat.le_of_ble_eq_true rfl), (Nat.le_of_ble_eq_true rfl)⟩, (Nat.le_of_ble_eq_true rfl), (Nat.le_of_ble_eq_true rfl)⟩ dX9_passFlags_26 rfl rfl rfl (Nat.le_of_ble_eq_true rfl) rfl rfl (fun x4 => ?_)
        refine V_iand dX9_passFlags_29 rfl ?_
        refine V_if_eq (q := 41) (q2 := 33) dX9_passFlags_30 (by decide) rfl ?_ ?_
        · exact v_X9_passFlags_41 (f_X9_passFlags_4 fu) ih this l1 l2 M
        · refine V_aload_n dX9_passFlags_33 rfl 0 rfl ?_
          refine V_getR dX9_passFlags_34 rfl (ci := 8) (T := TX9) rfl (by decide) fl_X9_9 (fun x10 => ?_)
          refine V_iconst (x := 3) dX9_passFlags_37 rfl rfl ?_
          refine V_cVwV (As := [.int 3]) (k_X10_fail x10 3 M) (fun _ h => o_X10_fail h) ok_X10_fail im_X10_fail se_X10_fail rfl (ci := 9) rfl ml_X9_77 ⟨⟨(Nat.le_of_ble_eq_true rfl), (Nat.le_of_ble_eq_true rfl)⟩, (Nat.le_of_ble_eq_true rfl), (Nat.le_of_ble_eq_true rfl)⟩ dX9_passFlags_38 rfl rfl rfl (Nat.le_of_ble_eq_true rfl) rfl rfl (fun M12 => ?_)
          exact v_X9_passFlags_41 (f_X9_passFlags_4 fu) ih this l1 l2 M12
theorem v_X9_passFlags (this : Nat) (M : Mem) : V mi_X9_passFlags 0 [(0, .ref this)] [] M 0 0 (f_X9_passFlags this M) wI := by
  unfold f_X9_passFlags
  refine V_ob fun _ _ => ?_
  refine V_iconst (x := 0) dX9_passFlags_0 rfl rfl ?_
  refine V_istore_n (L' := [(0, .ref this), (1, .int 0)]) dX9_passFlags_1 rfl (by decide) rfl ?_
  refine V_iconst (x := 0) dX9_passFlags_2 rfl rfl ?_
  refine V_istore_n (L' := [(0, .ref this), (1, .int 0), (2, .int 0)]) dX9_passFlags_3 rfl (by decide) rfl ?_
  exact v_X9_passFlags_4 FU this 0 0 M
theorem k_X9_passFlags (this : Nat) (M : Mem) : K mi_X9_passFlags [.ref this] M (f_X9_passFlags this M) wI := K_of_V ok_X9_passFlags (Nat.le_of_ble_eq_true rfl) (v_X9_passFlags this M)
theorem o_X9_passFlags {this : Nat} {M : Mem} {x} (h : f_X9_passFlags this M = some x) : isO M 8 this = true := (ob_of h).1
theorem dX9_parseMessage_0 : decode cX9_parseMessage 0 = .ok (.aload_n 0, 1) := by decide +kernel
theorem dX9_parseMessage_1 : decode cX9_parseMessage 1 = .ok (.getfield 9, 3) := by decide +kernel
theorem dX9_parseMessage_4 : decode cX9_parseMessage 4 = .ok (.invokevirtual 85, 3) := by decide +kernel
theorem dX9_parseMessage_7 : decode cX9_parseMessage 7 = .ok (.aload_n 1, 1) := by decide +kernel
theorem dX9_parseMessage_8 : decode cX9_parseMessage 8 = .ok (.aload_n 0, 1) := by decide +kernel
theorem dX9_parseMessage_9 : decode cX9_parseMessage 9 = .ok (.aload_n 1, 1) := by decide +kernel
theorem dX9_parseMessage_10 : decode cX9_parseMessage 10 = .ok (.invokevirtual 120, 3) := by decide +kernel
theorem dX9_parseMessage_13 : decode cX9_parseMessage 13 = .ok (.invokevirtual 124, 3) := by decide +kernel
theorem dX9_parseMessage_16 : decode cX9_parseMessage 16 = .ok (.astore_n 2, 1) := by decide +kernel
theorem dX9_parseMessage_17 : decode cX9_parseMessage 17 = .ok (.aload_n 2, 1) := by decide +kernel
theorem dX9_parseMessage_18 : decode cX9_parseMessage 18 = .ok (.ifnonnull 4, 3) := by decide +kernel
theorem dX9_parseMessage_21 : decode cX9_parseMessage 21 = .ok (.return_, 1) := by decide +kernel
theorem dX9_parseMessage_22 : decode cX9_parseMessage 22 = .ok (.aload_n 2, 1) := by decide +kernel
theorem dX9_parseMessage_23 : decode cX9_parseMessage 23 = .ok (.invokevirtual 128, 3) := by decide +kernel
theorem dX9_parseMessage_26 : decode cX9_parseMessage 26 = .ok (.aload_n 1, 1) := by decide +kernel
theorem dX9_parseMessage_27 : decode cX9_parseMessage 27 = .ok (.getfield 92, 3) := by decide +kernel
theorem dX9_parseMessage_30 : decode cX9_parseMessage 30 = .ok (.if_icmp .lt 11, 3) := by decide +kernel
theorem dX9_parseMessage_33 : decode cX9_parseMessage 33 = .ok (.aload_n 0, 1) := by decide +kernel
theorem dX9_parseMessage_34 : decode cX9_parseMessage 34 = .ok (.getfield 9, 3) := by decide +kernel
theorem dX9_parseMessage_37 : decode cX9_parseMessage 37 = .ok (.iconst 4, 1) := by decide +kernel
theorem dX9_parseMessage_38 : decode cX9_parseMessage 38 = .ok (.invokevirtual 77, 3) := by decide +kernel
theorem dX9_parseMessage_41 : decode cX9_parseMessage 41 = .ok (.aload_n 0, 1) := by decide +kernel
theorem dX9_parseMessage_42 : decode cX9_parseMessage 42 = .ok (.getfield 9, 3) := by decide +kernel
theorem dX9_parseMessage_45 : decode cX9_parseMessage 45 = .ok (.invokevirtual 85, 3) := by decide +kernel
theorem dX9_parseMessage_48 : decode cX9_parseMessage 48 = .ok (.aload_n 0, 1) := by decide +kernel
theorem dX9_parseMessage_49 : decode cX9_parseMessage 49 = .ok (.getfield 9, 3) := by decide +kernel
theorem dX9_parseMessage_52 : decode cX9_parseMessage 52 = .ok (.getstatic 132, 3) := by decide +kernel
theorem dX9_parseMessage_55 : decode cX9_parseMessage 55 = .ok (.invokevirtual 135, 3) := by decide +kernel
theorem dX9_parseMessage_58 : decode cX9_parseMessage 58 = .ok (.aload_n 0, 1) := by decide +kernel
theorem dX9_parseMessage_59 : decode cX9_parseMessage 59 = .ok (.getfield 9, 3) := by decide +kernel
theorem dX9_parseMessage_62 : decode cX9_parseMessage 62 = .ok (.iconst 1, 1) := by decide +kernel
theorem dX9_parseMessage_63 : decode cX9_parseMessage 63 = .ok (.sipush 9999, 3) := by decide +kernel
theorem dX9_parseMessage_66 : decode cX9_parseMessage 66 = .ok (.invokevirtual 88, 3) := by decide +kernel
theorem dX9_parseMessage_69 : decode cX9_parseMessage 69 = .ok (.istore_n 3, 1) := by decide +kernel
theorem dX9_parseMessage_70 : decode cX9_parseMessage 70 = .ok (.aload_n 0, 1) := by decide +kernel
theorem dX9_parseMessage_71 : decode cX9_parseMessage 71 = .ok (.invokevirtual 139, 3) := by decide +kernel
theorem dX9_parseMessage_74 : decode cX9_parseMessage 74 = .ok (.istore 4, 2) := by decide +kernel
theorem dX9_parseMessage_76 : decode cX9_parseMessage 76 = .ok (.aload_n 0, 1) := by decide +kernel
theorem dX9_parseMessage_77 : decode cX9_parseMessage 77 = .ok (.getfield 9, 3) := by decide +kernel
theorem dX9_parseMessage_80 : decode cX9_parseMessage 80 = .ok (.invokevirtual 36, 3) := by decide +kernel
theorem dX9_parseMessage_83 : decode cX9_parseMessage 83 = .ok (.ifCond .ne 15, 3) := by decide +kernel
theorem dX9_parseMessage_86 : decode cX9_parseMessage 86 = .ok (.aload_n 2, 1) := by decide +kernel
theorem dX9_parseMessage_87 : decode cX9_parseMessage 87 = .ok (.iload_n 3, 1) := by decide +kernel
theorem dX9_parseMessage_88 : decode cX9_parseMessage 88 = .ok (.iload 4, 2) := by decide +kernel
theorem dX9_parseMessage_90 : decode cX9_parseMessage 90 = .ok (.invokevirtual 142, 3) := by decide +kernel
theorem dX9_parseMessage_93 : decode cX9_parseMessage 93 = .ok (.aload_n 0, 1) := by decide +kernel
theorem dX9_parseMessage_94 : decode cX9_parseMessage 94 = .ok (.iconst 1, 1) := by decide +kernel
theorem dX9_parseMessage_95 : decode cX9_parseMessage 95 = .ok (.putfield 24, 3) := by decide +kernel
theorem dX9_parseMessage_98 : decode cX9_parseMessage 98 = .ok (.return_, 1) := by decide +kernel
def mi_X9_parseMessage : MI := (RX9, yX9_parseMessage, cX9_parseMessage, 5, none, [], { frames := 4, cells := 0, slots := 0, locals := 79 })
theorem ok_X9_parseMessage : mOK mi_X9_parseMessage 1 := ⟨rfl, cw_X9_parseMessage, ini_X9, ⟨rfl, by decide⟩, by decide, by decide, rfl⟩
theorem v_X9_parseMessage_41 (this : Nat) (l2 : Nat) (M : Mem) : V mi_X9_parseMessage 41 [(0, .ref this), (2, .ref l2)] [] M 0 0 (f_X9_parseMessage_41 this l2 M) wV := by
  unfold f_X9_parseMessage_41
  refine V_aload_n dX9_parseMessage_41 rfl 0 rfl ?_
  refine V_getR dX9_parseMessage_42 rfl (ci := 8) (T := TX9) rfl (by decide) fl_X9_9 (fun x10 => ?_)
  refine V_cVwV (As := []) (k_X10_next x10 M) (fun _ h => o_X10_next h) ok_X10_next im_X10_next se_X10_next rfl (ci := 9) rfl ml_X9_85 ⟨⟨(Nat.le_of_ble_eq_true rfl), (Nat.le_of_ble_eq_true rfl)⟩, (Nat.le_of_ble_eq_true rfl), (Nat.le_of_ble_eq_true rfl)⟩ dX9_parseMessage_45 rfl rfl rfl (Nat.le_of_ble_eq_true rfl) rfl rfl (fun M12 => ?_)
  refine V_aload_n dX9_parseMessage_48 rfl 0 rfl ?_
  refine V_getR dX9_parseMessage_49 rfl (ci := 8) (T := TX9) rfl (by decide) fl_X9_9 (fun x13 => ?_)
  refine V_kw (i := 3) (by decide) fk_X9_132 dX9_parseMessage_52 rfl ?_
  refine V_cVwV (As := [.ref 3]) (k_X10_passKeyword x13 3 M12) (fun _ h => o_X10_passKeyword h) ok_X10_passKeyword im_X10_passKeyword se_X10_passKeyword rfl (ci := 9) rfl ml_X9_135 ⟨⟨(Nat.le_of_ble_eq_true rfl), (Nat.le_of_ble_eq_true rfl)⟩, (Nat.le_of_ble_eq_true rfl), (Nat.le_of_ble_eq_true rfl)⟩ dX9_parseMessage_55 rfl rfl rfl (Nat.le_of_ble_eq_true rfl) rfl rfl (fun M15 => ?_)
  refine V_aload_n dX9_parseMessage_58 rfl 0 rfl ?_
  refine V_getR dX9_parseMessage_59 rfl (ci := 8) (T := TX9) rfl (by decide) fl_X9_9 (fun x16 => ?_)
  refine V_iconst (x := 1) dX9_parseMessage_62 rfl rfl ?_
  refine V_sipush (x := 9999) dX9_parseMessage_63 rfl rfl ?_
  refine V_cVwI (As := [.int 1, .int 9999]) (k_X10_passNumber x16 1 9999 M15) (fun _ h => o_X10_passNumber h) ok_X10_passNumber im_X10_passNumber se_X10_passNumber rfl (ci := 9) rfl ml_X9_88 ⟨⟨(Nat.le_of_ble_eq_true rfl), (Nat.le_of_ble_eq_true rfl)⟩, (Nat.le_of_ble_eq_true rfl), (Nat.le_of_ble_eq_true rfl)⟩ dX9_parseMessage_66 rfl rfl rfl (Nat.le_of_ble_eq_true rfl) rfl rfl (fun x17 M18 => ?_)
  refine V_istore_n (L' := [(0, .ref this), (2, .ref l2), (3, .int x17)]) dX9_parseMessage_69 rfl (by decide) rfl ?_
  refine V_aload_n dX9_parseMessage_70 rfl 0 rfl ?_
  refine V_cVwI (As := []) (k_X9_passFlags this M18) (fun _ h => o_X9_passFlags h) ok_X9_passFlags im_X9_passFlags se_X9_passFlags rfl (ci := 8) rfl ml_X9_139 ⟨⟨(Nat.le_of_ble_eq_true rfl), (Nat.le_of_ble_eq_true rfl)⟩, (Nat.le_of_ble_eq_true rfl), (Nat.le_of_ble_eq_true rfl)⟩ dX9_parseMessage_71 rfl rfl rfl (Nat.le_of_ble_eq_true rfl) rfl rfl (fun x19 M20 => ?_)
  refine V_istore (L' := [(0, .ref this), (2, .ref l2), (3, .int x17), (4, .int x19)]) dX9_parseMessage_74 rfl (by decide) rfl ?_
  refine V_aload_n dX9_parseMessage_76 rfl 0 rfl ?_
  refine V_getR dX9_parseMessage_77 rfl (ci := 8) (T := TX9) rfl (by decide) fl_X9_9 (fun x21 => ?_)
  refine V_cVeZ (As := []) (k_X10_failed x21 M20) (fun _ h => o_X10_failed h) ok_X10_failed im_X10_failed se_X10_failed rfl (ci := 9) rfl ml_X9_36 ⟨⟨(Nat.le_of_ble_eq_true rfl), (Nat.le_of_ble_eq_true rfl)⟩, (Nat.le_of_ble_eq_true rfl), (Nat.le_of_ble_eq_true rfl)⟩ dX9_parseMessage_80 rfl rfl rfl (Nat.le_of_ble_eq_true rfl) rfl rfl (fun x22 => ?_)
  refine V_ifz_ne (q := 98) (q2 := 86) dX9_parseMessage_83 (by decide) rfl ?_ ?_
  · exact V_vret dX9_parseMessage_98 rfl rfl ⟨(Nat.le_of_ble_eq_true rfl), (Nat.le_of_ble_eq_true rfl)⟩
  · refine V_aload_n dX9_parseMessage_86 rfl 1 rfl ?_
    refine V_iload_n dX9_parseMessage_87 rfl 2 rfl ?_
    refine V_iload dX9_parseMessage_88 rfl 3 rfl ?_
    refine V_cVwV (As := [.int x17, .int x19]) (k_X0_addMessage l2 x17 x19 M20) (fun _ h => o_X0_addMessage h) ok_X0_addMessage im_X0_addMessage se_X0_addMessage rfl (ci := 0) rfl ml_X9_142 ⟨⟨(Nat.le_of_ble_eq_true rfl), (Nat.le_of_ble_eq_true rfl)⟩, (Nat.le_of_ble_eq_true rfl), (Nat.le_of_ble_eq_true rfl)⟩ dX9_parseMessage_90 rfl rfl rfl (Nat.le_of_ble_eq_true rfl) rfl rfl (fun M24 => ?_)
    refine V_aload_n dX9_parseMessage_93 rfl 0 rfl ?_
    refine V_iconst (x := 1) dX9_parseMessage_94 rfl rfl ?_
    refine V_putZ (v := true) dX9_parseMessage_95 rfl (ci := 8) (T := TX9) rfl (by decide) fl_X9_24 rfl rfl (fun M25 => ?_)
    exact V_vret dX9_parseMessage_98 rfl rfl ⟨(Nat.le_of_ble_eq_true rfl), (Nat.le_of_ble_eq_true rfl)⟩
theorem v_X9_parseMessage (this : Nat) (a1 : Nat) (M : Mem) : V mi_X9_parseMessage 0 [(0, .ref this), (1, .ref a1)] [] M 0 0 (f_X9_parseMessage this a1 M) wV := by
  unfold f_X9_parseMessage
  refine V_ob fun _ _ => ?_
  refine V_aload_n dX9_parseMessage_0 rfl 0 rfl ?_
  refine V_getR dX9_parseMessage_1 rfl (ci := 8) (T := TX9) rfl (by decide) fl_X9_9 (fun x1 => ?_)
  refine V_cVwV (As := []) (k_X10_next x1 M) (fun _ h => o_X10_next h) ok_X10_next im_X10_next se_X10_next rfl (ci := 9) rfl ml_X9_85 ⟨⟨(Nat.le_of_ble_eq_true rfl), (Nat.le_of_ble_eq_true rfl)⟩, (Nat.le_of_ble_eq_true rfl), (Nat.le_of_ble_eq_true rfl)⟩ dX9_parseMessage_4 rfl rfl rfl (Nat.le_of_ble_eq_true rfl) rfl rfl (fun M3 => ?_)
  refine V_aload_n dX9_parseMessage_7 rfl 1 rfl ?_
  refine V_aload_n dX9_parseMessage_8 rfl 0 rfl ?_
  refine V_aload_n dX9_parseMessage_9 rfl 1 rfl ?_
  refine V_cVwI (As := [.ref a1]) (k_X9_knownBox this a1 M3) (fun _ h => o_X9_knownBox h) ok_X9_knownBox im_X9_knownBox se_X9_knownBox rfl (ci := 8) rfl ml_X9_120 ⟨⟨(Nat.le_of_ble_eq_true rfl), (Nat.le_of_ble_eq_true rfl)⟩, (Nat.le_of_ble_eq_true rfl), (Nat.le_of_ble_eq_true rfl)⟩ dX9_parseMessage_10 rfl rfl rfl (Nat.le_of_ble_eq_true rfl) rfl rfl (fun x4 M5 => ?_)
  refine V_cVeQ (As := [.int x4]) (k_X8_boxAt a1 x4 M5) (fun _ h => o_X8_boxAt h) ok_X8_boxAt im_X8_boxAt se_X8_boxAt rfl (ci := 7) rfl ml_X9_124 ⟨⟨(Nat.le_of_ble_eq_true rfl), (Nat.le_of_ble_eq_true rfl)⟩, (Nat.le_of_ble_eq_true rfl), (Nat.le_of_ble_eq_true rfl)⟩ dX9_parseMessage_13 rfl rfl rfl (Nat.le_of_ble_eq_true rfl) rfl rfl (fun x6 => ?_)
  refine V_astore_nQ (L' := [(0, .ref this), (1, .ref a1), (2, va_rf x6)]) dX9_parseMessage_16 rfl (by decide) (by rcases (x6 : Option Nat) with _ | _ <;> rfl) ?_
  refine V_aload_nQ dX9_parseMessage_17 rfl 2 rfl ?_
  rcases x6 with _ | r7
  · refine V_ifnonnull_n dX9_parseMessage_18 rfl ?_
    exact V_vret dX9_parseMessage_21 rfl rfl ⟨(Nat.le_of_ble_eq_true rfl), (Nat.le_of_ble_eq_true rfl)⟩
  · refine V_ifnonnull_r (q := 22) dX9_parseMessage_18 (by decide) ?_
    refine V_aload_n dX9_parseMessage_22 rfl 2 rfl ?_
    refine V_cVeI (As := []) (k_X0_size r7 M5) (fun _ h => o_X0_size h) ok_X0_size im_X0_size se_X0_size rfl (ci := 0) rfl ml_X9_128 ⟨⟨(Nat.le_of_ble_eq_true rfl), (Nat.le_of_ble_eq_true rfl)⟩, (Nat.le_of_ble_eq_true rfl), (Nat.le_of_ble_eq_true rfl)⟩ dX9_parseMessage_23 rfl rfl rfl (Nat.le_of_ble_eq_true rfl) rfl rfl (fun x8 => ?_)
    refine V_aload_n dX9_parseMessage_26 rfl 1 rfl ?_
    refine V_getI dX9_parseMessage_27 rfl (ci := 7) (T := TX8) rfl (by decide) fl_X9_92 (fun x9 => ?_)
    refine V_icmp_lt (q := 41) (q2 := 33) dX9_parseMessage_30 (by decide) rfl ?_ ?_
    · exact V_sub [0, 2] rfl (v_X9_parseMessage_41 this r7 M5)
    · refine V_aload_n dX9_parseMessage_33 rfl 0 rfl ?_
      refine V_getR dX9_parseMessage_34 rfl (ci := 8) (T := TX9) rfl (by decide) fl_X9_9 (fun x26 => ?_)
      refine V_iconst (x := 4) dX9_parseMessage_37 rfl rfl ?_
      refine V_cVwV (As := [.int 4]) (k_X10_fail x26 4 M5) (fun _ h => o_X10_fail h) ok_X10_fail im_X10_fail se_X10_fail rfl (ci := 9) rfl ml_X9_77 ⟨⟨(Nat.le_of_ble_eq_true rfl), (Nat.le_of_ble_eq_true rfl)⟩, (Nat.le_of_ble_eq_true rfl), (Nat.le_of_ble_eq_true rfl)⟩ dX9_parseMessage_38 rfl rfl rfl (Nat.le_of_ble_eq_true rfl) rfl rfl (fun M28 => ?_)
      exact V_sub [0, 2] rfl (v_X9_parseMessage_41 this r7 M28)
theorem k_X9_parseMessage (this : Nat) (a1 : Nat) (M : Mem) : K mi_X9_parseMessage [.ref this, .ref a1] M (f_X9_parseMessage this a1 M) wV := K_of_V ok_X9_parseMessage (Nat.le_of_ble_eq_true rfl) (v_X9_parseMessage this a1 M)
theorem o_X9_parseMessage {this : Nat} {a1 : Nat} {M : Mem} {x} (h : f_X9_parseMessage this a1 M = some x) : isO M 8 this = true := (ob_of h).1
theorem dX9_parseSession_0 : decode cX9_parseSession 0 = .ok (.aload_n 1, 1) := by decide +kernel
theorem dX9_parseSession_1 : decode cX9_parseSession 1 = .ok (.getfield 149, 3) := by decide +kernel
theorem dX9_parseSession_4 : decode cX9_parseSession 4 = .ok (.iconst 4, 1) := by decide +kernel
theorem dX9_parseSession_5 : decode cX9_parseSession 5 = .ok (.if_icmp .lt 11, 3) := by decide +kernel
theorem dX9_parseSession_8 : decode cX9_parseSession 8 = .ok (.aload_n 0, 1) := by decide +kernel
theorem dX9_parseSession_9 : decode cX9_parseSession 9 = .ok (.getfield 9, 3) := by decide +kernel
theorem dX9_parseSession_12 : decode cX9_parseSession 12 = .ok (.iconst 4, 1) := by decide +kernel
theorem dX9_parseSession_13 : decode cX9_parseSession 13 = .ok (.invokevirtual 77, 3) := by decide +kernel
theorem dX9_parseSession_16 : decode cX9_parseSession 16 = .ok (.aload_n 0, 1) := by decide +kernel
theorem dX9_parseSession_17 : decode cX9_parseSession 17 = .ok (.getfield 9, 3) := by decide +kernel
theorem dX9_parseSession_20 : decode cX9_parseSession 20 = .ok (.invokevirtual 85, 3) := by decide +kernel
theorem dX9_parseSession_23 : decode cX9_parseSession 23 = .ok (.aload_n 0, 1) := by decide +kernel
theorem dX9_parseSession_24 : decode cX9_parseSession 24 = .ok (.aload_n 1, 1) := by decide +kernel
theorem dX9_parseSession_25 : decode cX9_parseSession 25 = .ok (.aload_n 0, 1) := by decide +kernel
theorem dX9_parseSession_26 : decode cX9_parseSession 26 = .ok (.getfield 9, 3) := by decide +kernel
theorem dX9_parseSession_29 : decode cX9_parseSession 29 = .ok (.invokevirtual 99, 3) := by decide +kernel
theorem dX9_parseSession_32 : decode cX9_parseSession 32 = .ok (.invokevirtual 152, 3) := by decide +kernel
theorem dX9_parseSession_35 : decode cX9_parseSession 35 = .ok (.invokevirtual 107, 3) := by decide +kernel
theorem dX9_parseSession_38 : decode cX9_parseSession 38 = .ok (.lstore_n 2, 1) := by decide +kernel
theorem dX9_parseSession_39 : decode cX9_parseSession 39 = .ok (.aload_n 0, 1) := by decide +kernel
theorem dX9_parseSession_40 : decode cX9_parseSession 40 = .ok (.getfield 9, 3) := by decide +kernel
theorem dX9_parseSession_43 : decode cX9_parseSession 43 = .ok (.getstatic 155, 3) := by decide +kernel
theorem dX9_parseSession_46 : decode cX9_parseSession 46 = .ok (.invokevirtual 52, 3) := by decide +kernel
theorem dX9_parseSession_49 : decode cX9_parseSession 49 = .ok (.istore 4, 2) := by decide +kernel
theorem dX9_parseSession_51 : decode cX9_parseSession 51 = .ok (.iload 4, 2) := by decide +kernel
theorem dX9_parseSession_53 : decode cX9_parseSession 53 = .ok (.ifCond .eq 10, 3) := by decide +kernel
theorem dX9_parseSession_56 : decode cX9_parseSession 56 = .ok (.aload_n 0, 1) := by decide +kernel
theorem dX9_parseSession_57 : decode cX9_parseSession 57 = .ok (.getfield 9, 3) := by decide +kernel
theorem dX9_parseSession_60 : decode cX9_parseSession 60 = .ok (.invokevirtual 85, 3) := by decide +kernel
theorem dX9_parseSession_63 : decode cX9_parseSession 63 = .ok (.iconst (-1), 1) := by decide +kernel
theorem dX9_parseSession_64 : decode cX9_parseSession 64 = .ok (.istore 5, 2) := by decide +kernel
theorem dX9_parseSession_66 : decode cX9_parseSession 66 = .ok (.iload 4, 2) := by decide +kernel
theorem dX9_parseSession_68 : decode cX9_parseSession 68 = .ok (.ifCond .ne 15, 3) := by decide +kernel
theorem dX9_parseSession_71 : decode cX9_parseSession 71 = .ok (.aload_n 0, 1) := by decide +kernel
theorem dX9_parseSession_72 : decode cX9_parseSession 72 = .ok (.getfield 9, 3) := by decide +kernel
theorem dX9_parseSession_75 : decode cX9_parseSession 75 = .ok (.bipush 59, 2) := by decide +kernel
theorem dX9_parseSession_77 : decode cX9_parseSession 77 = .ok (.invokevirtual 158, 3) := by decide +kernel
theorem dX9_parseSession_80 : decode cX9_parseSession 80 = .ok (.ifCond .ne 17, 3) := by decide +kernel
theorem dX9_parseSession_83 : decode cX9_parseSession 83 = .ok (.aload_n 0, 1) := by decide +kernel
theorem dX9_parseSession_84 : decode cX9_parseSession 84 = .ok (.aload_n 1, 1) := by decide +kernel
theorem dX9_parseSession_85 : decode cX9_parseSession 85 = .ok (.invokevirtual 120, 3) := by decide +kernel
theorem dX9_parseSession_88 : decode cX9_parseSession 88 = .ok (.istore 5, 2) := by decide +kernel
theorem dX9_parseSession_90 : decode cX9_parseSession 90 = .ok (.aload_n 0, 1) := by decide +kernel
theorem dX9_parseSession_91 : decode cX9_parseSession 91 = .ok (.getfield 9, 3) := by decide +kernel
theorem dX9_parseSession_94 : decode cX9_parseSession 94 = .ok (.invokevirtual 85, 3) := by decide +kernel
theorem dX9_parseSession_97 : decode cX9_parseSession 97 = .ok (.aload_n 0, 1) := by decide +kernel
theorem dX9_parseSession_98 : decode cX9_parseSession 98 = .ok (.getfield 9, 3) := by decide +kernel
theorem dX9_parseSession_101 : decode cX9_parseSession 101 = .ok (.invokevirtual 36, 3) := by decide +kernel
theorem dX9_parseSession_104 : decode cX9_parseSession 104 = .ok (.ifCond .eq 7, 3) := by decide +kernel
theorem dX9_parseSession_107 : decode cX9_parseSession 107 = .ok (.aconst_null, 1) := by decide +kernel
theorem dX9_parseSession_108 : decode cX9_parseSession 108 = .ok (.goto 7, 3) := by decide +kernel
theorem dX9_parseSession_111 : decode cX9_parseSession 111 = .ok (.aload_n 1, 1) := by decide +kernel
theorem dX9_parseSession_112 : decode cX9_parseSession 112 = .ok (.invokevirtual 162, 3) := by decide +kernel
theorem dX9_parseSession_115 : decode cX9_parseSession 115 = .ok (.astore 6, 2) := by decide +kernel
theorem dX9_parseSession_117 : decode cX9_parseSession 117 = .ok (.aload 6, 2) := by decide +kernel
theorem dX9_parseSession_119 : decode cX9_parseSession 119 = .ok (.ifnull 13, 3) := by decide +kernel
theorem dX9_parseSession_122 : decode cX9_parseSession 122 = .ok (.aload 6, 2) := by decide +kernel
theorem dX9_parseSession_124 : decode cX9_parseSession 124 = .ok (.lload_n 2, 1) := by decide +kernel
theorem dX9_parseSession_125 : decode cX9_parseSession 125 = .ok (.iload 5, 2) := by decide +kernel
theorem dX9_parseSession_127 : decode cX9_parseSession 127 = .ok (.iload 4, 2) := by decide +kernel
theorem dX9_parseSession_129 : decode cX9_parseSession 129 = .ok (.invokevirtual 166, 3) := by decide +kernel
theorem dX9_parseSession_132 : decode cX9_parseSession 132 = .ok (.return_, 1) := by decide +kernel
def mi_X9_parseSession : MI := (RX9, yX9_parseSession, cX9_parseSession, 7, none, [], { frames := 4, cells := 0, slots := 0, locals := 79 })
theorem ok_X9_parseSession : mOK mi_X9_parseSession 1 := ⟨rfl, cw_X9_parseSession, ini_X9, ⟨rfl, by decide⟩, by decide, by decide, rfl⟩
theorem v_X9_parseSession_115 (l2 : Int64) (l4 : Bool) (l5 : Int32) (s0 : Option Nat) (M : Mem) : V mi_X9_parseSession 115 [(2, .long l2), (4, .int (b2i l4)), (5, .int l5)] [va_rf s0] M 0 0 (f_X9_parseSession_115 l2 l4 l5 s0 M) wV := by
  unfold f_X9_parseSession_115
  refine V_astoreQ (L' := [(2, .long l2), (4, .int (b2i l4)), (5, .int l5), (6, va_rf s0)]) dX9_parseSession_115 rfl (by decide) (by rcases (s0 : Option Nat) with _ | _ <;> rfl) ?_
  refine V_aloadQ dX9_parseSession_117 rfl 3 rfl ?_
  rcases s0 with _ | r21
  · refine V_ifnull_n (q := 132) dX9_parseSession_119 (by decide) ?_
    exact V_vret dX9_parseSession_132 rfl rfl ⟨(Nat.le_of_ble_eq_true rfl), (Nat.le_of_ble_eq_true rfl)⟩
  · refine V_ifnull_r dX9_parseSession_119 rfl ?_
    refine V_aload dX9_parseSession_122 rfl 3 rfl ?_
    refine V_lload_n dX9_parseSession_124 rfl 0 rfl ?_
    refine V_iload dX9_parseSession_125 rfl 2 rfl ?_
    refine V_iload dX9_parseSession_127 rfl 1 rfl ?_
    refine V_cVwV (As := [.long l2, .int l5, .int (b2i l4)]) (k_X7_begin r21 l2 l5 l4 M) (fun _ h => o_X7_begin h) ok_X7_begin im_X7_begin se_X7_begin rfl (ci := 6) rfl ml_X9_166 ⟨⟨(Nat.le_of_ble_eq_true rfl), (Nat.le_of_ble_eq_true rfl)⟩, (Nat.le_of_ble_eq_true rfl), (Nat.le_of_ble_eq_true rfl)⟩ dX9_parseSession_129 rfl rfl rfl (Nat.le_of_ble_eq_true rfl) rfl rfl (fun M23 => ?_)
    exact V_vret dX9_parseSession_132 rfl rfl ⟨(Nat.le_of_ble_eq_true rfl), (Nat.le_of_ble_eq_true rfl)⟩
theorem v_X9_parseSession_97 (this : Nat) (l1 : Nat) (l2 : Int64) (l4 : Bool) (l5 : Int32) (M : Mem) : V mi_X9_parseSession 97 [(0, .ref this), (1, .ref l1), (2, .long l2), (4, .int (b2i l4)), (5, .int l5)] [] M 0 0 (f_X9_parseSession_97 this l1 l2 l4 l5 M) wV := by
  unfold f_X9_parseSession_97
  refine V_aload_n dX9_parseSession_97 rfl 0 rfl ?_
  refine V_getR dX9_parseSession_98 rfl (ci := 8) (T := TX9) rfl (by decide) fl_X9_9 (fun x17 => ?_)
  refine V_cVeZ (As := []) (k_X10_failed x17 M) (fun _ h => o_X10_failed h) ok_X10_failed im_X10_failed se_X10_failed rfl (ci := 9) rfl ml_X9_36 ⟨⟨(Nat.le_of_ble_eq_true rfl), (Nat.le_of_ble_eq_true rfl)⟩, (Nat.le_of_ble_eq_true rfl), (Nat.le_of_ble_eq_true rfl)⟩ dX9_parseSession_101 rfl rfl rfl (Nat.le_of_ble_eq_true rfl) rfl rfl (fun x18 => ?_)
  refine V_ifz_eq (q := 111) (q2 := 107) dX9_parseSession_104 (by decide) rfl ?_ ?_
  · refine V_aload_n dX9_parseSession_111 rfl 1 rfl ?_
    refine V_cVwQ (As := []) (k_X8_addSession l1 M) (fun _ h => o_X8_addSession h) ok_X8_addSession im_X8_addSession se_X8_addSession rfl (ci := 7) rfl ml_X9_162 ⟨⟨(Nat.le_of_ble_eq_true rfl), (Nat.le_of_ble_eq_true rfl)⟩, (Nat.le_of_ble_eq_true rfl), (Nat.le_of_ble_eq_true rfl)⟩ dX9_parseSession_112 rfl rfl rfl (Nat.le_of_ble_eq_true rfl) rfl rfl (fun x19 M20 => ?_)
    exact V_sub [2, 3, 4] rfl (v_X9_parseSession_115 l2 l4 l5 x19 M20)
  · refine V_null dX9_parseSession_107 rfl ?_
    refine V_goto (q := 115) dX9_parseSession_108 (by decide) ?_
    exact V_sub [2, 3, 4] rfl (v_X9_parseSession_115 l2 l4 l5 none M)
theorem v_X9_parseSession_83 (this : Nat) (l1 : Nat) (l2 : Int64) (l4 : Bool) (M : Mem) : V mi_X9_parseSession 83 [(0, .ref this), (1, .ref l1), (2, .long l2), (4, .int (b2i l4))] [] M 0 0 (f_X9_parseSession_83 this l1 l2 l4 M) wV := by
  unfold f_X9_parseSession_83
  refine V_aload_n dX9_parseSession_83 rfl 0 rfl ?_
  refine V_aload_n dX9_parseSession_84 rfl 1 rfl ?_
  refine V_cVwI (As := [.ref l1]) (k_X9_knownBox this l1 M) (fun _ h => o_X9_knownBox h) ok_X9_knownBox im_X9_knownBox se_X9_knownBox rfl (ci := 8) rfl ml_X9_120 ⟨⟨(Nat.le_of_ble_eq_true rfl), (Nat.le_of_ble_eq_true rfl)⟩, (Nat.le_of_ble_eq_true rfl), (Nat.le_of_ble_eq_true rfl)⟩ dX9_parseSession_85 rfl rfl rfl (Nat.le_of_ble_eq_true rfl) rfl rfl (fun x12 M13 => ?_)
  refine V_istore (L' := [(0, .ref this), (1, .ref l1), (2, .long l2), (4, .int (b2i l4)), (5, .int x12)]) dX9_parseSession_88 rfl (by decide) rfl ?_
  refine V_aload_n dX9_parseSession_90 rfl 0 rfl ?_
  refine V_getR dX9_parseSession_91 rfl (ci := 8) (T := TX9) rfl (by decide) fl_X9_9 (fun x14 => ?_)
  refine V_cVwV (As := []) (k_X10_next x14 M13) (fun _ h => o_X10_next h) ok_X10_next im_X10_next se_X10_next rfl (ci := 9) rfl ml_X9_85 ⟨⟨(Nat.le_of_ble_eq_true rfl), (Nat.le_of_ble_eq_true rfl)⟩, (Nat.le_of_ble_eq_true rfl), (Nat.le_of_ble_eq_true rfl)⟩ dX9_parseSession_94 rfl rfl rfl (Nat.le_of_ble_eq_true rfl) rfl rfl (fun M16 => ?_)
  exact v_X9_parseSession_97 this l1 l2 l4 x12 M16
theorem v_X9_parseSession_63 (this : Nat) (l1 : Nat) (l2 : Int64) (l4 : Bool) (M : Mem) : V mi_X9_parseSession 63 [(0, .ref this), (1, .ref l1), (2, .long l2), (4, .int (b2i l4))] [] M 0 0 (f_X9_parseSession_63 this l1 l2 l4 M) wV := by
  unfold f_X9_parseSession_63
  refine V_iconst (x := (-1)) dX9_parseSession_63 rfl rfl ?_
  refine V_istore (L' := [(0, .ref this), (1, .ref l1), (2, .long l2), (4, .int (b2i l4)), (5, .int (-1))]) dX9_parseSession_64 rfl (by decide) rfl ?_
  refine V_iload dX9_parseSession_66 rfl 3 rfl ?_
  refine V_ifz_ne (q := 83) (q2 := 71) dX9_parseSession_68 (by decide) rfl ?_ ?_
  · exact V_sub [0, 1, 2, 3] rfl (v_X9_parseSession_83 this l1 l2 l4 M)
  · refine V_aload_n dX9_parseSession_71 rfl 0 rfl ?_
    refine V_getR dX9_parseSession_72 rfl (ci := 8) (T := TX9) rfl (by decide) fl_X9_9 (fun x24 => ?_)
    refine V_bipush (x := 59) dX9_parseSession_75 rfl rfl ?_
    refine V_cVeZ (As := [.int 59]) (k_X10_isSymbol x24 59 M) (fun _ h => o_X10_isSymbol h) ok_X10_isSymbol im_X10_isSymbol se_X10_isSymbol rfl (ci := 9) rfl ml_X9_158 ⟨⟨(Nat.le_of_ble_eq_true rfl), (Nat.le_of_ble_eq_true rfl)⟩, (Nat.le_of_ble_eq_true rfl), (Nat.le_of_ble_eq_true rfl)⟩ dX9_parseSession_77 rfl rfl rfl (Nat.le_of_ble_eq_true rfl) rfl rfl (fun x25 => ?_)
    refine V_ifz_ne (q := 97) (q2 := 83) dX9_parseSession_80 (by decide) rfl ?_ ?_
    · exact v_X9_parseSession_97 this l1 l2 l4 (-1) M
    · exact V_sub [0, 1, 2, 3] rfl (v_X9_parseSession_83 this l1 l2 l4 M)
theorem v_X9_parseSession_16 (this : Nat) (l1 : Nat) (M : Mem) : V mi_X9_parseSession 16 [(0, .ref this), (1, .ref l1)] [] M 0 0 (f_X9_parseSession_16 this l1 M) wV := by
  unfold f_X9_parseSession_16
  refine V_aload_n dX9_parseSession_16 rfl 0 rfl ?_
  refine V_getR dX9_parseSession_17 rfl (ci := 8) (T := TX9) rfl (by decide) fl_X9_9 (fun x2 => ?_)
  refine V_cVwV (As := []) (k_X10_next x2 M) (fun _ h => o_X10_next h) ok_X10_next im_X10_next se_X10_next rfl (ci := 9) rfl ml_X9_85 ⟨⟨(Nat.le_of_ble_eq_true rfl), (Nat.le_of_ble_eq_true rfl)⟩, (Nat.le_of_ble_eq_true rfl), (Nat.le_of_ble_eq_true rfl)⟩ dX9_parseSession_20 rfl rfl rfl (Nat.le_of_ble_eq_true rfl) rfl rfl (fun M4 => ?_)
  refine V_aload_n dX9_parseSession_23 rfl 0 rfl ?_
  refine V_aload_n dX9_parseSession_24 rfl 1 rfl ?_
  refine V_aload_n dX9_parseSession_25 rfl 0 rfl ?_
  refine V_getR dX9_parseSession_26 rfl (ci := 8) (T := TX9) rfl (by decide) fl_X9_9 (fun x5 => ?_)
  refine V_cVeJ (As := []) (k_X10_name x5 M4) (fun _ h => o_X10_name h) ok_X10_name im_X10_name se_X10_name rfl (ci := 9) rfl ml_X9_99 ⟨⟨(Nat.le_of_ble_eq_true rfl), (Nat.le_of_ble_eq_true rfl)⟩, (Nat.le_of_ble_eq_true rfl), (Nat.le_of_ble_eq_true rfl)⟩ dX9_parseSession_29 rfl rfl rfl (Nat.le_of_ble_eq_true rfl) rfl rfl (fun x6 => ?_)
  refine V_cVeI (As := [.long x6]) (k_X8_sessionNamed l1 x6 M4) (fun _ h => o_X8_sessionNamed h) ok_X8_sessionNamed im_X8_sessionNamed se_X8_sessionNamed rfl (ci := 7) rfl ml_X9_152 ⟨⟨(Nat.le_of_ble_eq_true rfl), (Nat.le_of_ble_eq_true rfl)⟩, (Nat.le_of_ble_eq_true rfl), (Nat.le_of_ble_eq_true rfl)⟩ dX9_parseSession_32 rfl rfl rfl (Nat.le_of_ble_eq_true rfl) rfl rfl (fun x7 => ?_)
  refine V_cVwJ (As := [.int x7]) (k_X9_passNewName this x7 M4) (fun _ h => o_X9_passNewName h) ok_X9_passNewName im_X9_passNewName se_X9_passNewName rfl (ci := 8) rfl ml_X9_107 ⟨⟨(Nat.le_of_ble_eq_true rfl), (Nat.le_of_ble_eq_true rfl)⟩, (Nat.le_of_ble_eq_true rfl), (Nat.le_of_ble_eq_true rfl)⟩ dX9_parseSession_35 rfl rfl rfl (Nat.le_of_ble_eq_true rfl) rfl rfl (fun x8 M9 => ?_)
  refine V_lstore_n (L' := [(0, .ref this), (1, .ref l1), (2, .long x8)]) dX9_parseSession_38 rfl (by decide) rfl ?_
  refine V_aload_n dX9_parseSession_39 rfl 0 rfl ?_
  refine V_getR dX9_parseSession_40 rfl (ci := 8) (T := TX9) rfl (by decide) fl_X9_9 (fun x10 => ?_)
  refine V_kw (i := 5) (by decide) fk_X9_155 dX9_parseSession_43 rfl ?_
  refine V_cVeZ (As := [.ref 5]) (k_X10_isKeyword x10 5 M9) (fun _ h => o_X10_isKeyword h) ok_X10_isKeyword im_X10_isKeyword se_X10_isKeyword rfl (ci := 9) rfl ml_X9_52 ⟨⟨(Nat.le_of_ble_eq_true rfl), (Nat.le_of_ble_eq_true rfl)⟩, (Nat.le_of_ble_eq_true rfl), (Nat.le_of_ble_eq_true rfl)⟩ dX9_parseSession_46 rfl rfl rfl (Nat.le_of_ble_eq_true rfl) rfl rfl (fun x11 => ?_)
  refine V_istore (L' := [(0, .ref this), (1, .ref l1), (2, .long x8), (4, .int (b2i x11))]) dX9_parseSession_49 rfl (by decide) rfl ?_
  refine V_iload dX9_parseSession_51 rfl 3 rfl ?_
  refine V_ifz_eq (q := 63) (q2 := 56) dX9_parseSession_53 (by decide) rfl ?_ ?_
  · exact v_X9_parseSession_63 this l1 x8 x11 M9
  · refine V_aload_n dX9_parseSession_56 rfl 0 rfl ?_
    refine V_getR dX9_parseSession_57 rfl (ci := 8) (T := TX9) rfl (by decide) fl_X9_9 (fun x26 => ?_)
    refine V_cVwV (As := []) (k_X10_next x26 M9) (fun _ h => o_X10_next h) ok_X10_next im_X10_next se_X10_next rfl (ci := 9) rfl ml_X9_85 ⟨⟨(Nat.le_of_ble_eq_true rfl), (Nat.le_of_ble_eq_true rfl)⟩, (Nat.le_of_ble_eq_true rfl), (Nat.le_of_ble_eq_true rfl)⟩ dX9_parseSession_60 rfl rfl rfl (Nat.le_of_ble_eq_true rfl) rfl rfl (fun M28 => ?_)
    exact v_X9_parseSession_63 this l1 x8 x11 M28
theorem v_X9_parseSession (this : Nat) (a1 : Nat) (M : Mem) : V mi_X9_parseSession 0 [(0, .ref this), (1, .ref a1)] [] M 0 0 (f_X9_parseSession this a1 M) wV := by
  unfold f_X9_parseSession
  refine V_ob fun _ _ => ?_
  refine V_aload_n dX9_parseSession_0 rfl 1 rfl ?_
  refine V_getI dX9_parseSession_1 rfl (ci := 7) (T := TX8) rfl (by decide) fl_X9_149 (fun x1 => ?_)
  refine V_iconst (x := 4) dX9_parseSession_4 rfl rfl ?_
  refine V_icmp_lt (q := 16) (q2 := 8) dX9_parseSession_5 (by decide) rfl ?_ ?_
  · exact v_X9_parseSession_16 this a1 M
  · refine V_aload_n dX9_parseSession_8 rfl 0 rfl ?_
    refine V_getR dX9_parseSession_9 rfl (ci := 8) (T := TX9) rfl (by decide) fl_X9_9 (fun x29 => ?_)
    refine V_iconst (x := 4) dX9_parseSession_12 rfl rfl ?_
    refine V_cVwV (As := [.int 4]) (k_X10_fail x29 4 M) (fun _ h => o_X10_fail h) ok_X10_fail im_X10_fail se_X10_fail rfl (ci := 9) rfl ml_X9_77 ⟨⟨(Nat.le_of_ble_eq_true rfl), (Nat.le_of_ble_eq_true rfl)⟩, (Nat.le_of_ble_eq_true rfl), (Nat.le_of_ble_eq_true rfl)⟩ dX9_parseSession_13 rfl rfl rfl (Nat.le_of_ble_eq_true rfl) rfl rfl (fun M31 => ?_)
    exact v_X9_parseSession_16 this a1 M31
theorem k_X9_parseSession (this : Nat) (a1 : Nat) (M : Mem) : K mi_X9_parseSession [.ref this, .ref a1] M (f_X9_parseSession this a1 M) wV := K_of_V ok_X9_parseSession (Nat.le_of_ble_eq_true rfl) (v_X9_parseSession this a1 M)
theorem o_X9_parseSession {this : Nat} {a1 : Nat} {M : Mem} {x} (h : f_X9_parseSession this a1 M = some x) : isO M 8 this = true := (ob_of h).1
theorem dX9_parseStatement_0 : decode cX9_parseStatement 0 = .ok (.aload_n 0, 1) := by decide +kernel
theorem dX9_parseStatement_1 : decode cX9_parseStatement 1 = .ok (.getfield 9, 3) := by decide +kernel
theorem dX9_parseStatement_4 : decode cX9_parseStatement 4 = .ok (.getstatic 46, 3) := by decide +kernel
theorem dX9_parseStatement_7 : decode cX9_parseStatement 7 = .ok (.invokevirtual 52, 3) := by decide +kernel
theorem dX9_parseStatement_10 : decode cX9_parseStatement 10 = .ok (.ifCond .eq 11, 3) := by decide +kernel
theorem dX9_parseStatement_13 : decode cX9_parseStatement 13 = .ok (.aload_n 0, 1) := by decide +kernel
theorem dX9_parseStatement_14 : decode cX9_parseStatement 14 = .ok (.aload_n 1, 1) := by decide +kernel
theorem dX9_parseStatement_15 : decode cX9_parseStatement 15 = .ok (.invokevirtual 56, 3) := by decide +kernel
theorem dX9_parseStatement_18 : decode cX9_parseStatement 18 = .ok (.goto 74, 3) := by decide +kernel
theorem dX9_parseStatement_21 : decode cX9_parseStatement 21 = .ok (.aload_n 0, 1) := by decide +kernel
theorem dX9_parseStatement_22 : decode cX9_parseStatement 22 = .ok (.getfield 9, 3) := by decide +kernel
theorem dX9_parseStatement_25 : decode cX9_parseStatement 25 = .ok (.getstatic 59, 3) := by decide +kernel
theorem dX9_parseStatement_28 : decode cX9_parseStatement 28 = .ok (.invokevirtual 52, 3) := by decide +kernel
theorem dX9_parseStatement_31 : decode cX9_parseStatement 31 = .ok (.ifCond .eq 11, 3) := by decide +kernel
theorem dX9_parseStatement_34 : decode cX9_parseStatement 34 = .ok (.aload_n 0, 1) := by decide +kernel
theorem dX9_parseStatement_35 : decode cX9_parseStatement 35 = .ok (.aload_n 1, 1) := by decide +kernel
theorem dX9_parseStatement_36 : decode cX9_parseStatement 36 = .ok (.invokevirtual 62, 3) := by decide +kernel
theorem dX9_parseStatement_39 : decode cX9_parseStatement 39 = .ok (.goto 53, 3) := by decide +kernel
theorem dX9_parseStatement_42 : decode cX9_parseStatement 42 = .ok (.aload_n 0, 1) := by decide +kernel
theorem dX9_parseStatement_43 : decode cX9_parseStatement 43 = .ok (.getfield 9, 3) := by decide +kernel
theorem dX9_parseStatement_46 : decode cX9_parseStatement 46 = .ok (.getstatic 65, 3) := by decide +kernel
theorem dX9_parseStatement_49 : decode cX9_parseStatement 49 = .ok (.invokevirtual 52, 3) := by decide +kernel
theorem dX9_parseStatement_52 : decode cX9_parseStatement 52 = .ok (.ifCond .eq 11, 3) := by decide +kernel
theorem dX9_parseStatement_55 : decode cX9_parseStatement 55 = .ok (.aload_n 0, 1) := by decide +kernel
theorem dX9_parseStatement_56 : decode cX9_parseStatement 56 = .ok (.aload_n 1, 1) := by decide +kernel
theorem dX9_parseStatement_57 : decode cX9_parseStatement 57 = .ok (.invokevirtual 68, 3) := by decide +kernel
theorem dX9_parseStatement_60 : decode cX9_parseStatement 60 = .ok (.goto 32, 3) := by decide +kernel
theorem dX9_parseStatement_63 : decode cX9_parseStatement 63 = .ok (.aload_n 0, 1) := by decide +kernel
theorem dX9_parseStatement_64 : decode cX9_parseStatement 64 = .ok (.getfield 9, 3) := by decide +kernel
theorem dX9_parseStatement_67 : decode cX9_parseStatement 67 = .ok (.getstatic 71, 3) := by decide +kernel
theorem dX9_parseStatement_70 : decode cX9_parseStatement 70 = .ok (.invokevirtual 52, 3) := by decide +kernel
theorem dX9_parseStatement_73 : decode cX9_parseStatement 73 = .ok (.ifCond .eq 11, 3) := by decide +kernel
theorem dX9_parseStatement_76 : decode cX9_parseStatement 76 = .ok (.aload_n 0, 1) := by decide +kernel
theorem dX9_parseStatement_77 : decode cX9_parseStatement 77 = .ok (.aload_n 1, 1) := by decide +kernel
theorem dX9_parseStatement_78 : decode cX9_parseStatement 78 = .ok (.invokevirtual 74, 3) := by decide +kernel
theorem dX9_parseStatement_81 : decode cX9_parseStatement 81 = .ok (.goto 11, 3) := by decide +kernel
theorem dX9_parseStatement_84 : decode cX9_parseStatement 84 = .ok (.aload_n 0, 1) := by decide +kernel
theorem dX9_parseStatement_85 : decode cX9_parseStatement 85 = .ok (.getfield 9, 3) := by decide +kernel
theorem dX9_parseStatement_88 : decode cX9_parseStatement 88 = .ok (.iconst 1, 1) := by decide +kernel
theorem dX9_parseStatement_89 : decode cX9_parseStatement 89 = .ok (.invokevirtual 77, 3) := by decide +kernel
theorem dX9_parseStatement_92 : decode cX9_parseStatement 92 = .ok (.aload_n 0, 1) := by decide +kernel
theorem dX9_parseStatement_93 : decode cX9_parseStatement 93 = .ok (.getfield 9, 3) := by decide +kernel
theorem dX9_parseStatement_96 : decode cX9_parseStatement 96 = .ok (.bipush 59, 2) := by decide +kernel
theorem dX9_parseStatement_98 : decode cX9_parseStatement 98 = .ok (.invokevirtual 81, 3) := by decide +kernel
theorem dX9_parseStatement_101 : decode cX9_parseStatement 101 = .ok (.return_, 1) := by decide +kernel
def mi_X9_parseStatement : MI := (RX9, yX9_parseStatement, cX9_parseStatement, 2, none, [], { frames := 5, cells := 0, slots := 0, locals := 105 })
theorem ok_X9_parseStatement : mOK mi_X9_parseStatement 1 := ⟨rfl, cw_X9_parseStatement, ini_X9, ⟨rfl, by decide⟩, by decide, by decide, rfl⟩
theorem v_X9_parseStatement_92 (this : Nat) (M : Mem) : V mi_X9_parseStatement 92 [(0, .ref this)] [] M 0 0 (f_X9_parseStatement_92 this M) wV := by
  unfold f_X9_parseStatement_92
  refine V_aload_n dX9_parseStatement_92 rfl 0 rfl ?_
  refine V_getR dX9_parseStatement_93 rfl (ci := 8) (T := TX9) rfl (by decide) fl_X9_9 (fun x12 => ?_)
  refine V_bipush (x := 59) dX9_parseStatement_96 rfl rfl ?_
  refine V_cVwV (As := [.int 59]) (k_X10_passSymbol x12 59 M) (fun _ h => o_X10_passSymbol h) ok_X10_passSymbol im_X10_passSymbol se_X10_passSymbol rfl (ci := 9) rfl ml_X9_81 ⟨⟨(Nat.le_of_ble_eq_true rfl), (Nat.le_of_ble_eq_true rfl)⟩, (Nat.le_of_ble_eq_true rfl), (Nat.le_of_ble_eq_true rfl)⟩ dX9_parseStatement_98 rfl rfl rfl (Nat.le_of_ble_eq_true rfl) rfl rfl (fun M14 => ?_)
  exact V_vret dX9_parseStatement_101 rfl rfl ⟨(Nat.le_of_ble_eq_true rfl), (Nat.le_of_ble_eq_true rfl)⟩
theorem v_X9_parseStatement (this : Nat) (a1 : Nat) (M : Mem) : V mi_X9_parseStatement 0 [(0, .ref this), (1, .ref a1)] [] M 0 0 (f_X9_parseStatement this a1 M) wV := by
  unfold f_X9_parseStatement
  refine V_ob fun _ _ => ?_
  refine V_aload_n dX9_parseStatement_0 rfl 0 rfl ?_
  refine V_getR dX9_parseStatement_1 rfl (ci := 8) (T := TX9) rfl (by decide) fl_X9_9 (fun x1 => ?_)
  refine V_kw (i := 0) (by decide) fk_X9_46 dX9_parseStatement_4 rfl ?_
  refine V_cVeZ (As := [.ref 0]) (k_X10_isKeyword x1 0 M) (fun _ h => o_X10_isKeyword h) ok_X10_isKeyword im_X10_isKeyword se_X10_isKeyword rfl (ci := 9) rfl ml_X9_52 ⟨⟨(Nat.le_of_ble_eq_true rfl), (Nat.le_of_ble_eq_true rfl)⟩, (Nat.le_of_ble_eq_true rfl), (Nat.le_of_ble_eq_true rfl)⟩ dX9_parseStatement_7 rfl rfl rfl (Nat.le_of_ble_eq_true rfl) rfl rfl (fun x2 => ?_)
  refine V_ifz_eq (q := 21) (q2 := 13) dX9_parseStatement_10 (by decide) rfl ?_ ?_
  · refine V_aload_n dX9_parseStatement_21 rfl 0 rfl ?_
    refine V_getR dX9_parseStatement_22 rfl (ci := 8) (T := TX9) rfl (by decide) fl_X9_9 (fun x3 => ?_)
    refine V_kw (i := 1) (by decide) fk_X9_59 dX9_parseStatement_25 rfl ?_
    refine V_cVeZ (As := [.ref 1]) (k_X10_isKeyword x3 1 M) (fun _ h => o_X10_isKeyword h) ok_X10_isKeyword im_X10_isKeyword se_X10_isKeyword rfl (ci := 9) rfl ml_X9_52 ⟨⟨(Nat.le_of_ble_eq_true rfl), (Nat.le_of_ble_eq_true rfl)⟩, (Nat.le_of_ble_eq_true rfl), (Nat.le_of_ble_eq_true rfl)⟩ dX9_parseStatement_28 rfl rfl rfl (Nat.le_of_ble_eq_true rfl) rfl rfl (fun x4 => ?_)
    refine V_ifz_eq (q := 42) (q2 := 34) dX9_parseStatement_31 (by decide) rfl ?_ ?_
    · refine V_aload_n dX9_parseStatement_42 rfl 0 rfl ?_
      refine V_getR dX9_parseStatement_43 rfl (ci := 8) (T := TX9) rfl (by decide) fl_X9_9 (fun x5 => ?_)
      refine V_kw (i := 2) (by decide) fk_X9_65 dX9_parseStatement_46 rfl ?_
      refine V_cVeZ (As := [.ref 2]) (k_X10_isKeyword x5 2 M) (fun _ h => o_X10_isKeyword h) ok_X10_isKeyword im_X10_isKeyword se_X10_isKeyword rfl (ci := 9) rfl ml_X9_52 ⟨⟨(Nat.le_of_ble_eq_true rfl), (Nat.le_of_ble_eq_true rfl)⟩, (Nat.le_of_ble_eq_true rfl), (Nat.le_of_ble_eq_true rfl)⟩ dX9_parseStatement_49 rfl rfl rfl (Nat.le_of_ble_eq_true rfl) rfl rfl (fun x6 => ?_)
      refine V_ifz_eq (q := 63) (q2 := 55) dX9_parseStatement_52 (by decide) rfl ?_ ?_
      · refine V_aload_n dX9_parseStatement_63 rfl 0 rfl ?_
        refine V_getR dX9_parseStatement_64 rfl (ci := 8) (T := TX9) rfl (by decide) fl_X9_9 (fun x7 => ?_)
        refine V_kw (i := 4) (by decide) fk_X9_71 dX9_parseStatement_67 rfl ?_
        refine V_cVeZ (As := [.ref 4]) (k_X10_isKeyword x7 4 M) (fun _ h => o_X10_isKeyword h) ok_X10_isKeyword im_X10_isKeyword se_X10_isKeyword rfl (ci := 9) rfl ml_X9_52 ⟨⟨(Nat.le_of_ble_eq_true rfl), (Nat.le_of_ble_eq_true rfl)⟩, (Nat.le_of_ble_eq_true rfl), (Nat.le_of_ble_eq_true rfl)⟩ dX9_parseStatement_70 rfl rfl rfl (Nat.le_of_ble_eq_true rfl) rfl rfl (fun x8 => ?_)
        refine V_ifz_eq (q := 84) (q2 := 76) dX9_parseStatement_73 (by decide) rfl ?_ ?_
        · refine V_aload_n dX9_parseStatement_84 rfl 0 rfl ?_
          refine V_getR dX9_parseStatement_85 rfl (ci := 8) (T := TX9) rfl (by decide) fl_X9_9 (fun x9 => ?_)
          refine V_iconst (x := 1) dX9_parseStatement_88 rfl rfl ?_
          refine V_cVwV (As := [.int 1]) (k_X10_fail x9 1 M) (fun _ h => o_X10_fail h) ok_X10_fail im_X10_fail se_X10_fail rfl (ci := 9) rfl ml_X9_77 ⟨⟨(Nat.le_of_ble_eq_true rfl), (Nat.le_of_ble_eq_true rfl)⟩, (Nat.le_of_ble_eq_true rfl), (Nat.le_of_ble_eq_true rfl)⟩ dX9_parseStatement_89 rfl rfl rfl (Nat.le_of_ble_eq_true rfl) rfl rfl (fun M11 => ?_)
          exact V_sub [0] rfl (v_X9_parseStatement_92 this M11)
        · refine V_aload_n dX9_parseStatement_76 rfl 0 rfl ?_
          refine V_aload_n dX9_parseStatement_77 rfl 1 rfl ?_
          refine V_cVwV (As := [.ref a1]) (k_X9_parseSession this a1 M) (fun _ h => o_X9_parseSession h) ok_X9_parseSession im_X9_parseSession se_X9_parseSession rfl (ci := 8) rfl ml_X9_74 ⟨⟨(Nat.le_of_ble_eq_true rfl), (Nat.le_of_ble_eq_true rfl)⟩, (Nat.le_of_ble_eq_true rfl), (Nat.le_of_ble_eq_true rfl)⟩ dX9_parseStatement_78 rfl rfl rfl (Nat.le_of_ble_eq_true rfl) rfl rfl (fun M16 => ?_)
          refine V_goto (q := 92) dX9_parseStatement_81 (by decide) ?_
          exact V_sub [0] rfl (v_X9_parseStatement_92 this M16)
      · refine V_aload_n dX9_parseStatement_55 rfl 0 rfl ?_
        refine V_aload_n dX9_parseStatement_56 rfl 1 rfl ?_
        refine V_cVwV (As := [.ref a1]) (k_X9_parseMessage this a1 M) (fun _ h => o_X9_parseMessage h) ok_X9_parseMessage im_X9_parseMessage se_X9_parseMessage rfl (ci := 8) rfl ml_X9_68 ⟨⟨(Nat.le_of_ble_eq_true rfl), (Nat.le_of_ble_eq_true rfl)⟩, (Nat.le_of_ble_eq_true rfl), (Nat.le_of_ble_eq_true rfl)⟩ dX9_parseStatement_57 rfl rfl rfl (Nat.le_of_ble_eq_true rfl) rfl rfl (fun M18 => ?_)
        refine V_goto (q := 92) dX9_parseStatement_60 (by decide) ?_
        exact V_sub [0] rfl (v_X9_parseStatement_92 this M18)
    · refine V_aload_n dX9_parseStatement_34 rfl 0 rfl ?_
      refine V_aload_n dX9_parseStatement_35 rfl 1 rfl ?_
      refine V_cVwV (As := [.ref a1]) (k_X9_parseBox this a1 M) (fun _ h => o_X9_parseBox h) ok_X9_parseBox im_X9_parseBox se_X9_parseBox rfl (ci := 8) rfl ml_X9_62 ⟨⟨(Nat.le_of_ble_eq_true rfl), (Nat.le_of_ble_eq_true rfl)⟩, (Nat.le_of_ble_eq_true rfl), (Nat.le_of_ble_eq_true rfl)⟩ dX9_parseStatement_36 rfl rfl rfl (Nat.le_of_ble_eq_true rfl) rfl rfl (fun M20 => ?_)
      refine V_goto (q := 92) dX9_parseStatement_39 (by decide) ?_
      exact V_sub [0] rfl (v_X9_parseStatement_92 this M20)
  · refine V_aload_n dX9_parseStatement_13 rfl 0 rfl ?_
    refine V_aload_n dX9_parseStatement_14 rfl 1 rfl ?_
    refine V_cVwV (As := [.ref a1]) (k_X9_parseLimit this a1 M) (fun _ h => o_X9_parseLimit h) ok_X9_parseLimit im_X9_parseLimit se_X9_parseLimit rfl (ci := 8) rfl ml_X9_56 ⟨⟨(Nat.le_of_ble_eq_true rfl), (Nat.le_of_ble_eq_true rfl)⟩, (Nat.le_of_ble_eq_true rfl), (Nat.le_of_ble_eq_true rfl)⟩ dX9_parseStatement_15 rfl rfl rfl (Nat.le_of_ble_eq_true rfl) rfl rfl (fun M22 => ?_)
    refine V_goto (q := 92) dX9_parseStatement_18 (by decide) ?_
    exact V_sub [0] rfl (v_X9_parseStatement_92 this M22)
theorem k_X9_parseStatement (this : Nat) (a1 : Nat) (M : Mem) : K mi_X9_parseStatement [.ref this, .ref a1] M (f_X9_parseStatement this a1 M) wV := K_of_V ok_X9_parseStatement (Nat.le_of_ble_eq_true rfl) (v_X9_parseStatement this a1 M)
theorem o_X9_parseStatement {this : Nat} {a1 : Nat} {M : Mem} {x} (h : f_X9_parseStatement this a1 M = some x) : isO M 8 this = true := (ob_of h).1
theorem dX9_parseInto_0 : decode cX9_parseInto 0 = .ok (.aload_n 1, 1) := by decide +kernel
theorem dX9_parseInto_1 : decode cX9_parseInto 1 = .ok (.invokevirtual 15, 3) := by decide +kernel
theorem dX9_parseInto_4 : decode cX9_parseInto 4 = .ok (.aload_n 0, 1) := by decide +kernel
theorem dX9_parseInto_5 : decode cX9_parseInto 5 = .ok (.iconst 0, 1) := by decide +kernel
theorem dX9_parseInto_6 : decode cX9_parseInto 6 = .ok (.putfield 20, 3) := by decide +kernel
theorem dX9_parseInto_9 : decode cX9_parseInto 9 = .ok (.aload_n 0, 1) := by decide +kernel
theorem dX9_parseInto_10 : decode cX9_parseInto 10 = .ok (.iconst 0, 1) := by decide +kernel
theorem dX9_parseInto_11 : decode cX9_parseInto 11 = .ok (.putfield 24, 3) := by decide +kernel
theorem dX9_parseInto_14 : decode cX9_parseInto 14 = .ok (.aload_n 0, 1) := by decide +kernel
theorem dX9_parseInto_15 : decode cX9_parseInto 15 = .ok (.getfield 9, 3) := by decide +kernel
theorem dX9_parseInto_18 : decode cX9_parseInto 18 = .ok (.invokevirtual 27, 3) := by decide +kernel
theorem dX9_parseInto_21 : decode cX9_parseInto 21 = .ok (.aload_n 0, 1) := by decide +kernel
theorem dX9_parseInto_22 : decode cX9_parseInto 22 = .ok (.aload_n 1, 1) := by decide +kernel
theorem dX9_parseInto_23 : decode cX9_parseInto 23 = .ok (.invokevirtual 32, 3) := by decide +kernel
theorem dX9_parseInto_26 : decode cX9_parseInto 26 = .ok (.iconst 0, 1) := by decide +kernel
theorem dX9_parseInto_27 : decode cX9_parseInto 27 = .ok (.istore_n 2, 1) := by decide +kernel
theorem dX9_parseInto_28 : decode cX9_parseInto 28 = .ok (.iload_n 2, 1) := by decide +kernel
theorem dX9_parseInto_29 : decode cX9_parseInto 29 = .ok (.sipush 700, 3) := by decide +kernel
theorem dX9_parseInto_32 : decode cX9_parseInto 32 = .ok (.if_icmp .ge 34, 3) := by decide +kernel
theorem dX9_parseInto_35 : decode cX9_parseInto 35 = .ok (.aload_n 0, 1) := by decide +kernel
theorem dX9_parseInto_36 : decode cX9_parseInto 36 = .ok (.getfield 9, 3) := by decide +kernel
theorem dX9_parseInto_39 : decode cX9_parseInto 39 = .ok (.invokevirtual 36, 3) := by decide +kernel
theorem dX9_parseInto_42 : decode cX9_parseInto 42 = .ok (.ifCond .ne 24, 3) := by decide +kernel
theorem dX9_parseInto_45 : decode cX9_parseInto 45 = .ok (.aload_n 0, 1) := by decide +kernel
theorem dX9_parseInto_46 : decode cX9_parseInto 46 = .ok (.getfield 9, 3) := by decide +kernel
theorem dX9_parseInto_49 : decode cX9_parseInto 49 = .ok (.invokevirtual 40, 3) := by decide +kernel
theorem dX9_parseInto_52 : decode cX9_parseInto 52 = .ok (.ifCond .ne 14, 3) := by decide +kernel
theorem dX9_parseInto_55 : decode cX9_parseInto 55 = .ok (.aload_n 0, 1) := by decide +kernel
theorem dX9_parseInto_56 : decode cX9_parseInto 56 = .ok (.aload_n 1, 1) := by decide +kernel
theorem dX9_parseInto_57 : decode cX9_parseInto 57 = .ok (.invokevirtual 32, 3) := by decide +kernel
theorem dX9_parseInto_60 : decode cX9_parseInto 60 = .ok (.iinc 2 1, 3) := by decide +kernel
theorem dX9_parseInto_63 : decode cX9_parseInto 63 = .ok (.goto (-35), 3) := by decide +kernel
theorem dX9_parseInto_66 : decode cX9_parseInto 66 = .ok (.aload_n 1, 1) := by decide +kernel
theorem dX9_parseInto_67 : decode cX9_parseInto 67 = .ok (.invokevirtual 43, 3) := by decide +kernel
theorem dX9_parseInto_70 : decode cX9_parseInto 70 = .ok (.return_, 1) := by decide +kernel
def mi_X9_parseInto : MI := (RX9, yX9_parseInto, cX9_parseInto, 3, none, [], { frames := 9, cells := 0, slots := 0, locals := 213 })
theorem ok_X9_parseInto : mOK mi_X9_parseInto 1 := ⟨rfl, cw_X9_parseInto, ini_X9, ⟨rfl, by decide⟩, by decide, by decide, rfl⟩
theorem v_X9_parseInto_66 (l1 : Nat) (M : Mem) : V mi_X9_parseInto 66 [(1, .ref l1)] [] M 0 0 (f_X9_parseInto_66 l1 M) wV := by
  unfold f_X9_parseInto_66
  refine V_aload_n dX9_parseInto_66 rfl 0 rfl ?_
  refine V_cVwV (As := []) (k_X8_enterBoxes l1 M) (fun _ h => o_X8_enterBoxes h) ok_X8_enterBoxes im_X8_enterBoxes se_X8_enterBoxes rfl (ci := 7) rfl ml_X9_43 ⟨⟨(Nat.le_of_ble_eq_true rfl), (Nat.le_of_ble_eq_true rfl)⟩, (Nat.le_of_ble_eq_true rfl), (Nat.le_of_ble_eq_true rfl)⟩ dX9_parseInto_67 rfl rfl rfl (Nat.le_of_ble_eq_true rfl) rfl rfl (fun M11 => ?_)
  exact V_vret dX9_parseInto_70 rfl rfl ⟨(Nat.le_of_ble_eq_true rfl), (Nat.le_of_ble_eq_true rfl)⟩
theorem v_X9_parseInto_28 : ∀ (fu : Nat) (this : Nat) (l1 : Nat) (l2 : Int32) (M : Mem), V mi_X9_parseInto 28 [(0, .ref this), (1, .ref l1), (2, .int l2)] [] M 0 0 (f_X9_parseInto_28 fu this l1 l2 M) wV := by
  intro fu
  induction fu with
  | zero => intros; exact V_none
  | succ fu ih =>
    intro this l1 l2 M
    show V mi_X9_parseInto 28 [(0, .ref this), (1, .ref l1), (2, .int l2)] [] M 0 0 (f_X9_parseInto_28 (fu + 1) this l1 l2 M) wV
    unfold f_X9_parseInto_28
    refine V_iload_n dX9_parseInto_28 rfl 2 rfl ?_
    refine V_sipush (x := 700) dX9_parseInto_29 rfl rfl ?_
    refine V_icmp_ge (q := 66) (q2 := 35) dX9_parseInto_32 (by decide) rfl ?_ ?_
    · exact V_sub [1] rfl (v_X9_parseInto_66 l1 M)
    · refine V_aload_n dX9_parseInto_35 rfl 0 rfl ?_
      refine V_getR dX9_parseInto_36 rfl (ci := 8) (T := TX9) rfl (by decide) fl_X9_9 (fun x12 => ?_)
      refine V_cVeZ (As := []) (k_X10_failed x12 M) (fun _ h => o_X10_failed h) ok_X10_failed im_X10_failed se_X10_failed rfl (ci := 9) rfl ml_X9_36 ⟨⟨(Nat.le_of_ble_eq_true rfl), (Nat.le_of_ble_eq_true rfl)⟩, (Nat.le_of_ble_eq_true rfl), (Nat.le_of_ble_eq_true rfl)⟩ dX9_parseInto_39 rfl rfl rfl (Nat.le_of_ble_eq_true rfl) rfl rfl (fun x13 => ?_)
      refine V_ifz_ne (q := 66) (q2 := 45) dX9_parseInto_42 (by decide) rfl ?_ ?_
      · exact V_sub [1] rfl (v_X9_parseInto_66 l1 M)
      · refine V_aload_n dX9_parseInto_45 rfl 0 rfl ?_
        refine V_getR dX9_parseInto_46 rfl (ci := 8) (T := TX9) rfl (by decide) fl_X9_9 (fun x14 => ?_)
        refine V_cVeZ (As := []) (k_X10_atEnd x14 M) (fun _ h => o_X10_atEnd h) ok_X10_atEnd im_X10_atEnd se_X10_atEnd rfl (ci := 9) rfl ml_X9_40 ⟨⟨(Nat.le_of_ble_eq_true rfl), (Nat.le_of_ble_eq_true rfl)⟩, (Nat.le_of_ble_eq_true rfl), (Nat.le_of_ble_eq_true rfl)⟩ dX9_parseInto_49 rfl rfl rfl (Nat.le_of_ble_eq_true rfl) rfl rfl (fun x15 => ?_)
        refine V_ifz_ne (q := 66) (q2 := 55) dX9_parseInto_52 (by decide) rfl ?_ ?_
        · exact V_sub [1] rfl (v_X9_parseInto_66 l1 M)
        · refine V_aload_n dX9_parseInto_55 rfl 0 rfl ?_
          refine V_aload_n dX9_parseInto_56 rfl 1 rfl ?_
          refine V_cVwV (As := [.ref l1]) (k_X9_parseStatement this l1 M) (fun _ h => o_X9_parseStatement h) ok_X9_parseStatement im_X9_parseStatement se_X9_parseStatement rfl (ci := 8) rfl ml_X9_32 ⟨⟨(Nat.le_of_ble_eq_true rfl), (Nat.le_of_ble_eq_true rfl)⟩, (Nat.le_of_ble_eq_true rfl), (Nat.le_of_ble_eq_true rfl)⟩ dX9_parseInto_57 rfl rfl rfl (Nat.le_of_ble_eq_true rfl) rfl rfl (fun M17 => ?_)
          refine V_iinc (y := (l2 + 1)) (L' := [(0, .ref this), (1, .ref l1), (2, .int (l2 + 1))]) dX9_parseInto_60 rfl 2 rfl rfl (by decide) rfl ?_
          refine V_goto (q := 28) dX9_parseInto_63 (by decide) ?_
          exact ih this l1 (l2 + 1) M17
theorem v_X9_parseInto (this : Nat) (a1 : Nat) (M : Mem) : V mi_X9_parseInto 0 [(0, .ref this), (1, .ref a1)] [] M 0 0 (f_X9_parseInto this a1 M) wV := by
  unfold f_X9_parseInto
  refine V_ob fun _ _ => ?_
  refine V_aload_n dX9_parseInto_0 rfl 1 rfl ?_
  refine V_cVwV (As := []) (k_X8_clear a1 M) (fun _ h => o_X8_clear h) ok_X8_clear im_X8_clear se_X8_clear rfl (ci := 7) rfl ml_X9_15 ⟨⟨(Nat.le_of_ble_eq_true rfl), (Nat.le_of_ble_eq_true rfl)⟩, (Nat.le_of_ble_eq_true rfl), (Nat.le_of_ble_eq_true rfl)⟩ dX9_parseInto_1 rfl rfl rfl (Nat.le_of_ble_eq_true rfl) rfl rfl (fun M2 => ?_)
  refine V_aload_n dX9_parseInto_4 rfl 0 rfl ?_
  refine V_iconst (x := 0) dX9_parseInto_5 rfl rfl ?_
  refine V_putZ (v := false) dX9_parseInto_6 rfl (ci := 8) (T := TX9) rfl (by decide) fl_X9_20 rfl rfl (fun M3 => ?_)
  refine V_aload_n dX9_parseInto_9 rfl 0 rfl ?_
  refine V_iconst (x := 0) dX9_parseInto_10 rfl rfl ?_
  refine V_putZ (v := false) dX9_parseInto_11 rfl (ci := 8) (T := TX9) rfl (by decide) fl_X9_24 rfl rfl (fun M4 => ?_)
  refine V_aload_n dX9_parseInto_14 rfl 0 rfl ?_
  refine V_getR dX9_parseInto_15 rfl (ci := 8) (T := TX9) rfl (by decide) fl_X9_9 (fun x5 => ?_)
  refine V_cVwV (As := []) (k_X10_begin x5 M4) (fun _ h => o_X10_begin h) ok_X10_begin im_X10_begin se_X10_begin rfl (ci := 9) rfl ml_X9_27 ⟨⟨(Nat.le_of_ble_eq_true rfl), (Nat.le_of_ble_eq_true rfl)⟩, (Nat.le_of_ble_eq_true rfl), (Nat.le_of_ble_eq_true rfl)⟩ dX9_parseInto_18 rfl rfl rfl (Nat.le_of_ble_eq_true rfl) rfl rfl (fun M7 => ?_)
  refine V_aload_n dX9_parseInto_21 rfl 0 rfl ?_
  refine V_aload_n dX9_parseInto_22 rfl 1 rfl ?_
  refine V_cVwV (As := [.ref a1]) (k_X9_parseStatement this a1 M7) (fun _ h => o_X9_parseStatement h) ok_X9_parseStatement im_X9_parseStatement se_X9_parseStatement rfl (ci := 8) rfl ml_X9_32 ⟨⟨(Nat.le_of_ble_eq_true rfl), (Nat.le_of_ble_eq_true rfl)⟩, (Nat.le_of_ble_eq_true rfl), (Nat.le_of_ble_eq_true rfl)⟩ dX9_parseInto_23 rfl rfl rfl (Nat.le_of_ble_eq_true rfl) rfl rfl (fun M9 => ?_)
  refine V_iconst (x := 0) dX9_parseInto_26 rfl rfl ?_
  refine V_istore_n (L' := [(0, .ref this), (1, .ref a1), (2, .int 0)]) dX9_parseInto_27 rfl (by decide) rfl ?_
  exact v_X9_parseInto_28 FU this a1 0 M9
theorem k_X9_parseInto (this : Nat) (a1 : Nat) (M : Mem) : K mi_X9_parseInto [.ref this, .ref a1] M (f_X9_parseInto this a1 M) wV := K_of_V ok_X9_parseInto (Nat.le_of_ble_eq_true rfl) (v_X9_parseInto this a1 M)
theorem o_X9_parseInto {this : Nat} {a1 : Nat} {M : Mem} {x} (h : f_X9_parseInto this a1 M = some x) : isO M 8 this = true := (ob_of h).1
