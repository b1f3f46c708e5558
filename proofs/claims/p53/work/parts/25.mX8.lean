def f_X8_init_96 (this : Nat) (M : Mem) : Option Mem :=
  (alc M).bind fun r12 =>
  (f_X0_init r12 (mnew M (.inr (0, [.long 0, .int 0, .null, .null, .null])))).bind fun M14 =>
  (pV M14 7 5 this (.ref r12)).bind fun M15 =>
  some M15
def f_X8_init_58 (this : Nat) (M : Mem) : Option Mem :=
  (alc M).bind fun r8 =>
  (pV (mnew M (.inl (6, (4, .inr (.inr (.inr (.inr (fun _ => none)))))))) 7 4 this (.ref r8)).bind fun M9 =>
  (gR M9 7 4 this).bind fun x10 =>
  (aL M9 x10).bind fun x11 =>
  if x11 ≤ 0 then (
    f_X8_init_96 this M9
  ) else (
    (gR M9 7 4 this).bind fun x16 =>
    (alc M9).bind fun r17 =>
    (f_X7_init r17 (mnew M9 (.inr (6, [.long 0, .int 0, .int 0, .int 0, .int 0, .null, .null, .null])))).bind fun M19 =>
    ob M19 6 r17 ((sQ M19 6 x16 0 (some r17)).bind fun M20 =>
    (gR M20 7 4 this).bind fun x21 =>
    (aL M20 x21).bind fun x22 =>
    if x22 ≤ (0 + 1) then (
      f_X8_init_96 this M20
    ) else (
      (gR M20 7 4 this).bind fun x23 =>
      (alc M20).bind fun r24 =>
      (f_X7_init r24 (mnew M20 (.inr (6, [.long 0, .int 0, .int 0, .int 0, .int 0, .null, .null, .null])))).bind fun M26 =>
      ob M26 6 r24 ((sQ M26 6 x23 (0 + 1) (some r24)).bind fun M27 =>
      (gR M27 7 4 this).bind fun x28 =>
      (aL M27 x28).bind fun x29 =>
      if x29 ≤ ((0 + 1) + 1) then (
        f_X8_init_96 this M27
      ) else (
        (gR M27 7 4 this).bind fun x30 =>
        (alc M27).bind fun r31 =>
        (f_X7_init r31 (mnew M27 (.inr (6, [.long 0, .int 0, .int 0, .int 0, .int 0, .null, .null, .null])))).bind fun M33 =>
        ob M33 6 r31 ((sQ M33 6 x30 ((0 + 1) + 1) (some r31)).bind fun M34 =>
        (gR M34 7 4 this).bind fun x35 =>
        (aL M34 x35).bind fun x36 =>
        if x36 ≤ (((0 + 1) + 1) + 1) then (
          f_X8_init_96 this M34
        ) else (
          (gR M34 7 4 this).bind fun x37 =>
          (alc M34).bind fun r38 =>
          (f_X7_init r38 (mnew M34 (.inr (6, [.long 0, .int 0, .int 0, .int 0, .int 0, .null, .null, .null])))).bind fun M40 =>
          ob M40 6 r38 ((sQ M40 6 x37 (((0 + 1) + 1) + 1) (some r38)).bind fun M41 =>
          (gR M41 7 4 this).bind fun x42 =>
          (aL M41 x42).bind fun x43 =>
          if x43 ≤ ((((0 + 1) + 1) + 1) + 1) then (
            f_X8_init_96 this M41
          ) else (
            (gR M41 7 4 this).bind fun x44 =>
            (alc M41).bind fun r45 =>
            (f_X7_init r45 (mnew M41 (.inr (6, [.long 0, .int 0, .int 0, .int 0, .int 0, .null, .null, .null])))).bind fun M47 =>
            ob M47 6 r45 ((sQ M47 6 x44 ((((0 + 1) + 1) + 1) + 1) (some r45)).bind fun M48 =>
            none
            )
          )
          )
        )
        )
      )
      )
    )
    )
  )
def f_X8_init (this : Nat) (M : Mem) : Option Mem :=
  ob M 7 this (
    (pV M 7 0 this (.int 30)).bind fun M1 =>
    (pV M1 7 1 this (.int 0)).bind fun M2 =>
    (pV M2 7 2 this (.int 0)).bind fun M3 =>
    (alc M3).bind fun r4 =>
    (pV (mnew M3 (.inl (5, (3, .inr (.inr (.inr (.inr (fun _ => none)))))))) 7 3 this (.ref r4)).bind fun M5 =>
    (gR M5 7 3 this).bind fun x6 =>
    (aL M5 x6).bind fun x7 =>
    if x7 ≤ 0 then (
      f_X8_init_58 this M5
    ) else (
      (gR M5 7 3 this).bind fun x49 =>
      (alc M5).bind fun r50 =>
      (f_X0_init r50 (mnew M5 (.inr (0, [.long 0, .int 0, .null, .null, .null])))).bind fun M52 =>
      ob M52 0 r50 ((sQ M52 5 x49 0 (some r50)).bind fun M53 =>
      (gR M53 7 3 this).bind fun x54 =>
      (aL M53 x54).bind fun x55 =>
      if x55 ≤ (0 + 1) then (
        f_X8_init_58 this M53
      ) else (
        (gR M53 7 3 this).bind fun x56 =>
        (alc M53).bind fun r57 =>
        (f_X0_init r57 (mnew M53 (.inr (0, [.long 0, .int 0, .null, .null, .null])))).bind fun M59 =>
        ob M59 0 r57 ((sQ M59 5 x56 (0 + 1) (some r57)).bind fun M60 =>
        (gR M60 7 3 this).bind fun x61 =>
        (aL M60 x61).bind fun x62 =>
        if x62 ≤ ((0 + 1) + 1) then (
          f_X8_init_58 this M60
        ) else (
          (gR M60 7 3 this).bind fun x63 =>
          (alc M60).bind fun r64 =>
          (f_X0_init r64 (mnew M60 (.inr (0, [.long 0, .int 0, .null, .null, .null])))).bind fun M66 =>
          ob M66 0 r64 ((sQ M66 5 x63 ((0 + 1) + 1) (some r64)).bind fun M67 =>
          (gR M67 7 3 this).bind fun x68 =>
          (aL M67 x68).bind fun x69 =>
          if x69 ≤ (((0 + 1) + 1) + 1) then (
            f_X8_init_58 this M67
          ) else (
            (gR M67 7 3 this).bind fun x70 =>
            (alc M67).bind fun r71 =>
            (f_X0_init r71 (mnew M67 (.inr (0, [.long 0, .int 0, .null, .null, .null])))).bind fun M73 =>
            ob M73 0 r71 ((sQ M73 5 x70 (((0 + 1) + 1) + 1) (some r71)).bind fun M74 =>
            none
            )
          )
          )
        )
        )
      )
      )
    )
  )
def f_X8_clear (this : Nat) (M : Mem) : Option Mem :=
  ob M 7 this (
    (pV M 7 0 this (.int 30)).bind fun M1 =>
    (pV M1 7 1 this (.int 0)).bind fun M2 =>
    (pV M2 7 2 this (.int 0)).bind fun M3 =>
    some M3
  )
def f_X8_boxAt (this : Nat) (a1 : Int32) (M : Mem) : Option (Option Nat) :=
  ob M 7 this (
    if a1 < 0 then (
      some none
    ) else (
      (gI M 7 1 this).bind fun x1 =>
      if x1 ≤ a1 then (
        some none
      ) else (
        (gR M 7 3 this).bind fun x2 =>
        (aL M x2).bind fun x3 =>
        if x3 ≤ a1 then (
          some none
        ) else (
          (gR M 7 3 this).bind fun x4 =>
          (aQ M 5 x4 a1).bind fun x5 =>
          some x5
        )
      )
    )
  )
def f_X8_addBox (this : Nat) (M : Mem) : Option ((Option Nat) × Mem) :=
  ob M 7 this (
    (gI M 7 1 this).bind fun x1 =>
    if (x1 : Int32) < 3 then (
      (gI M 7 1 this).bind fun x2 =>
      (pV M 7 1 this (.int (x2 + 1))).bind fun M3 =>
      (gI M3 7 1 this).bind fun x4 =>
      (f_X8_boxAt this (x4 - 1) M3).bind fun x5 =>
      some (x5, M3)
    ) else (
      some (none, M)
    )
  )
def f_X8_sessionAt (this : Nat) (a1 : Int32) (M : Mem) : Option (Option Nat) :=
  ob M 7 this (
    if a1 < 0 then (
      some none
    ) else (
      (gI M 7 2 this).bind fun x1 =>
      if x1 ≤ a1 then (
        some none
      ) else (
        (gR M 7 4 this).bind fun x2 =>
        (aL M x2).bind fun x3 =>
        if x3 ≤ a1 then (
          some none
        ) else (
          (gR M 7 4 this).bind fun x4 =>
          (aQ M 6 x4 a1).bind fun x5 =>
          some x5
        )
      )
    )
  )
def f_X8_addSession (this : Nat) (M : Mem) : Option ((Option Nat) × Mem) :=
  ob M 7 this (
    (gI M 7 2 this).bind fun x1 =>
    if (x1 : Int32) < 4 then (
      (gI M 7 2 this).bind fun x2 =>
      (pV M 7 2 this (.int (x2 + 1))).bind fun M3 =>
      (gI M3 7 2 this).bind fun x4 =>
      (f_X8_sessionAt this (x4 - 1) M3).bind fun x5 =>
      some (x5, M3)
    ) else (
      some (none, M)
    )
  )
def f_X8_takeFrom_92 (rc57 : Nat → Nat → Int32 → Mem → Option Mem) (this : Nat) (l1 : Nat) (l2 : Int32) (M : Mem) : Option Mem :=
  rc57 this l1 (l2 + 1) M
def f_X8_takeFrom_57 : Nat → Nat → Nat → Int32 → Mem → Option Mem
  | 0 => fun _ _ _ _ => none
  | fu + 1 => fun this l1 l2 M =>
    (gI M 7 2 l1).bind fun x6 =>
    if x6 ≤ l2 then (
      some M
    ) else (
      (f_X8_sessionAt l1 l2 M).bind fun x7 =>
      (f_X8_addSession this M).bind fun (x8, M9) =>
      match x7 with
      | none => (
        f_X8_takeFrom_92 (f_X8_takeFrom_57 fu) this l1 l2 M9
      )
      | some r10 => (
        match x8 with
        | none => (
          f_X8_takeFrom_92 (f_X8_takeFrom_57 fu) this l1 l2 M9
        )
        | some r11 => (
          (f_X7_takeFrom r11 r10 M9).bind fun M13 =>
          f_X8_takeFrom_92 (f_X8_takeFrom_57 fu) this l1 l2 M13
        )
      )
    )
def f_X8_takeFrom_49 (rc14 : Nat → Nat → Int32 → Mem → Option Mem) (this : Nat) (l1 : Nat) (l2 : Int32) (M : Mem) : Option Mem :=
  rc14 this l1 (l2 + 1) M
def f_X8_takeFrom_14 : Nat → Nat → Nat → Int32 → Mem → Option Mem
  | 0 => fun _ _ _ _ => none
  | fu + 1 => fun this l1 l2 M =>
    (gI M 7 1 l1).bind fun x5 =>
    if x5 ≤ l2 then (
      f_X8_takeFrom_57 FU this l1 0 M
    ) else (
      (f_X8_boxAt l1 l2 M).bind fun x14 =>
      (f_X8_addBox this M).bind fun (x15, M16) =>
      match x14 with
      | none => (
        f_X8_takeFrom_49 (f_X8_takeFrom_14 fu) this l1 l2 M16
      )
      | some r17 => (
        match x15 with
        | none => (
          f_X8_takeFrom_49 (f_X8_takeFrom_14 fu) this l1 l2 M16
        )
        | some r18 => (
          (f_X0_takeFrom r18 r17 M16).bind fun M20 =>
          f_X8_takeFrom_49 (f_X8_takeFrom_14 fu) this l1 l2 M20
        )
      )
    )
def f_X8_takeFrom (this : Nat) (a1 : Nat) (M : Mem) : Option Mem :=
  ob M 7 this (
    (f_X8_clear this M).bind fun M2 =>
    (gI M2 7 0 a1).bind fun x3 =>
    (pV M2 7 0 this (.int x3)).bind fun M4 =>
    f_X8_takeFrom_14 FU this a1 0 M4
  )
def f_X8_boxOf (this : Nat) (a1 : Nat) (M : Mem) : Option Nat :=
  ob M 7 this (
    (gI M 6 1 a1).bind fun x1 =>
    (f_X8_boxAt this x1 M).bind fun x2 =>
    match x2 with
    | none => (
      (gR M 7 5 this).bind fun x4 =>
      some x4
    )
    | some r3 => (
      some r3
    )
  )
def f_X8_boxNamed_34 (rc2 : Nat → Int64 → Int32 → Mem → Option Int32) (this : Nat) (l1 : Int64) (l3 : Int32) (M : Mem) : Option Int32 :=
  rc2 this l1 (l3 + 1) M
def f_X8_boxNamed_2 : Nat → Nat → Int64 → Int32 → Mem → Option Int32
  | 0 => fun _ _ _ _ => none
  | fu + 1 => fun this l1 l3 M =>
    (gI M 7 1 this).bind fun x1 =>
    if x1 ≤ l3 then (
      some (-1)
    ) else (
      (f_X8_boxAt this l3 M).bind fun x2 =>
      match x2 with
      | none => (
        f_X8_boxNamed_34 (f_X8_boxNamed_2 fu) this l1 l3 M
      )
      | some r3 => (
        (gJ M 0 0 r3).bind fun x4 =>
        if (lg_cmp x4 l1) = 0 then (
          some l3
        ) else (
          f_X8_boxNamed_34 (f_X8_boxNamed_2 fu) this l1 l3 M
        )
      )
    )
def f_X8_boxNamed (this : Nat) (a1 : Int64) (M : Mem) : Option Int32 :=
  ob M 7 this (
    f_X8_boxNamed_2 FU this a1 0 M
  )
def f_X8_sessionNamed_34 (rc2 : Nat → Int64 → Int32 → Mem → Option Int32) (this : Nat) (l1 : Int64) (l3 : Int32) (M : Mem) : Option Int32 :=
  rc2 this l1 (l3 + 1) M
def f_X8_sessionNamed_2 : Nat → Nat → Int64 → Int32 → Mem → Option Int32
  | 0 => fun _ _ _ _ => none
  | fu + 1 => fun this l1 l3 M =>
    (gI M 7 2 this).bind fun x1 =>
    if x1 ≤ l3 then (
      some (-1)
    ) else (
      (f_X8_sessionAt this l3 M).bind fun x2 =>
      match x2 with
      | none => (
        f_X8_sessionNamed_34 (f_X8_sessionNamed_2 fu) this l1 l3 M
      )
      | some r3 => (
        (gJ M 6 0 r3).bind fun x4 =>
        if (lg_cmp x4 l1) = 0 then (
          some l3
        ) else (
          f_X8_sessionNamed_34 (f_X8_sessionNamed_2 fu) this l1 l3 M
        )
      )
    )
def f_X8_sessionNamed (this : Nat) (a1 : Int64) (M : Mem) : Option Int32 :=
  ob M 7 this (
    f_X8_sessionNamed_2 FU this a1 0 M
  )
def f_X8_countMessages_31 (rc4 : Nat → Int32 → Int32 → Mem → Option Int32) (this : Nat) (l2 : Int32) (s0 : Int32) (s1 : Int32) (M : Mem) : Option Int32 :=
  rc4 this (s0 + s1) (l2 + 1) M
def f_X8_countMessages_4 : Nat → Nat → Int32 → Int32 → Mem → Option Int32
  | 0 => fun _ _ _ _ => none
  | fu + 1 => fun this l1 l2 M =>
    (gI M 7 1 this).bind fun x1 =>
    if x1 ≤ l2 then (
      some l1
    ) else (
      (f_X8_boxAt this l2 M).bind fun x2 =>
      match x2 with
      | none => (
        f_X8_countMessages_31 (f_X8_countMessages_4 fu) this l2 l1 0 M
      )
      | some r3 => (
        (f_X0_size r3 M).bind fun x4 =>
        f_X8_countMessages_31 (f_X8_countMessages_4 fu) this l2 l1 x4 M
      )
    )
def f_X8_countMessages (this : Nat) (M : Mem) : Option Int32 :=
  ob M 7 this (
    f_X8_countMessages_4 FU this 0 0 M
  )
def f_X8_sessionsOf_39 (rc4 : Nat → Int32 → Int32 → Int32 → Mem → Option Int32) (this : Nat) (l1 : Int32) (l2 : Int32) (l3 : Int32) (M : Mem) : Option Int32 :=
  rc4 this l1 l2 (l3 + 1) M
def f_X8_sessionsOf_4 : Nat → Nat → Int32 → Int32 → Int32 → Mem → Option Int32
  | 0 => fun _ _ _ _ _ => none
  | fu + 1 => fun this l1 l2 l3 M =>
    (gI M 7 2 this).bind fun x1 =>
    if x1 ≤ l3 then (
      some l2
    ) else (
      (f_X8_sessionAt this l3 M).bind fun x2 =>
      match x2 with
      | none => (
        f_X8_sessionsOf_39 (f_X8_sessionsOf_4 fu) this l1 l2 l3 M
      )
      | some r3 => (
        (gI M 6 1 r3).bind fun x4 =>
        if x4 = l1 then (
          f_X8_sessionsOf_39 (f_X8_sessionsOf_4 fu) this l1 (l2 ||| (1 <<< (l3 &&& 31))) l3 M
        ) else (
          f_X8_sessionsOf_39 (f_X8_sessionsOf_4 fu) this l1 l2 l3 M
        )
      )
    )
def f_X8_sessionsOf (this : Nat) (a1 : Int32) (M : Mem) : Option Int32 :=
  ob M 7 this (
    f_X8_sessionsOf_4 FU this a1 0 0 M
  )
def f_X8_sessionsToTell_40 (rc4 : Nat → Int32 → Int32 → Mem → Option Int32) (this : Nat) (l1 : Int32) (l2 : Int32) (M : Mem) : Option Int32 :=
  rc4 this l1 (l2 + 1) M
def f_X8_sessionsToTell_4 : Nat → Nat → Int32 → Int32 → Mem → Option Int32
  | 0 => fun _ _ _ _ => none
  | fu + 1 => fun this l1 l2 M =>
    (gI M 7 2 this).bind fun x1 =>
    if x1 ≤ l2 then (
      some l1
    ) else (
      (f_X8_sessionAt this l2 M).bind fun x2 =>
      match x2 with
      | none => (
        f_X8_sessionsToTell_40 (f_X8_sessionsToTell_4 fu) this l1 l2 M
      )
      | some r3 => (
        (f_X8_boxOf this r3 M).bind fun x4 =>
        (f_X7_countPending r3 x4 M).bind fun x5 =>
        if x5 ≤ 0 then (
          f_X8_sessionsToTell_40 (f_X8_sessionsToTell_4 fu) this l1 l2 M
        ) else (
          f_X8_sessionsToTell_40 (f_X8_sessionsToTell_4 fu) this (l1 ||| (1 <<< (l2 &&& 31))) l2 M
        )
      )
    )
def f_X8_sessionsToTell (this : Nat) (M : Mem) : Option Int32 :=
  ob M 7 this (
    f_X8_sessionsToTell_4 FU this 0 0 M
  )
def f_X8_enterBoxes_44 (rc2 : Nat → Int32 → Mem → Option Mem) (this : Nat) (l1 : Int32) (M : Mem) : Option Mem :=
  rc2 this (l1 + 1) M
def f_X8_enterBoxes_2 : Nat → Nat → Int32 → Mem → Option Mem
  | 0 => fun _ _ _ => none
  | fu + 1 => fun this l1 M =>
    (gI M 7 2 this).bind fun x1 =>
    if x1 ≤ l1 then (
      some M
    ) else (
      (f_X8_sessionAt this l1 M).bind fun x2 =>
      match x2 with
      | none => (
        f_X8_enterBoxes_44 (f_X8_enterBoxes_2 fu) this l1 M
      )
      | some r3 => (
        (f_X7_hasBox r3 M).bind fun x4 =>
        bif x4 then (
          (gI M 6 1 r3).bind fun x5 =>
          (f_X8_boxOf this r3 M).bind fun x6 =>
          (gZ M 6 2 r3).bind fun x7 =>
          (f_X7_enter r3 x5 x6 x7 M).bind fun M9 =>
          f_X8_enterBoxes_44 (f_X8_enterBoxes_2 fu) this l1 M9
        ) else (
          f_X8_enterBoxes_44 (f_X8_enterBoxes_2 fu) this l1 M
        )
      )
    )
def f_X8_enterBoxes (this : Nat) (M : Mem) : Option Mem :=
  ob M 7 this (
    f_X8_enterBoxes_2 FU this 0 M
  )
def f_X8_tell_39 (l1 : Int32) (l3 : Nat) (l4 : Nat) (l5 : Nat) (s0 : Int32) (M : Mem) : Option (Int32 × Mem) :=
  (f_X7_tellChanged l4 l1 l5 l3 M).bind fun (x4, M5) =>
  (f_X7_tellNew l4 l1 l5 l3 M5).bind fun (x6, M7) =>
  some (((s0 + x4) + x6), M7)
def f_X8_tell (this : Nat) (a1 : Int32) (a2 : Bool) (a3 : Nat) (M : Mem) : Option (Int32 × Mem) :=
  ob M 7 this (
    (f_X8_sessionAt this a1 M).bind fun x1 =>
    match x1 with
    | none => (
      some (0, M)
    )
    | some r2 => (
      (f_X8_boxOf this r2 M).bind fun x3 =>
      bif a2 then (
        (f_X7_tellGone r2 a1 x3 a3 M).bind fun (x8, M9) =>
        f_X8_tell_39 a1 a3 r2 x3 x8 M9
      ) else (
        f_X8_tell_39 a1 a3 r2 x3 0 M
      )
    )
  )
def f_X8_tellIdle_35 (rc2 : Nat → Nat → Int32 → Mem → Option Mem) (this : Nat) (l1 : Nat) (l2 : Int32) (M : Mem) : Option Mem :=
  rc2 this l1 (l2 + 1) M
def f_X8_tellIdle_2 : Nat → Nat → Nat → Int32 → Mem → Option Mem
  | 0 => fun _ _ _ _ => none
  | fu + 1 => fun this l1 l2 M =>
    (gI M 7 2 this).bind fun x1 =>
    if x1 ≤ l2 then (
      some M
    ) else (
      (f_X8_sessionAt this l2 M).bind fun x2 =>
      match x2 with
      | none => (
        f_X8_tellIdle_35 (f_X8_tellIdle_2 fu) this l1 l2 M
      )
      | some r3 => (
        (gZ M 6 3 r3).bind fun x4 =>
        bif x4 then (
          (f_X8_tell this l2 true l1 M).bind fun (x5, M6) =>
          f_X8_tellIdle_35 (f_X8_tellIdle_2 fu) this l1 l2 M6
        ) else (
          f_X8_tellIdle_35 (f_X8_tellIdle_2 fu) this l1 l2 M
        )
      )
    )
def f_X8_tellIdle (this : Nat) (a1 : Nat) (M : Mem) : Option Mem :=
  ob M 7 this (
    f_X8_tellIdle_2 FU this a1 0 M
  )
theorem fl_X8_9_w : (Cond.fieldLink RX8 9 (TX8 0).1 (TX8 0).2.1 (TX8 0).2.2.1) ∈ cr_U := mem_U (i := 174) (by decide +kernel) rfl
theorem fl_X8_9 : flk RX8 9 (TX8 0) := Or.inl fl_X8_9_w
theorem fl_X8_15_w : (Cond.fieldLink RX8 15 (TX8 1).1 (TX8 1).2.1 (TX8 1).2.2.1) ∈ cr_U := mem_U (i := 177) (by decide +kernel) rfl
theorem fl_X8_15 : flk RX8 15 (TX8 1) := Or.inl fl_X8_15_w
theorem fl_X8_18_w : (Cond.fieldLink RX8 18 (TX8 2).1 (TX8 2).2.1 (TX8 2).2.2.1) ∈ cr_U := mem_U (i := 180) (by decide +kernel) rfl
theorem fl_X8_18 : flk RX8 18 (TX8 2) := Or.inl fl_X8_18_w
theorem fl_X8_23_w : (Cond.fieldLink RX8 23 (TX8 3).1 (TX8 3).2.1 (TX8 3).2.2.1) ∈ cr_U := mem_U (i := 183) (by decide +kernel) rfl
theorem fl_X8_23 : flk RX8 23 (TX8 3) := Or.inl fl_X8_23_w
theorem fl_X8_30_w : (Cond.fieldLink RX8 30 (TX8 4).1 (TX8 4).2.1 (TX8 4).2.2.1) ∈ cr_U := mem_U (i := 184) (by decide +kernel) rfl
theorem fl_X8_30 : flk RX8 30 (TX8 4) := Or.inl fl_X8_30_w
theorem ml_X8_27 : (Cond.methodLink RX8 27 yX0_init) ∈ cr_U := mem_U (i := 89) (by decide +kernel) rfl
theorem im_X0_init : (Cond.instanceMethod yX0_init) ∈ cr_U := mem_U (i := 90) (by decide +kernel) rfl
theorem fl_X8_35_w : (Cond.fieldLink RX8 35 (TX8 5).1 (TX8 5).2.1 (TX8 5).2.2.1) ∈ cr_U := mem_U (i := 185) (by decide +kernel) rfl
theorem fl_X8_35 : flk RX8 35 (TX8 5) := Or.inl fl_X8_35_w
theorem cl_X8_21 : (Cond.classLink RX8 21 RX0) ∈ cr_U := mem_U (i := 86) (by decide +kernel) rfl
theorem ins_X0 : (Cond.instantiable RX0 5) ∈ cr_U := mem_U (i := 88) (by decide +kernel) rfl
theorem ml_X8_34 : (Cond.methodLink RX8 34 yX7_init) ∈ cr_U := mem_U (i := 134) (by decide +kernel) rfl
theorem im_X7_init : (Cond.instanceMethod yX7_init) ∈ cr_U := mem_U (i := 135) (by decide +kernel) rfl
theorem cl_X8_28 : (Cond.classLink RX8 28 RX7) ∈ cr_U := mem_U (i := 131) (by decide +kernel) rfl
theorem ins_X7 : (Cond.instantiable RX7 8) ∈ cr_U := mem_U (i := 133) (by decide +kernel) rfl
theorem ml_X8_3 : (Cond.methodLink RX8 3 Lib.objectInit) ∈ cr_U := mem_U (i := 85) (by decide +kernel) rfl
theorem cw_X8_init : (Cond.code yX8_init cX8_init 2 (none)) ∈ cr_U := mem_U (i := 84) (by decide +kernel) rfl
theorem ini_X8 : (Cond.initialized RX8) ∈ cr_U := mem_U (i := 28) (by decide +kernel) rfl
theorem cw_X8_clear : (Cond.code yX8_clear cX8_clear 1 (none)) ∈ cr_U := mem_U (i := 953) (by decide +kernel) rfl
theorem cw_X8_boxAt : (Cond.code yX8_boxAt cX8_boxAt 2 (some (.object "MailSessions$Box"))) ∈ cr_U := mem_U (i := 378) (by decide +kernel) rfl
theorem ml_X8_42 : (Cond.methodLink RX8 42 yX8_boxAt) ∈ cr_U := mem_U (i := 375) (by decide +kernel) rfl
theorem im_X8_boxAt : (Cond.instanceMethod yX8_boxAt) ∈ cr_U := mem_U (i := 376) (by decide +kernel) rfl
theorem se_X8_boxAt : (Cond.selects RX8 yX8_boxAt yX8_boxAt) ∈ cr_U := mem_U (i := 377) (by decide +kernel) rfl
theorem cw_X8_addBox : (Cond.code yX8_addBox cX8_addBox 1 (some (.object "MailSessions$Box"))) ∈ cr_U := mem_U (i := 1059) (by decide +kernel) rfl
theorem cw_X8_sessionAt : (Cond.code yX8_sessionAt cX8_sessionAt 2 (some (.object "MailSessions$Session"))) ∈ cr_U := mem_U (i := 471) (by decide +kernel) rfl
theorem ml_X8_54 : (Cond.methodLink RX8 54 yX8_sessionAt) ∈ cr_U := mem_U (i := 1113) (by decide +kernel) rfl
theorem im_X8_sessionAt : (Cond.instanceMethod yX8_sessionAt) ∈ cr_U := mem_U (i := 469) (by decide +kernel) rfl
theorem se_X8_sessionAt : (Cond.selects RX8 yX8_sessionAt yX8_sessionAt) ∈ cr_U := mem_U (i := 470) (by decide +kernel) rfl
theorem cw_X8_addSession : (Cond.code yX8_addSession cX8_addSession 1 (some (.object "MailSessions$Session"))) ∈ cr_U := mem_U (i := 1123) (by decide +kernel) rfl
theorem ml_X8_39 : (Cond.methodLink RX8 39 yX8_clear) ∈ cr_U := mem_U (i := 1183) (by decide +kernel) rfl
theorem im_X8_clear : (Cond.instanceMethod yX8_clear) ∈ cr_U := mem_U (i := 951) (by decide +kernel) rfl
theorem se_X8_clear : (Cond.selects RX8 yX8_clear yX8_clear) ∈ cr_U := mem_U (i := 952) (by decide +kernel) rfl
theorem ml_X8_58 : (Cond.methodLink RX8 58 yX8_addSession) ∈ cr_U := mem_U (i := 1193) (by decide +kernel) rfl
theorem im_X8_addSession : (Cond.instanceMethod yX8_addSession) ∈ cr_U := mem_U (i := 1121) (by decide +kernel) rfl
theorem se_X8_addSession : (Cond.selects RX8 yX8_addSession yX8_addSession) ∈ cr_U := mem_U (i := 1122) (by decide +kernel) rfl
theorem ml_X8_62 : (Cond.methodLink RX8 62 yX7_takeFrom) ∈ cr_U := mem_U (i := 1194) (by decide +kernel) rfl
theorem im_X7_takeFrom : (Cond.instanceMethod yX7_takeFrom) ∈ cr_U := mem_U (i := 1195) (by decide +kernel) rfl
theorem se_X7_takeFrom : (Cond.selects RX7 yX7_takeFrom yX7_takeFrom) ∈ cr_U := mem_U (i := 1196) (by decide +kernel) rfl
theorem ml_X8_46 : (Cond.methodLink RX8 46 yX8_addBox) ∈ cr_U := mem_U (i := 1184) (by decide +kernel) rfl
theorem im_X8_addBox : (Cond.instanceMethod yX8_addBox) ∈ cr_U := mem_U (i := 1057) (by decide +kernel) rfl
theorem se_X8_addBox : (Cond.selects RX8 yX8_addBox yX8_addBox) ∈ cr_U := mem_U (i := 1058) (by decide +kernel) rfl
theorem ml_X8_50 : (Cond.methodLink RX8 50 yX0_takeFrom) ∈ cr_U := mem_U (i := 1185) (by decide +kernel) rfl
theorem im_X0_takeFrom : (Cond.instanceMethod yX0_takeFrom) ∈ cr_U := mem_U (i := 1186) (by decide +kernel) rfl
theorem se_X0_takeFrom : (Cond.selects RX0 yX0_takeFrom yX0_takeFrom) ∈ cr_U := mem_U (i := 1187) (by decide +kernel) rfl
theorem cw_X8_takeFrom : (Cond.code yX8_takeFrom cX8_takeFrom 5 (none)) ∈ cr_U := mem_U (i := 1182) (by decide +kernel) rfl
theorem fl_X8_65_w : (Cond.fieldLinkNest RX8 65 (TX7 1).1 (TX7 1).2.1 (TX7 1).2.2.1 RX11) ∈ lw_tbl := List.mem_of_getElem? (i := 143) (by decide +kernel)
theorem fl_X8_65 : flk RX8 65 (TX7 1) := Or.inr ⟨_, fl_X8_65_w⟩
theorem cw_X8_boxOf : (Cond.code yX8_boxOf cX8_boxOf 3 (some (.object "MailSessions$Box"))) ∈ cr_U := mem_U (i := 491) (by decide +kernel) rfl
theorem fl_X8_68_w : (Cond.fieldLinkNest RX8 68 (TX0 0).1 (TX0 0).2.1 (TX0 0).2.2.1 RX11) ∈ lw_tbl := List.mem_of_getElem? (i := 108) (by decide +kernel)
theorem fl_X8_68 : flk RX8 68 (TX0 0) := Or.inr ⟨_, fl_X8_68_w⟩
theorem cw_X8_boxNamed : (Cond.code yX8_boxNamed cX8_boxNamed 5 (some .int)) ∈ cr_U := mem_U (i := 1043) (by decide +kernel) rfl
theorem fl_X8_72_w : (Cond.fieldLinkNest RX8 72 (TX7 0).1 (TX7 0).2.1 (TX7 0).2.2.1 RX11) ∈ lw_tbl := List.mem_of_getElem? (i := 141) (by decide +kernel)
theorem fl_X8_72 : flk RX8 72 (TX7 0) := Or.inr ⟨_, fl_X8_72_w⟩
theorem cw_X8_sessionNamed : (Cond.code yX8_sessionNamed cX8_sessionNamed 5 (some .int)) ∈ cr_U := mem_U (i := 1112) (by decide +kernel) rfl
theorem ml_X8_73 : (Cond.methodLink RX8 73 yX0_size) ∈ cr_U := mem_U (i := 379) (by decide +kernel) rfl
theorem cw_X8_countMessages : (Cond.code yX8_countMessages cX8_countMessages 4 (some .int)) ∈ cr_U := mem_U (i := 374) (by decide +kernel) rfl
theorem cw_X8_sessionsOf : (Cond.code yX8_sessionsOf cX8_sessionsOf 5 (some .int)) ∈ cr_U := mem_U (i := 1243) (by decide +kernel) rfl
theorem ml_X8_81 : (Cond.methodLink RX8 81 yX8_boxOf) ∈ cr_U := mem_U (i := 1153) (by decide +kernel) rfl
theorem im_X8_boxOf : (Cond.instanceMethod yX8_boxOf) ∈ cr_U := mem_U (i := 489) (by decide +kernel) rfl
theorem se_X8_boxOf : (Cond.selects RX8 yX8_boxOf yX8_boxOf) ∈ cr_U := mem_U (i := 490) (by decide +kernel) rfl
theorem ml_X8_85 : (Cond.methodLink RX8 85 yX7_countPending) ∈ cr_U := mem_U (i := 1539) (by decide +kernel) rfl
theorem im_X7_countPending : (Cond.instanceMethod yX7_countPending) ∈ cr_U := mem_U (i := 553) (by decide +kernel) rfl
theorem se_X7_countPending : (Cond.selects RX7 yX7_countPending yX7_countPending) ∈ cr_U := mem_U (i := 554) (by decide +kernel) rfl
theorem cw_X8_sessionsToTell : (Cond.code yX8_sessionsToTell cX8_sessionsToTell 4 (some .int)) ∈ cr_U := mem_U (i := 1538) (by decide +kernel) rfl
theorem ml_X8_89 : (Cond.methodLink RX8 89 yX7_hasBox) ∈ cr_U := mem_U (i := 1152) (by decide +kernel) rfl
theorem im_X7_hasBox : (Cond.instanceMethod yX7_hasBox) ∈ cr_U := mem_U (i := 549) (by decide +kernel) rfl
theorem se_X7_hasBox : (Cond.selects RX7 yX7_hasBox yX7_hasBox) ∈ cr_U := mem_U (i := 550) (by decide +kernel) rfl
theorem fl_X8_93_w : (Cond.fieldLinkNest RX8 93 (TX7 2).1 (TX7 2).2.1 (TX7 2).2.2.1 RX11) ∈ lw_tbl := List.mem_of_getElem? (i := 147) (by decide +kernel)
theorem fl_X8_93 : flk RX8 93 (TX7 2) := Or.inr ⟨_, fl_X8_93_w⟩
theorem ml_X8_97 : (Cond.methodLink RX8 97 yX7_enter) ∈ cr_U := mem_U (i := 1154) (by decide +kernel) rfl
theorem im_X7_enter : (Cond.instanceMethod yX7_enter) ∈ cr_U := mem_U (i := 1155) (by decide +kernel) rfl
theorem se_X7_enter : (Cond.selects RX7 yX7_enter yX7_enter) ∈ cr_U := mem_U (i := 1156) (by decide +kernel) rfl
theorem cw_X8_enterBoxes : (Cond.code yX8_enterBoxes cX8_enterBoxes 3 (none)) ∈ cr_U := mem_U (i := 1151) (by decide +kernel) rfl
theorem ml_X8_105 : (Cond.methodLink RX8 105 yX7_tellChanged) ∈ cr_U := mem_U (i := 1327) (by decide +kernel) rfl
theorem im_X7_tellChanged : (Cond.instanceMethod yX7_tellChanged) ∈ cr_U := mem_U (i := 1328) (by decide +kernel) rfl
theorem se_X7_tellChanged : (Cond.selects RX7 yX7_tellChanged yX7_tellChanged) ∈ cr_U := mem_U (i := 1329) (by decide +kernel) rfl
theorem ml_X8_108 : (Cond.methodLink RX8 108 yX7_tellNew) ∈ cr_U := mem_U (i := 1332) (by decide +kernel) rfl
theorem im_X7_tellNew : (Cond.instanceMethod yX7_tellNew) ∈ cr_U := mem_U (i := 1333) (by decide +kernel) rfl
theorem se_X7_tellNew : (Cond.selects RX7 yX7_tellNew yX7_tellNew) ∈ cr_U := mem_U (i := 1334) (by decide +kernel) rfl
theorem ml_X8_101 : (Cond.methodLink RX8 101 yX7_tellGone) ∈ cr_U := mem_U (i := 1313) (by decide +kernel) rfl
theorem im_X7_tellGone : (Cond.instanceMethod yX7_tellGone) ∈ cr_U := mem_U (i := 1314) (by decide +kernel) rfl
theorem se_X7_tellGone : (Cond.selects RX7 yX7_tellGone yX7_tellGone) ∈ cr_U := mem_U (i := 1315) (by decide +kernel) rfl
theorem cw_X8_tell : (Cond.code yX8_tell cX8_tell 7 (some .int)) ∈ cr_U := mem_U (i := 1312) (by decide +kernel) rfl
theorem fl_X8_111_w : (Cond.fieldLinkNest RX8 111 (TX7 3).1 (TX7 3).2.1 (TX7 3).2.2.1 RX11) ∈ lw_tbl := List.mem_of_getElem? (i := 150) (by decide +kernel)
theorem fl_X8_111 : flk RX8 111 (TX7 3) := Or.inr ⟨_, fl_X8_111_w⟩
theorem ml_X8_114 : (Cond.methodLink RX8 114 yX8_tell) ∈ cr_U := mem_U (i := 1309) (by decide +kernel) rfl
theorem im_X8_tell : (Cond.instanceMethod yX8_tell) ∈ cr_U := mem_U (i := 1310) (by decide +kernel) rfl
theorem se_X8_tell : (Cond.selects RX8 yX8_tell yX8_tell) ∈ cr_U := mem_U (i := 1311) (by decide +kernel) rfl
theorem cw_X8_tellIdle : (Cond.code yX8_tellIdle cX8_tellIdle 4 (none)) ∈ cr_U := mem_U (i := 1308) (by decide +kernel) rfl
theorem dX8_init_0 : decode cX8_init 0 = .ok (.aload_n 0, 1) := by decide +kernel
theorem dX8_init_1 : decode cX8_init 1 = .ok (.invokespecial 3, 3) := by decide +kernel
theorem dX8_init_4 : decode cX8_init 4 = .ok (.aload_n 0, 1) := by decide +kernel
theorem dX8_init_5 : decode cX8_init 5 = .ok (.bipush 30, 2) := by decide +kernel
theorem dX8_init_7 : decode cX8_init 7 = .ok (.putfield 9, 3) := by decide +kernel
theorem dX8_init_10 : decode cX8_init 10 = .ok (.aload_n 0, 1) := by decide +kernel
theorem dX8_init_11 : decode cX8_init 11 = .ok (.iconst 0, 1) := by decide +kernel
theorem dX8_init_12 : decode cX8_init 12 = .ok (.putfield 15, 3) := by decide +kernel
theorem dX8_init_15 : decode cX8_init 15 = .ok (.aload_n 0, 1) := by decide +kernel
theorem dX8_init_16 : decode cX8_init 16 = .ok (.iconst 0, 1) := by decide +kernel
theorem dX8_init_17 : decode cX8_init 17 = .ok (.putfield 18, 3) := by decide +kernel
theorem dX8_init_20 : decode cX8_init 20 = .ok (.aload_n 0, 1) := by decide +kernel
theorem dX8_init_21 : decode cX8_init 21 = .ok (.iconst 3, 1) := by decide +kernel
theorem dX8_init_22 : decode cX8_init 22 = .ok (.anewarray 21, 3) := by decide +kernel
theorem dX8_init_25 : decode cX8_init 25 = .ok (.putfield 23, 3) := by decide +kernel
theorem dX8_init_28 : decode cX8_init 28 = .ok (.iconst 0, 1) := by decide +kernel
theorem dX8_init_29 : decode cX8_init 29 = .ok (.istore_n 1, 1) := by decide +kernel
theorem dX8_init_30 : decode cX8_init 30 = .ok (.iload_n 1, 1) := by decide +kernel
theorem dX8_init_31 : decode cX8_init 31 = .ok (.aload_n 0, 1) := by decide +kernel
theorem dX8_init_32 : decode cX8_init 32 = .ok (.getfield 23, 3) := by decide +kernel
theorem dX8_init_35 : decode cX8_init 35 = .ok (.arraylength, 1) := by decide +kernel
theorem dX8_init_36 : decode cX8_init 36 = .ok (.if_icmp .ge 22, 3) := by decide +kernel
theorem dX8_init_39 : decode cX8_init 39 = .ok (.aload_n 0, 1) := by decide +kernel
theorem dX8_init_40 : decode cX8_init 40 = .ok (.getfield 23, 3) := by decide +kernel
theorem dX8_init_43 : decode cX8_init 43 = .ok (.iload_n 1, 1) := by decide +kernel
theorem dX8_init_44 : decode cX8_init 44 = .ok (.new 21, 3) := by decide +kernel
theorem dX8_init_47 : decode cX8_init 47 = .ok (.dup, 1) := by decide +kernel
theorem dX8_init_48 : decode cX8_init 48 = .ok (.invokespecial 27, 3) := by decide +kernel
theorem dX8_init_51 : decode cX8_init 51 = .ok (.aastore, 1) := by decide +kernel
theorem dX8_init_52 : decode cX8_init 52 = .ok (.iinc 1 1, 3) := by decide +kernel
theorem dX8_init_55 : decode cX8_init 55 = .ok (.goto (-25), 3) := by decide +kernel
theorem dX8_init_58 : decode cX8_init 58 = .ok (.aload_n 0, 1) := by decide +kernel
theorem dX8_init_59 : decode cX8_init 59 = .ok (.iconst 4, 1) := by decide +kernel
theorem dX8_init_60 : decode cX8_init 60 = .ok (.anewarray 28, 3) := by decide +kernel
theorem dX8_init_63 : decode cX8_init 63 = .ok (.putfield 30, 3) := by decide +kernel
theorem dX8_init_66 : decode cX8_init 66 = .ok (.iconst 0, 1) := by decide +kernel
theorem dX8_init_67 : decode cX8_init 67 = .ok (.istore_n 1, 1) := by decide +kernel
theorem dX8_init_68 : decode cX8_init 68 = .ok (.iload_n 1, 1) := by decide +kernel
theorem dX8_init_69 : decode cX8_init 69 = .ok (.aload_n 0, 1) := by decide +kernel
theorem dX8_init_70 : decode cX8_init 70 = .ok (.getfield 30, 3) := by decide +kernel
theorem dX8_init_73 : decode cX8_init 73 = .ok (.arraylength, 1) := by decide +kernel
theorem dX8_init_74 : decode cX8_init 74 = .ok (.if_icmp .ge 22, 3) := by decide +kernel
theorem dX8_init_77 : decode cX8_init 77 = .ok (.aload_n 0, 1) := by decide +kernel
theorem dX8_init_78 : decode cX8_init 78 = .ok (.getfield 30, 3) := by decide +kernel
theorem dX8_init_81 : decode cX8_init 81 = .ok (.iload_n 1, 1) := by decide +kernel
theorem dX8_init_82 : decode cX8_init 82 = .ok (.new 28, 3) := by decide +kernel
theorem dX8_init_85 : decode cX8_init 85 = .ok (.dup, 1) := by decide +kernel
theorem dX8_init_86 : decode cX8_init 86 = .ok (.invokespecial 34, 3) := by decide +kernel
theorem dX8_init_89 : decode cX8_init 89 = .ok (.aastore, 1) := by decide +kernel
theorem dX8_init_90 : decode cX8_init 90 = .ok (.iinc 1 1, 3) := by decide +kernel
theorem dX8_init_93 : decode cX8_init 93 = .ok (.goto (-25), 3) := by decide +kernel
theorem dX8_init_96 : decode cX8_init 96 = .ok (.aload_n 0, 1) := by decide +kernel
theorem dX8_init_97 : decode cX8_init 97 = .ok (.new 21, 3) := by decide +kernel
theorem dX8_init_100 : decode cX8_init 100 = .ok (.dup, 1) := by decide +kernel
theorem dX8_init_101 : decode cX8_init 101 = .ok (.invokespecial 27, 3) := by decide +kernel
theorem dX8_init_104 : decode cX8_init 104 = .ok (.putfield 35, 3) := by decide +kernel
theorem dX8_init_107 : decode cX8_init 107 = .ok (.return_, 1) := by decide +kernel
def mi_X8_init : MI := (RX8, yX8_init, cX8_init, 2, none, [], { frames := 4, cells := 72, slots := 1207, locals := 80 })
theorem ok_X8_init : mOK mi_X8_init 0 := ⟨rfl, cw_X8_init, ini_X8, ⟨rfl, by decide⟩, by decide, by decide, rfl⟩
theorem v_X8_init_96 (this : Nat) (M : Mem) : V mi_X8_init 96 [(0, .ref this)] [] M 65 1106 (f_X8_init_96 this M) wV := by
  unfold f_X8_init_96
  refine V_aload_n dX8_init_96 rfl 0 rfl ?_
  refine V_new dX8_init_97 rfl (ci := 0) (T := TX0) (N := 5) (fs := [.long 0, .int 0, .null, .null, .null]) (ty := tyX0) rfl cl_X8_21 ins_X0 ini_X0 tyX0_ok (fun _ j hj => match j, hj with | 0, _ => rfl | 1, _ => rfl | 2, _ => rfl | 3, _ => rfl | 4, _ => rfl | j + 5, h => absurd h (by omega)) ⟨(Nat.le_of_ble_eq_true rfl), (Nat.le_of_ble_eq_true rfl)⟩ (fun r12 => ?_)
  refine V_dup dX8_init_100 rfl rfl ?_
  refine V_cIwV (As := []) (k_X0_init r12 (mnew M (.inr (0, [.long 0, .int 0, .null, .null, .null])))) ok_X0_init im_X0_init ml_X8_27 ⟨⟨(Nat.le_of_ble_eq_true rfl), (Nat.le_of_ble_eq_true rfl)⟩, (Nat.le_of_ble_eq_true rfl), (Nat.le_of_ble_eq_true rfl)⟩ rfl rfl dX8_init_101 rfl rfl rfl (Nat.le_of_ble_eq_true rfl) rfl rfl (fun M14 => ?_)
  refine V_putFR dX8_init_104 rfl (ci := 7) (T := TX8) rfl (by decide) fl_X8_35_w rfl rfl rfl rfl (fun _ => rfl) (fun _ => rfl) (fun M15 => ?_)
  exact V_vret dX8_init_107 rfl rfl ⟨(Nat.le_of_ble_eq_true rfl), (Nat.le_of_ble_eq_true rfl)⟩
theorem v_X8_init_58 (this : Nat) (M : Mem) : V mi_X8_init 58 [(0, .ref this)] [] M 29 407 (f_X8_init_58 this M) wV := by
  unfold f_X8_init_58
  refine V_aload_n dX8_init_58 rfl 0 rfl ?_
  refine V_iconst (x := 4) dX8_init_59 rfl rfl ?_
  refine V_anewarray dX8_init_60 rfl (t := 6) (N := 4) rfl cl_X8_28 ao_6 (by decide) rfl (Nat.le_of_ble_eq_true rfl) ⟨(Nat.le_of_ble_eq_true rfl), (Nat.le_of_ble_eq_true rfl)⟩ (fun r8 => ?_)
  refine V_putFR dX8_init_63 rfl (ci := 7) (T := TX8) rfl (by decide) fl_X8_30_w rfl rfl rfl rfl (fun _ => rfl) (fun _ => rfl) (fun M9 => ?_)
  refine V_iconst (x := 0) dX8_init_66 rfl rfl ?_
  refine V_istore_n (L' := [(0, .ref this), (1, .int 0)]) dX8_init_67 rfl (by decide) rfl ?_
  refine V_iload_n dX8_init_68 rfl 1 rfl ?_
  refine V_aload_n dX8_init_69 rfl 0 rfl ?_
  refine V_getR dX8_init_70 rfl (ci := 7) (T := TX8) rfl (by decide) fl_X8_30 (fun x10 => ?_)
  refine V_arraylength dX8_init_73 rfl (fun x11 => ?_)
  refine V_icmp_ge (q := 96) (q2 := 77) dX8_init_74 (by decide) rfl ?_ ?_
  · exact V_sub [0] rfl (V_w (Nat.le_of_ble_eq_true rfl) (Nat.le_of_ble_eq_true rfl) (v_X8_init_96 this M9))
  · refine V_aload_n dX8_init_77 rfl 0 rfl ?_
    refine V_getR dX8_init_78 rfl (ci := 7) (T := TX8) rfl (by decide) fl_X8_30 (fun x16 => ?_)
    refine V_iload_n dX8_init_81 rfl 1 rfl ?_
    refine V_new dX8_init_82 rfl (ci := 6) (T := TX7) (N := 8) (fs := [.long 0, .int 0, .int 0, .int 0, .int 0, .null, .null, .null]) (ty := tyX7) rfl cl_X8_28 ins_X7 ini_X7 tyX7_ok (fun _ j hj => match j, hj with | 0, _ => rfl | 1, _ => rfl | 2, _ => rfl | 3, _ => rfl | 4, _ => rfl | 5, _ => rfl | 6, _ => rfl | 7, _ => rfl | j + 8, h => absurd h (by omega)) ⟨(Nat.le_of_ble_eq_true rfl), (Nat.le_of_ble_eq_true rfl)⟩ (fun r17 => ?_)
    refine V_dup dX8_init_85 rfl rfl ?_
    refine V_cIwV (As := []) (k_X7_init r17 (mnew M9 (.inr (6, [.long 0, .int 0, .int 0, .int 0, .int 0, .null, .null, .null])))) ok_X7_init im_X7_init ml_X8_34 ⟨⟨(Nat.le_of_ble_eq_true rfl), (Nat.le_of_ble_eq_true rfl)⟩, (Nat.le_of_ble_eq_true rfl), (Nat.le_of_ble_eq_true rfl)⟩ rfl rfl dX8_init_86 rfl rfl rfl (Nat.le_of_ble_eq_true rfl) rfl rfl (fun M19 => ?_)
    refine V_aastore dX8_init_89 rfl rfl (ci := 6) rfl (fun M20 => ?_)
    refine V_iinc (y := (0 + 1)) (L' := [(0, .ref this), (1, .int (0 + 1))]) dX8_init_90 rfl 1 rfl rfl (by decide) rfl ?_
    refine V_goto (q := 68) dX8_init_93 (by decide) ?_
    refine V_iload_n dX8_init_68 rfl 1 rfl ?_
    refine V_aload_n dX8_init_69 rfl 0 rfl ?_
    refine V_getR dX8_init_70 rfl (ci := 7) (T := TX8) rfl (by decide) fl_X8_30 (fun x21 => ?_)
    refine V_arraylength dX8_init_73 rfl (fun x22 => ?_)
    refine V_icmp_ge (q := 96) (q2 := 77) dX8_init_74 (by decide) rfl ?_ ?_
    · exact V_sub [0] rfl (V_w (Nat.le_of_ble_eq_true rfl) (Nat.le_of_ble_eq_true rfl) (v_X8_init_96 this M20))
    · refine V_aload_n dX8_init_77 rfl 0 rfl ?_
      refine V_getR dX8_init_78 rfl (ci := 7) (T := TX8) rfl (by decide) fl_X8_30 (fun x23 => ?_)
      refine V_iload_n dX8_init_81 rfl 1 rfl ?_
      refine V_new dX8_init_82 rfl (ci := 6) (T := TX7) (N := 8) (fs := [.long 0, .int 0, .int 0, .int 0, .int 0, .null, .null, .null]) (ty := tyX7) rfl cl_X8_28 ins_X7 ini_X7 tyX7_ok (fun _ j hj => match j, hj with | 0, _ => rfl | 1, _ => rfl | 2, _ => rfl | 3, _ => rfl | 4, _ => rfl | 5, _ => rfl | 6, _ => rfl | 7, _ => rfl | j + 8, h => absurd h (by omega)) ⟨(Nat.le_of_ble_eq_true rfl), (Nat.le_of_ble_eq_true rfl)⟩ (fun r24 => ?_)
      refine V_dup dX8_init_85 rfl rfl ?_
      refine V_cIwV (As := []) (k_X7_init r24 (mnew M20 (.inr (6, [.long 0, .int 0, .int 0, .int 0, .int 0, .null, .null, .null])))) ok_X7_init im_X7_init ml_X8_34 ⟨⟨(Nat.le_of_ble_eq_true rfl), (Nat.le_of_ble_eq_true rfl)⟩, (Nat.le_of_ble_eq_true rfl), (Nat.le_of_ble_eq_true rfl)⟩ rfl rfl dX8_init_86 rfl rfl rfl (Nat.le_of_ble_eq_true rfl) rfl rfl (fun M26 => ?_)
      refine V_aastore dX8_init_89 rfl rfl (ci := 6) rfl (fun M27 => ?_)
      refine V_iinc (y := ((0 + 1) + 1)) (L' := [(0, .ref this), (1, .int ((0 + 1) + 1))]) dX8_init_90 rfl 1 rfl rfl (by decide) rfl ?_
      refine V_goto (q := 68) dX8_init_93 (by decide) ?_
      refine V_iload_n dX8_init_68 rfl 1 rfl ?_
      refine V_aload_n dX8_init_69 rfl 0 rfl ?_
      refine V_getR dX8_init_70 rfl (ci := 7) (T := TX8) rfl (by decide) fl_X8_30 (fun x28 => ?_)
      refine V_arraylength dX8_init_73 rfl (fun x29 => ?_)
      refine V_icmp_ge (q := 96) (q2 := 77) dX8_init_74 (by decide) rfl ?_ ?_
      · exact V_sub [0] rfl (V_w (Nat.le_of_ble_eq_true rfl) (Nat.le_of_ble_eq_true rfl) (v_X8_init_96 this M27))
      · refine V_aload_n dX8_init_77 rfl 0 rfl ?_
        refine V_getR dX8_init_78 rfl (ci := 7) (T := TX8) rfl (by decide) fl_X8_30 (fun x30 => ?_)
        refine V_iload_n dX8_init_81 rfl 1 rfl ?_
        refine V_new dX8_init_82 rfl (ci := 6) (T := TX7) (N := 8) (fs := [.long 0, .int 0, .int 0, .int 0, .int 0, .null, .null, .null]) (ty := tyX7) rfl cl_X8_28 ins_X7 ini_X7 tyX7_ok (fun _ j hj => match j, hj with | 0, _ => rfl | 1, _ => rfl | 2, _ => rfl | 3, _ => rfl | 4, _ => rfl | 5, _ => rfl | 6, _ => rfl | 7, _ => rfl | j + 8, h => absurd h (by omega)) ⟨(Nat.le_of_ble_eq_true rfl), (Nat.le_of_ble_eq_true rfl)⟩ (fun r31 => ?_)
        refine V_dup dX8_init_85 rfl rfl ?_
        refine V_cIwV (As := []) (k_X7_init r31 (mnew M27 (.inr (6, [.long 0, .int 0, .int 0, .int 0, .int 0, .null, .null, .null])))) ok_X7_init im_X7_init ml_X8_34 ⟨⟨(Nat.le_of_ble_eq_true rfl), (Nat.le_of_ble_eq_true rfl)⟩, (Nat.le_of_ble_eq_true rfl), (Nat.le_of_ble_eq_true rfl)⟩ rfl rfl dX8_init_86 rfl rfl rfl (Nat.le_of_ble_eq_true rfl) rfl rfl (fun M33 => ?_)
        refine V_aastore dX8_init_89 rfl rfl (ci := 6) rfl (fun M34 => ?_)
        refine V_iinc (y := (((0 + 1) + 1) + 1)) (L' := [(0, .ref this), (1, .int (((0 + 1) + 1) + 1))]) dX8_init_90 rfl 1 rfl rfl (by decide) rfl ?_
        refine V_goto (q := 68) dX8_init_93 (by decide) ?_
        refine V_iload_n dX8_init_68 rfl 1 rfl ?_
        refine V_aload_n dX8_init_69 rfl 0 rfl ?_
        refine V_getR dX8_init_70 rfl (ci := 7) (T := TX8) rfl (by decide) fl_X8_30 (fun x35 => ?_)
        refine V_arraylength dX8_init_73 rfl (fun x36 => ?_)
        refine V_icmp_ge (q := 96) (q2 := 77) dX8_init_74 (by decide) rfl ?_ ?_
        · exact V_sub [0] rfl (V_w (Nat.le_of_ble_eq_true rfl) (Nat.le_of_ble_eq_true rfl) (v_X8_init_96 this M34))
        · refine V_aload_n dX8_init_77 rfl 0 rfl ?_
          refine V_getR dX8_init_78 rfl (ci := 7) (T := TX8) rfl (by decide) fl_X8_30 (fun x37 => ?_)
          refine V_iload_n dX8_init_81 rfl 1 rfl ?_
          refine V_new dX8_init_82 rfl (ci := 6) (T := TX7) (N := 8) (fs := [.long 0, .int 0, .int 0, .int 0, .int 0, .null, .null, .null]) (ty := tyX7) rfl cl_X8_28 ins_X7 ini_X7 tyX7_ok (fun _ j hj => match j, hj with | 0, _ => rfl | 1, _ => rfl | 2, _ => rfl | 3, _ => rfl | 4, _ => rfl | 5, _ => rfl | 6, _ => rfl | 7, _ => rfl | j + 8, h => absurd h (by omega)) ⟨(Nat.le_of_ble_eq_true rfl), (Nat.le_of_ble_eq_true rfl)⟩ (fun r38 => ?_)
          refine V_dup dX8_init_85 rfl rfl ?_
          refine V_cIwV (As := []) (k_X7_init r38 (mnew M34 (.inr (6, [.long 0, .int 0, .int 0, .int 0, .int 0, .null, .null, .null])))) ok_X7_init im_X7_init ml_X8_34 ⟨⟨(Nat.le_of_ble_eq_true rfl), (Nat.le_of_ble_eq_true rfl)⟩, (Nat.le_of_ble_eq_true rfl), (Nat.le_of_ble_eq_true rfl)⟩ rfl rfl dX8_init_86 rfl rfl rfl (Nat.le_of_ble_eq_true rfl) rfl rfl (fun M40 => ?_)
          refine V_aastore dX8_init_89 rfl rfl (ci := 6) rfl (fun M41 => ?_)
          refine V_iinc (y := ((((0 + 1) + 1) + 1) + 1)) (L' := [(0, .ref this), (1, .int ((((0 + 1) + 1) + 1) + 1))]) dX8_init_90 rfl 1 rfl rfl (by decide) rfl ?_
          refine V_goto (q := 68) dX8_init_93 (by decide) ?_
          refine V_iload_n dX8_init_68 rfl 1 rfl ?_
          refine V_aload_n dX8_init_69 rfl 0 rfl ?_
          refine V_getR dX8_init_70 rfl (ci := 7) (T := TX8) rfl (by decide) fl_X8_30 (fun x42 => ?_)
          refine V_arraylength dX8_init_73 rfl (fun x43 => ?_)
          refine V_icmp_ge (q := 96) (q2 := 77) dX8_init_74 (by decide) rfl ?_ ?_
          · exact V_sub [0] rfl (V_w (Nat.le_of_ble_eq_true rfl) (Nat.le_of_ble_eq_true rfl) (v_X8_init_96 this M41))
          · refine V_aload_n dX8_init_77 rfl 0 rfl ?_
            refine V_getR dX8_init_78 rfl (ci := 7) (T := TX8) rfl (by decide) fl_X8_30 (fun x44 => ?_)
            refine V_iload_n dX8_init_81 rfl 1 rfl ?_
            refine V_new dX8_init_82 rfl (ci := 6) (T := TX7) (N := 8) (fs := [.long 0, .int 0, .int 0, .int 0, .int 0, .null, .null, .null]) (ty := tyX7) rfl cl_X8_28 ins_X7 ini_X7 tyX7_ok (fun _ j hj => match j, hj with | 0, _ => rfl | 1, _ => rfl | 2, _ => rfl | 3, _ => rfl | 4, _ => rfl | 5, _ => rfl | 6, _ => rfl | 7, _ => rfl | j + 8, h => absurd h (by omega)) ⟨(Nat.le_of_ble_eq_true rfl), (Nat.le_of_ble_eq_true rfl)⟩ (fun r45 => ?_)
            refine V_dup dX8_init_85 rfl rfl ?_
            refine V_cIwV (As := []) (k_X7_init r45 (mnew M41 (.inr (6, [.long 0, .int 0, .int 0, .int 0, .int 0, .null, .null, .null])))) ok_X7_init im_X7_init ml_X8_34 ⟨⟨(Nat.le_of_ble_eq_true rfl), (Nat.le_of_ble_eq_true rfl)⟩, (Nat.le_of_ble_eq_true rfl), (Nat.le_of_ble_eq_true rfl)⟩ rfl rfl dX8_init_86 rfl rfl rfl (Nat.le_of_ble_eq_true rfl) rfl rfl (fun M47 => ?_)
            refine V_aastore dX8_init_89 rfl rfl (ci := 6) rfl (fun M48 => ?_)
            refine V_iinc (y := (((((0 + 1) + 1) + 1) + 1) + 1)) (L' := [(0, .ref this), (1, .int (((((0 + 1) + 1) + 1) + 1) + 1))]) dX8_init_90 rfl 1 rfl rfl (by decide) rfl ?_
            refine V_goto (q := 68) dX8_init_93 (by decide) ?_
            exact V_none
theorem v_X8_init (this : Nat) (M : Mem) : V mi_X8_init 0 [(0, .ref this)] [] M 0 0 (f_X8_init this M) wV := by
  unfold f_X8_init
  refine V_ob fun _ _ => ?_
  refine V_aload_n dX8_init_0 rfl 0 rfl ?_
  refine V_objInit ml_X8_3 dX8_init_1 rfl ⟨(Nat.le_of_ble_eq_true rfl), (Nat.le_of_ble_eq_true rfl)⟩ ?_
  refine V_aload_n dX8_init_4 rfl 0 rfl ?_
  refine V_bipush (x := 30) dX8_init_5 rfl rfl ?_
  refine V_putI dX8_init_7 rfl (ci := 7) (T := TX8) rfl (by decide) fl_X8_9 rfl rfl (fun M1 => ?_)
  refine V_aload_n dX8_init_10 rfl 0 rfl ?_
  refine V_iconst (x := 0) dX8_init_11 rfl rfl ?_
  refine V_putI dX8_init_12 rfl (ci := 7) (T := TX8) rfl (by decide) fl_X8_15 rfl rfl (fun M2 => ?_)
  refine V_aload_n dX8_init_15 rfl 0 rfl ?_
  refine V_iconst (x := 0) dX8_init_16 rfl rfl ?_
  refine V_putI dX8_init_17 rfl (ci := 7) (T := TX8) rfl (by decide) fl_X8_18 rfl rfl (fun M3 => ?_)
  refine V_aload_n dX8_init_20 rfl 0 rfl ?_
  refine V_iconst (x := 3) dX8_init_21 rfl rfl ?_
  refine V_anewarray dX8_init_22 rfl (t := 5) (N := 3) rfl cl_X8_21 ao_5 (by decide) rfl (Nat.le_of_ble_eq_true rfl) ⟨(Nat.le_of_ble_eq_true rfl), (Nat.le_of_ble_eq_true rfl)⟩ (fun r4 => ?_)
  refine V_putFR dX8_init_25 rfl (ci := 7) (T := TX8) rfl (by decide) fl_X8_23_w rfl rfl rfl rfl (fun _ => rfl) (fun _ => rfl) (fun M5 => ?_)
  refine V_iconst (x := 0) dX8_init_28 rfl rfl ?_
  refine V_istore_n (L' := [(0, .ref this), (1, .int 0)]) dX8_init_29 rfl (by decide) rfl ?_
  refine V_iload_n dX8_init_30 rfl 1 rfl ?_
  refine V_aload_n dX8_init_31 rfl 0 rfl ?_
  refine V_getR dX8_init_32 rfl (ci := 7) (T := TX8) rfl (by decide) fl_X8_23 (fun x6 => ?_)
  refine V_arraylength dX8_init_35 rfl (fun x7 => ?_)
  refine V_icmp_ge (q := 58) (q2 := 39) dX8_init_36 (by decide) rfl ?_ ?_
  · exact V_sub [0] rfl (V_w (Nat.le_of_ble_eq_true rfl) (Nat.le_of_ble_eq_true rfl) (v_X8_init_58 this M5))
  · refine V_aload_n dX8_init_39 rfl 0 rfl ?_
    refine V_getR dX8_init_40 rfl (ci := 7) (T := TX8) rfl (by decide) fl_X8_23 (fun x49 => ?_)
    refine V_iload_n dX8_init_43 rfl 1 rfl ?_
    refine V_new dX8_init_44 rfl (ci := 0) (T := TX0) (N := 5) (fs := [.long 0, .int 0, .null, .null, .null]) (ty := tyX0) rfl cl_X8_21 ins_X0 ini_X0 tyX0_ok (fun _ j hj => match j, hj with | 0, _ => rfl | 1, _ => rfl | 2, _ => rfl | 3, _ => rfl | 4, _ => rfl | j + 5, h => absurd h (by omega)) ⟨(Nat.le_of_ble_eq_true rfl), (Nat.le_of_ble_eq_true rfl)⟩ (fun r50 => ?_)
    refine V_dup dX8_init_47 rfl rfl ?_
    refine V_cIwV (As := []) (k_X0_init r50 (mnew M5 (.inr (0, [.long 0, .int 0, .null, .null, .null])))) ok_X0_init im_X0_init ml_X8_27 ⟨⟨(Nat.le_of_ble_eq_true rfl), (Nat.le_of_ble_eq_true rfl)⟩, (Nat.le_of_ble_eq_true rfl), (Nat.le_of_ble_eq_true rfl)⟩ rfl rfl dX8_init_48 rfl rfl rfl (Nat.le_of_ble_eq_true rfl) rfl rfl (fun M52 => ?_)
    refine V_aastore dX8_init_51 rfl rfl (ci := 0) rfl (fun M53 => ?_)
    refine V_iinc (y := (0 + 1)) (L' := [(0, .ref this), (1, .int (0 + 1))]) dX8_init_52 rfl 1 rfl rfl (by decide) rfl ?_
    refine V_goto (q := 30) dX8_init_55 (by decide) ?_
    refine V_iload_n dX8_init_30 rfl 1 rfl ?_
    refine V_aload_n dX8_init_31 rfl 0 rfl ?_
    refine V_getR dX8_init_32 rfl (ci := 7) (T := TX8) rfl (by decide) fl_X8_23 (fun x54 => ?_)
    refine V_arraylength dX8_init_35 rfl (fun x55 => ?_)
    refine V_icmp_ge (q := 58) (q2 := 39) dX8_init_36 (by decide) rfl ?_ ?_
    · exact V_sub [0] rfl (V_w (Nat.le_of_ble_eq_true rfl) (Nat.le_of_ble_eq_true rfl) (v_X8_init_58 this M53))
    · refine V_aload_n dX8_init_39 rfl 0 rfl ?_
      refine V_getR dX8_init_40 rfl (ci := 7) (T := TX8) rfl (by decide) fl_X8_23 (fun x56 => ?_)
      refine V_iload_n dX8_init_43 rfl 1 rfl ?_
      refine V_new dX8_init_44 rfl (ci := 0) (T := TX0) (N := 5) (fs := [.long 0, .int 0, .null, .null, .null]) (ty := tyX0) rfl cl_X8_21 ins_X0 ini_X0 tyX0_ok (fun _ j hj => match j, hj with | 0, _ => rfl | 1, _ => rfl | 2, _ => rfl | 3, _ => rfl | 4, _ => rfl | j + 5, h => absurd h (by omega)) ⟨(Nat.le_of_ble_eq_true rfl), (Nat.le_of_ble_eq_true rfl)⟩ (fun r57 => ?_)
      refine V_dup dX8_init_47 rfl rfl ?_
      refine V_cIwV (As := []) (k_X0_init r57 (mnew M53 (.inr (0, [.long 0, .int 0, .null, .null, .null])))) ok_X0_init im_X0_init ml_X8_27 ⟨⟨(Nat.le_of_ble_eq_true rfl), (Nat.le_of_ble_eq_true rfl)⟩, (Nat.le_of_ble_eq_true rfl), (Nat.le_of_ble_eq_true rfl)⟩ rfl rfl dX8_init_48 rfl rfl rfl (Nat.le_of_ble_eq_true rfl) rfl rfl (fun M59 => ?_)
      refine V_aastore dX8_init_51 rfl rfl (ci := 0) rfl (fun M60 => ?_)
      refine V_iinc (y := ((0 + 1) + 1)) (L' := [(0, .ref this), (1, .int ((0 + 1) + 1))]) dX8_init_52 rfl 1 rfl rfl (by decide) rfl ?_
      refine V_goto (q := 30) dX8_init_55 (by decide) ?_
      refine V_iload_n dX8_init_30 rfl 1 rfl ?_
      refine V_aload_n dX8_init_31 rfl 0 rfl ?_
      refine V_getR dX8_init_32 rfl (ci := 7) (T := TX8) rfl (by decide) fl_X8_23 (fun x61 => ?_)
      refine V_arraylength dX8_init_35 rfl (fun x62 => ?_)
      refine V_icmp_ge (q := 58) (q2 := 39) dX8_init_36 (by decide) rfl ?_ ?_
      · exact V_sub [0] rfl (V_w (Nat.le_of_ble_eq_true rfl) (Nat.le_of_ble_eq_true rfl) (v_X8_init_58 this M60))
      · refine V_aload_n dX8_init_39 rfl 0 rfl ?_
        refine V_getR dX8_init_40 rfl (ci := 7) (T := TX8) rfl (by decide) fl_X8_23 (fun x63 => ?_)
        refine V_iload_n dX8_init_43 rfl 1 rfl ?_
        refine V_new dX8_init_44 rfl (ci := 0) (T := TX0) (N := 5) (fs := [.long 0, .int 0, .null, .null, .null]) (ty := tyX0) rfl cl_X8_21 ins_X0 ini_X0 tyX0_ok (fun _ j hj => match j, hj with | 0, _ => rfl | 1, _ => rfl | 2, _ => rfl | 3, _ => rfl | 4, _ => rfl | j + 5, h => absurd h (by omega)) ⟨(Nat.le_of_ble_eq_true rfl), (Nat.le_of_ble_eq_true rfl)⟩ (fun r64 => ?_)
        refine V_dup dX8_init_47 rfl rfl ?_
        refine V_cIwV (As := []) (k_X0_init r64 (mnew M60 (.inr (0, [.long 0, .int 0, .null, .null, .null])))) ok_X0_init im_X0_init ml_X8_27 ⟨⟨(Nat.le_of_ble_eq_true rfl), (Nat.le_of_ble_eq_true rfl)⟩, (Nat.le_of_ble_eq_true rfl), (Nat.le_of_ble_eq_true rfl)⟩ rfl rfl dX8_init_48 rfl rfl rfl (Nat.le_of_ble_eq_true rfl) rfl rfl (fun M66 => ?_)
        refine V_aastore dX8_init_51 rfl rfl (ci := 0) rfl (fun M67 => ?_)
        refine V_iinc (y := (((0 + 1) + 1) + 1)) (L' := [(0, .ref this), (1, .int (((0 + 1) + 1) + 1))]) dX8_init_52 rfl 1 rfl rfl (by decide) rfl ?_
        refine V_goto (q := 30) dX8_init_55 (by decide) ?_
        refine V_iload_n dX8_init_30 rfl 1 rfl ?_
        refine V_aload_n dX8_init_31 rfl 0 rfl ?_
        refine V_getR dX8_init_32 rfl (ci := 7) (T := TX8) rfl (by decide) fl_X8_23 (fun x68 => ?_)
        refine V_arraylength dX8_init_35 rfl (fun x69 => ?_)
        refine V_icmp_ge (q := 58) (q2 := 39) dX8_init_36 (by decide) rfl ?_ ?_
        · exact V_sub [0] rfl (V_w (Nat.le_of_ble_eq_true rfl) (Nat.le_of_ble_eq_true rfl) (v_X8_init_58 this M67))
        · refine V_aload_n dX8_init_39 rfl 0 rfl ?_
          refine V_getR dX8_init_40 rfl (ci := 7) (T := TX8) rfl (by decide) fl_X8_23 (fun x70 => ?_)
          refine V_iload_n dX8_init_43 rfl 1 rfl ?_
          refine V_new dX8_init_44 rfl (ci := 0) (T := TX0) (N := 5) (fs := [.long 0, .int 0, .null, .null, .null]) (ty := tyX0) rfl cl_X8_21 ins_X0 ini_X0 tyX0_ok (fun _ j hj => match j, hj with | 0, _ => rfl | 1, _ => rfl | 2, _ => rfl | 3, _ => rfl | 4, _ => rfl | j + 5, h => absurd h (by omega)) ⟨(Nat.le_of_ble_eq_true rfl), (Nat.le_of_ble_eq_true rfl)⟩ (fun r71 => ?_)
          refine V_dup dX8_init_47 rfl rfl ?_
          refine V_cIwV (As := []) (k_X0_init r71 (mnew M67 (.inr (0, [.long 0, .int 0, .null, .null, .null])))) ok_X0_init im_X0_init ml_X8_27 ⟨⟨(Nat.le_of_ble_eq_true rfl), (Nat.le_of_ble_eq_true rfl)⟩, (Nat.le_of_ble_eq_true rfl), (Nat.le_of_ble_eq_true rfl)⟩ rfl rfl dX8_init_48 rfl rfl rfl (Nat.le_of_ble_eq_true rfl) rfl rfl (fun M73 => ?_)
          refine V_aastore dX8_init_51 rfl rfl (ci := 0) rfl (fun M74 => ?_)
          refine V_iinc (y := ((((0 + 1) + 1) + 1) + 1)) (L' := [(0, .ref this), (1, .int ((((0 + 1) + 1) + 1) + 1))]) dX8_init_52 rfl 1 rfl rfl (by decide) rfl ?_
          refine V_goto (q := 30) dX8_init_55 (by decide) ?_
          exact V_none
theorem k_X8_init (this : Nat) (M : Mem) : K mi_X8_init [.ref this] M (f_X8_init this M) wV := K_of_V ok_X8_init (Nat.le_of_ble_eq_true rfl) (v_X8_init this M)
theorem o_X8_init {this : Nat} {M : Mem} {x} (h : f_X8_init this M = some x) : isO M 7 this = true := (ob_of h).1
theorem dX8_clear_0 : decode cX8_clear 0 = .ok (.aload_n 0, 1) := by decide +kernel
theorem dX8_clear_1 : decode cX8_clear 1 = .ok (.bipush 30, 2) := by decide +kernel
theorem dX8_clear_3 : decode cX8_clear 3 = .ok (.putfield 9, 3) := by decide +kernel
theorem dX8_clear_6 : decode cX8_clear 6 = .ok (.aload_n 0, 1) := by decide +kernel
theorem dX8_clear_7 : decode cX8_clear 7 = .ok (.iconst 0, 1) := by decide +kernel
theorem dX8_clear_8 : decode cX8_clear 8 = .ok (.putfield 15, 3) := by decide +kernel
theorem dX8_clear_11 : decode cX8_clear 11 = .ok (.aload_n 0, 1) := by decide +kernel
theorem dX8_clear_12 : decode cX8_clear 12 = .ok (.iconst 0, 1) := by decide +kernel
theorem dX8_clear_13 : decode cX8_clear 13 = .ok (.putfield 18, 3) := by decide +kernel
theorem dX8_clear_16 : decode cX8_clear 16 = .ok (.return_, 1) := by decide +kernel
def mi_X8_clear : MI := (RX8, yX8_clear, cX8_clear, 1, none, [], { frames := 1, cells := 0, slots := 0, locals := 12 })
theorem ok_X8_clear : mOK mi_X8_clear 0 := ⟨rfl, cw_X8_clear, ini_X8, ⟨rfl, by decide⟩, by decide, by decide, rfl⟩
theorem v_X8_clear (this : Nat) (M : Mem) : V mi_X8_clear 0 [(0, .ref this)] [] M 0 0 (f_X8_clear this M) wV := by
  unfold f_X8_clear
  refine V_ob fun _ _ => ?_
  refine V_aload_n dX8_clear_0 rfl 0 rfl ?_
  refine V_bipush (x := 30) dX8_clear_1 rfl rfl ?_
  refine V_putI dX8_clear_3 rfl (ci := 7) (T := TX8) rfl (by decide) fl_X8_9 rfl rfl (fun M1 => ?_)
  refine V_aload_n dX8_clear_6 rfl 0 rfl ?_
  refine V_iconst (x := 0) dX8_clear_7 rfl rfl ?_
  refine V_putI dX8_clear_8 rfl (ci := 7) (T := TX8) rfl (by decide) fl_X8_15 rfl rfl (fun M2 => ?_)
  refine V_aload_n dX8_clear_11 rfl 0 rfl ?_
  refine V_iconst (x := 0) dX8_clear_12 rfl rfl ?_
  refine V_putI dX8_clear_13 rfl (ci := 7) (T := TX8) rfl (by decide) fl_X8_18 rfl rfl (fun M3 => ?_)
  exact V_vret dX8_clear_16 rfl rfl ⟨(Nat.le_of_ble_eq_true rfl), (Nat.le_of_ble_eq_true rfl)⟩
theorem k_X8_clear (this : Nat) (M : Mem) : K mi_X8_clear [.ref this] M (f_X8_clear this M) wV := K_of_V ok_X8_clear (Nat.le_of_ble_eq_true rfl) (v_X8_clear this M)
theorem o_X8_clear {this : Nat} {M : Mem} {x} (h : f_X8_clear this M = some x) : isO M 7 this = true := (ob_of h).1
theorem dX8_boxAt_0 : decode cX8_boxAt 0 = .ok (.iload_n 1, 1) := by decide +kernel
theorem dX8_boxAt_1 : decode cX8_boxAt 1 = .ok (.ifCond .lt 29, 3) := by decide +kernel
theorem dX8_boxAt_4 : decode cX8_boxAt 4 = .ok (.iload_n 1, 1) := by decide +kernel
theorem dX8_boxAt_5 : decode cX8_boxAt 5 = .ok (.aload_n 0, 1) := by decide +kernel
theorem dX8_boxAt_6 : decode cX8_boxAt 6 = .ok (.getfield 15, 3) := by decide +kernel
theorem dX8_boxAt_9 : decode cX8_boxAt 9 = .ok (.if_icmp .ge 21, 3) := by decide +kernel
theorem dX8_boxAt_12 : decode cX8_boxAt 12 = .ok (.iload_n 1, 1) := by decide +kernel
theorem dX8_boxAt_13 : decode cX8_boxAt 13 = .ok (.aload_n 0, 1) := by decide +kernel
theorem dX8_boxAt_14 : decode cX8_boxAt 14 = .ok (.getfield 23, 3) := by decide +kernel
theorem dX8_boxAt_17 : decode cX8_boxAt 17 = .ok (.arraylength, 1) := by decide +kernel
theorem dX8_boxAt_18 : decode cX8_boxAt 18 = .ok (.if_icmp .ge 12, 3) := by decide +kernel
theorem dX8_boxAt_21 : decode cX8_boxAt 21 = .ok (.aload_n 0, 1) := by decide +kernel
theorem dX8_boxAt_22 : decode cX8_boxAt 22 = .ok (.getfield 23, 3) := by decide +kernel
theorem dX8_boxAt_25 : decode cX8_boxAt 25 = .ok (.iload_n 1, 1) := by decide +kernel
theorem dX8_boxAt_26 : decode cX8_boxAt 26 = .ok (.aaload, 1) := by decide +kernel
theorem dX8_boxAt_27 : decode cX8_boxAt 27 = .ok (.goto 4, 3) := by decide +kernel
theorem dX8_boxAt_30 : decode cX8_boxAt 30 = .ok (.aconst_null, 1) := by decide +kernel
theorem dX8_boxAt_31 : decode cX8_boxAt 31 = .ok (.areturn, 1) := by decide +kernel
def mi_X8_boxAt : MI := (RX8, yX8_boxAt, cX8_boxAt, 2, some (.object "MailSessions$Box"), [], { frames := 1, cells := 0, slots := 0, locals := 12 })
theorem ok_X8_boxAt : mOK mi_X8_boxAt 1 := ⟨rfl, cw_X8_boxAt, ini_X8, ⟨rfl, by decide⟩, by decide, by decide, rfl⟩
theorem v_X8_boxAt (this : Nat) (a1 : Int32) (M : Mem) : V mi_X8_boxAt 0 [(0, .ref this), (1, .int a1)] [] M 0 0 (f_X8_boxAt this a1 M) (eQ M) := by
  unfold f_X8_boxAt
  refine V_ob fun _ _ => ?_
  refine V_iload_n dX8_boxAt_0 rfl 1 rfl ?_
  refine V_if_lt (q := 30) (q2 := 4) dX8_boxAt_1 (by decide) rfl ?_ ?_
  · refine V_null dX8_boxAt_30 rfl ?_
    exact V_aret (v := none) dX8_boxAt_31 rfl (Or.inl ⟨_, rfl⟩) rfl ⟨(Nat.le_of_ble_eq_true rfl), (Nat.le_of_ble_eq_true rfl)⟩
  · refine V_iload_n dX8_boxAt_4 rfl 1 rfl ?_
    refine V_aload_n dX8_boxAt_5 rfl 0 rfl ?_
    refine V_getI dX8_boxAt_6 rfl (ci := 7) (T := TX8) rfl (by decide) fl_X8_15 (fun x1 => ?_)
    refine V_icmp_ge (q := 30) (q2 := 12) dX8_boxAt_9 (by decide) rfl ?_ ?_
    · refine V_null dX8_boxAt_30 rfl ?_
      exact V_aret (v := none) dX8_boxAt_31 rfl (Or.inl ⟨_, rfl⟩) rfl ⟨(Nat.le_of_ble_eq_true rfl), (Nat.le_of_ble_eq_true rfl)⟩
    · refine V_iload_n dX8_boxAt_12 rfl 1 rfl ?_
      refine V_aload_n dX8_boxAt_13 rfl 0 rfl ?_
      refine V_getR dX8_boxAt_14 rfl (ci := 7) (T := TX8) rfl (by decide) fl_X8_23 (fun x2 => ?_)
      refine V_arraylength dX8_boxAt_17 rfl (fun x3 => ?_)
      refine V_icmp_ge (q := 30) (q2 := 21) dX8_boxAt_18 (by decide) rfl ?_ ?_
      · refine V_null dX8_boxAt_30 rfl ?_
        exact V_aret (v := none) dX8_boxAt_31 rfl (Or.inl ⟨_, rfl⟩) rfl ⟨(Nat.le_of_ble_eq_true rfl), (Nat.le_of_ble_eq_true rfl)⟩
      · refine V_aload_n dX8_boxAt_21 rfl 0 rfl ?_
        refine V_getR dX8_boxAt_22 rfl (ci := 7) (T := TX8) rfl (by decide) fl_X8_23 (fun x4 => ?_)
        refine V_iload_n dX8_boxAt_25 rfl 1 rfl ?_
        refine V_aaload dX8_boxAt_26 rfl rfl (fun x5 => ?_)
        refine V_goto (q := 31) dX8_boxAt_27 (by decide) ?_
        exact V_aret (v := x5) dX8_boxAt_31 rfl (Or.inl ⟨_, rfl⟩) rfl ⟨(Nat.le_of_ble_eq_true rfl), (Nat.le_of_ble_eq_true rfl)⟩
theorem k_X8_boxAt (this : Nat) (a1 : Int32) (M : Mem) : K mi_X8_boxAt [.ref this, .int a1] M (f_X8_boxAt this a1 M) (eQ M) := K_of_V ok_X8_boxAt (Nat.le_of_ble_eq_true rfl) (v_X8_boxAt this a1 M)
theorem o_X8_boxAt {this : Nat} {a1 : Int32} {M : Mem} {x} (h : f_X8_boxAt this a1 M = some x) : isO M 7 this = true := (ob_of h).1
theorem dX8_addBox_0 : decode cX8_addBox 0 = .ok (.aload_n 0, 1) := by decide +kernel
theorem dX8_addBox_1 : decode cX8_addBox 1 = .ok (.getfield 15, 3) := by decide +kernel
theorem dX8_addBox_4 : decode cX8_addBox 4 = .ok (.iconst 3, 1) := by decide +kernel
theorem dX8_addBox_5 : decode cX8_addBox 5 = .ok (.if_icmp .lt 5, 3) := by decide +kernel
theorem dX8_addBox_8 : decode cX8_addBox 8 = .ok (.aconst_null, 1) := by decide +kernel
theorem dX8_addBox_9 : decode cX8_addBox 9 = .ok (.areturn, 1) := by decide +kernel
theorem dX8_addBox_10 : decode cX8_addBox 10 = .ok (.aload_n 0, 1) := by decide +kernel
theorem dX8_addBox_11 : decode cX8_addBox 11 = .ok (.dup, 1) := by decide +kernel
theorem dX8_addBox_12 : decode cX8_addBox 12 = .ok (.getfield 15, 3) := by decide +kernel
theorem dX8_addBox_15 : decode cX8_addBox 15 = .ok (.iconst 1, 1) := by decide +kernel
theorem dX8_addBox_16 : decode cX8_addBox 16 = .ok (.iadd, 1) := by decide +kernel
theorem dX8_addBox_17 : decode cX8_addBox 17 = .ok (.putfield 15, 3) := by decide +kernel
theorem dX8_addBox_20 : decode cX8_addBox 20 = .ok (.aload_n 0, 1) := by decide +kernel
theorem dX8_addBox_21 : decode cX8_addBox 21 = .ok (.aload_n 0, 1) := by decide +kernel
theorem dX8_addBox_22 : decode cX8_addBox 22 = .ok (.getfield 15, 3) := by decide +kernel
theorem dX8_addBox_25 : decode cX8_addBox 25 = .ok (.iconst 1, 1) := by decide +kernel
theorem dX8_addBox_26 : decode cX8_addBox 26 = .ok (.isub, 1) := by decide +kernel
theorem dX8_addBox_27 : decode cX8_addBox 27 = .ok (.invokevirtual 42, 3) := by decide +kernel
theorem dX8_addBox_30 : decode cX8_addBox 30 = .ok (.areturn, 1) := by decide +kernel
def mi_X8_addBox : MI := (RX8, yX8_addBox, cX8_addBox, 1, some (.object "MailSessions$Box"), [], { frames := 2, cells := 0, slots := 0, locals := 33 })
theorem ok_X8_addBox : mOK mi_X8_addBox 0 := ⟨rfl, cw_X8_addBox, ini_X8, ⟨rfl, by decide⟩, by decide, by decide, rfl⟩
theorem v_X8_addBox (this : Nat) (M : Mem) : V mi_X8_addBox 0 [(0, .ref this)] [] M 0 0 (f_X8_addBox this M) wQ := by
  unfold f_X8_addBox
  refine V_ob fun _ _ => ?_
  refine V_aload_n dX8_addBox_0 rfl 0 rfl ?_
  refine V_getI dX8_addBox_1 rfl (ci := 7) (T := TX8) rfl (by decide) fl_X8_15 (fun x1 => ?_)
  refine V_iconst (x := 3) dX8_addBox_4 rfl rfl ?_
  refine V_icmp_lt (q := 10) (q2 := 8) dX8_addBox_5 (by decide) rfl ?_ ?_
  · refine V_aload_n dX8_addBox_10 rfl 0 rfl ?_
    refine V_dup dX8_addBox_11 rfl rfl ?_
    refine V_getI dX8_addBox_12 rfl (ci := 7) (T := TX8) rfl (by decide) fl_X8_15 (fun x2 => ?_)
    refine V_iconst (x := 1) dX8_addBox_15 rfl rfl ?_
    refine V_iadd dX8_addBox_16 rfl ?_
    refine V_putI dX8_addBox_17 rfl (ci := 7) (T := TX8) rfl (by decide) fl_X8_15 rfl rfl (fun M3 => ?_)
    refine V_aload_n dX8_addBox_20 rfl 0 rfl ?_
    refine V_aload_n dX8_addBox_21 rfl 0 rfl ?_
    refine V_getI dX8_addBox_22 rfl (ci := 7) (T := TX8) rfl (by decide) fl_X8_15 (fun x4 => ?_)
    refine V_iconst (x := 1) dX8_addBox_25 rfl rfl ?_
    refine V_isub dX8_addBox_26 rfl ?_
    refine V_cVeQ (As := [.int (x4 - 1)]) (k_X8_boxAt this (x4 - 1) M3) (fun _ h => o_X8_boxAt h) ok_X8_boxAt im_X8_boxAt se_X8_boxAt rfl (ci := 7) rfl ml_X8_42 ⟨⟨(Nat.le_of_ble_eq_true rfl), (Nat.le_of_ble_eq_true rfl)⟩, (Nat.le_of_ble_eq_true rfl), (Nat.le_of_ble_eq_true rfl)⟩ dX8_addBox_27 rfl rfl rfl (Nat.le_of_ble_eq_true rfl) rfl rfl (fun x5 => ?_)
    exact V_aret (v := x5) dX8_addBox_30 rfl (Or.inl ⟨_, rfl⟩) rfl ⟨(Nat.le_of_ble_eq_true rfl), (Nat.le_of_ble_eq_true rfl)⟩
  · refine V_null dX8_addBox_8 rfl ?_
    exact V_aret (v := none) dX8_addBox_9 rfl (Or.inl ⟨_, rfl⟩) rfl ⟨(Nat.le_of_ble_eq_true rfl), (Nat.le_of_ble_eq_true rfl)⟩
theorem k_X8_addBox (this : Nat) (M : Mem) : K mi_X8_addBox [.ref this] M (f_X8_addBox this M) wQ := K_of_V ok_X8_addBox (Nat.le_of_ble_eq_true rfl) (v_X8_addBox this M)
theorem o_X8_addBox {this : Nat} {M : Mem} {x} (h : f_X8_addBox this M = some x) : isO M 7 this = true := (ob_of h).1
theorem dX8_sessionAt_0 : decode cX8_sessionAt 0 = .ok (.iload_n 1, 1) := by decide +kernel
theorem dX8_sessionAt_1 : decode cX8_sessionAt 1 = .ok (.ifCond .lt 29, 3) := by decide +kernel
theorem dX8_sessionAt_4 : decode cX8_sessionAt 4 = .ok (.iload_n 1, 1) := by decide +kernel
theorem dX8_sessionAt_5 : decode cX8_sessionAt 5 = .ok (.aload_n 0, 1) := by decide +kernel
theorem dX8_sessionAt_6 : decode cX8_sessionAt 6 = .ok (.getfield 18, 3) := by decide +kernel
theorem dX8_sessionAt_9 : decode cX8_sessionAt 9 = .ok (.if_icmp .ge 21, 3) := by decide +kernel
theorem dX8_sessionAt_12 : decode cX8_sessionAt 12 = .ok (.iload_n 1, 1) := by decide +kernel
theorem dX8_sessionAt_13 : decode cX8_sessionAt 13 = .ok (.aload_n 0, 1) := by decide +kernel
theorem dX8_sessionAt_14 : decode cX8_sessionAt 14 = .ok (.getfield 30, 3) := by decide +kernel
theorem dX8_sessionAt_17 : decode cX8_sessionAt 17 = .ok (.arraylength, 1) := by decide +kernel
theorem dX8_sessionAt_18 : decode cX8_sessionAt 18 = .ok (.if_icmp .ge 12, 3) := by decide +kernel
theorem dX8_sessionAt_21 : decode cX8_sessionAt 21 = .ok (.aload_n 0, 1) := by decide +kernel
theorem dX8_sessionAt_22 : decode cX8_sessionAt 22 = .ok (.getfield 30, 3) := by decide +kernel
theorem dX8_sessionAt_25 : decode cX8_sessionAt 25 = .ok (.iload_n 1, 1) := by decide +kernel
theorem dX8_sessionAt_26 : decode cX8_sessionAt 26 = .ok (.aaload, 1) := by decide +kernel
theorem dX8_sessionAt_27 : decode cX8_sessionAt 27 = .ok (.goto 4, 3) := by decide +kernel
theorem dX8_sessionAt_30 : decode cX8_sessionAt 30 = .ok (.aconst_null, 1) := by decide +kernel
theorem dX8_sessionAt_31 : decode cX8_sessionAt 31 = .ok (.areturn, 1) := by decide +kernel
def mi_X8_sessionAt : MI := (RX8, yX8_sessionAt, cX8_sessionAt, 2, some (.object "MailSessions$Session"), [], { frames := 1, cells := 0, slots := 0, locals := 12 })
theorem ok_X8_sessionAt : mOK mi_X8_sessionAt 1 := ⟨rfl, cw_X8_sessionAt, ini_X8, ⟨rfl, by decide⟩, by decide, by decide, rfl⟩
theorem v_X8_sessionAt (this : Nat) (a1 : Int32) (M : Mem) : V mi_X8_sessionAt 0 [(0, .ref this), (1, .int a1)] [] M 0 0 (f_X8_sessionAt this a1 M) (eQ M) := by
  unfold f_X8_sessionAt
  refine V_ob fun _ _ => ?_
  refine V_iload_n dX8_sessionAt_0 rfl 1 rfl ?_
  refine V_if_lt (q := 30) (q2 := 4) dX8_sessionAt_1 (by decide) rfl ?_ ?_
  · refine V_null dX8_sessionAt_30 rfl ?_
    exact V_aret (v := none) dX8_sessionAt_31 rfl (Or.inl ⟨_, rfl⟩) rfl ⟨(Nat.le_of_ble_eq_true rfl), (Nat.le_of_ble_eq_true rfl)⟩
  · refine V_iload_n dX8_sessionAt_4 rfl 1 rfl ?_
    refine V_aload_n dX8_sessionAt_5 rfl 0 rfl ?_
    refine V_getI dX8_sessionAt_6 rfl (ci := 7) (T := TX8) rfl (by decide) fl_X8_18 (fun x1 => ?_)
    refine V_icmp_ge (q := 30) (q2 := 12) dX8_sessionAt_9 (by decide) rfl ?_ ?_
    · refine V_null dX8_sessionAt_30 rfl ?_
      exact V_aret (v := none) dX8_sessionAt_31 rfl (Or.inl ⟨_, rfl⟩) rfl ⟨(Nat.le_of_ble_eq_true rfl), (Nat.le_of_ble_eq_true rfl)⟩
    · refine V_iload_n dX8_sessionAt_12 rfl 1 rfl ?_
      refine V_aload_n dX8_sessionAt_13 rfl 0 rfl ?_
      refine V_getR dX8_sessionAt_14 rfl (ci := 7) (T := TX8) rfl (by decide) fl_X8_30 (fun x2 => ?_)
      refine V_arraylength dX8_sessionAt_17 rfl (fun x3 => ?_)
      refine V_icmp_ge (q := 30) (q2 := 21) dX8_sessionAt_18 (by decide) rfl ?_ ?_
      · refine V_null dX8_sessionAt_30 rfl ?_
        exact V_aret (v := none) dX8_sessionAt_31 rfl (Or.inl ⟨_, rfl⟩) rfl ⟨(Nat.le_of_ble_eq_true rfl), (Nat.le_of_ble_eq_true rfl)⟩
      · refine V_aload_n dX8_sessionAt_21 rfl 0 rfl ?_
        refine V_getR dX8_sessionAt_22 rfl (ci := 7) (T := TX8) rfl (by decide) fl_X8_30 (fun x4 => ?_)
        refine V_iload_n dX8_sessionAt_25 rfl 1 rfl ?_
        refine V_aaload dX8_sessionAt_26 rfl rfl (fun x5 => ?_)
        refine V_goto (q := 31) dX8_sessionAt_27 (by decide) ?_
        exact V_aret (v := x5) dX8_sessionAt_31 rfl (Or.inl ⟨_, rfl⟩) rfl ⟨(Nat.le_of_ble_eq_true rfl), (Nat.le_of_ble_eq_true rfl)⟩
theorem k_X8_sessionAt (this : Nat) (a1 : Int32) (M : Mem) : K mi_X8_sessionAt [.ref this, .int a1] M (f_X8_sessionAt this a1 M) (eQ M) := K_of_V ok_X8_sessionAt (Nat.le_of_ble_eq_true rfl) (v_X8_sessionAt this a1 M)
theorem o_X8_sessionAt {this : Nat} {a1 : Int32} {M : Mem} {x} (h : f_X8_sessionAt this a1 M = some x) : isO M 7 this = true := (ob_of h).1
theorem dX8_addSession_0 : decode cX8_addSession 0 = .ok (.aload_n 0, 1) := by decide +kernel
theorem dX8_addSession_1 : decode cX8_addSession 1 = .ok (.getfield 18, 3) := by decide +kernel
theorem dX8_addSession_4 : decode cX8_addSession 4 = .ok (.iconst 4, 1) := by decide +kernel
theorem dX8_addSession_5 : decode cX8_addSession 5 = .ok (.if_icmp .lt 5, 3) := by decide +kernel
theorem dX8_addSession_8 : decode cX8_addSession 8 = .ok (.aconst_null, 1) := by decide +kernel
theorem dX8_addSession_9 : decode cX8_addSession 9 = .ok (.areturn, 1) := by decide +kernel
theorem dX8_addSession_10 : decode cX8_addSession 10 = .ok (.aload_n 0, 1) := by decide +kernel
theorem dX8_addSession_11 : decode cX8_addSession 11 = .ok (.dup, 1) := by decide +kernel
theorem dX8_addSession_12 : decode cX8_addSession 12 = .ok (.getfield 18, 3) := by decide +kernel
theorem dX8_addSession_15 : decode cX8_addSession 15 = .ok (.iconst 1, 1) := by decide +kernel
theorem dX8_addSession_16 : decode cX8_addSession 16 = .ok (.iadd, 1) := by decide +kernel
theorem dX8_addSession_17 : decode cX8_addSession 17 = .ok (.putfield 18, 3) := by decide +kernel
theorem dX8_addSession_20 : decode cX8_addSession 20 = .ok (.aload_n 0, 1) := by decide +kernel
theorem dX8_addSession_21 : decode cX8_addSession 21 = .ok (.aload_n 0, 1) := by decide +kernel
theorem dX8_addSession_22 : decode cX8_addSession 22 = .ok (.getfield 18, 3) := by decide +kernel
theorem dX8_addSession_25 : decode cX8_addSession 25 = .ok (.iconst 1, 1) := by decide +kernel
theorem dX8_addSession_26 : decode cX8_addSession 26 = .ok (.isub, 1) := by decide +kernel
theorem dX8_addSession_27 : decode cX8_addSession 27 = .ok (.invokevirtual 54, 3) := by decide +kernel
theorem dX8_addSession_30 : decode cX8_addSession 30 = .ok (.areturn, 1) := by decide +kernel
def mi_X8_addSession : MI := (RX8, yX8_addSession, cX8_addSession, 1, some (.object "MailSessions$Session"), [], { frames := 2, cells := 0, slots := 0, locals := 33 })
theorem ok_X8_addSession : mOK mi_X8_addSession 0 := ⟨rfl, cw_X8_addSession, ini_X8, ⟨rfl, by decide⟩, by decide, by decide, rfl⟩
theorem v_X8_addSession (this : Nat) (M : Mem) : V mi_X8_addSession 0 [(0, .ref this)] [] M 0 0 (f_X8_addSession this M) wQ := by
  unfold f_X8_addSession
  refine V_ob fun _ _ => ?_
  refine V_aload_n dX8_addSession_0 rfl 0 rfl ?_
  refine V_getI dX8_addSession_1 rfl (ci := 7) (T := TX8) rfl (by decide) fl_X8_18 (fun x1 => ?_)
  refine V_iconst (x := 4) dX8_addSession_4 rfl rfl ?_
  refine V_icmp_lt (q := 10) (q2 := 8) dX8_addSession_5 (by decide) rfl ?_ ?_
  · refine V_aload_n dX8_addSession_10 rfl 0 rfl ?_
    refine V_dup dX8_addSession_11 rfl rfl ?_
    refine V_getI dX8_addSession_12 rfl (ci := 7) (T := TX8) rfl (by decide) fl_X8_18 (fun x2 => ?_)
    refine V_iconst (x := 1) dX8_addSession_15 rfl rfl ?_
    refine V_iadd dX8_addSession_16 rfl ?_
    refine V_putI dX8_addSession_17 rfl (ci := 7) (T := TX8) rfl (by decide) fl_X8_18 rfl rfl (fun M3 => ?_)
    refine V_aload_n dX8_addSession_20 rfl 0 rfl ?_
    refine V_aload_n dX8_addSession_21 rfl 0 rfl ?_
    refine V_getI dX8_addSession_22 rfl (ci := 7) (T := TX8) rfl (by decide) fl_X8_18 (fun x4 => ?_)
    refine V_iconst (x := 1) dX8_addSession_25 rfl rfl ?_
    refine V_isub dX8_addSession_26 rfl ?_
    refine V_cVeQ (As := [.int (x4 - 1)]) (k_X8_sessionAt this (x4 - 1) M3) (fun _ h => o_X8_sessionAt h) ok_X8_sessionAt im_X8_sessionAt se_X8_sessionAt rfl (ci := 7) rfl ml_X8_54 ⟨⟨(Nat.le_of_ble_eq_true rfl), (Nat.le_of_ble_eq_true rfl)⟩, (Nat.le_of_ble_eq_true rfl), (Nat.le_of_ble_eq_true rfl)⟩ dX8_addSession_27 rfl rfl rfl (Nat.le_of_ble_eq_true rfl) rfl rfl (fun x5 => ?_)
    exact V_aret (v := x5) dX8_addSession_30 rfl (Or.inl ⟨_, rfl⟩) rfl ⟨(Nat.le_of_ble_eq_true rfl), (Nat.le_of_ble_eq_true rfl)⟩
  · refine V_null dX8_addSession_8 rfl ?_
    exact V_aret (v := none) dX8_addSession_9 rfl (Or.inl ⟨_, rfl⟩) rfl ⟨(Nat.le_of_ble_eq_true rfl), (Nat.le_of_ble_eq_true rfl)⟩
theorem k_X8_addSession (this : Nat) (M : Mem) : K mi_X8_addSession [.ref this] M (f_X8_addSession this M) wQ := K_of_V ok_X8_addSession (Nat.le_of_ble_eq_true rfl) (v_X8_addSession this M)
theorem o_X8_addSession {this : Nat} {M : Mem} {x} (h : f_X8_addSession this M = some x) : isO M 7 this = true := (ob_of h).1
theorem dX8_takeFrom_0 : decode cX8_takeFrom 0 = .ok (.aload_n 0, 1) := by decide +kernel
theorem dX8_takeFrom_1 : decode cX8_takeFrom 1 = .ok (.invokevirtual 39, 3) := by decide +kernel
theorem dX8_takeFrom_4 : decode cX8_takeFrom 4 = .ok (.aload_n 0, 1) := by decide +kernel
theorem dX8_takeFrom_5 : decode cX8_takeFrom 5 = .ok (.aload_n 1, 1) := by decide +kernel
theorem dX8_takeFrom_6 : decode cX8_takeFrom 6 = .ok (.getfield 9, 3) := by decide +kernel
theorem dX8_takeFrom_9 : decode cX8_takeFrom 9 = .ok (.putfield 9, 3) := by decide +kernel
theorem dX8_takeFrom_12 : decode cX8_takeFrom 12 = .ok (.iconst 0, 1) := by decide +kernel
theorem dX8_takeFrom_13 : decode cX8_takeFrom 13 = .ok (.istore_n 2, 1) := by decide +kernel
theorem dX8_takeFrom_14 : decode cX8_takeFrom 14 = .ok (.iload_n 2, 1) := by decide +kernel
theorem dX8_takeFrom_15 : decode cX8_takeFrom 15 = .ok (.aload_n 1, 1) := by decide +kernel
theorem dX8_takeFrom_16 : decode cX8_takeFrom 16 = .ok (.getfield 15, 3) := by decide +kernel
theorem dX8_takeFrom_19 : decode cX8_takeFrom 19 = .ok (.if_icmp .ge 36, 3) := by decide +kernel
theorem dX8_takeFrom_22 : decode cX8_takeFrom 22 = .ok (.aload_n 1, 1) := by decide +kernel
theorem dX8_takeFrom_23 : decode cX8_takeFrom 23 = .ok (.iload_n 2, 1) := by decide +kernel
theorem dX8_takeFrom_24 : decode cX8_takeFrom 24 = .ok (.invokevirtual 42, 3) := by decide +kernel
theorem dX8_takeFrom_27 : decode cX8_takeFrom 27 = .ok (.astore_n 3, 1) := by decide +kernel
theorem dX8_takeFrom_28 : decode cX8_takeFrom 28 = .ok (.aload_n 0, 1) := by decide +kernel
theorem dX8_takeFrom_29 : decode cX8_takeFrom 29 = .ok (.invokevirtual 46, 3) := by decide +kernel
theorem dX8_takeFrom_32 : decode cX8_takeFrom 32 = .ok (.astore 4, 2) := by decide +kernel
theorem dX8_takeFrom_34 : decode cX8_takeFrom 34 = .ok (.aload_n 3, 1) := by decide +kernel
theorem dX8_takeFrom_35 : decode cX8_takeFrom 35 = .ok (.ifnull 14, 3) := by decide +kernel
theorem dX8_takeFrom_38 : decode cX8_takeFrom 38 = .ok (.aload 4, 2) := by decide +kernel
theorem dX8_takeFrom_40 : decode cX8_takeFrom 40 = .ok (.ifnull 9, 3) := by decide +kernel
theorem dX8_takeFrom_43 : decode cX8_takeFrom 43 = .ok (.aload 4, 2) := by decide +kernel
theorem dX8_takeFrom_45 : decode cX8_takeFrom 45 = .ok (.aload_n 3, 1) := by decide +kernel
theorem dX8_takeFrom_46 : decode cX8_takeFrom 46 = .ok (.invokevirtual 50, 3) := by decide +kernel
theorem dX8_takeFrom_49 : decode cX8_takeFrom 49 = .ok (.iinc 2 1, 3) := by decide +kernel
theorem dX8_takeFrom_52 : decode cX8_takeFrom 52 = .ok (.goto (-38), 3) := by decide +kernel
theorem dX8_takeFrom_55 : decode cX8_takeFrom 55 = .ok (.iconst 0, 1) := by decide +kernel
theorem dX8_takeFrom_56 : decode cX8_takeFrom 56 = .ok (.istore_n 2, 1) := by decide +kernel
theorem dX8_takeFrom_57 : decode cX8_takeFrom 57 = .ok (.iload_n 2, 1) := by decide +kernel
theorem dX8_takeFrom_58 : decode cX8_takeFrom 58 = .ok (.aload_n 1, 1) := by decide +kernel
theorem dX8_takeFrom_59 : decode cX8_takeFrom 59 = .ok (.getfield 18, 3) := by decide +kernel
theorem dX8_takeFrom_62 : decode cX8_takeFrom 62 = .ok (.if_icmp .ge 36, 3) := by decide +kernel
theorem dX8_takeFrom_65 : decode cX8_takeFrom 65 = .ok (.aload_n 1, 1) := by decide +kernel
theorem dX8_takeFrom_66 : decode cX8_takeFrom 66 = .ok (.iload_n 2, 1) := by decide +kernel
theorem dX8_takeFrom_67 : decode cX8_takeFrom 67 = .ok (.invokevirtual 54, 3) := by decide +kernel
theorem dX8_takeFrom_70 : decode cX8_takeFrom 70 = .ok (.astore_n 3, 1) := by decide +kernel
theorem dX8_takeFrom_71 : decode cX8_takeFrom 71 = .ok (.aload_n 0, 1) := by decide +kernel
theorem dX8_takeFrom_72 : decode cX8_takeFrom 72 = .ok (.invokevirtual 58, 3) := by decide +kernel
theorem dX8_takeFrom_75 : decode cX8_takeFrom 75 = .ok (.astore 4, 2) := by decide +kernel
theorem dX8_takeFrom_77 : decode cX8_takeFrom 77 = .ok (.aload_n 3, 1) := by decide +kernel
theorem dX8_takeFrom_78 : decode cX8_takeFrom 78 = .ok (.ifnull 14, 3) := by decide +kernel
theorem dX8_takeFrom_81 : decode cX8_takeFrom 81 = .ok (.aload 4, 2) := by decide +kernel
theorem dX8_takeFrom_83 : decode cX8_takeFrom 83 = .ok (.ifnull 9, 3) := by decide +kernel
theorem dX8_takeFrom_86 : decode cX8_takeFrom 86 = .ok (.aload 4, 2) := by decide +kernel
theorem dX8_takeFrom_88 : decode cX8_takeFrom 88 = .ok (.aload_n 3, 1) := by decide +kernel
theorem dX8_takeFrom_89 : decode cX8_takeFrom 89 = .ok (.invokevirtual 62, 3) := by decide +kernel
theorem dX8_takeFrom_92 : decode cX8_takeFrom 92 = .ok (.iinc 2 1, 3) := by decide +kernel
theorem dX8_takeFrom_95 : decode cX8_takeFrom 95 = .ok (.goto (-38), 3) := by decide +kernel
theorem dX8_takeFrom_98 : decode cX8_takeFrom 98 = .ok (.return_, 1) := by decide +kernel
def mi_X8_takeFrom : MI := (RX8, yX8_takeFrom, cX8_takeFrom, 5, none, [], { frames := 3, cells := 0, slots := 0, locals := 55 })
theorem ok_X8_takeFrom : mOK mi_X8_takeFrom 1 := ⟨rfl, cw_X8_takeFrom, ini_X8, ⟨rfl, by decide⟩, by decide, by decide, rfl⟩
theorem v_X8_takeFrom_92 (rc57 : Nat → Nat → Int32 → Mem → Option Mem) (h57 : ∀ (l0 : Nat) (l1 : Nat) (l2 : Int32) (M : Mem), V mi_X8_takeFrom 57 [(0, .ref l0), (1, .ref l1), (2, .int l2)] [] M 0 0 (rc57 l0 l1 l2 M) wV) (this : Nat) (l1 : Nat) (l2 : Int32) (M : Mem) : V mi_X8_takeFrom 92 [(0, .ref this), (1, .ref l1), (2, .int l2)] [] M 0 0 (f_X8_takeFrom_92 rc57 this l1 l2 M) wV := by
  unfold f_X8_takeFrom_92
  refine V_iinc (y := (l2 + 1)) (L' := [(0, .ref this), (1, .ref l1), (2, .int (l2 + 1))]) dX8_takeFrom_92 rfl 2 rfl rfl (by decide) rfl ?_
  refine V_goto (q := 57) dX8_takeFrom_95 (by decide) ?_
  exact h57 this l1 (l2 + 1) M
theorem v_X8_takeFrom_57 : ∀ (fu : Nat) (this : Nat) (l1 : Nat) (l2 : Int32) (M : Mem), V mi_X8_takeFrom 57 [(0, .ref this), (1, .ref l1), (2, .int l2)] [] M 0 0 (f_X8_takeFrom_57 fu this l1 l2 M) wV := by
  intro fu
  induction fu with
  | zero => intros; exact V_none
  | succ fu ih =>
    intro this l1 l2 M
    show V mi_X8_takeFrom 57 [(0, .ref this), (1, .ref l1), (2, .int l2)] [] M 0 0 (f_X8_takeFrom_57 (fu + 1) this l1 l2 M) wV
    unfold f_X8_takeFrom_57
    refine V_iload_n dX8_takeFrom_57 rfl 2 rfl ?_
    refine V_aload_n dX8_takeFrom_58 rfl 1 rfl ?_
    refine V_getI dX8_takeFrom_59 rfl (ci := 7) (T := TX8) rfl (by decide) fl_X8_18 (fun x6 => ?_)
    refine V_icmp_ge (q := 98) (q2 := 65) dX8_takeFrom_62 (by decide) rfl ?_ ?_
    · exact V_vret dX8_takeFrom_98 rfl rfl ⟨(Nat.le_of_ble_eq_true rfl), (Nat.le_of_ble_eq_true rfl)⟩
    · refine V_aload_n dX8_takeFrom_65 rfl 1 rfl ?_
      refine V_iload_n dX8_takeFrom_66 rfl 2 rfl ?_
      refine V_cVeQ (As := [.int l2]) (k_X8_sessionAt l1 l2 M) (fun _ h => o_X8_sessionAt h) ok_X8_sessionAt im_X8_sessionAt se_X8_sessionAt rfl (ci := 7) rfl ml_X8_54 ⟨⟨(Nat.le_of_ble_eq_true rfl), (Nat.le_of_ble_eq_true rfl)⟩, (Nat.le_of_ble_eq_true rfl), (Nat.le_of_ble_eq_true rfl)⟩ dX8_takeFrom_67 rfl rfl rfl (Nat.le_of_ble_eq_true rfl) rfl rfl (fun x7 => ?_)
      refine V_astore_nQ (L' := [(0, .ref this), (1, .ref l1), (2, .int l2), (3, va_rf x7)]) dX8_takeFrom_70 rfl (by decide) (by rcases (x7 : Option Nat) with _ | _ <;> rfl) ?_
      refine V_aload_n dX8_takeFrom_71 rfl 0 rfl ?_
      refine V_cVwQ (As := []) (k_X8_addSession this M) (fun _ h => o_X8_addSession h) ok_X8_addSession im_X8_addSession se_X8_addSession rfl (ci := 7) rfl ml_X8_58 ⟨⟨(Nat.le_of_ble_eq_true rfl), (Nat.le_of_ble_eq_true rfl)⟩, (Nat.le_of_ble_eq_true rfl), (Nat.le_of_ble_eq_true rfl)⟩ dX8_takeFrom_72 rfl rfl rfl (Nat.le_of_ble_eq_true rfl) rfl rfl (fun x8 M9 => ?_)
      refine V_astoreQ (L' := [(0, .ref this), (1, .ref l1), (2, .int l2), (3, va_rf x7), (4, va_rf x8)]) dX8_takeFrom_75 rfl (by decide) (by rcases (x7 : Option Nat) with _ | _ <;> rcases (x8 : Option Nat) with _ | _ <;> rfl) ?_
      refine V_aload_nQ dX8_takeFrom_77 rfl 3 rfl ?_
      rcases x7 with _ | r10
      · refine V_ifnull_n (q := 92) dX8_takeFrom_78 (by decide) ?_
        exact V_sub [0, 1, 2] rfl (v_X8_takeFrom_92 (f_X8_takeFrom_57 fu) ih this l1 l2 M9)
      · refine V_ifnull_r dX8_takeFrom_78 rfl ?_
        refine V_aloadQ dX8_takeFrom_81 rfl 4 rfl ?_
        rcases x8 with _ | r11
        · refine V_ifnull_n (q := 92) dX8_takeFrom_83 (by decide) ?_
          exact V_sub [0, 1, 2] rfl (v_X8_takeFrom_92 (f_X8_takeFrom_57 fu) ih this l1 l2 M9)
        · refine V_ifnull_r dX8_takeFrom_83 rfl ?_
          refine V_aload dX8_takeFrom_86 rfl 4 rfl ?_
          refine V_aload_n dX8_takeFrom_88 rfl 3 rfl ?_
          refine V_cVwV (As := [.ref r10]) (k_X7_takeFrom r11 r10 M9) (fun _ h => o_X7_takeFrom h) ok_X7_takeFrom im_X7_takeFrom se_X7_takeFrom rfl (ci := 6) rfl ml_X8_62 ⟨⟨(Nat.le_of_ble_eq_true rfl), (Nat.le_of_ble_eq_true rfl)⟩, (Nat.le_of_ble_eq_true rfl), (Nat.le_of_ble_eq_true rfl)⟩ dX8_takeFrom_89 rfl rfl rfl (Nat.le_of_ble_eq_true rfl) rfl rfl (fun M13 => ?_)
          exact V_sub [0, 1, 2] rfl (v_X8_takeFrom_92 (f_X8_takeFrom_57 fu) ih this l1 l2 M13)
theorem v_X8_takeFrom_49 (rc14 : Nat → Nat → Int32 → Mem → Option Mem) (h14 : ∀ (l0 : Nat) (l1 : Nat) (l2 : Int32) (M : Mem), V mi_X8_takeFrom 14 [(0, .ref l0), (1, .ref l1), (2, .int l2)] [] M 0 0 (rc14 l0 l1 l2 M) wV) (this : Nat) (l1 : Nat) (l2 : Int32) (M : Mem) : V mi_X8_takeFrom 49 [(0, .ref this), (1, .ref l1), (2, .int l2)] [] M 0 0 (f_X8_takeFrom_49 rc14 this l1 l2 M) wV := by
  unfold f_X8_takeFrom_49
  refine V_iinc (y := (l2 + 1)) (L' := [(0, .ref this), (1, .ref l1), (2, .int (l2 + 1))]) dX8_takeFrom_49 rfl 2 rfl rfl (by decide) rfl ?_
  refine V_goto (q := 14) dX8_takeFrom_52 (by decide) ?_
  exact h14 this l1 (l2 + 1) M
theorem v_X8_takeFrom_14 : ∀ (fu : Nat) (this : Nat) (l1 : Nat) (l2 : Int32) (M : Mem), V mi_X8_takeFrom 14 [(0, .ref this), (1, .ref l1), (2, .int l2)] [] M 0 0 (f_X8_takeFrom_14 fu this l1 l2 M) wV := by
  intro fu
  induction fu with
  | zero => intros; exact V_none
  | succ fu ih =>
    intro this l1 l2 M
    show V mi_X8_takeFrom 14 [(0, .ref this), (1, .ref l1), (2, .int l2)] [] M 0 0 (f_X8_takeFrom_14 (fu + 1) this l1 l2 M) wV
    unfold f_X8_takeFrom_14
    refine V_iload_n dX8_takeFrom_14 rfl 2 rfl ?_
    refine V_aload_n dX8_takeFrom_15 rfl 1 rfl ?_
    refine V_getI dX8_takeFrom_16 rfl (ci := 7) (T := TX8) rfl (by decide) fl_X8_15 (fun x5 => ?_)
    refine V_icmp_ge (q := 55) (q2 := 22) dX8_takeFrom_19 (by decide) rfl ?_ ?_
    · refine V_iconst (x := 0) dX8_takeFrom_55 rfl rfl ?_
      refine V_istore_n (L' := [(0, .ref this), (1, .ref l1), (2, .int 0)]) dX8_takeFrom_56 rfl (by decide) rfl ?_
      exact v_X8_takeFrom_57 FU this l1 0 M
    · refine V_aload_n dX8_takeFrom_22 rfl 1 rfl ?_
      refine V_iload_n dX8_takeFrom_23 rfl 2 rfl ?_
      refine V_cVeQ (As := [.int l2]) (k_X8_boxAt l1 l2 M) (fun _ h => o_X8_boxAt h) ok_X8_boxAt im_X8_boxAt se_X8_boxAt rfl (ci := 7) rfl ml_X8_42 ⟨⟨(Nat.le_of_ble_eq_true rfl), (Nat.le_of_ble_eq_true rfl)⟩, (Nat.le_of_ble_eq_true rfl), (Nat.le_of_ble_eq_true rfl)⟩ dX8_takeFrom_24 rfl rfl rfl (Nat.le_of_ble_eq_true rfl) rfl rfl (fun x14 => ?_)
      refine V_astore_nQ (L' := [(0, .ref this), (1, .ref l1), (2, .int l2), (3, va_rf x14)]) dX8_takeFrom_27 rfl (by decide) (by rcases (x14 : Option Nat) with _ | _ <;> rfl) ?_
      refine V_aload_n dX8_takeFrom_28 rfl 0 rfl ?_
      refine V_cVwQ (As := []) (k_X8_addBox this M) (fun _ h => o_X8_addBox h) ok_X8_addBox im_X8_addBox se_X8_addBox rfl (ci := 7) rfl ml_X8_46 ⟨⟨(Nat.le_of_ble_eq_true rfl), (Nat.le_of_ble_eq_true rfl)⟩, (Nat.le_of_ble_eq_true rfl), (Nat.le_of_ble_eq_true rfl)⟩ dX8_takeFrom_29 rfl rfl rfl (Nat.le_of_ble_eq_true rfl) rfl rfl (fun x15 M16 => ?_)
      refine V_astoreQ (L' := [(0, .ref this), (1, .ref l1), (2, .int l2), (3, va_rf x14), (4, va_rf x15)]) dX8_takeFrom_32 rfl (by decide) (by rcases (x14 : Option Nat) with _ | _ <;> rcases (x15 : Option Nat) with _ | _ <;> rfl) ?_
      refine V_aload_nQ dX8_takeFrom_34 rfl 3 rfl ?_
      rcases x14 with _ | r17
      · refine V_ifnull_n (q := 49) dX8_takeFrom_35 (by decide) ?_
        exact V_sub [0, 1, 2] rfl (v_X8_takeFrom_49 (f_X8_takeFrom_14 fu) ih this l1 l2 M16)
      · refine V_ifnull_r dX8_takeFrom_35 rfl ?_
        refine V_aloadQ dX8_takeFrom_38 rfl 4 rfl ?_
        rcases x15 with _ | r18
        · refine V_ifnull_n (q := 49) dX8_takeFrom_40 (by decide) ?_
          exact V_sub [0, 1, 2] rfl (v_X8_takeFrom_49 (f_X8_takeFrom_14 fu) ih this l1 l2 M16)
        · refine V_ifnull_r dX8_takeFrom_40 rfl ?_
          refine V_aload dX8_takeFrom_43 rfl 4 rfl ?_
          refine V_aload_n dX8_takeFrom_45 rfl 3 rfl ?_
          refine V_cVwV (As := [.ref r17]) (k_X0_takeFrom r18 r17 M16) (fun _ h => o_X0_takeFrom h) ok_X0_takeFrom im_X0_takeFrom se_X0_takeFrom rfl (ci := 0) rfl ml_X8_50 ⟨⟨(Nat.le_of_ble_eq_true rfl), (Nat.le_of_ble_eq_true rfl)⟩, (Nat.le_of_ble_eq_true rfl), (Nat.le_of_ble_eq_true rfl)⟩ dX8_takeFrom_46 rfl rfl rfl (Nat.le_of_ble_eq_true rfl) rfl rfl (fun M20 => ?_)
          exact V_sub [0, 1, 2] rfl (v_X8_takeFrom_49 (f_X8_takeFrom_14 fu) ih this l1 l2 M20)
theorem v_X8_takeFrom (this : Nat) (a1 : Nat) (M : Mem) : V mi_X8_takeFrom 0 [(0, .ref this), (1, .ref a1)] [] M 0 0 (f_X8_takeFrom this a1 M) wV := by
  unfold f_X8_takeFrom
  refine V_ob fun _ _ => ?_
  refine V_aload_n dX8_takeFrom_0 rfl 0 rfl ?_
  refine V_cVwV (As := []) (k_X8_clear this M) (fun _ h => o_X8_clear h) ok_X8_clear im_X8_clear se_X8_clear rfl (ci := 7) rfl ml_X8_39 ⟨⟨(Nat.le_of_ble_eq_true rfl), (Nat.le_of_ble_eq_true rfl)⟩, (Nat.le_of_ble_eq_true rfl), (Nat.le_of_ble_eq_true rfl)⟩ dX8_takeFrom_1 rfl rfl rfl (Nat.le_of_ble_eq_true rfl) rfl rfl (fun M2 => ?_)
  refine V_aload_n dX8_takeFrom_4 rfl 0 rfl ?_
  refine V_aload_n dX8_takeFrom_5 rfl 1 rfl ?_
  refine V_getI dX8_takeFrom_6 rfl (ci := 7) (T := TX8) rfl (by decide) fl_X8_9 (fun x3 => ?_)
  refine V_putI dX8_takeFrom_9 rfl (ci := 7) (T := TX8) rfl (by decide) fl_X8_9 rfl rfl (fun M4 => ?_)
  refine V_iconst (x := 0) dX8_takeFrom_12 rfl rfl ?_
  refine V_istore_n (L' := [(0, .ref this), (1, .ref a1), (2, .int 0)]) dX8_takeFrom_13 rfl (by decide) rfl ?_
  exact v_X8_takeFrom_14 FU this a1 0 M4
theorem k_X8_takeFrom (this : Nat) (a1 : Nat) (M : Mem) : K mi_X8_takeFrom [.ref this, .ref a1] M (f_X8_takeFrom this a1 M) wV := K_of_V ok_X8_takeFrom (Nat.le_of_ble_eq_true rfl) (v_X8_takeFrom this a1 M)
theorem o_X8_takeFrom {this : Nat} {a1 : Nat} {M : Mem} {x} (h : f_X8_takeFrom this a1 M = some x) : isO M 7 this = true := (ob_of h).1
theorem dX8_boxOf_0 : decode cX8_boxOf 0 = .ok (.aload_n 0, 1) := by decide +kernel
theorem dX8_boxOf_1 : decode cX8_boxOf 1 = .ok (.aload_n 1, 1) := by decide +kernel
theorem dX8_boxOf_2 : decode cX8_boxOf 2 = .ok (.getfield 65, 3) := by decide +kernel
theorem dX8_boxOf_5 : decode cX8_boxOf 5 = .ok (.invokevirtual 42, 3) := by decide +kernel
theorem dX8_boxOf_8 : decode cX8_boxOf 8 = .ok (.astore_n 2, 1) := by decide +kernel
theorem dX8_boxOf_9 : decode cX8_boxOf 9 = .ok (.aload_n 2, 1) := by decide +kernel
theorem dX8_boxOf_10 : decode cX8_boxOf 10 = .ok (.ifnonnull 10, 3) := by decide +kernel
theorem dX8_boxOf_13 : decode cX8_boxOf 13 = .ok (.aload_n 0, 1) := by decide +kernel
theorem dX8_boxOf_14 : decode cX8_boxOf 14 = .ok (.getfield 35, 3) := by decide +kernel
theorem dX8_boxOf_17 : decode cX8_boxOf 17 = .ok (.goto 4, 3) := by decide +kernel
theorem dX8_boxOf_20 : decode cX8_boxOf 20 = .ok (.aload_n 2, 1) := by decide +kernel
theorem dX8_boxOf_21 : decode cX8_boxOf 21 = .ok (.areturn, 1) := by decide +kernel
def mi_X8_boxOf : MI := (RX8, yX8_boxOf, cX8_boxOf, 3, some (.object "MailSessions$Box"), [], { frames := 2, cells := 0, slots := 0, locals := 33 })
theorem ok_X8_boxOf : mOK mi_X8_boxOf 1 := ⟨rfl, cw_X8_boxOf, ini_X8, ⟨rfl, by decide⟩, by decide, by decide, rfl⟩
theorem v_X8_boxOf (this : Nat) (a1 : Nat) (M : Mem) : V mi_X8_boxOf 0 [(0, .ref this), (1, .ref a1)] [] M 0 0 (f_X8_boxOf this a1 M) (eR M) := by
  unfold f_X8_boxOf
  refine V_ob fun _ _ => ?_
  refine V_aload_n dX8_boxOf_0 rfl 0 rfl ?_
  refine V_aload_n dX8_boxOf_1 rfl 1 rfl ?_
  refine V_getI dX8_boxOf_2 rfl (ci := 6) (T := TX7) rfl (by decide) fl_X8_65 (fun x1 => ?_)
  refine V_cVeQ (As := [.int x1]) (k_X8_boxAt this x1 M) (fun _ h => o_X8_boxAt h) ok_X8_boxAt im_X8_boxAt se_X8_boxAt rfl (ci := 7) rfl ml_X8_42 ⟨⟨(Nat.le_of_ble_eq_true rfl), (Nat.le_of_ble_eq_true rfl)⟩, (Nat.le_of_ble_eq_true rfl), (Nat.le_of_ble_eq_true rfl)⟩ dX8_boxOf_5 rfl rfl rfl (Nat.le_of_ble_eq_true rfl) rfl rfl (fun x2 => ?_)
  refine V_astore_nQ (L' := [(0, .ref this), (1, .ref a1), (2, va_rf x2)]) dX8_boxOf_8 rfl (by decide) (by rcases (x2 : Option Nat) with _ | _ <;> rfl) ?_
  refine V_aload_nQ dX8_boxOf_9 rfl 2 rfl ?_
  rcases x2 with _ | r3
  · refine V_ifnonnull_n dX8_boxOf_10 rfl ?_
    refine V_aload_n dX8_boxOf_13 rfl 0 rfl ?_
    refine V_getR dX8_boxOf_14 rfl (ci := 7) (T := TX8) rfl (by decide) fl_X8_35 (fun x4 => ?_)
    refine V_goto (q := 21) dX8_boxOf_17 (by decide) ?_
    exact V_aret (v := some x4) dX8_boxOf_21 rfl (Or.inl ⟨_, rfl⟩) rfl ⟨(Nat.le_of_ble_eq_true rfl), (Nat.le_of_ble_eq_true rfl)⟩
  · refine V_ifnonnull_r (q := 20) dX8_boxOf_10 (by decide) ?_
    refine V_aload_n dX8_boxOf_20 rfl 2 rfl ?_
    exact V_aret (v := some r3) dX8_boxOf_21 rfl (Or.inl ⟨_, rfl⟩) rfl ⟨(Nat.le_of_ble_eq_true rfl), (Nat.le_of_ble_eq_true rfl)⟩
theorem k_X8_boxOf (this : Nat) (a1 : Nat) (M : Mem) : K mi_X8_boxOf [.ref this, .ref a1] M (f_X8_boxOf this a1 M) (eR M) := K_of_V ok_X8_boxOf (Nat.le_of_ble_eq_true rfl) (v_X8_boxOf this a1 M)
theorem o_X8_boxOf {this : Nat} {a1 : Nat} {M : Mem} {x} (h : f_X8_boxOf this a1 M = some x) : isO M 7 this = true := (ob_of h).1
theorem dX8_boxNamed_0 : decode cX8_boxNamed 0 = .ok (.iconst 0, 1) := by decide +kernel
theorem dX8_boxNamed_1 : decode cX8_boxNamed 1 = .ok (.istore_n 3, 1) := by decide +kernel
theorem dX8_boxNamed_2 : decode cX8_boxNamed 2 = .ok (.iload_n 3, 1) := by decide +kernel
theorem dX8_boxNamed_3 : decode cX8_boxNamed 3 = .ok (.aload_n 0, 1) := by decide +kernel
theorem dX8_boxNamed_4 : decode cX8_boxNamed 4 = .ok (.getfield 15, 3) := by decide +kernel
theorem dX8_boxNamed_7 : decode cX8_boxNamed 7 = .ok (.if_icmp .ge 33, 3) := by decide +kernel
theorem dX8_boxNamed_10 : decode cX8_boxNamed 10 = .ok (.aload_n 0, 1) := by decide +kernel
theorem dX8_boxNamed_11 : decode cX8_boxNamed 11 = .ok (.iload_n 3, 1) := by decide +kernel
theorem dX8_boxNamed_12 : decode cX8_boxNamed 12 = .ok (.invokevirtual 42, 3) := by decide +kernel
theorem dX8_boxNamed_15 : decode cX8_boxNamed 15 = .ok (.astore 4, 2) := by decide +kernel
theorem dX8_boxNamed_17 : decode cX8_boxNamed 17 = .ok (.aload 4, 2) := by decide +kernel
theorem dX8_boxNamed_19 : decode cX8_boxNamed 19 = .ok (.ifnull 15, 3) := by decide +kernel
theorem dX8_boxNamed_22 : decode cX8_boxNamed 22 = .ok (.aload 4, 2) := by decide +kernel
theorem dX8_boxNamed_24 : decode cX8_boxNamed 24 = .ok (.getfield 68, 3) := by decide +kernel
theorem dX8_boxNamed_27 : decode cX8_boxNamed 27 = .ok (.lload_n 1, 1) := by decide +kernel
theorem dX8_boxNamed_28 : decode cX8_boxNamed 28 = .ok (.lcmp, 1) := by decide +kernel
theorem dX8_boxNamed_29 : decode cX8_boxNamed 29 = .ok (.ifCond .ne 5, 3) := by decide +kernel
theorem dX8_boxNamed_32 : decode cX8_boxNamed 32 = .ok (.iload_n 3, 1) := by decide +kernel
theorem dX8_boxNamed_33 : decode cX8_boxNamed 33 = .ok (.ireturn, 1) := by decide +kernel
theorem dX8_boxNamed_34 : decode cX8_boxNamed 34 = .ok (.iinc 3 1, 3) := by decide +kernel
theorem dX8_boxNamed_37 : decode cX8_boxNamed 37 = .ok (.goto (-35), 3) := by decide +kernel
theorem dX8_boxNamed_40 : decode cX8_boxNamed 40 = .ok (.iconst (-1), 1) := by decide +kernel
theorem dX8_boxNamed_41 : decode cX8_boxNamed 41 = .ok (.ireturn, 1) := by decide +kernel
def mi_X8_boxNamed : MI := (RX8, yX8_boxNamed, cX8_boxNamed, 5, some .int, [], { frames := 2, cells := 0, slots := 0, locals := 33 })
theorem ok_X8_boxNamed : mOK mi_X8_boxNamed 1 := ⟨rfl, cw_X8_boxNamed, ini_X8, ⟨rfl, by decide⟩, by decide, by decide, rfl⟩
theorem v_X8_boxNamed_34 (rc2 : Nat → Int64 → Int32 → Mem → Option Int32) (h2 : ∀ (l0 : Nat) (l1 : Int64) (l3 : Int32) (M : Mem), V mi_X8_boxNamed 2 [(0, .ref l0), (1, .long l1), (3, .int l3)] [] M 0 0 (rc2 l0 l1 l3 M) (eI M)) (this : Nat) (l1 : Int64) (l3 : Int32) (M : Mem) : V mi_X8_boxNamed 34 [(0, .ref this), (1, .long l1), (3, .int l3)] [] M 0 0 (f_X8_boxNamed_34 rc2 this l1 l3 M) (eI M) := by
  unfold f_X8_boxNamed_34
  refine V_iinc (y := (l3 + 1)) (L' := [(0, .ref this), (1, .long l1), (3, .int (l3 + 1))]) dX8_boxNamed_34 rfl 2 rfl rfl (by decide) rfl ?_
  refine V_goto (q := 2) dX8_boxNamed_37 (by decide) ?_
  exact h2 this l1 (l3 + 1) M
theorem v_X8_boxNamed_2 : ∀ (fu : Nat) (this : Nat) (l1 : Int64) (l3 : Int32) (M : Mem), V mi_X8_boxNamed 2 [(0, .ref this), (1, .long l1), (3, .int l3)] [] M 0 0 (f_X8_boxNamed_2 fu this l1 l3 M) (eI M) := by
  intro fu
  induction fu with
  | zero => intros; exact V_none
  | succ fu ih =>
    intro this l1 l3 M
    show V mi_X8_boxNamed 2 [(0, .ref this), (1, .long l1), (3, .int l3)] [] M 0 0 (f_X8_boxNamed_2 (fu + 1) this l1 l3 M) (eI M)
    unfold f_X8_boxNamed_2
    refine V_iload_n dX8_boxNamed_2 rfl 2 rfl ?_
    refine V_aload_n dX8_boxNamed_3 rfl 0 rfl ?_
    refine V_getI dX8_boxNamed_4 rfl (ci := 7) (T := TX8) rfl (by decide) fl_X8_15 (fun x1 => ?_)
    refine V_icmp_ge (q := 40) (q2 := 10) dX8_boxNamed_7 (by decide) rfl ?_ ?_
    · refine V_iconst (x := (-1)) dX8_boxNamed_40 rfl rfl ?_
      exact V_iret dX8_boxNamed_41 rfl rfl ⟨(Nat.le_of_ble_eq_true rfl), (Nat.le_of_ble_eq_true rfl)⟩
    · refine V_aload_n dX8_boxNamed_10 rfl 0 rfl ?_
      refine V_iload_n dX8_boxNamed_11 rfl 2 rfl ?_
      refine V_cVeQ (As := [.int l3]) (k_X8_boxAt this l3 M) (fun _ h => o_X8_boxAt h) ok_X8_boxAt im_X8_boxAt se_X8_boxAt rfl (ci := 7) rfl ml_X8_42 ⟨⟨(Nat.le_of_ble_eq_true rfl), (Nat.le_of_ble_eq_true rfl)⟩, (Nat.le_of_ble_eq_true rfl), (Nat.le_of_ble_eq_true rfl)⟩ dX8_boxNamed_12 rfl rfl rfl (Nat.le_of_ble_eq_true rfl) rfl rfl (fun x2 => ?_)
      refine V_astoreQ (L' := [(0, .ref this), (1, .long l1), (3, .int l3), (4, va_rf x2)]) dX8_boxNamed_15 rfl (by decide) (by rcases (x2 : Option Nat) with _ | _ <;> rfl) ?_
      refine V_aloadQ dX8_boxNamed_17 rfl 3 rfl ?_
      rcases x2 with _ | r3
      · refine V_ifnull_n (q := 34) dX8_boxNamed_19 (by decide) ?_
        exact V_sub [0, 1, 2] rfl (v_X8_boxNamed_34 (f_X8_boxNamed_2 fu) ih this l1 l3 M)
      · refine V_ifnull_r dX8_boxNamed_19 rfl ?_
        refine V_aload dX8_boxNamed_22 rfl 3 rfl ?_
        refine V_getJ dX8_boxNamed_24 rfl (ci := 0) (T := TX0) rfl (by decide) fl_X8_68 (fun x4 => ?_)
        refine V_lload_n dX8_boxNamed_27 rfl 1 rfl ?_
        refine V_lcmp dX8_boxNamed_28 rfl ?_
        refine V_if_ne (q := 34) (q2 := 32) dX8_boxNamed_29 (by decide) rfl ?_ ?_
        · exact V_sub [0, 1, 2] rfl (v_X8_boxNamed_34 (f_X8_boxNamed_2 fu) ih this l1 l3 M)
        · refine V_iload_n dX8_boxNamed_32 rfl 2 rfl ?_
          exact V_iret dX8_boxNamed_33 rfl rfl ⟨(Nat.le_of_ble_eq_true rfl), (Nat.le_of_ble_eq_true rfl)⟩
theorem v_X8_boxNamed (this : Nat) (a1 : Int64) (M : Mem) : V mi_X8_boxNamed 0 [(0, .ref this), (1, .long a1)] [] M 0 0 (f_X8_boxNamed this a1 M) (eI M) := by
  unfold f_X8_boxNamed
  refine V_ob fun _ _ => ?_
  refine V_iconst (x := 0) dX8_boxNamed_0 rfl rfl ?_
  refine V_istore_n (L' := [(0, .ref this), (1, .long a1), (3, .int 0)]) dX8_boxNamed_1 rfl (by decide) rfl ?_
  exact v_X8_boxNamed_2 FU this a1 0 M
theorem k_X8_boxNamed (this : Nat) (a1 : Int64) (M : Mem) : K mi_X8_boxNamed [.ref this, .long a1] M (f_X8_boxNamed this a1 M) (eI M) := K_of_V ok_X8_boxNamed (Nat.le_of_ble_eq_true rfl) (v_X8_boxNamed this a1 M)
theorem o_X8_boxNamed {this : Nat} {a1 : Int64} {M : Mem} {x} (h : f_X8_boxNamed this a1 M = some x) : isO M 7 this = true := (ob_of h).1
theorem dX8_sessionNamed_0 : decode cX8_sessionNamed 0 = .ok (.iconst 0, 1) := by decide +kernel
theorem dX8_sessionNamed_1 : decode cX8_sessionNamed 1 = .ok (.istore_n 3, 1) := by decide +kernel
theorem dX8_sessionNamed_2 : decode cX8_sessionNamed 2 = .ok (.iload_n 3, 1) := by decide +kernel
theorem dX8_sessionNamed_3 : decode cX8_sessionNamed 3 = .ok (.aload_n 0, 1) := by decide +kernel
theorem dX8_sessionNamed_4 : decode cX8_sessionNamed 4 = .ok (.getfield 18, 3) := by decide +kernel
theorem dX8_sessionNamed_7 : decode cX8_sessionNamed 7 = .ok (.if_icmp .ge 33, 3) := by decide +kernel
theorem dX8_sessionNamed_10 : decode cX8_sessionNamed 10 = .ok (.aload_n 0, 1) := by decide +kernel
theorem dX8_sessionNamed_11 : decode cX8_sessionNamed 11 = .ok (.iload_n 3, 1) := by decide +kernel
theorem dX8_sessionNamed_12 : decode cX8_sessionNamed 12 = .ok (.invokevirtual 54, 3) := by decide +kernel
theorem dX8_sessionNamed_15 : decode cX8_sessionNamed 15 = .ok (.astore 4, 2) := by decide +kernel
theorem dX8_sessionNamed_17 : decode cX8_sessionNamed 17 = .ok (.aload 4, 2) := by decide +kernel
theorem dX8_sessionNamed_19 : decode cX8_sessionNamed 19 = .ok (.ifnull 15, 3) := by decide +kernel
theorem dX8_sessionNamed_22 : decode cX8_sessionNamed 22 = .ok (.aload 4, 2) := by decide +kernel
theorem dX8_sessionNamed_24 : decode cX8_sessionNamed 24 = .ok (.getfield 72, 3) := by decide +kernel
theorem dX8_sessionNamed_27 : decode cX8_sessionNamed 27 = .ok (.lload_n 1, 1) := by decide +kernel
theorem dX8_sessionNamed_28 : decode cX8_sessionNamed 28 = .ok (.lcmp, 1) := by decide +kernel
theorem dX8_sessionNamed_29 : decode cX8_sessionNamed 29 = .ok (.ifCond .ne 5, 3) := by decide +kernel
theorem dX8_sessionNamed_32 : decode cX8_sessionNamed 32 = .ok (.iload_n 3, 1) := by decide +kernel
theorem dX8_sessionNamed_33 : decode cX8_sessionNamed 33 = .ok (.ireturn, 1) := by decide +kernel
theorem dX8_sessionNamed_34 : decode cX8_sessionNamed 34 = .ok (.iinc 3 1, 3) := by decide +kernel
theorem dX8_sessionNamed_37 : decode cX8_sessionNamed 37 = .ok (.goto (-35), 3) := by decide +kernel
theorem dX8_sessionNamed_40 : decode cX8_sessionNamed 40 = .ok (.iconst (-1), 1) := by decide +kernel
theorem dX8_sessionNamed_41 : decode cX8_sessionNamed 41 = .ok (.ireturn, 1) := by decide +kernel
def mi_X8_sessionNamed : MI := (RX8, yX8_sessionNamed, cX8_sessionNamed, 5, some .int, [], { frames := 2, cells := 0, slots := 0, locals := 33 })
theorem ok_X8_sessionNamed : mOK mi_X8_sessionNamed 1 := ⟨rfl, cw_X8_sessionNamed, ini_X8, ⟨rfl, by decide⟩, by decide, by decide, rfl⟩
theorem v_X8_sessionNamed_34 (rc2 : Nat → Int64 → Int32 → Mem → Option Int32) (h2 : ∀ (l0 : Nat) (l1 : Int64) (l3 : Int32) (M : Mem), V mi_X8_sessionNamed 2 [(0, .ref l0), (1, .long l1), (3, .int l3)] [] M 0 0 (rc2 l0 l1 l3 M) (eI M)) (this : Nat) (l1 : Int64) (l3 : Int32) (M : Mem) : V mi_X8_sessionNamed 34 [(0, .ref this), (1, .long l1), (3, .int l3)] [] M 0 0 (f_X8_sessionNamed_34 rc2 this l1 l3 M) (eI M) := by
  unfold f_X8_sessionNamed_34
  refine V_iinc (y := (l3 + 1)) (L' := [(0, .ref this), (1, .long l1), (3, .int (l3 + 1))]) dX8_sessionNamed_34 rfl 2 rfl rfl (by decide) rfl ?_
  refine V_goto (q := 2) dX8_sessionNamed_37 (by decide) ?_
  exact h2 this l1 (l3 + 1) M
theorem v_X8_sessionNamed_2 : ∀ (fu : Nat) (this : Nat) (l1 : Int64) (l3 : Int32) (M : Mem), V mi_X8_sessionNamed 2 [(0, .ref this), (1, .long l1), (3, .int l3)] [] M 0 0 (f_X8_sessionNamed_2 fu this l1 l3 M) (eI M) := by
  intro fu
  induction fu with
  | zero => intros; exact V_none
  | succ fu ih =>
    intro this l1 l3 M
    show V mi_X8_sessionNamed 2 [(0, .ref this), (1, .long l1), (3, .int l3)] [] M 0 0 (f_X8_sessionNamed_2 (fu + 1) this l1 l3 M) (eI M)
    unfold f_X8_sessionNamed_2
    refine V_iload_n dX8_sessionNamed_2 rfl 2 rfl ?_
    refine V_aload_n dX8_sessionNamed_3 rfl 0 rfl ?_
    refine V_getI dX8_sessionNamed_4 rfl (ci := 7) (T := TX8) rfl (by decide) fl_X8_18 (fun x1 => ?_)
    refine V_icmp_ge (q := 40) (q2 := 10) dX8_sessionNamed_7 (by decide) rfl ?_ ?_
    · refine V_iconst (x := (-1)) dX8_sessionNamed_40 rfl rfl ?_
      exact V_iret dX8_sessionNamed_41 rfl rfl ⟨(Nat.le_of_ble_eq_true rfl), (Nat.le_of_ble_eq_true rfl)⟩
    · refine V_aload_n dX8_sessionNamed_10 rfl 0 rfl ?_
      refine V_iload_n dX8_sessionNamed_11 rfl 2 rfl ?_
      refine V_cVeQ (As := [.int l3]) (k_X8_sessionAt this l3 M) (fun _ h => o_X8_sessionAt h) ok_X8_sessionAt im_X8_sessionAt se_X8_sessionAt rfl (ci := 7) rfl ml_X8_54 ⟨⟨(Nat.le_of_ble_eq_true rfl), (Nat.le_of_ble_eq_true rfl)⟩, (Nat.le_of_ble_eq_true rfl), (Nat.le_of_ble_eq_true rfl)⟩ dX8_sessionNamed_12 rfl rfl rfl (Nat.le_of_ble_eq_true rfl) rfl rfl (fun x2 => ?_)
      refine V_astoreQ (L' := [(0, .ref this), (1, .long l1), (3, .int l3), (4, va_rf x2)]) dX8_sessionNamed_15 rfl (by decide) (by rcases (x2 : Option Nat) with _ | _ <;> rfl) ?_
      refine V_aloadQ dX8_sessionNamed_17 rfl 3 rfl ?_
      rcases x2 with _ | r3
      · refine V_ifnull_n (q := 34) dX8_sessionNamed_19 (by decide) ?_
        exact V_sub [0, 1, 2] rfl (v_X8_sessionNamed_34 (f_X8_sessionNamed_2 fu) ih this l1 l3 M)
      · refine V_ifnull_r dX8_sessionNamed_19 rfl ?_
        refine V_aload dX8_sessionNamed_22 rfl 3 rfl ?_
        refine V_getJ dX8_sessionNamed_24 rfl (ci := 6) (T := TX7) rfl (by decide) fl_X8_72 (fun x4 => ?_)
        refine V_lload_n dX8_sessionNamed_27 rfl 1 rfl ?_
        refine V_lcmp dX8_sessionNamed_28 rfl ?_
        refine V_if_ne (q := 34) (q2 := 32) dX8_sessionNamed_29 (by decide) rfl ?_ ?_
        · exact V_sub [0, 1, 2] rfl (v_X8_sessionNamed_34 (f_X8_sessionNamed_2 fu) ih this l1 l3 M)
        · refine V_iload_n dX8_sessionNamed_32 rfl 2 rfl ?_
          exact V_iret dX8_sessionNamed_33 rfl rfl ⟨(Nat.le_of_ble_eq_true rfl), (Nat.le_of_ble_eq_true rfl)⟩
theorem v_X8_sessionNamed (this : Nat) (a1 : Int64) (M : Mem) : V mi_X8_sessionNamed 0 [(0, .ref this), (1, .long a1)] [] M 0 0 (f_X8_sessionNamed this a1 M) (eI M) := by
  unfold f_X8_sessionNamed
  refine V_ob fun _ _ => ?_
  refine V_iconst (x := 0) dX8_sessionNamed_0 rfl rfl ?_
  refine V_istore_n (L' := [(0, .ref this), (1, .long a1), (3, .int 0)]) dX8_sessionNamed_1 rfl (by decide) rfl ?_
  exact v_X8_sessionNamed_2 FU this a1 0 M
theorem k_X8_sessionNamed (this : Nat) (a1 : Int64) (M : Mem) : K mi_X8_sessionNamed [.ref this, .long a1] M (f_X8_sessionNamed this a1 M) (eI M) := K_of_V ok_X8_sessionNamed (Nat.le_of_ble_eq_true rfl) (v_X8_sessionNamed this a1 M)
theorem o_X8_sessionNamed {this : Nat} {a1 : Int64} {M : Mem} {x} (h : f_X8_sessionNamed this a1 M = some x) : isO M 7 this = true := (ob_of h).1
theorem dX8_countMessages_0 : decode cX8_countMessages 0 = .ok (.iconst 0, 1) := by decide +kernel
theorem dX8_countMessages_1 : decode cX8_countMessages 1 = .ok (.istore_n 1, 1) := by decide +kernel
theorem dX8_countMessages_2 : decode cX8_countMessages 2 = .ok (.iconst 0, 1) := by decide +kernel
theorem dX8_countMessages_3 : decode cX8_countMessages 3 = .ok (.istore_n 2, 1) := by decide +kernel
theorem dX8_countMessages_4 : decode cX8_countMessages 4 = .ok (.iload_n 2, 1) := by decide +kernel
theorem dX8_countMessages_5 : decode cX8_countMessages 5 = .ok (.aload_n 0, 1) := by decide +kernel
theorem dX8_countMessages_6 : decode cX8_countMessages 6 = .ok (.getfield 15, 3) := by decide +kernel
theorem dX8_countMessages_9 : decode cX8_countMessages 9 = .ok (.if_icmp .ge 30, 3) := by decide +kernel
theorem dX8_countMessages_12 : decode cX8_countMessages 12 = .ok (.aload_n 0, 1) := by decide +kernel
theorem dX8_countMessages_13 : decode cX8_countMessages 13 = .ok (.iload_n 2, 1) := by decide +kernel
theorem dX8_countMessages_14 : decode cX8_countMessages 14 = .ok (.invokevirtual 42, 3) := by decide +kernel
theorem dX8_countMessages_17 : decode cX8_countMessages 17 = .ok (.astore_n 3, 1) := by decide +kernel
theorem dX8_countMessages_18 : decode cX8_countMessages 18 = .ok (.iload_n 1, 1) := by decide +kernel
theorem dX8_countMessages_19 : decode cX8_countMessages 19 = .ok (.aload_n 3, 1) := by decide +kernel
theorem dX8_countMessages_20 : decode cX8_countMessages 20 = .ok (.ifnonnull 7, 3) := by decide +kernel
theorem dX8_countMessages_23 : decode cX8_countMessages 23 = .ok (.iconst 0, 1) := by decide +kernel
theorem dX8_countMessages_24 : decode cX8_countMessages 24 = .ok (.goto 7, 3) := by decide +kernel
theorem dX8_countMessages_27 : decode cX8_countMessages 27 = .ok (.aload_n 3, 1) := by decide +kernel
theorem dX8_countMessages_28 : decode cX8_countMessages 28 = .ok (.invokevirtual 73, 3) := by decide +kernel
theorem dX8_countMessages_31 : decode cX8_countMessages 31 = .ok (.iadd, 1) := by decide +kernel
theorem dX8_countMessages_32 : decode cX8_countMessages 32 = .ok (.istore_n 1, 1) := by decide +kernel
theorem dX8_countMessages_33 : decode cX8_countMessages 33 = .ok (.iinc 2 1, 3) := by decide +kernel
theorem dX8_countMessages_36 : decode cX8_countMessages 36 = .ok (.goto (-32), 3) := by decide +kernel
theorem dX8_countMessages_39 : decode cX8_countMessages 39 = .ok (.iload_n 1, 1) := by decide +kernel
theorem dX8_countMessages_40 : decode cX8_countMessages 40 = .ok (.ireturn, 1) := by decide +kernel
def mi_X8_countMessages : MI := (RX8, yX8_countMessages, cX8_countMessages, 4, some .int, [], { frames := 3, cells := 0, slots := 0, locals := 52 })
theorem ok_X8_countMessages : mOK mi_X8_countMessages 0 := ⟨rfl, cw_X8_countMessages, ini_X8, ⟨rfl, by decide⟩, by decide, by decide, rfl⟩
theorem v_X8_countMessages_31 (rc4 : Nat → Int32 → Int32 → Mem → Option Int32) (h4 : ∀ (l0 : Nat) (l1 : Int32) (l2 : Int32) (M : Mem), V mi_X8_countMessages 4 [(0, .ref l0), (1, .int l1), (2, .int l2)] [] M 0 0 (rc4 l0 l1 l2 M) (eI M)) (this : Nat) (l2 : Int32) (s0 : Int32) (s1 : Int32) (M : Mem) : V mi_X8_countMessages 31 [(0, .ref this), (2, .int l2)] [.int s1, .int s0] M 0 0 (f_X8_countMessages_31 rc4 this l2 s0 s1 M) (eI M) := by
  unfold f_X8_countMessages_31
  refine V_iadd dX8_countMessages_31 rfl ?_
  refine V_istore_n (L' := [(0, .ref this), (1, .int (s0 + s1)), (2, .int l2)]) dX8_countMessages_32 rfl (by decide) rfl ?_
  refine V_iinc (y := (l2 + 1)) (L' := [(0, .ref this), (1, .int (s0 + s1)), (2, .int (l2 + 1))]) dX8_countMessages_33 rfl 2 rfl rfl (by decide) rfl ?_
  refine V_goto (q := 4) dX8_countMessages_36 (by decide) ?_
  exact h4 this (s0 + s1) (l2 + 1) M
theorem v_X8_countMessages_4 : ∀ (fu : Nat) (this : Nat) (l1 : Int32) (l2 : Int32) (M : Mem), V mi_X8_countMessages 4 [(0, .ref this), (1, .int l1), (2, .int l2)] [] M 0 0 (f_X8_countMessages_4 fu this l1 l2 M) (eI M) := by
  intro fu
  induction fu with
  | zero => intros; exact V_none
  | succ fu ih =>
    intro this l1 l2 M
    show V mi_X8_countMessages 4 [(0, .ref this), (1, .int l1), (2, .int l2)] [] M 0 0 (f_X8_countMessages_4 (fu + 1) this l1 l2 M) (eI M)
    unfold f_X8_countMessages_4
    refine V_iload_n dX8_countMessages_4 rfl 2 rfl ?_
    refine V_aload_n dX8_countMessages_5 rfl 0 rfl ?_
    refine V_getI dX8_countMessages_6 rfl (ci := 7) (T := TX8) rfl (by decide) fl_X8_15 (fun x1 => ?_)
    refine V_icmp_ge (q := 39) (q2 := 12) dX8_countMessages_9 (by decide) rfl ?_ ?_
    · refine V_iload_n dX8_countMessages_39 rfl 1 rfl ?_
      exact V_iret dX8_countMessages_40 rfl rfl ⟨(Nat.le_of_ble_eq_true rfl), (Nat.le_of_ble_eq_true rfl)⟩
    · refine V_aload_n dX8_countMessages_12 rfl 0 rfl ?_
      refine V_iload_n dX8_countMessages_13 rfl 2 rfl ?_
      refine V_cVeQ (As := [.int l2]) (k_X8_boxAt this l2 M) (fun _ h => o_X8_boxAt h) ok_X8_boxAt im_X8_boxAt se_X8_boxAt rfl (ci := 7) rfl ml_X8_42 ⟨⟨(Nat.le_of_ble_eq_true rfl), (Nat.le_of_ble_eq_true rfl)⟩, (Nat.le_of_ble_eq_true rfl), (Nat.le_of_ble_eq_true rfl)⟩ dX8_countMessages_14 rfl rfl rfl (Nat.le_of_ble_eq_true rfl) rfl rfl (fun x2 => ?_)
      refine V_astore_nQ (L' := [(0, .ref this), (1, .int l1), (2, .int l2), (3, va_rf x2)]) dX8_countMessages_17 rfl (by decide) (by rcases (x2 : Option Nat) with _ | _ <;> rfl) ?_
      refine V_iload_n dX8_countMessages_18 rfl 1 rfl ?_
      refine V_aload_nQ dX8_countMessages_19 rfl 3 rfl ?_
      rcases x2 with _ | r3
      · refine V_ifnonnull_n dX8_countMessages_20 rfl ?_
        refine V_iconst (x := 0) dX8_countMessages_23 rfl rfl ?_
        refine V_goto (q := 31) dX8_countMessages_24 (by decide) ?_
        exact V_sub [0, 2] rfl (v_X8_countMessages_31 (f_X8_countMessages_4 fu) ih this l2 l1 0 M)
      · refine V_ifnonnull_r (q := 27) dX8_countMessages_20 (by decide) ?_
        refine V_aload_n dX8_countMessages_27 rfl 3 rfl ?_
        refine V_cVeI (As := []) (k_X0_size r3 M) (fun _ h => o_X0_size h) ok_X0_size im_X0_size se_X0_size rfl (ci := 0) rfl ml_X8_73 ⟨⟨(Nat.le_of_ble_eq_true rfl), (Nat.le_of_ble_eq_true rfl)⟩, (Nat.le_of_ble_eq_true rfl), (Nat.le_of_ble_eq_true rfl)⟩ dX8_countMessages_28 rfl rfl rfl (Nat.le_of_ble_eq_true rfl) rfl rfl (fun x4 => ?_)
        exact V_sub [0, 2] rfl (v_X8_countMessages_31 (f_X8_countMessages_4 fu) ih this l2 l1 x4 M)
theorem v_X8_countMessages (this : Nat) (M : Mem) : V mi_X8_countMessages 0 [(0, .ref this)] [] M 0 0 (f_X8_countMessages this M) (eI M) := by
  unfold f_X8_countMessages
  refine V_ob fun _ _ => ?_
  refine V_iconst (x := 0) dX8_countMessages_0 rfl rfl ?_
  refine V_istore_n (L' := [(0, .ref this), (1, .int 0)]) dX8_countMessages_1 rfl (by decide) rfl ?_
  refine V_iconst (x := 0) dX8_countMessages_2 rfl rfl ?_
  refine V_istore_n (L' := [(0, .ref this), (1, .int 0), (2, .int 0)]) dX8_countMessages_3 rfl (by decide) rfl ?_
  exact v_X8_countMessages_4 FU this 0 0 M
theorem k_X8_countMessages (this : Nat) (M : Mem) : K mi_X8_countMessages [.ref this] M (f_X8_countMessages this M) (eI M) := K_of_V ok_X8_countMessages (Nat.le_of_ble_eq_true rfl) (v_X8_countMessages this M)
theorem o_X8_countMessages {this : Nat} {M : Mem} {x} (h : f_X8_countMessages this M = some x) : isO M 7 this = true := (ob_of h).1
theorem dX8_sessionsOf_0 : decode cX8_sessionsOf 0 = .ok (.iconst 0, 1) := by decide +kernel
theorem dX8_sessionsOf_1 : decode cX8_sessionsOf 1 = .ok (.istore_n 2, 1) := by decide +kernel
theorem dX8_sessionsOf_2 : decode cX8_sessionsOf 2 = .ok (.iconst 0, 1) := by decide +kernel
theorem dX8_sessionsOf_3 : decode cX8_sessionsOf 3 = .ok (.istore_n 3, 1) := by decide +kernel
theorem dX8_sessionsOf_4 : decode cX8_sessionsOf 4 = .ok (.iload_n 3, 1) := by decide +kernel
theorem dX8_sessionsOf_5 : decode cX8_sessionsOf 5 = .ok (.aload_n 0, 1) := by decide +kernel
theorem dX8_sessionsOf_6 : decode cX8_sessionsOf 6 = .ok (.getfield 18, 3) := by decide +kernel
theorem dX8_sessionsOf_9 : decode cX8_sessionsOf 9 = .ok (.if_icmp .ge 36, 3) := by decide +kernel
theorem dX8_sessionsOf_12 : decode cX8_sessionsOf 12 = .ok (.aload_n 0, 1) := by decide +kernel
theorem dX8_sessionsOf_13 : decode cX8_sessionsOf 13 = .ok (.iload_n 3, 1) := by decide +kernel
theorem dX8_sessionsOf_14 : decode cX8_sessionsOf 14 = .ok (.invokevirtual 54, 3) := by decide +kernel
theorem dX8_sessionsOf_17 : decode cX8_sessionsOf 17 = .ok (.astore 4, 2) := by decide +kernel
theorem dX8_sessionsOf_19 : decode cX8_sessionsOf 19 = .ok (.aload 4, 2) := by decide +kernel
theorem dX8_sessionsOf_21 : decode cX8_sessionsOf 21 = .ok (.ifnull 18, 3) := by decide +kernel
theorem dX8_sessionsOf_24 : decode cX8_sessionsOf 24 = .ok (.aload 4, 2) := by decide +kernel
theorem dX8_sessionsOf_26 : decode cX8_sessionsOf 26 = .ok (.getfield 65, 3) := by decide +kernel
theorem dX8_sessionsOf_29 : decode cX8_sessionsOf 29 = .ok (.iload_n 1, 1) := by decide +kernel
theorem dX8_sessionsOf_30 : decode cX8_sessionsOf 30 = .ok (.if_icmp .ne 9, 3) := by decide +kernel
theorem dX8_sessionsOf_33 : decode cX8_sessionsOf 33 = .ok (.iload_n 2, 1) := by decide +kernel
theorem dX8_sessionsOf_34 : decode cX8_sessionsOf 34 = .ok (.iconst 1, 1) := by decide +kernel
theorem dX8_sessionsOf_35 : decode cX8_sessionsOf 35 = .ok (.iload_n 3, 1) := by decide +kernel
theorem dX8_sessionsOf_36 : decode cX8_sessionsOf 36 = .ok (.ishl, 1) := by decide +kernel
theorem dX8_sessionsOf_37 : decode cX8_sessionsOf 37 = .ok (.ior, 1) := by decide +kernel
theorem dX8_sessionsOf_38 : decode cX8_sessionsOf 38 = .ok (.istore_n 2, 1) := by decide +kernel
theorem dX8_sessionsOf_39 : decode cX8_sessionsOf 39 = .ok (.iinc 3 1, 3) := by decide +kernel
theorem dX8_sessionsOf_42 : decode cX8_sessionsOf 42 = .ok (.goto (-38), 3) := by decide +kernel
theorem dX8_sessionsOf_45 : decode cX8_sessionsOf 45 = .ok (.iload_n 2, 1) := by decide +kernel
theorem dX8_sessionsOf_46 : decode cX8_sessionsOf 46 = .ok (.ireturn, 1) := by decide +kernel
def mi_X8_sessionsOf : MI := (RX8, yX8_sessionsOf, cX8_sessionsOf, 5, some .int, [], { frames := 2, cells := 0, slots := 0, locals := 33 })
theorem ok_X8_sessionsOf : mOK mi_X8_sessionsOf 1 := ⟨rfl, cw_X8_sessionsOf, ini_X8, ⟨rfl, by decide⟩, by decide, by decide, rfl⟩
theorem v_X8_sessionsOf_39 (rc4 : Nat → Int32 → Int32 → Int32 → Mem → Option Int32) (h4 : ∀ (l0 : Nat) (l1 : Int32) (l2 : Int32) (l3 : Int32) (M : Mem), V mi_X8_sessionsOf 4 [(0, .ref l0), (1, .int l1), (2, .int l2), (3, .int l3)] [] M 0 0 (rc4 l0 l1 l2 l3 M) (eI M)) (this : Nat) (l1 : Int32) (l2 : Int32) (l3 : Int32) (M : Mem) : V mi_X8_sessionsOf 39 [(0, .ref this), (1, .int l1), (2, .int l2), (3, .int l3)] [] M 0 0 (f_X8_sessionsOf_39 rc4 this l1 l2 l3 M) (eI M) := by
  unfold f_X8_sessionsOf_39
  refine V_iinc (y := (l3 + 1)) (L' := [(0, .ref this), (1, .int l1), (2, .int l2), (3, .int (l3 + 1))]) dX8_sessionsOf_39 rfl 3 rfl rfl (by decide) rfl ?_
  refine V_goto (q := 4) dX8_sessionsOf_42 (by decide) ?_
  exact h4 this l1 l2 (l3 + 1) M
theorem v_X8_sessionsOf_4 : ∀ (fu : Nat) (this : Nat) (l1 : Int32) (l2 : Int32) (l3 : Int32) (M : Mem), V mi_X8_sessionsOf 4 [(0, .ref this), (1, .int l1), (2, .int l2), (3, .int l3)] [] M 0 0 (f_X8_sessionsOf_4 fu this l1 l2 l3 M) (eI M) := by
  intro fu
  induction fu with
  | zero => intros; exact V_none
  | succ fu ih =>
    intro this l1 l2 l3 M
    show V mi_X8_sessionsOf 4 [(0, .ref this), (1, .int l1), (2, .int l2), (3, .int l3)] [] M 0 0 (f_X8_sessionsOf_4 (fu + 1) this l1 l2 l3 M) (eI M)
    unfold f_X8_sessionsOf_4
    refine V_iload_n dX8_sessionsOf_4 rfl 3 rfl ?_
    refine V_aload_n dX8_sessionsOf_5 rfl 0 rfl ?_
    refine V_getI dX8_sessionsOf_6 rfl (ci := 7) (T := TX8) rfl (by decide) fl_X8_18 (fun x1 => ?_)
    refine V_icmp_ge (q := 45) (q2 := 12) dX8_sessionsOf_9 (by decide) rfl ?_ ?_
    · refine V_iload_n dX8_sessionsOf_45 rfl 2 rfl ?_
      exact V_iret dX8_sessionsOf_46 rfl rfl ⟨(Nat.le_of_ble_eq_true rfl), (Nat.le_of_ble_eq_true rfl)⟩
    · refine V_aload_n dX8_sessionsOf_12 rfl 0 rfl ?_
      refine V_iload_n dX8_sessionsOf_13 rfl 3 rfl ?_
      refine V_cVeQ (As := [.int l3]) (k_X8_sessionAt this l3 M) (fun _ h => o_X8_sessionAt h) ok_X8_sessionAt im_X8_sessionAt se_X8_sessionAt rfl (ci := 7) rfl ml_X8_54 ⟨⟨(Nat.le_of_ble_eq_true rfl), (Nat.le_of_ble_eq_true rfl)⟩, (Nat.le_of_ble_eq_true rfl), (Nat.le_of_ble_eq_true rfl)⟩ dX8_sessionsOf_14 rfl rfl rfl (Nat.le_of_ble_eq_true rfl) rfl rfl (fun x2 => ?_)
      refine V_astoreQ (L' := [(0, .ref this), (1, .int l1), (2, .int l2), (3, .int l3), (4, va_rf x2)]) dX8_sessionsOf_17 rfl (by decide) (by rcases (x2 : Option Nat) with _ | _ <;> rfl) ?_
      refine V_aloadQ dX8_sessionsOf_19 rfl 4 rfl ?_
      rcases x2 with _ | r3
      · refine V_ifnull_n (q := 39) dX8_sessionsOf_21 (by decide) ?_
        exact V_sub [0, 1, 2, 3] rfl (v_X8_sessionsOf_39 (f_X8_sessionsOf_4 fu) ih this l1 l2 l3 M)
      · refine V_ifnull_r dX8_sessionsOf_21 rfl ?_
        refine V_aload dX8_sessionsOf_24 rfl 4 rfl ?_
        refine V_getI dX8_sessionsOf_26 rfl (ci := 6) (T := TX7) rfl (by decide) fl_X8_65 (fun x4 => ?_)
        refine V_iload_n dX8_sessionsOf_29 rfl 1 rfl ?_
        refine V_icmp_ne (q := 39) (q2 := 33) dX8_sessionsOf_30 (by decide) rfl ?_ ?_
        · exact V_sub [0, 1, 2, 3] rfl (v_X8_sessionsOf_39 (f_X8_sessionsOf_4 fu) ih this l1 l2 l3 M)
        · refine V_iload_n dX8_sessionsOf_33 rfl 2 rfl ?_
          refine V_iconst (x := 1) dX8_sessionsOf_34 rfl rfl ?_
          refine V_iload_n dX8_sessionsOf_35 rfl 3 rfl ?_
          refine V_ishl dX8_sessionsOf_36 rfl ?_
          refine V_ior dX8_sessionsOf_37 rfl ?_
          refine V_istore_n (L' := [(0, .ref this), (1, .int l1), (2, .int (l2 ||| (1 <<< (l3 &&& 31)))), (3, .int l3), (4, .ref r3)]) dX8_sessionsOf_38 rfl (by decide) rfl ?_
          exact V_sub [0, 1, 2, 3] rfl (v_X8_sessionsOf_39 (f_X8_sessionsOf_4 fu) ih this l1 (l2 ||| (1 <<< (l3 &&& 31))) l3 M)
theorem v_X8_sessionsOf (this : Nat) (a1 : Int32) (M : Mem) : V mi_X8_sessionsOf 0 [(0, .ref this), (1, .int a1)] [] M 0 0 (f_X8_sessionsOf this a1 M) (eI M) := by
  unfold f_X8_sessionsOf
  refine V_ob fun _ _ => ?_
  refine V_iconst (x := 0) dX8_sessionsOf_0 rfl rfl ?_
  refine V_istore_n (L' := [(0, .ref this), (1, .int a1), (2, .int 0)]) dX8_sessionsOf_1 rfl (by decide) rfl ?_
  refine V_iconst (x := 0) dX8_sessionsOf_2 rfl rfl ?_
  refine V_istore_n (L' := [(0, .ref this), (1, .int a1), (2, .int 0), (3, .int 0)]) dX8_sessionsOf_3 rfl (by decide) rfl ?_
  exact v_X8_sessionsOf_4 FU this a1 0 0 M
theorem k_X8_sessionsOf (this : Nat) (a1 : Int32) (M : Mem) : K mi_X8_sessionsOf [.ref this, .int a1] M (f_X8_sessionsOf this a1 M) (eI M) := K_of_V ok_X8_sessionsOf (Nat.le_of_ble_eq_true rfl) (v_X8_sessionsOf this a1 M)
theorem o_X8_sessionsOf {this : Nat} {a1 : Int32} {M : Mem} {x} (h : f_X8_sessionsOf this a1 M = some x) : isO M 7 this = true := (ob_of h).1
theorem dX8_sessionsToTell_0 : decode cX8_sessionsToTell 0 = .ok (.iconst 0, 1) := by decide +kernel
theorem dX8_sessionsToTell_1 : decode cX8_sessionsToTell 1 = .ok (.istore_n 1, 1) := by decide +kernel
theorem dX8_sessionsToTell_2 : decode cX8_sessionsToTell 2 = .ok (.iconst 0, 1) := by decide +kernel
theorem dX8_sessionsToTell_3 : decode cX8_sessionsToTell 3 = .ok (.istore_n 2, 1) := by decide +kernel
theorem dX8_sessionsToTell_4 : decode cX8_sessionsToTell 4 = .ok (.iload_n 2, 1) := by decide +kernel
theorem dX8_sessionsToTell_5 : decode cX8_sessionsToTell 5 = .ok (.aload_n 0, 1) := by decide +kernel
theorem dX8_sessionsToTell_6 : decode cX8_sessionsToTell 6 = .ok (.getfield 18, 3) := by decide +kernel
theorem dX8_sessionsToTell_9 : decode cX8_sessionsToTell 9 = .ok (.if_icmp .ge 37, 3) := by decide +kernel
theorem dX8_sessionsToTell_12 : decode cX8_sessionsToTell 12 = .ok (.aload_n 0, 1) := by decide +kernel
theorem dX8_sessionsToTell_13 : decode cX8_sessionsToTell 13 = .ok (.iload_n 2, 1) := by decide +kernel
theorem dX8_sessionsToTell_14 : decode cX8_sessionsToTell 14 = .ok (.invokevirtual 54, 3) := by decide +kernel
theorem dX8_sessionsToTell_17 : decode cX8_sessionsToTell 17 = .ok (.astore_n 3, 1) := by decide +kernel
theorem dX8_sessionsToTell_18 : decode cX8_sessionsToTell 18 = .ok (.aload_n 3, 1) := by decide +kernel
theorem dX8_sessionsToTell_19 : decode cX8_sessionsToTell 19 = .ok (.ifnull 21, 3) := by decide +kernel
theorem dX8_sessionsToTell_22 : decode cX8_sessionsToTell 22 = .ok (.aload_n 3, 1) := by decide +kernel
theorem dX8_sessionsToTell_23 : decode cX8_sessionsToTell 23 = .ok (.aload_n 0, 1) := by decide +kernel
theorem dX8_sessionsToTell_24 : decode cX8_sessionsToTell 24 = .ok (.aload_n 3, 1) := by decide +kernel
theorem dX8_sessionsToTell_25 : decode cX8_sessionsToTell 25 = .ok (.invokevirtual 81, 3) := by decide +kernel
theorem dX8_sessionsToTell_28 : decode cX8_sessionsToTell 28 = .ok (.invokevirtual 85, 3) := by decide +kernel
theorem dX8_sessionsToTell_31 : decode cX8_sessionsToTell 31 = .ok (.ifCond .le 9, 3) := by decide +kernel
theorem dX8_sessionsToTell_34 : decode cX8_sessionsToTell 34 = .ok (.iload_n 1, 1) := by decide +kernel
theorem dX8_sessionsToTell_35 : decode cX8_sessionsToTell 35 = .ok (.iconst 1, 1) := by decide +kernel
theorem dX8_sessionsToTell_36 : decode cX8_sessionsToTell 36 = .ok (.iload_n 2, 1) := by decide +kernel
theorem dX8_sessionsToTell_37 : decode cX8_sessionsToTell 37 = .ok (.ishl, 1) := by decide +kernel
theorem dX8_sessionsToTell_38 : decode cX8_sessionsToTell 38 = .ok (.ior, 1) := by decide +kernel
theorem dX8_sessionsToTell_39 : decode cX8_sessionsToTell 39 = .ok (.istore_n 1, 1) := by decide +kernel
theorem dX8_sessionsToTell_40 : decode cX8_sessionsToTell 40 = .ok (.iinc 2 1, 3) := by decide +kernel
theorem dX8_sessionsToTell_43 : decode cX8_sessionsToTell 43 = .ok (.goto (-39), 3) := by decide +kernel
theorem dX8_sessionsToTell_46 : decode cX8_sessionsToTell 46 = .ok (.iload_n 1, 1) := by decide +kernel
theorem dX8_sessionsToTell_47 : decode cX8_sessionsToTell 47 = .ok (.ireturn, 1) := by decide +kernel
def mi_X8_sessionsToTell : MI := (RX8, yX8_sessionsToTell, cX8_sessionsToTell, 4, some .int, [], { frames := 7, cells := 0, slots := 0, locals := 145 })
theorem ok_X8_sessionsToTell : mOK mi_X8_sessionsToTell 0 := ⟨rfl, cw_X8_sessionsToTell, ini_X8, ⟨rfl, by decide⟩, by decide, by decide, rfl⟩
theorem v_X8_sessionsToTell_40 (rc4 : Nat → Int32 → Int32 → Mem → Option Int32) (h4 : ∀ (l0 : Nat) (l1 : Int32) (l2 : Int32) (M : Mem), V mi_X8_sessionsToTell 4 [(0, .ref l0), (1, .int l1), (2, .int l2)] [] M 0 0 (rc4 l0 l1 l2 M) (eI M)) (this : Nat) (l1 : Int32) (l2 : Int32) (M : Mem) : V mi_X8_sessionsToTell 40 [(0, .ref this), (1, .int l1), (2, .int l2)] [] M 0 0 (f_X8_sessionsToTell_40 rc4 this l1 l2 M) (eI M) := by
  unfold f_X8_sessionsToTell_40
  refine V_iinc (y := (l2 + 1)) (L' := [(0, .ref this), (1, .int l1), (2, .int (l2 + 1))]) dX8_sessionsToTell_40 rfl 2 rfl rfl (by decide) rfl ?_
  refine V_goto (q := 4) dX8_sessionsToTell_43 (by decide) ?_
  exact h4 this l1 (l2 + 1) M
theorem v_X8_sessionsToTell_4 : ∀ (fu : Nat) (this : Nat) (l1 : Int32) (l2 : Int32) (M : Mem), V mi_X8_sessionsToTell 4 [(0, .ref this), (1, .int l1), (2, .int l2)] [] M 0 0 (f_X8_sessionsToTell_4 fu this l1 l2 M) (eI M) := by
  intro fu
  induction fu with
  | zero => intros; exact V_none
  | succ fu ih =>
    intro this l1 l2 M
    show V mi_X8_sessionsToTell 4 [(0, .ref this), (1, .int l1), (2, .int l2)] [] M 0 0 (f_X8_sessionsToTell_4 (fu + 1) this l1 l2 M) (eI M)
    unfold f_X8_sessionsToTell_4
    refine V_iload_n dX8_sessionsToTell_4 rfl 2 rfl ?_
    refine V_aload_n dX8_sessionsToTell_5 rfl 0 rfl ?_
    refine V_getI dX8_sessionsToTell_6 rfl (ci := 7) (T := TX8) rfl (by decide) fl_X8_18 (fun x1 => ?_)
    refine V_icmp_ge (q := 46) (q2 := 12) dX8_sessionsToTell_9 (by decide) rfl ?_ ?_
    · refine V_iload_n dX8_sessionsToTell_46 rfl 1 rfl ?_
      exact V_iret dX8_sessionsToTell_47 rfl rfl ⟨(Nat.le_of_ble_eq_true rfl), (Nat.le_of_ble_eq_true rfl)⟩
    · refine V_aload_n dX8_sessionsToTell_12 rfl 0 rfl ?_
      refine V_iload_n dX8_sessionsToTell_13 rfl 2 rfl ?_
      refine V_cVeQ (As := [.int l2]) (k_X8_sessionAt this l2 M) (fun _ h => o_X8_sessionAt h) ok_X8_sessionAt im_X8_sessionAt se_X8_sessionAt rfl (ci := 7) rfl ml_X8_54 ⟨⟨(Nat.le_of_ble_eq_true rfl), (Nat.le_of_ble_eq_true rfl)⟩, (Nat.le_of_ble_eq_true rfl), (Nat.le_of_ble_eq_true rfl)⟩ dX8_sessionsToTell_14 rfl rfl rfl (Nat.le_of_ble_eq_true rfl) rfl rfl (fun x2 => ?_)
      refine V_astore_nQ (L' := [(0, .ref this), (1, .int l1), (2, .int l2), (3, va_rf x2)]) dX8_sessionsToTell_17 rfl (by decide) (by rcases (x2 : Option Nat) with _ | _ <;> rfl) ?_
      refine V_aload_nQ dX8_sessionsToTell_18 rfl 3 rfl ?_
      rcases x2 with _ | r3
      · refine V_ifnull_n (q := 40) dX8_sessionsToTell_19 (by decide) ?_
        exact V_sub [0, 1, 2] rfl (v_X8_sessionsToTell_40 (f_X8_sessionsToTell_4 fu) ih this l1 l2 M)
      · refine V_ifnull_r dX8_sessionsToTell_19 rfl ?_
        refine V_aload_n dX8_sessionsToTell_22 rfl 3 rfl ?_
        refine V_aload_n dX8_sessionsToTell_23 rfl 0 rfl ?_
        refine V_aload_n dX8_sessionsToTell_24 rfl 3 rfl ?_
        refine V_cVeR (As := [.ref r3]) (k_X8_boxOf this r3 M) (fun _ h => o_X8_boxOf h) ok_X8_boxOf im_X8_boxOf se_X8_boxOf rfl (ci := 7) rfl ml_X8_81 ⟨⟨(Nat.le_of_ble_eq_true rfl), (Nat.le_of_ble_eq_true rfl)⟩, (Nat.le_of_ble_eq_true rfl), (Nat.le_of_ble_eq_true rfl)⟩ dX8_sessionsToTell_25 rfl rfl rfl (Nat.le_of_ble_eq_true rfl) rfl rfl (fun x4 => ?_)
        refine V_cVeI (As := [.ref x4]) (k_X7_countPending r3 x4 M) (fun _ h => o_X7_countPending h) ok_X7_countPending im_X7_countPending se_X7_countPending rfl (ci := 6) rfl ml_X8_85 ⟨⟨(Nat.le_of_ble_eq_true rfl), (Nat.le_of_ble_eq_true rfl)⟩, (Nat.le_of_ble_eq_true rfl), (Nat.le_of_ble_eq_true rfl)⟩ dX8_sessionsToTell_28 rfl rfl rfl (Nat.le_of_ble_eq_true rfl) rfl rfl (fun x5 => ?_)
        refine V_if_le (q := 40) (q2 := 34) dX8_sessionsToTell_31 (by decide) rfl ?_ ?_
        · exact V_sub [0, 1, 2] rfl (v_X8_sessionsToTell_40 (f_X8_sessionsToTell_4 fu) ih this l1 l2 M)
        · refine V_iload_n dX8_sessionsToTell_34 rfl 1 rfl ?_
          refine V_iconst (x := 1) dX8_sessionsToTell_35 rfl rfl ?_
          refine V_iload_n dX8_sessionsToTell_36 rfl 2 rfl ?_
          refine V_ishl dX8_sessionsToTell_37 rfl ?_
          refine V_ior dX8_sessionsToTell_38 rfl ?_
          refine V_istore_n (L' := [(0, .ref this), (1, .int (l1 ||| (1 <<< (l2 &&& 31)))), (2, .int l2), (3, .ref r3)]) dX8_sessionsToTell_39 rfl (by decide) rfl ?_
          exact V_sub [0, 1, 2] rfl (v_X8_sessionsToTell_40 (f_X8_sessionsToTell_4 fu) ih this (l1 ||| (1 <<< (l2 &&& 31))) l2 M)
theorem v_X8_sessionsToTell (this : Nat) (M : Mem) : V mi_X8_sessionsToTell 0 [(0, .ref this)] [] M 0 0 (f_X8_sessionsToTell this M) (eI M) := by
  unfold f_X8_sessionsToTell
  refine V_ob fun _ _ => ?_
  refine V_iconst (x := 0) dX8_sessionsToTell_0 rfl rfl ?_
  refine V_istore_n (L' := [(0, .ref this), (1, .int 0)]) dX8_sessionsToTell_1 rfl (by decide) rfl ?_
  refine V_iconst (x := 0) dX8_sessionsToTell_2 rfl rfl ?_
  refine V_istore_n (L' := [(0, .ref this), (1, .int 0), (2, .int 0)]) dX8_sessionsToTell_3 rfl (by decide) rfl ?_
  exact v_X8_sessionsToTell_4 FU this 0 0 M
theorem k_X8_sessionsToTell (this : Nat) (M : Mem) : K mi_X8_sessionsToTell [.ref this] M (f_X8_sessionsToTell this M) (eI M) := K_of_V ok_X8_sessionsToTell (Nat.le_of_ble_eq_true rfl) (v_X8_sessionsToTell this M)
theorem o_X8_sessionsToTell {this : Nat} {M : Mem} {x} (h : f_X8_sessionsToTell this M = some x) : isO M 7 this = true := (ob_of h).1
theorem dX8_enterBoxes_0 : decode cX8_enterBoxes 0 = .ok (.iconst 0, 1) := by decide +kernel
theorem dX8_enterBoxes_1 : decode cX8_enterBoxes 1 = .ok (.istore_n 1, 1) := by decide +kernel
theorem dX8_enterBoxes_2 : decode cX8_enterBoxes 2 = .ok (.iload_n 1, 1) := by decide +kernel
theorem dX8_enterBoxes_3 : decode cX8_enterBoxes 3 = .ok (.aload_n 0, 1) := by decide +kernel
theorem dX8_enterBoxes_4 : decode cX8_enterBoxes 4 = .ok (.getfield 18, 3) := by decide +kernel
theorem dX8_enterBoxes_7 : decode cX8_enterBoxes 7 = .ok (.if_icmp .ge 43, 3) := by decide +kernel
theorem dX8_enterBoxes_10 : decode cX8_enterBoxes 10 = .ok (.aload_n 0, 1) := by decide +kernel
theorem dX8_enterBoxes_11 : decode cX8_enterBoxes 11 = .ok (.iload_n 1, 1) := by decide +kernel
theorem dX8_enterBoxes_12 : decode cX8_enterBoxes 12 = .ok (.invokevirtual 54, 3) := by decide +kernel
theorem dX8_enterBoxes_15 : decode cX8_enterBoxes 15 = .ok (.astore_n 2, 1) := by decide +kernel
theorem dX8_enterBoxes_16 : decode cX8_enterBoxes 16 = .ok (.aload_n 2, 1) := by decide +kernel
theorem dX8_enterBoxes_17 : decode cX8_enterBoxes 17 = .ok (.ifnull 27, 3) := by decide +kernel
theorem dX8_enterBoxes_20 : decode cX8_enterBoxes 20 = .ok (.aload_n 2, 1) := by decide +kernel
theorem dX8_enterBoxes_21 : decode cX8_enterBoxes 21 = .ok (.invokevirtual 89, 3) := by decide +kernel
theorem dX8_enterBoxes_24 : decode cX8_enterBoxes 24 = .ok (.ifCond .eq 20, 3) := by decide +kernel
theorem dX8_enterBoxes_27 : decode cX8_enterBoxes 27 = .ok (.aload_n 2, 1) := by decide +kernel
theorem dX8_enterBoxes_28 : decode cX8_enterBoxes 28 = .ok (.aload_n 2, 1) := by decide +kernel
theorem dX8_enterBoxes_29 : decode cX8_enterBoxes 29 = .ok (.getfield 65, 3) := by decide +kernel
theorem dX8_enterBoxes_32 : decode cX8_enterBoxes 32 = .ok (.aload_n 0, 1) := by decide +kernel
theorem dX8_enterBoxes_33 : decode cX8_enterBoxes 33 = .ok (.aload_n 2, 1) := by decide +kernel
theorem dX8_enterBoxes_34 : decode cX8_enterBoxes 34 = .ok (.invokevirtual 81, 3) := by decide +kernel
theorem dX8_enterBoxes_37 : decode cX8_enterBoxes 37 = .ok (.aload_n 2, 1) := by decide +kernel
theorem dX8_enterBoxes_38 : decode cX8_enterBoxes 38 = .ok (.getfield 93, 3) := by decide +kernel
theorem dX8_enterBoxes_41 : decode cX8_enterBoxes 41 = .ok (.invokevirtual 97, 3) := by decide +kernel
theorem dX8_enterBoxes_44 : decode cX8_enterBoxes 44 = .ok (.iinc 1 1, 3) := by decide +kernel
theorem dX8_enterBoxes_47 : decode cX8_enterBoxes 47 = .ok (.goto (-45), 3) := by decide +kernel
theorem dX8_enterBoxes_50 : decode cX8_enterBoxes 50 = .ok (.return_, 1) := by decide +kernel
def mi_X8_enterBoxes : MI := (RX8, yX8_enterBoxes, cX8_enterBoxes, 3, none, [], { frames := 5, cells := 0, slots := 0, locals := 99 })
theorem ok_X8_enterBoxes : mOK mi_X8_enterBoxes 0 := ⟨rfl, cw_X8_enterBoxes, ini_X8, ⟨rfl, by decide⟩, by decide, by decide, rfl⟩
theorem v_X8_enterBoxes_44 (rc2 : Nat → Int32 → Mem → Option Mem) (h2 : ∀ (l0 : Nat) (l1 : Int32) (M : Mem), V mi_X8_enterBoxes 2 [(0, .ref l0), (1, .int l1)] [] M 0 0 (rc2 l0 l1 M) wV) (this : Nat) (l1 : Int32) (M : Mem) : V mi_X8_enterBoxes 44 [(0, .ref this), (1, .int l1)] [] M 0 0 (f_X8_enterBoxes_44 rc2 this l1 M) wV := by
  unfold f_X8_enterBoxes_44
  refine V_iinc (y := (l1 + 1)) (L' := [(0, .ref this), (1, .int (l1 + 1))]) dX8_enterBoxes_44 rfl 1 rfl rfl (by decide) rfl ?_
  refine V_goto (q := 2) dX8_enterBoxes_47 (by decide) ?_
  exact h2 this (l1 + 1) M
theorem v_X8_enterBoxes_2 : ∀ (fu : Nat) (this : Nat) (l1 : Int32) (M : Mem), V mi_X8_enterBoxes 2 [(0, .ref this), (1, .int l1)] [] M 0 0 (f_X8_enterBoxes_2 fu this l1 M) wV := by
  intro fu
  induction fu with
  | zero => intros; exact V_none
  | succ fu ih =>
    intro this l1 M
    show V mi_X8_enterBoxes 2 [(0, .ref this), (1, .int l1)] [] M 0 0 (f_X8_enterBoxes_2 (fu + 1) this l1 M) wV
    unfold f_X8_enterBoxes_2
    refine V_iload_n dX8_enterBoxes_2 rfl 1 rfl ?_
    refine V_aload_n dX8_enterBoxes_3 rfl 0 rfl ?_
    refine V_getI dX8_enterBoxes_4 rfl (ci := 7) (T := TX8) rfl (by decide) fl_X8_18 (fun x1 => ?_)
    refine V_icmp_ge (q := 50) (q2 := 10) dX8_enterBoxes_7 (by decide) rfl ?_ ?_
    · exact V_vret dX8_enterBoxes_50 rfl rfl ⟨(Nat.le_of_ble_eq_true rfl), (Nat.le_of_ble_eq_true rfl)⟩
    · refine V_aload_n dX8_enterBoxes_10 rfl 0 rfl ?_
      refine V_iload_n dX8_enterBoxes_11 rfl 1 rfl ?_
      refine V_cVeQ (As := [.int l1]) (k_X8_sessionAt this l1 M) (fun _ h => o_X8_sessionAt h) ok_X8_sessionAt im_X8_sessionAt se_X8_sessionAt rfl (ci := 7) rfl ml_X8_54 ⟨⟨(Nat.le_of_ble_eq_true rfl), (Nat.le_of_ble_eq_true rfl)⟩, (Nat.le_of_ble_eq_true rfl), (Nat.le_of_ble_eq_true rfl)⟩ dX8_enterBoxes_12 rfl rfl rfl (Nat.le_of_ble_eq_true rfl) rfl rfl (fun x2 => ?_)
      refine V_astore_nQ (L' := [(0, .ref this), (1, .int l1), (2, va_rf x2)]) dX8_enterBoxes_15 rfl (by decide) (by rcases (x2 : Option Nat) with _ | _ <;> rfl) ?_
      refine V_aload_nQ dX8_enterBoxes_16 rfl 2 rfl ?_
      rcases x2 with _ | r3
      · refine V_ifnull_n (q := 44) dX8_enterBoxes_17 (by decide) ?_
        exact V_sub [0, 1] rfl (v_X8_enterBoxes_44 (f_X8_enterBoxes_2 fu) ih this l1 M)
      · refine V_ifnull_r dX8_enterBoxes_17 rfl ?_
        refine V_aload_n dX8_enterBoxes_20 rfl 2 rfl ?_
        refine V_cVeZ (As := []) (k_X7_hasBox r3 M) (fun _ h => o_X7_hasBox h) ok_X7_hasBox im_X7_hasBox se_X7_hasBox rfl (ci := 6) rfl ml_X8_89 ⟨⟨(Nat.le_of_ble_eq_true rfl), (Nat.le_of_ble_eq_true rfl)⟩, (Nat.le_of_ble_eq_true rfl), (Nat.le_of_ble_eq_true rfl)⟩ dX8_enterBoxes_21 rfl rfl rfl (Nat.le_of_ble_eq_true rfl) rfl rfl (fun x4 => ?_)
        refine V_ifz_eq (q := 44) (q2 := 27) dX8_enterBoxes_24 (by decide) rfl ?_ ?_
        · exact V_sub [0, 1] rfl (v_X8_enterBoxes_44 (f_X8_enterBoxes_2 fu) ih this l1 M)
        · refine V_aload_n dX8_enterBoxes_27 rfl 2 rfl ?_
          refine V_aload_n dX8_enterBoxes_28 rfl 2 rfl ?_
          refine V_getI dX8_enterBoxes_29 rfl (ci := 6) (T := TX7) rfl (by decide) fl_X8_65 (fun x5 => ?_)
          refine V_aload_n dX8_enterBoxes_32 rfl 0 rfl ?_
          refine V_aload_n dX8_enterBoxes_33 rfl 2 rfl ?_
          refine V_cVeR (As := [.ref r3]) (k_X8_boxOf this r3 M) (fun _ h => o_X8_boxOf h) ok_X8_boxOf im_X8_boxOf se_X8_boxOf rfl (ci := 7) rfl ml_X8_81 ⟨⟨(Nat.le_of_ble_eq_true rfl), (Nat.le_of_ble_eq_true rfl)⟩, (Nat.le_of_ble_eq_true rfl), (Nat.le_of_ble_eq_true rfl)⟩ dX8_enterBoxes_34 rfl rfl rfl (Nat.le_of_ble_eq_true rfl) rfl rfl (fun x6 => ?_)
          refine V_aload_n dX8_enterBoxes_37 rfl 2 rfl ?_
          refine V_getZ dX8_enterBoxes_38 rfl (ci := 6) (T := TX7) rfl (by decide) fl_X8_93 (fun x7 => ?_)
          refine V_cVwV (As := [.int x5, .ref x6, .int (b2i x7)]) (k_X7_enter r3 x5 x6 x7 M) (fun _ h => o_X7_enter h) ok_X7_enter im_X7_enter se_X7_enter rfl (ci := 6) rfl ml_X8_97 ⟨⟨(Nat.le_of_ble_eq_true rfl), (Nat.le_of_ble_eq_true rfl)⟩, (Nat.le_of_ble_eq_true rfl), (Nat.le_of_ble_eq_true rfl)⟩ dX8_enterBoxes_41 rfl rfl rfl (Nat.le_of_ble_eq_true rfl) rfl rfl (fun M9 => ?_)
          exact V_sub [0, 1] rfl (v_X8_enterBoxes_44 (f_X8_enterBoxes_2 fu) ih this l1 M9)
theorem v_X8_enterBoxes (this : Nat) (M : Mem) : V mi_X8_enterBoxes 0 [(0, .ref this)] [] M 0 0 (f_X8_enterBoxes this M) wV := by
  unfold f_X8_enterBoxes
  refine V_ob fun _ _ => ?_
  refine V_iconst (x := 0) dX8_enterBoxes_0 rfl rfl ?_
  refine V_istore_n (L' := [(0, .ref this), (1, .int 0)]) dX8_enterBoxes_1 rfl (by decide) rfl ?_
  exact v_X8_enterBoxes_2 FU this 0 M
theorem k_X8_enterBoxes (this : Nat) (M : Mem) : K mi_X8_enterBoxes [.ref this] M (f_X8_enterBoxes this M) wV := K_of_V ok_X8_enterBoxes (Nat.le_of_ble_eq_true rfl) (v_X8_enterBoxes this M)
theorem o_X8_enterBoxes {this : Nat} {M : Mem} {x} (h : f_X8_enterBoxes this M = some x) : isO M 7 this = true := (ob_of h).1
theorem dX8_tell_0 : decode cX8_tell 0 = .ok (.aload_n 0, 1) := by decide +kernel
theorem dX8_tell_1 : decode cX8_tell 1 = .ok (.iload_n 1, 1) := by decide +kernel
theorem dX8_tell_2 : decode cX8_tell 2 = .ok (.invokevirtual 54, 3) := by decide +kernel
theorem dX8_tell_5 : decode cX8_tell 5 = .ok (.astore 4, 2) := by decide +kernel
theorem dX8_tell_7 : decode cX8_tell 7 = .ok (.aload 4, 2) := by decide +kernel
theorem dX8_tell_9 : decode cX8_tell 9 = .ok (.ifnonnull 5, 3) := by decide +kernel
theorem dX8_tell_12 : decode cX8_tell 12 = .ok (.iconst 0, 1) := by decide +kernel
theorem dX8_tell_13 : decode cX8_tell 13 = .ok (.ireturn, 1) := by decide +kernel
theorem dX8_tell_14 : decode cX8_tell 14 = .ok (.aload_n 0, 1) := by decide +kernel
theorem dX8_tell_15 : decode cX8_tell 15 = .ok (.aload 4, 2) := by decide +kernel
theorem dX8_tell_17 : decode cX8_tell 17 = .ok (.invokevirtual 81, 3) := by decide +kernel
theorem dX8_tell_20 : decode cX8_tell 20 = .ok (.astore 5, 2) := by decide +kernel
theorem dX8_tell_22 : decode cX8_tell 22 = .ok (.iload_n 2, 1) := by decide +kernel
theorem dX8_tell_23 : decode cX8_tell 23 = .ok (.ifCond .eq 15, 3) := by decide +kernel
theorem dX8_tell_26 : decode cX8_tell 26 = .ok (.aload 4, 2) := by decide +kernel
theorem dX8_tell_28 : decode cX8_tell 28 = .ok (.iload_n 1, 1) := by decide +kernel
theorem dX8_tell_29 : decode cX8_tell 29 = .ok (.aload 5, 2) := by decide +kernel
theorem dX8_tell_31 : decode cX8_tell 31 = .ok (.aload_n 3, 1) := by decide +kernel
theorem dX8_tell_32 : decode cX8_tell 32 = .ok (.invokevirtual 101, 3) := by decide +kernel
theorem dX8_tell_35 : decode cX8_tell 35 = .ok (.goto 4, 3) := by decide +kernel
theorem dX8_tell_38 : decode cX8_tell 38 = .ok (.iconst 0, 1) := by decide +kernel
theorem dX8_tell_39 : decode cX8_tell 39 = .ok (.istore 6, 2) := by decide +kernel
theorem dX8_tell_41 : decode cX8_tell 41 = .ok (.iload 6, 2) := by decide +kernel
theorem dX8_tell_43 : decode cX8_tell 43 = .ok (.aload 4, 2) := by decide +kernel
theorem dX8_tell_45 : decode cX8_tell 45 = .ok (.iload_n 1, 1) := by decide +kernel
theorem dX8_tell_46 : decode cX8_tell 46 = .ok (.aload 5, 2) := by decide +kernel
theorem dX8_tell_48 : decode cX8_tell 48 = .ok (.aload_n 3, 1) := by decide +kernel
theorem dX8_tell_49 : decode cX8_tell 49 = .ok (.invokevirtual 105, 3) := by decide +kernel
theorem dX8_tell_52 : decode cX8_tell 52 = .ok (.iadd, 1) := by decide +kernel
theorem dX8_tell_53 : decode cX8_tell 53 = .ok (.istore 6, 2) := by decide +kernel
theorem dX8_tell_55 : decode cX8_tell 55 = .ok (.iload 6, 2) := by decide +kernel
theorem dX8_tell_57 : decode cX8_tell 57 = .ok (.aload 4, 2) := by decide +kernel
theorem dX8_tell_59 : decode cX8_tell 59 = .ok (.iload_n 1, 1) := by decide +kernel
theorem dX8_tell_60 : decode cX8_tell 60 = .ok (.aload 5, 2) := by decide +kernel
theorem dX8_tell_62 : decode cX8_tell 62 = .ok (.aload_n 3, 1) := by decide +kernel
theorem dX8_tell_63 : decode cX8_tell 63 = .ok (.invokevirtual 108, 3) := by decide +kernel
theorem dX8_tell_66 : decode cX8_tell 66 = .ok (.iadd, 1) := by decide +kernel
theorem dX8_tell_67 : decode cX8_tell 67 = .ok (.istore 6, 2) := by decide +kernel
theorem dX8_tell_69 : decode cX8_tell 69 = .ok (.iload 6, 2) := by decide +kernel
theorem dX8_tell_71 : decode cX8_tell 71 = .ok (.ireturn, 1) := by decide +kernel
def mi_X8_tell : MI := (RX8, yX8_tell, cX8_tell, 7, some .int, [], { frames := 5, cells := 0, slots := 0, locals := 104 })
theorem ok_X8_tell : mOK mi_X8_tell 3 := ⟨rfl, cw_X8_tell, ini_X8, ⟨rfl, by decide⟩, by decide, by decide, rfl⟩
theorem v_X8_tell_39 (l1 : Int32) (l3 : Nat) (l4 : Nat) (l5 : Nat) (s0 : Int32) (M : Mem) : V mi_X8_tell 39 [(1, .int l1), (3, .ref l3), (4, .ref l4), (5, .ref l5)] [.int s0] M 0 0 (f_X8_tell_39 l1 l3 l4 l5 s0 M) wI := by
  unfold f_X8_tell_39
  refine V_istore (L' := [(1, .int l1), (3, .ref l3), (4, .ref l4), (5, .ref l5), (6, .int s0)]) dX8_tell_39 rfl (by decide) rfl ?_
  refine V_iload dX8_tell_41 rfl 4 rfl ?_
  refine V_aload dX8_tell_43 rfl 2 rfl ?_
  refine V_iload_n dX8_tell_45 rfl 0 rfl ?_
  refine V_aload dX8_tell_46 rfl 3 rfl ?_
  refine V_aload_n dX8_tell_48 rfl 1 rfl ?_
  refine V_cVwI (As := [.int l1, .ref l5, .ref l3]) (k_X7_tellChanged l4 l1 l5 l3 M) (fun _ h => o_X7_tellChanged h) ok_X7_tellChanged im_X7_tellChanged se_X7_tellChanged rfl (ci := 6) rfl ml_X8_105 ⟨⟨(Nat.le_of_ble_eq_true rfl), (Nat.le_of_ble_eq_true rfl)⟩, (Nat.le_of_ble_eq_true rfl), (Nat.le_of_ble_eq_true rfl)⟩ dX8_tell_49 rfl rfl rfl (Nat.le_of_ble_eq_true rfl) rfl rfl (fun x4 M5 => ?_)
  refine V_iadd dX8_tell_52 rfl ?_
  refine V_istore (L' := [(1, .int l1), (3, .ref l3), (4, .ref l4), (5, .ref l5), (6, .int (s0 + x4))]) dX8_tell_53 rfl (by decide) rfl ?_
  refine V_iload dX8_tell_55 rfl 4 rfl ?_
  refine V_aload dX8_tell_57 rfl 2 rfl ?_
  refine V_iload_n dX8_tell_59 rfl 0 rfl ?_
  refine V_aload dX8_tell_60 rfl 3 rfl ?_
  refine V_aload_n dX8_tell_62 rfl 1 rfl ?_
  refine V_cVwI (As := [.int l1, .ref l5, .ref l3]) (k_X7_tellNew l4 l1 l5 l3 M5) (fun _ h => o_X7_tellNew h) ok_X7_tellNew im_X7_tellNew se_X7_tellNew rfl (ci := 6) rfl ml_X8_108 ⟨⟨(Nat.le_of_ble_eq_true rfl), (Nat.le_of_ble_eq_true rfl)⟩, (Nat.le_of_ble_eq_true rfl), (Nat.le_of_ble_eq_true rfl)⟩ dX8_tell_63 rfl rfl rfl (Nat.le_of_ble_eq_true rfl) rfl rfl (fun x6 M7 => ?_)
  refine V_iadd dX8_tell_66 rfl ?_
  refine V_istore (L' := [(1, .int l1), (3, .ref l3), (4, .ref l4), (5, .ref l5), (6, .int ((s0 + x4) + x6))]) dX8_tell_67 rfl (by decide) rfl ?_
  refine V_iload dX8_tell_69 rfl 4 rfl ?_
  exact V_iret dX8_tell_71 rfl rfl ⟨(Nat.le_of_ble_eq_true rfl), (Nat.le_of_ble_eq_true rfl)⟩
theorem v_X8_tell (this : Nat) (a1 : Int32) (a2 : Bool) (a3 : Nat) (M : Mem) : V mi_X8_tell 0 [(0, .ref this), (1, .int a1), (2, .int (b2i a2)), (3, .ref a3)] [] M 0 0 (f_X8_tell this a1 a2 a3 M) wI := by
  unfold f_X8_tell
  refine V_ob fun _ _ => ?_
  refine V_aload_n dX8_tell_0 rfl 0 rfl ?_
  refine V_iload_n dX8_tell_1 rfl 1 rfl ?_
  refine V_cVeQ (As := [.int a1]) (k_X8_sessionAt this a1 M) (fun _ h => o_X8_sessionAt h) ok_X8_sessionAt im_X8_sessionAt se_X8_sessionAt rfl (ci := 7) rfl ml_X8_54 ⟨⟨(Nat.le_of_ble_eq_true rfl), (Nat.le_of_ble_eq_true rfl)⟩, (Nat.le_of_ble_eq_true rfl), (Nat.le_of_ble_eq_true rfl)⟩ dX8_tell_2 rfl rfl rfl (Nat.le_of_ble_eq_true rfl) rfl rfl (fun x1 => ?_)
  refine V_astoreQ (L' := [(0, .ref this), (1, .int a1), (2, .int (b2i a2)), (3, .ref a3), (4, va_rf x1)]) dX8_tell_5 rfl (by decide) (by rcases (x1 : Option Nat) with _ | _ <;> rfl) ?_
  refine V_aloadQ dX8_tell_7 rfl 4 rfl ?_
  rcases x1 with _ | r2
  · refine V_ifnonnull_n dX8_tell_9 rfl ?_
    refine V_iconst (x := 0) dX8_tell_12 rfl rfl ?_
    exact V_iret dX8_tell_13 rfl rfl ⟨(Nat.le_of_ble_eq_true rfl), (Nat.le_of_ble_eq_true rfl)⟩
  · refine V_ifnonnull_r (q := 14) dX8_tell_9 (by decide) ?_
    refine V_aload_n dX8_tell_14 rfl 0 rfl ?_
    refine V_aload dX8_tell_15 rfl 4 rfl ?_
    refine V_cVeR (As := [.ref r2]) (k_X8_boxOf this r2 M) (fun _ h => o_X8_boxOf h) ok_X8_boxOf im_X8_boxOf se_X8_boxOf rfl (ci := 7) rfl ml_X8_81 ⟨⟨(Nat.le_of_ble_eq_true rfl), (Nat.le_of_ble_eq_true rfl)⟩, (Nat.le_of_ble_eq_true rfl), (Nat.le_of_ble_eq_true rfl)⟩ dX8_tell_17 rfl rfl rfl (Nat.le_of_ble_eq_true rfl) rfl rfl (fun x3 => ?_)
    refine V_astore (L' := [(0, .ref this), (1, .int a1), (2, .int (b2i a2)), (3, .ref a3), (4, .ref r2), (5, .ref x3)]) dX8_tell_20 rfl (by decide) rfl ?_
    refine V_iload_n dX8_tell_22 rfl 2 rfl ?_
    refine V_ifz_eq (q := 38) (q2 := 26) dX8_tell_23 (by decide) rfl ?_ ?_
    · refine V_iconst (x := 0) dX8_tell_38 rfl rfl ?_
      exact V_sub [1, 3, 4, 5] rfl (v_X8_tell_39 a1 a3 r2 x3 0 M)
    · refine V_aload dX8_tell_26 rfl 4 rfl ?_
      refine V_iload_n dX8_tell_28 rfl 1 rfl ?_
      refine V_aload dX8_tell_29 rfl 5 rfl ?_
      refine V_aload_n dX8_tell_31 rfl 3 rfl ?_
      refine V_cVwI (As := [.int a1, .ref x3, .ref a3]) (k_X7_tellGone r2 a1 x3 a3 M) (fun _ h => o_X7_tellGone h) ok_X7_tellGone im_X7_tellGone se_X7_tellGone rfl (ci := 6) rfl ml_X8_101 ⟨⟨(Nat.le_of_ble_eq_true rfl), (Nat.le_of_ble_eq_true rfl)⟩, (Nat.le_of_ble_eq_true rfl), (Nat.le_of_ble_eq_true rfl)⟩ dX8_tell_32 rfl rfl rfl (Nat.le_of_ble_eq_true rfl) rfl rfl (fun x8 M9 => ?_)
      refine V_goto (q := 39) dX8_tell_35 (by decide) ?_
      exact V_sub [1, 3, 4, 5] rfl (v_X8_tell_39 a1 a3 r2 x3 x8 M9)
theorem k_X8_tell (this : Nat) (a1 : Int32) (a2 : Bool) (a3 : Nat) (M : Mem) : K mi_X8_tell [.ref this, .int a1, .int (b2i a2), .ref a3] M (f_X8_tell this a1 a2 a3 M) wI := K_of_V ok_X8_tell (Nat.le_of_ble_eq_true rfl) (v_X8_tell this a1 a2 a3 M)
theorem o_X8_tell {this : Nat} {a1 : Int32} {a2 : Bool} {a3 : Nat} {M : Mem} {x} (h : f_X8_tell this a1 a2 a3 M = some x) : isO M 7 this = true := (ob_of h).1
theorem dX8_tellIdle_0 : decode cX8_tellIdle 0 = .ok (.iconst 0, 1) := by decide +kernel
theorem dX8_tellIdle_1 : decode cX8_tellIdle 1 = .ok (.istore_n 2, 1) := by decide +kernel
theorem dX8_tellIdle_2 : decode cX8_tellIdle 2 = .ok (.iload_n 2, 1) := by decide +kernel
theorem dX8_tellIdle_3 : decode cX8_tellIdle 3 = .ok (.aload_n 0, 1) := by decide +kernel
theorem dX8_tellIdle_4 : decode cX8_tellIdle 4 = .ok (.getfield 18, 3) := by decide +kernel
theorem dX8_tellIdle_7 : decode cX8_tellIdle 7 = .ok (.if_icmp .ge 34, 3) := by decide +kernel
theorem dX8_tellIdle_10 : decode cX8_tellIdle 10 = .ok (.aload_n 0, 1) := by decide +kernel
theorem dX8_tellIdle_11 : decode cX8_tellIdle 11 = .ok (.iload_n 2, 1) := by decide +kernel
theorem dX8_tellIdle_12 : decode cX8_tellIdle 12 = .ok (.invokevirtual 54, 3) := by decide +kernel
theorem dX8_tellIdle_15 : decode cX8_tellIdle 15 = .ok (.astore_n 3, 1) := by decide +kernel
theorem dX8_tellIdle_16 : decode cX8_tellIdle 16 = .ok (.aload_n 3, 1) := by decide +kernel
theorem dX8_tellIdle_17 : decode cX8_tellIdle 17 = .ok (.ifnull 18, 3) := by decide +kernel
theorem dX8_tellIdle_20 : decode cX8_tellIdle 20 = .ok (.aload_n 3, 1) := by decide +kernel
theorem dX8_tellIdle_21 : decode cX8_tellIdle 21 = .ok (.getfield 111, 3) := by decide +kernel
theorem dX8_tellIdle_24 : decode cX8_tellIdle 24 = .ok (.ifCond .eq 11, 3) := by decide +kernel
theorem dX8_tellIdle_27 : decode cX8_tellIdle 27 = .ok (.aload_n 0, 1) := by decide +kernel
theorem dX8_tellIdle_28 : decode cX8_tellIdle 28 = .ok (.iload_n 2, 1) := by decide +kernel
theorem dX8_tellIdle_29 : decode cX8_tellIdle 29 = .ok (.iconst 1, 1) := by decide +kernel
theorem dX8_tellIdle_30 : decode cX8_tellIdle 30 = .ok (.aload_n 1, 1) := by decide +kernel
theorem dX8_tellIdle_31 : decode cX8_tellIdle 31 = .ok (.invokevirtual 114, 3) := by decide +kernel
theorem dX8_tellIdle_34 : decode cX8_tellIdle 34 = .ok (.pop, 1) := by decide +kernel
theorem dX8_tellIdle_35 : decode cX8_tellIdle 35 = .ok (.iinc 2 1, 3) := by decide +kernel
theorem dX8_tellIdle_38 : decode cX8_tellIdle 38 = .ok (.goto (-36), 3) := by decide +kernel
theorem dX8_tellIdle_41 : decode cX8_tellIdle 41 = .ok (.return_, 1) := by decide +kernel
def mi_X8_tellIdle : MI := (RX8, yX8_tellIdle, cX8_tellIdle, 4, none, [], { frames := 6, cells := 0, slots := 0, locals := 130 })
theorem ok_X8_tellIdle : mOK mi_X8_tellIdle 1 := ⟨rfl, cw_X8_tellIdle, ini_X8, ⟨rfl, by decide⟩, by decide, by decide, rfl⟩
theorem v_X8_tellIdle_35 (rc2 : Nat → Nat → Int32 → Mem → Option Mem) (h2 : ∀ (l0 : Nat) (l1 : Nat) (l2 : Int32) (M : Mem), V mi_X8_tellIdle 2 [(0, .ref l0), (1, .ref l1), (2, .int l2)] [] M 0 0 (rc2 l0 l1 l2 M) wV) (this : Nat) (l1 : Nat) (l2 : Int32) (M : Mem) : V mi_X8_tellIdle 35 [(0, .ref this), (1, .ref l1), (2, .int l2)] [] M 0 0 (f_X8_tellIdle_35 rc2 this l1 l2 M) wV := by
  unfold f_X8_tellIdle_35
  refine V_iinc (y := (l2 + 1)) (L' := [(0, .ref this), (1, .ref l1), (2, .int (l2 + 1))]) dX8_tellIdle_35 rfl 2 rfl rfl (by decide) rfl ?_
  refine V_goto (q := 2) dX8_tellIdle_38 (by decide) ?_
  exact h2 this l1 (l2 + 1) M
theorem v_X8_tellIdle_2 : ∀ (fu : Nat) (this : Nat) (l1 : Nat) (l2 : Int32) (M : Mem), V mi_X8_tellIdle 2 [(0, .ref this), (1, .ref l1), (2, .int l2)] [] M 0 0 (f_X8_tellIdle_2 fu this l1 l2 M) wV := by
  intro fu
  induction fu with
  | zero => intros; exact V_none
  | succ fu ih =>
    intro this l1 l2 M
    show V mi_X8_tellIdle 2 [(0, .ref this), (1, .ref l1), (2, .int l2)] [] M 0 0 (f_X8_tellIdle_2 (fu + 1) this l1 l2 M) wV
    unfold f_X8_tellIdle_2
    refine V_iload_n dX8_tellIdle_2 rfl 2 rfl ?_
    refine V_aload_n dX8_tellIdle_3 rfl 0 rfl ?_
    refine V_getI dX8_tellIdle_4 rfl (ci := 7) (T := TX8) rfl (by decide) fl_X8_18 (fun x1 => ?_)
    refine V_icmp_ge (q := 41) (q2 := 10) dX8_tellIdle_7 (by decide) rfl ?_ ?_
    · exact V_vret dX8_tellIdle_41 rfl rfl ⟨(Nat.le_of_ble_eq_true rfl), (Nat.le_of_ble_eq_true rfl)⟩
    · refine V_aload_n dX8_tellIdle_10 rfl 0 rfl ?_
      refine V_iload_n dX8_tellIdle_11 rfl 2 rfl ?_
      refine V_cVeQ (As := [.int l2]) (k_X8_sessionAt this l2 M) (fun _ h => o_X8_sessionAt h) ok_X8_sessionAt im_X8_sessionAt se_X8_sessionAt rfl (ci := 7) rfl ml_X8_54 ⟨⟨(Nat.le_of_ble_eq_true rfl), (Nat.le_of_ble_eq_true rfl)⟩, (Nat.le_of_ble_eq_true rfl), (Nat.le_of_ble_eq_true rfl)⟩ dX8_tellIdle_12 rfl rfl rfl (Nat.le_of_ble_eq_true rfl) rfl rfl (fun x2 => ?_)
      refine V_astore_nQ (L' := [(0, .ref this), (1, .ref l1), (2, .int l2), (3, va_rf x2)]) dX8_tellIdle_15 rfl (by decide) (by rcases (x2 : Option Nat) with _ | _ <;> rfl) ?_
      refine V_aload_nQ dX8_tellIdle_16 rfl 3 rfl ?_
      rcases x2 with _ | r3
      · refine V_ifnull_n (q := 35) dX8_tellIdle_17 (by decide) ?_
        exact V_sub [0, 1, 2] rfl (v_X8_tellIdle_35 (f_X8_tellIdle_2 fu) ih this l1 l2 M)
      · refine V_ifnull_r dX8_tellIdle_17 rfl ?_
        refine V_aload_n dX8_tellIdle_20 rfl 3 rfl ?_
        refine V_getZ dX8_tellIdle_21 rfl (ci := 6) (T := TX7) rfl (by decide) fl_X8_111 (fun x4 => ?_)
        refine V_ifz_eq (q := 35) (q2 := 27) dX8_tellIdle_24 (by decide) rfl ?_ ?_
        · exact V_sub [0, 1, 2] rfl (v_X8_tellIdle_35 (f_X8_tellIdle_2 fu) ih this l1 l2 M)
        · refine V_aload_n dX8_tellIdle_27 rfl 0 rfl ?_
          refine V_iload_n dX8_tellIdle_28 rfl 2 rfl ?_
          refine V_iconst (x := 1) dX8_tellIdle_29 rfl rfl ?_
          refine V_aload_n dX8_tellIdle_30 rfl 1 rfl ?_
          refine V_cVwI (As := [.int l2, .int (b2i true), .ref l1]) (k_X8_tell this l2 true l1 M) (fun _ h => o_X8_tell h) ok_X8_tell im_X8_tell se_X8_tell rfl (ci := 7) rfl ml_X8_114 ⟨⟨(Nat.le_of_ble_eq_true rfl), (Nat.le_of_ble_eq_true rfl)⟩, (Nat.le_of_ble_eq_true rfl), (Nat.le_of_ble_eq_true rfl)⟩ dX8_tellIdle_31 rfl rfl rfl (Nat.le_of_ble_eq_true rfl) rfl rfl (fun x5 M6 => ?_)
          refine V_pop dX8_tellIdle_34 rfl rfl ?_
          exact V_sub [0, 1, 2] rfl (v_X8_tellIdle_35 (f_X8_tellIdle_2 fu) ih this l1 l2 M6)
theorem v_X8_tellIdle (this : Nat) (a1 : Nat) (M : Mem) : V mi_X8_tellIdle 0 [(0, .ref this), (1, .ref a1)] [] M 0 0 (f_X8_tellIdle this a1 M) wV := by
  unfold f_X8_tellIdle
  refine V_ob fun _ _ => ?_
  refine V_iconst (x := 0) dX8_tellIdle_0 rfl rfl ?_
  refine V_istore_n (L' := [(0, .ref this), (1, .ref a1), (2, .int 0)]) dX8_tellIdle_1 rfl (by decide) rfl ?_
  exact v_X8_tellIdle_2 FU this a1 0 M
theorem k_X8_tellIdle (this : Nat) (a1 : Nat) (M : Mem) : K mi_X8_tellIdle [.ref this, .ref a1] M (f_X8_tellIdle this a1 M) wV := K_of_V ok_X8_tellIdle (Nat.le_of_ble_eq_true rfl) (v_X8_tellIdle this a1 M)
theorem o_X8_tellIdle {this : Nat} {a1 : Nat} {M : Mem} {x} (h : f_X8_tellIdle this a1 M = some x) : isO M 7 this = true := (ob_of h).1
