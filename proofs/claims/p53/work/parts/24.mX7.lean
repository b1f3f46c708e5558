def f_X5_init_60 (this : Nat) (M : Mem) : Option Mem :=
  ob M 4 this (
    (alc M).bind fun r1 =>
    (pV (mnew M (.inl (0, (60, .inl (fun _ => 0))))) 4 0 this (.ref r1)).bind fun M2 =>
    (pV M2 4 1 this (.int 0)).bind fun M3 =>
    some M3
  )
def f_X5_init_5 (this : Nat) (M : Mem) : Option Mem :=
  ob M 4 this (
    (alc M).bind fun r1 =>
    (pV (mnew M (.inl (0, (5, .inl (fun _ => 0))))) 4 0 this (.ref r1)).bind fun M2 =>
    (pV M2 4 1 this (.int 0)).bind fun M3 =>
    some M3
  )
def f_X7_init (this : Nat) (M : Mem) : Option Mem :=
  ob M 6 this (
    (pV M 6 0 this (.long 0)).bind fun M1 =>
    (pV M1 6 1 this (.int (-1))).bind fun M2 =>
    (alc M2).bind fun r3 =>
    (f_X5_init_60 r3 (mnew M2 (.inr (4, [.null, .int 0])))).bind fun M5 =>
    (pV M5 6 5 this (.ref r3)).bind fun M6 =>
    (alc M6).bind fun r7 =>
    (f_X5_init_60 r7 (mnew M6 (.inr (4, [.null, .int 0])))).bind fun M9 =>
    (pV M9 6 6 this (.ref r7)).bind fun M10 =>
    (alc M10).bind fun r11 =>
    (f_X5_init_5 r11 (mnew M10 (.inr (4, [.null, .int 0])))).bind fun M13 =>
    (pV M13 6 7 this (.ref r11)).bind fun M14 =>
    some M14
  )
def f_X7_takeFrom (this : Nat) (a1 : Nat) (M : Mem) : Option Mem :=
  ob M 6 this (
    (gJ M 6 0 a1).bind fun x1 =>
    (pV M 6 0 this (.long x1)).bind fun M2 =>
    (gI M2 6 1 a1).bind fun x3 =>
    (pV M2 6 1 this (.int x3)).bind fun M4 =>
    (gZ M4 6 2 a1).bind fun x5 =>
    (pV M4 6 2 this (.int (b2i x5))).bind fun M6 =>
    (gZ M6 6 3 a1).bind fun x7 =>
    (pV M6 6 3 this (.int (b2i x7))).bind fun M8 =>
    (gI M8 6 4 a1).bind fun x9 =>
    (pV M8 6 4 this (.int x9)).bind fun M10 =>
    (gR M10 6 5 this).bind fun x11 =>
    (gR M10 6 5 a1).bind fun x12 =>
    (f_X5_takeFrom x11 x12 M10).bind fun M14 =>
    (gR M14 6 6 this).bind fun x15 =>
    (gR M14 6 6 a1).bind fun x16 =>
    (f_X5_takeFrom x15 x16 M14).bind fun M18 =>
    (gR M18 6 7 this).bind fun x19 =>
    (gR M18 6 7 a1).bind fun x20 =>
    (f_X5_takeFrom x19 x20 M18).bind fun M22 =>
    some M22
  )
def f_X7_leave (this : Nat) (M : Mem) : Option Mem :=
  ob M 6 this (
    (pV M 6 1 this (.int (-1))).bind fun M1 =>
    (pV M1 6 2 this (.int (b2i false))).bind fun M2 =>
    (pV M2 6 4 this (.int 0)).bind fun M3 =>
    (gR M3 6 5 this).bind fun x4 =>
    (f_X5_clear x4 M3).bind fun M6 =>
    (gR M6 6 6 this).bind fun x7 =>
    (f_X5_clear x7 M6).bind fun M9 =>
    some M9
  )
def f_X7_begin (this : Nat) (a1 : Int64) (a3 : Int32) (a4 : Bool) (M : Mem) : Option Mem :=
  ob M 6 this (
    (pV M 6 0 this (.long a1)).bind fun M1 =>
    (f_X7_leave this M1).bind fun M3 =>
    (pV M3 6 1 this (.int a3)).bind fun M4 =>
    (pV M4 6 2 this (.int (b2i a4))).bind fun M5 =>
    (pV M5 6 3 this (.int (b2i false))).bind fun M6 =>
    (gR M6 6 7 this).bind fun x7 =>
    (f_X5_becomeZeros x7 5 M6).bind fun M9 =>
    some M9
  )
def f_X7_size (this : Nat) (M : Mem) : Option Int32 :=
  ob M 6 this (
    (gR M 6 5 this).bind fun x1 =>
    (f_X5_size x1 M).bind fun x2 =>
    some x2
  )
def f_X7_addNewEntries_73 (rc4 : Nat → Nat → Int32 → Int32 → Mem → Option (Int32 × Mem)) (this : Nat) (l1 : Nat) (l2 : Int32) (l3 : Int32) (M : Mem) : Option (Int32 × Mem) :=
  rc4 this l1 l2 (l3 + 1) M
def f_X7_addNewEntries_4 : Nat → Nat → Nat → Int32 → Int32 → Mem → Option (Int32 × Mem)
  | 0 => fun _ _ _ _ _ => none
  | fu + 1 => fun this l1 l2 l3 M =>
    (f_X0_size l1 M).bind fun x1 =>
    if x1 ≤ l3 then (
      some (l2, M)
    ) else (
      (f_X7_size this M).bind fun x2 =>
      if 60 ≤ x2 then (
        some (l2, M)
      ) else (
        (gR M 0 2 l1).bind fun x3 =>
        (f_X5_get x3 l3 M).bind fun x4 =>
        (gI M 6 4 this).bind fun x5 =>
        if x4 ≤ x5 then (
          f_X7_addNewEntries_73 (f_X7_addNewEntries_4 fu) this l1 l2 l3 M
        ) else (
          (gR M 6 5 this).bind fun x6 =>
          (f_X5_add x6 x4 M).bind fun M8 =>
          (gR M8 6 6 this).bind fun x9 =>
          (gR M8 0 4 l1).bind fun x10 =>
          (f_X5_get x10 l3 M8).bind fun x11 =>
          (f_X5_add x9 x11 M8).bind fun M13 =>
          (pV M13 6 4 this (.int x4)).bind fun M14 =>
          f_X7_addNewEntries_73 (f_X7_addNewEntries_4 fu) this l1 (l2 + 1) l3 M14
        )
      )
    )
def f_X7_addNewEntries (this : Nat) (a1 : Nat) (M : Mem) : Option (Int32 × Mem) :=
  ob M 6 this (
    f_X7_addNewEntries_4 FU this a1 0 0 M
  )
def f_X7_enter (this : Nat) (a1 : Int32) (a2 : Nat) (a3 : Bool) (M : Mem) : Option Mem :=
  ob M 6 this (
    (f_X7_leave this M).bind fun M2 =>
    (pV M2 6 1 this (.int a1)).bind fun M3 =>
    (pV M3 6 2 this (.int (b2i a3))).bind fun M4 =>
    (f_X7_addNewEntries this a2 M4).bind fun (x5, M6) =>
    some M6
  )
def f_X7_hasBox (this : Nat) (M : Mem) : Option Bool :=
  ob M 6 this (
    (gI M 6 1 this).bind fun x1 =>
    if (x1 : Int32) = (-1) then (
      some false
    ) else (
      some true
    )
  )
def f_X7_uidOf (this : Nat) (a1 : Int32) (M : Mem) : Option Int32 :=
  ob M 6 this (
    (gR M 6 5 this).bind fun x1 =>
    (f_X5_get x1 (a1 - 1) M).bind fun x2 =>
    some x2
  )
def f_X7_toldOf (this : Nat) (a1 : Int32) (M : Mem) : Option Int32 :=
  ob M 6 this (
    (gR M 6 6 this).bind fun x1 =>
    (f_X5_get x1 (a1 - 1) M).bind fun x2 =>
    some x2
  )
def f_X7_numberOfUid (this : Nat) (a1 : Int32) (M : Mem) : Option Int32 :=
  ob M 6 this (
    (gR M 6 5 this).bind fun x1 =>
    (f_X5_find x1 a1 M).bind fun x2 =>
    if x2 = (-1) then (
      some (-1)
    ) else (
      some (x2 + 1)
    )
  )
def f_X7_isGone (this : Nat) (a1 : Nat) (a2 : Int32) (M : Mem) : Option Bool :=
  ob M 6 this (
    (f_X7_uidOf this a2 M).bind fun x1 =>
    (f_X0_indexOfUid a1 x1 M).bind fun x2 =>
    if x2 = (-1) then (
      some true
    ) else (
      some false
    )
  )
def f_X7_isChanged (this : Nat) (a1 : Nat) (a2 : Int32) (M : Mem) : Option Bool :=
  ob M 6 this (
    (f_X7_uidOf this a2 M).bind fun x1 =>
    (f_X0_indexOfUid a1 x1 M).bind fun x2 =>
    if x2 = (-1) then (
      some false
    ) else (
      (gR M 0 4 a1).bind fun x3 =>
      (f_X5_get x3 x2 M).bind fun x4 =>
      (f_X7_toldOf this a2 M).bind fun x5 =>
      if x4 = x5 then (
        some false
      ) else (
        some true
      )
    )
  )
def f_X7_countGoneBefore_33 (rc5 : Nat → Nat → Int32 → Int32 → Int32 → Mem → Option Int32) (this : Nat) (l1 : Nat) (l2 : Int32) (l3 : Int32) (l4 : Int32) (M : Mem) : Option Int32 :=
  rc5 this l1 l2 l3 (l4 + 1) M
def f_X7_countGoneBefore_5 : Nat → Nat → Nat → Int32 → Int32 → Int32 → Mem → Option Int32
  | 0 => fun _ _ _ _ _ _ => none
  | fu + 1 => fun this l1 l2 l3 l4 M =>
    if l2 ≤ l4 then (
      some l3
    ) else (
      (f_X7_size this M).bind fun x1 =>
      if x1 < l4 then (
        some l3
      ) else (
        (f_X7_isGone this l1 l4 M).bind fun x2 =>
        bif x2 then (
          f_X7_countGoneBefore_33 (f_X7_countGoneBefore_5 fu) this l1 l2 (l3 + 1) l4 M
        ) else (
          f_X7_countGoneBefore_33 (f_X7_countGoneBefore_5 fu) this l1 l2 l3 l4 M
        )
      )
    )
def f_X7_countGoneBefore (this : Nat) (a1 : Nat) (a2 : Int32) (M : Mem) : Option Int32 :=
  ob M 6 this (
    f_X7_countGoneBefore_5 FU this a1 a2 0 1 M
  )
def f_X7_countGone (this : Nat) (a1 : Nat) (M : Mem) : Option Int32 :=
  ob M 6 this (
    (f_X7_size this M).bind fun x1 =>
    (f_X7_countGoneBefore this a1 (x1 + 1) M).bind fun x2 =>
    some x2
  )
def f_X7_countThere_34 (rc6 : Nat → Nat → Int32 → Int32 → Int32 → Mem → Option Int32) (this : Nat) (l1 : Nat) (l3 : Int32) (l4 : Int32) (l5 : Int32) (M : Mem) : Option Int32 :=
  rc6 this l1 l3 l4 (l5 + 1) M
def f_X7_countThere_6 : Nat → Nat → Nat → Int32 → Int32 → Int32 → Mem → Option Int32
  | 0 => fun _ _ _ _ _ _ => none
  | fu + 1 => fun this l1 l3 l4 l5 M =>
    if l3 < l5 then (
      some l4
    ) else (
      (f_X7_size this M).bind fun x1 =>
      if x1 < l5 then (
        some l4
      ) else (
        (f_X7_isGone this l1 l5 M).bind fun x2 =>
        bif x2 then (
          f_X7_countThere_34 (f_X7_countThere_6 fu) this l1 l3 l4 l5 M
        ) else (
          f_X7_countThere_34 (f_X7_countThere_6 fu) this l1 l3 (l4 + 1) l5 M
        )
      )
    )
def f_X7_countThere (this : Nat) (a1 : Nat) (a2 : Int32) (a3 : Int32) (M : Mem) : Option Int32 :=
  ob M 6 this (
    f_X7_countThere_6 FU this a1 a3 0 a2 M
  )
def f_X7_countChanged_24 (rc4 : Nat → Nat → Int32 → Int32 → Mem → Option Int32) (this : Nat) (l1 : Nat) (l2 : Int32) (l3 : Int32) (M : Mem) : Option Int32 :=
  rc4 this l1 l2 (l3 + 1) M
def f_X7_countChanged_4 : Nat → Nat → Nat → Int32 → Int32 → Mem → Option Int32
  | 0 => fun _ _ _ _ _ => none
  | fu + 1 => fun this l1 l2 l3 M =>
    (f_X7_size this M).bind fun x1 =>
    if x1 < l3 then (
      some l2
    ) else (
      (f_X7_isChanged this l1 l3 M).bind fun x2 =>
      bif x2 then (
        f_X7_countChanged_24 (f_X7_countChanged_4 fu) this l1 (l2 + 1) l3 M
      ) else (
        f_X7_countChanged_24 (f_X7_countChanged_4 fu) this l1 l2 l3 M
      )
    )
def f_X7_countChanged (this : Nat) (a1 : Nat) (M : Mem) : Option Int32 :=
  ob M 6 this (
    f_X7_countChanged_4 FU this a1 0 1 M
  )
def f_X7_countNew_30 (rc4 : Nat → Nat → Int32 → Int32 → Mem → Option Int32) (this : Nat) (l1 : Nat) (l2 : Int32) (l3 : Int32) (M : Mem) : Option Int32 :=
  rc4 this l1 l2 (l3 + 1) M
def f_X7_countNew_4 : Nat → Nat → Nat → Int32 → Int32 → Mem → Option Int32
  | 0 => fun _ _ _ _ _ => none
  | fu + 1 => fun this l1 l2 l3 M =>
    (f_X0_size l1 M).bind fun x1 =>
    if x1 ≤ l3 then (
      some l2
    ) else (
      (gR M 0 2 l1).bind fun x2 =>
      (f_X5_get x2 l3 M).bind fun x3 =>
      (gI M 6 4 this).bind fun x4 =>
      if x3 ≤ x4 then (
        f_X7_countNew_30 (f_X7_countNew_4 fu) this l1 l2 l3 M
      ) else (
        f_X7_countNew_30 (f_X7_countNew_4 fu) this l1 (l2 + 1) l3 M
      )
    )
def f_X7_countNew (this : Nat) (a1 : Nat) (M : Mem) : Option Int32 :=
  ob M 6 this (
    f_X7_countNew_4 FU this a1 0 0 M
  )
def f_X7_countPending_22 (this : Nat) (l1 : Nat) (l2 : Int32) (s0 : Bool) (M : Mem) : Option Int32 :=
  (f_X7_countChanged this l1 M).bind fun x3 =>
  bif s0 then (
    (f_X7_countNew this l1 M).bind fun x4 =>
    if x4 ≤ 0 then (
      some ((l2 + x3) + 0)
    ) else (
      some ((l2 + x3) + 1)
    )
  ) else (
    some ((l2 + x3) + 0)
  )
def f_X7_countPending (this : Nat) (a1 : Nat) (M : Mem) : Option Int32 :=
  ob M 6 this (
    (f_X7_countGone this a1 M).bind fun x1 =>
    (f_X7_size this M).bind fun x2 =>
    if 60 ≤ (x2 - x1) then (
      f_X7_countPending_22 this a1 x1 false M
    ) else (
      f_X7_countPending_22 this a1 x1 true M
    )
  )
def f_X7_firstNotToldSeen_2 : Nat → Nat → Int32 → Mem → Option Int32
  | 0 => fun _ _ _ => none
  | fu + 1 => fun this l1 M =>
    (f_X7_size this M).bind fun x1 =>
    if x1 < l1 then (
      some (-1)
    ) else (
      (f_X7_toldOf this l1 M).bind fun x2 =>
      if (x2 &&& 1) = 0 then (
        some l1
      ) else (
        (f_X7_firstNotToldSeen_2 fu) this (l1 + 1) M
      )
    )
def f_X7_firstNotToldSeen (this : Nat) (M : Mem) : Option Int32 :=
  ob M 6 this (
    f_X7_firstNotToldSeen_2 FU this 1 M
  )
def f_X7_largestIn_47 (rc7 : Nat → Nat → Int32 → Int32 → Int32 → Mem → Option Int32) (this : Nat) (l1 : Nat) (l2 : Int32) (l3 : Int32) (l4 : Int32) (M : Mem) : Option Int32 :=
  rc7 this l1 l2 l3 (l4 + 1) M
def f_X7_largestIn_7 : Nat → Nat → Nat → Int32 → Int32 → Int32 → Mem → Option Int32
  | 0 => fun _ _ _ _ _ _ => none
  | fu + 1 => fun this l1 l2 l3 l4 M =>
    (f_X7_size this M).bind fun x1 =>
    if x1 < l4 then (
      some l2
    ) else (
      (gR M 0 3 l1).bind fun x2 =>
      (f_X7_uidOf this l4 M).bind fun x3 =>
      (f_X0_indexOfUid l1 x3 M).bind fun x4 =>
      (f_X5_get x2 x4 M).bind fun x5 =>
      if x5 ≤ l3 then (
        f_X7_largestIn_47 (f_X7_largestIn_7 fu) this l1 l2 l3 l4 M
      ) else (
        f_X7_largestIn_47 (f_X7_largestIn_7 fu) this l1 l4 x5 l4 M
      )
    )
def f_X7_largestIn (this : Nat) (a1 : Nat) (M : Mem) : Option Int32 :=
  ob M 6 this (
    f_X7_largestIn_7 FU this a1 (-1) 0 1 M
  )
def f_X7_copyRange_65 (rc6 : Nat → Nat → Int32 → Nat → Int32 → Int32 → Mem → Option (Int32 × Mem)) (this : Nat) (l1 : Nat) (l3 : Int32) (l4 : Nat) (l5 : Int32) (l6 : Int32) (M : Mem) : Option (Int32 × Mem) :=
  rc6 this l1 l3 l4 l5 (l6 + 1) M
def f_X7_copyRange_6 : Nat → Nat → Nat → Int32 → Nat → Int32 → Int32 → Mem → Option (Int32 × Mem)
  | 0 => fun _ _ _ _ _ _ _ => none
  | fu + 1 => fun this l1 l3 l4 l5 l6 M =>
    if l3 < l6 then (
      some (l5, M)
    ) else (
      (f_X7_size this M).bind fun x1 =>
      if x1 < l6 then (
        some (l5, M)
      ) else (
        (f_X7_uidOf this l6 M).bind fun x2 =>
        (f_X0_indexOfUid l1 x2 M).bind fun x3 =>
        if x3 = (-1) then (
          f_X7_copyRange_65 (f_X7_copyRange_6 fu) this l1 l3 l4 l5 l6 M
        ) else (
          (gR M 0 3 l1).bind fun x4 =>
          (f_X5_get x4 x3 M).bind fun x5 =>
          (gR M 0 4 l1).bind fun x6 =>
          (f_X5_get x6 x3 M).bind fun x7 =>
          (f_X0_addMessage l4 x5 x7 M).bind fun M9 =>
          f_X7_copyRange_65 (f_X7_copyRange_6 fu) this l1 l3 l4 (l5 + 1) l6 M9
        )
      )
    )
def f_X7_copyRange (this : Nat) (a1 : Nat) (a2 : Int32) (a3 : Int32) (a4 : Nat) (M : Mem) : Option (Int32 × Mem) :=
  ob M 6 this (
    f_X7_copyRange_6 FU this a1 a3 a4 0 a2 M
  )
def f_X7_removeRange_3 : Nat → Nat → Nat → Int32 → Int32 → Mem → Option Mem
  | 0 => fun _ _ _ _ _ => none
  | fu + 1 => fun this l1 l3 l4 M =>
    if l3 < l4 then (
      some M
    ) else (
      (f_X7_size this M).bind fun x1 =>
      if x1 < l4 then (
        some M
      ) else (
        (f_X7_uidOf this l4 M).bind fun x2 =>
        (f_X0_indexOfUid l1 x2 M).bind fun x3 =>
        (f_X0_removeMessage l1 x3 M).bind fun M5 =>
        (f_X7_removeRange_3 fu) this l1 l3 (l4 + 1) M5
      )
    )
def f_X7_removeRange (this : Nat) (a1 : Nat) (a2 : Int32) (a3 : Int32) (M : Mem) : Option Mem :=
  ob M 6 this (
    f_X7_removeRange_3 FU this a1 a3 a2 M
  )
def f_X7_tellGone_72 (rc15 : Nat → Int32 → Nat → Nat → Int32 → Int32 → Int32 → Int32 → Mem → Option (Int32 × Mem)) (this : Nat) (l1 : Int32) (l2 : Nat) (l3 : Nat) (l4 : Int32) (l5 : Int32) (l6 : Int32) (l7 : Int32) (M : Mem) : Option (Int32 × Mem) :=
  rc15 this l1 l2 l3 l4 l5 l6 (l7 + 1) M
def f_X7_tellGone_15 : Nat → Nat → Int32 → Nat → Nat → Int32 → Int32 → Int32 → Int32 → Mem → Option (Int32 × Mem)
  | 0 => fun _ _ _ _ _ _ _ _ _ => none
  | fu + 1 => fun this l1 l2 l3 l4 l5 l6 l7 M =>
    if l4 ≤ l7 then (
      (gR M 6 7 this).bind fun x2 =>
      (f_X5_increase x2 1 l6 M).bind fun M4 =>
      some (l6, M4)
    ) else (
      (f_X7_isGone this l2 l5 M).bind fun x5 =>
      bif x5 then (
        (gR M 6 5 this).bind fun x6 =>
        (f_X5_removeAt x6 (l5 - 1) M).bind fun M8 =>
        (gR M8 6 6 this).bind fun x9 =>
        (f_X5_removeAt x9 (l5 - 1) M8).bind fun M11 =>
        (f_X4_add l3 l1 0 l5 0 M11).bind fun M13 =>
        f_X7_tellGone_72 (f_X7_tellGone_15 fu) this l1 l2 l3 l4 l5 (l6 + 1) l7 M13
      ) else (
        f_X7_tellGone_72 (f_X7_tellGone_15 fu) this l1 l2 l3 l4 (l5 + 1) l6 l7 M
      )
    )
def f_X7_tellGone (this : Nat) (a1 : Int32) (a2 : Nat) (a3 : Nat) (M : Mem) : Option (Int32 × Mem) :=
  ob M 6 this (
    (f_X7_size this M).bind fun x1 =>
    f_X7_tellGone_15 FU this a1 a2 a3 x1 1 0 0 M
  )
def f_X7_tellChanged_70 (rc6 : Nat → Int32 → Nat → Nat → Int32 → Int32 → Mem → Option (Int32 × Mem)) (this : Nat) (l1 : Int32) (l2 : Nat) (l3 : Nat) (l4 : Int32) (l5 : Int32) (M : Mem) : Option (Int32 × Mem) :=
  rc6 this l1 l2 l3 l4 (l5 + 1) M
def f_X7_tellChanged_6 : Nat → Nat → Int32 → Nat → Nat → Int32 → Int32 → Mem → Option (Int32 × Mem)
  | 0 => fun _ _ _ _ _ _ _ => none
  | fu + 1 => fun this l1 l2 l3 l4 l5 M =>
    (f_X7_size this M).bind fun x1 =>
    if x1 < l5 then (
      (gR M 6 7 this).bind fun x2 =>
      (f_X5_increase x2 2 l4 M).bind fun M4 =>
      some (l4, M4)
    ) else (
      (f_X7_isChanged this l2 l5 M).bind fun x5 =>
      bif x5 then (
        (gR M 0 4 l2).bind fun x6 =>
        (f_X7_uidOf this l5 M).bind fun x7 =>
        (f_X0_indexOfUid l2 x7 M).bind fun x8 =>
        (f_X5_get x6 x8 M).bind fun x9 =>
        (gR M 6 6 this).bind fun x10 =>
        (f_X5_set x10 (l5 - 1) x9 M).bind fun M12 =>
        (f_X4_add l3 l1 1 l5 x9 M12).bind fun M14 =>
        f_X7_tellChanged_70 (f_X7_tellChanged_6 fu) this l1 l2 l3 (l4 + 1) l5 M14
      ) else (
        f_X7_tellChanged_70 (f_X7_tellChanged_6 fu) this l1 l2 l3 l4 l5 M
      )
    )
def f_X7_tellChanged (this : Nat) (a1 : Int32) (a2 : Nat) (a3 : Nat) (M : Mem) : Option (Int32 × Mem) :=
  ob M 6 this (
    f_X7_tellChanged_6 FU this a1 a2 a3 0 1 M
  )
def f_X7_tellNew (this : Nat) (a1 : Int32) (a2 : Nat) (a3 : Nat) (M : Mem) : Option (Int32 × Mem) :=
  ob M 6 this (
    (f_X7_addNewEntries this a2 M).bind fun (x1, M2) =>
    if x1 = 0 then (
      some (0, M2)
    ) else (
      (f_X7_size this M2).bind fun x3 =>
      (f_X4_add a3 a1 2 x3 0 M2).bind fun M5 =>
      (gR M5 6 7 this).bind fun x6 =>
      (f_X5_increase x6 3 1 M5).bind fun M8 =>
      some (1, M8)
    )
  )
theorem fl_X7_9_w : (Cond.fieldLink RX7 9 (TX7 0).1 (TX7 0).2.1 (TX7 0).2.2.1) ∈ cr_U := mem_U (i := 140) (by decide +kernel) rfl
theorem fl_X7_9 : flk RX7 9 (TX7 0) := Or.inl fl_X7_9_w
theorem fl_X7_15_w : (Cond.fieldLink RX7 15 (TX7 1).1 (TX7 1).2.1 (TX7 1).2.2.1) ∈ cr_U := mem_U (i := 142) (by decide +kernel) rfl
theorem fl_X7_15 : flk RX7 15 (TX7 1) := Or.inl fl_X7_15_w
theorem ml_X7_21 : (Cond.methodLink RX7 21 yX5_init) ∈ cr_U := mem_U (i := 139) (by decide +kernel) rfl
theorem fl_X7_24_w : (Cond.fieldLink RX7 24 (TX7 5).1 (TX7 5).2.1 (TX7 5).2.2.1) ∈ cr_U := mem_U (i := 152) (by decide +kernel) rfl
theorem fl_X7_24 : flk RX7 24 (TX7 5) := Or.inl fl_X7_24_w
theorem fl_X7_28_w : (Cond.fieldLink RX7 28 (TX7 6).1 (TX7 6).2.1 (TX7 6).2.2.1) ∈ cr_U := mem_U (i := 153) (by decide +kernel) rfl
theorem fl_X7_28 : flk RX7 28 (TX7 6) := Or.inl fl_X7_28_w
theorem fl_X7_31_w : (Cond.fieldLink RX7 31 (TX7 7).1 (TX7 7).2.1 (TX7 7).2.2.1) ∈ cr_U := mem_U (i := 155) (by decide +kernel) rfl
theorem fl_X7_31 : flk RX7 31 (TX7 7) := Or.inl fl_X7_31_w
theorem cl_X7_19 : (Cond.classLink RX7 19 RX5) ∈ cr_U := mem_U (i := 138) (by decide +kernel) rfl
theorem ml_X7_3 : (Cond.methodLink RX7 3 Lib.objectInit) ∈ cr_U := mem_U (i := 137) (by decide +kernel) rfl
theorem cw_X7_init : (Cond.code yX7_init cX7_init 1 (none)) ∈ cr_U := mem_U (i := 136) (by decide +kernel) rfl
theorem ini_X7 : (Cond.initialized RX7) ∈ cr_U := mem_U (i := 31) (by decide +kernel) rfl
theorem fl_X7_37_w : (Cond.fieldLink RX7 37 (TX7 2).1 (TX7 2).2.1 (TX7 2).2.2.1) ∈ cr_U := mem_U (i := 145) (by decide +kernel) rfl
theorem fl_X7_37 : flk RX7 37 (TX7 2) := Or.inl fl_X7_37_w
theorem fl_X7_41_w : (Cond.fieldLink RX7 41 (TX7 3).1 (TX7 3).2.1 (TX7 3).2.2.1) ∈ cr_U := mem_U (i := 148) (by decide +kernel) rfl
theorem fl_X7_41 : flk RX7 41 (TX7 3) := Or.inl fl_X7_41_w
theorem fl_X7_47_w : (Cond.fieldLink RX7 47 (TX7 4).1 (TX7 4).2.1 (TX7 4).2.2.1) ∈ cr_U := mem_U (i := 151) (by decide +kernel) rfl
theorem fl_X7_47 : flk RX7 47 (TX7 4) := Or.inl fl_X7_47_w
theorem ml_X7_50 : (Cond.methodLink RX7 50 yX5_takeFrom) ∈ cr_U := mem_U (i := 1198) (by decide +kernel) rfl
theorem cw_X7_takeFrom : (Cond.code yX7_takeFrom cX7_takeFrom 2 (none)) ∈ cr_U := mem_U (i := 1197) (by decide +kernel) rfl
theorem ml_X7_54 : (Cond.methodLink RX7 54 yX5_clear) ∈ cr_U := mem_U (i := 1132) (by decide +kernel) rfl
theorem cw_X7_leave : (Cond.code yX7_leave cX7_leave 1 (none)) ∈ cr_U := mem_U (i := 1131) (by decide +kernel) rfl
theorem ml_X7_34 : (Cond.methodLink RX7 34 yX7_leave) ∈ cr_U := mem_U (i := 1128) (by decide +kernel) rfl
theorem im_X7_leave : (Cond.instanceMethod yX7_leave) ∈ cr_U := mem_U (i := 1129) (by decide +kernel) rfl
theorem se_X7_leave : (Cond.selects RX7 yX7_leave yX7_leave) ∈ cr_U := mem_U (i := 1130) (by decide +kernel) rfl
theorem ml_X7_44 : (Cond.methodLink RX7 44 yX5_becomeZeros) ∈ cr_U := mem_U (i := 1133) (by decide +kernel) rfl
theorem im_X5_becomeZeros : (Cond.instanceMethod yX5_becomeZeros) ∈ cr_U := mem_U (i := 1134) (by decide +kernel) rfl
theorem se_X5_becomeZeros : (Cond.selects RX5 yX5_becomeZeros yX5_becomeZeros) ∈ cr_U := mem_U (i := 1135) (by decide +kernel) rfl
theorem cw_X7_begin : (Cond.code yX7_begin cX7_begin 5 (none)) ∈ cr_U := mem_U (i := 1127) (by decide +kernel) rfl
theorem ml_X7_61 : (Cond.methodLink RX7 61 yX5_size) ∈ cr_U := mem_U (i := 496) (by decide +kernel) rfl
theorem cw_X7_size : (Cond.code yX7_size cX7_size 1 (some .int)) ∈ cr_U := mem_U (i := 495) (by decide +kernel) rfl
theorem ml_X7_98 : (Cond.methodLink RX7 98 yX0_size) ∈ cr_U := mem_U (i := 542) (by decide +kernel) rfl
theorem ml_X7_86 : (Cond.methodLink RX7 86 yX7_size) ∈ cr_U := mem_U (i := 501) (by decide +kernel) rfl
theorem im_X7_size : (Cond.instanceMethod yX7_size) ∈ cr_U := mem_U (i := 493) (by decide +kernel) rfl
theorem se_X7_size : (Cond.selects RX7 yX7_size yX7_size) ∈ cr_U := mem_U (i := 494) (by decide +kernel) rfl
theorem fl_X7_99_w : (Cond.fieldLinkNest RX7 99 (TX0 2).1 (TX0 2).2.1 (TX0 2).2.2.1 RX11) ∈ lw_tbl := List.mem_of_getElem? (i := 113) (by decide +kernel)
theorem fl_X7_99 : flk RX7 99 (TX0 2) := Or.inr ⟨_, fl_X7_99_w⟩
theorem ml_X7_65 : (Cond.methodLink RX7 65 yX5_get) ∈ cr_U := mem_U (i := 514) (by decide +kernel) rfl
theorem ml_X7_137 : (Cond.methodLink RX7 137 yX5_add) ∈ cr_U := mem_U (i := 1162) (by decide +kernel) rfl
theorem fl_X7_80_w : (Cond.fieldLinkNest RX7 80 (TX0 4).1 (TX0 4).2.1 (TX0 4).2.2.1 RX11) ∈ lw_tbl := List.mem_of_getElem? (i := 119) (by decide +kernel)
theorem fl_X7_80 : flk RX7 80 (TX0 4) := Or.inr ⟨_, fl_X7_80_w⟩
theorem cw_X7_addNewEntries : (Cond.code yX7_addNewEntries cX7_addNewEntries 5 (some .int)) ∈ cr_U := mem_U (i := 1161) (by decide +kernel) rfl
theorem ml_X7_57 : (Cond.methodLink RX7 57 yX7_addNewEntries) ∈ cr_U := mem_U (i := 1158) (by decide +kernel) rfl
theorem im_X7_addNewEntries : (Cond.instanceMethod yX7_addNewEntries) ∈ cr_U := mem_U (i := 1160) (by decide +kernel) rfl
theorem se_X7_addNewEntries : (Cond.selects RX7 yX7_addNewEntries yX7_addNewEntries) ∈ cr_U := mem_U (i := 15) (by decide +kernel) rfl
theorem cw_X7_enter : (Cond.code yX7_enter cX7_enter 4 (none)) ∈ cr_U := mem_U (i := 1157) (by decide +kernel) rfl
theorem cw_X7_hasBox : (Cond.code yX7_hasBox cX7_hasBox 1 (some .boolean)) ∈ cr_U := mem_U (i := 551) (by decide +kernel) rfl
theorem cw_X7_uidOf : (Cond.code yX7_uidOf cX7_uidOf 2 (some .int)) ∈ cr_U := mem_U (i := 513) (by decide +kernel) rfl
theorem cw_X7_toldOf : (Cond.code yX7_toldOf cX7_toldOf 2 (some .int)) ∈ cr_U := mem_U (i := 537) (by decide +kernel) rfl
theorem ml_X7_69 : (Cond.methodLink RX7 69 yX5_find) ∈ cr_U := mem_U (i := 1504) (by decide +kernel) rfl
theorem cw_X7_numberOfUid : (Cond.code yX7_numberOfUid cX7_numberOfUid 3 (some .int)) ∈ cr_U := mem_U (i := 1503) (by decide +kernel) rfl
theorem ml_X7_72 : (Cond.methodLink RX7 72 yX7_uidOf) ∈ cr_U := mem_U (i := 510) (by decide +kernel) rfl
theorem im_X7_uidOf : (Cond.instanceMethod yX7_uidOf) ∈ cr_U := mem_U (i := 511) (by decide +kernel) rfl
theorem se_X7_uidOf : (Cond.selects RX7 yX7_uidOf yX7_uidOf) ∈ cr_U := mem_U (i := 512) (by decide +kernel) rfl
theorem ml_X7_75 : (Cond.methodLink RX7 75 yX0_indexOfUid) ∈ cr_U := mem_U (i := 518) (by decide +kernel) rfl
theorem im_X0_indexOfUid : (Cond.instanceMethod yX0_indexOfUid) ∈ cr_U := mem_U (i := 519) (by decide +kernel) rfl
theorem se_X0_indexOfUid : (Cond.selects RX0 yX0_indexOfUid yX0_indexOfUid) ∈ cr_U := mem_U (i := 520) (by decide +kernel) rfl
theorem cw_X7_isGone : (Cond.code yX7_isGone cX7_isGone 3 (some .boolean)) ∈ cr_U := mem_U (i := 509) (by decide +kernel) rfl
theorem ml_X7_83 : (Cond.methodLink RX7 83 yX7_toldOf) ∈ cr_U := mem_U (i := 534) (by decide +kernel) rfl
theorem im_X7_toldOf : (Cond.instanceMethod yX7_toldOf) ∈ cr_U := mem_U (i := 535) (by decide +kernel) rfl
theorem se_X7_toldOf : (Cond.selects RX7 yX7_toldOf yX7_toldOf) ∈ cr_U := mem_U (i := 536) (by decide +kernel) rfl
theorem cw_X7_isChanged : (Cond.code yX7_isChanged cX7_isChanged 4 (some .boolean)) ∈ cr_U := mem_U (i := 533) (by decide +kernel) rfl
theorem ml_X7_87 : (Cond.methodLink RX7 87 yX7_isGone) ∈ cr_U := mem_U (i := 506) (by decide +kernel) rfl
theorem im_X7_isGone : (Cond.instanceMethod yX7_isGone) ∈ cr_U := mem_U (i := 507) (by decide +kernel) rfl
theorem se_X7_isGone : (Cond.selects RX7 yX7_isGone yX7_isGone) ∈ cr_U := mem_U (i := 508) (by decide +kernel) rfl
theorem cw_X7_countGoneBefore : (Cond.code yX7_countGoneBefore cX7_countGoneBefore 5 (some .int)) ∈ cr_U := mem_U (i := 505) (by decide +kernel) rfl
theorem ml_X7_91 : (Cond.methodLink RX7 91 yX7_countGoneBefore) ∈ cr_U := mem_U (i := 502) (by decide +kernel) rfl
theorem im_X7_countGoneBefore : (Cond.instanceMethod yX7_countGoneBefore) ∈ cr_U := mem_U (i := 503) (by decide +kernel) rfl
theorem se_X7_countGoneBefore : (Cond.selects RX7 yX7_countGoneBefore yX7_countGoneBefore) ∈ cr_U := mem_U (i := 504) (by decide +kernel) rfl
theorem cw_X7_countGone : (Cond.code yX7_countGone cX7_countGone 2 (some .int)) ∈ cr_U := mem_U (i := 500) (by decide +kernel) rfl
theorem cw_X7_countThere : (Cond.code yX7_countThere cX7_countThere 6 (some .int)) ∈ cr_U := mem_U (i := 1435) (by decide +kernel) rfl
theorem ml_X7_95 : (Cond.methodLink RX7 95 yX7_isChanged) ∈ cr_U := mem_U (i := 530) (by decide +kernel) rfl
theorem im_X7_isChanged : (Cond.instanceMethod yX7_isChanged) ∈ cr_U := mem_U (i := 531) (by decide +kernel) rfl
theorem se_X7_isChanged : (Cond.selects RX7 yX7_isChanged yX7_isChanged) ∈ cr_U := mem_U (i := 532) (by decide +kernel) rfl
theorem cw_X7_countChanged : (Cond.code yX7_countChanged cX7_countChanged 4 (some .int)) ∈ cr_U := mem_U (i := 529) (by decide +kernel) rfl
theorem cw_X7_countNew : (Cond.code yX7_countNew cX7_countNew 4 (some .int)) ∈ cr_U := mem_U (i := 541) (by decide +kernel) rfl
theorem ml_X7_100 : (Cond.methodLink RX7 100 yX7_countGone) ∈ cr_U := mem_U (i := 556) (by decide +kernel) rfl
theorem im_X7_countGone : (Cond.instanceMethod yX7_countGone) ∈ cr_U := mem_U (i := 498) (by decide +kernel) rfl
theorem se_X7_countGone : (Cond.selects RX7 yX7_countGone yX7_countGone) ∈ cr_U := mem_U (i := 499) (by decide +kernel) rfl
theorem ml_X7_103 : (Cond.methodLink RX7 103 yX7_countChanged) ∈ cr_U := mem_U (i := 557) (by decide +kernel) rfl
theorem im_X7_countChanged : (Cond.instanceMethod yX7_countChanged) ∈ cr_U := mem_U (i := 527) (by decide +kernel) rfl
theorem se_X7_countChanged : (Cond.selects RX7 yX7_countChanged yX7_countChanged) ∈ cr_U := mem_U (i := 528) (by decide +kernel) rfl
theorem ml_X7_106 : (Cond.methodLink RX7 106 yX7_countNew) ∈ cr_U := mem_U (i := 558) (by decide +kernel) rfl
theorem im_X7_countNew : (Cond.instanceMethod yX7_countNew) ∈ cr_U := mem_U (i := 539) (by decide +kernel) rfl
theorem se_X7_countNew : (Cond.selects RX7 yX7_countNew yX7_countNew) ∈ cr_U := mem_U (i := 540) (by decide +kernel) rfl
theorem cw_X7_countPending : (Cond.code yX7_countPending cX7_countPending 4 (some .int)) ∈ cr_U := mem_U (i := 555) (by decide +kernel) rfl
theorem cw_X7_firstNotToldSeen : (Cond.code yX7_firstNotToldSeen cX7_firstNotToldSeen 2 (some .int)) ∈ cr_U := mem_U (i := 1518) (by decide +kernel) rfl
theorem fl_X7_112_w : (Cond.fieldLinkNest RX7 112 (TX0 3).1 (TX0 3).2.1 (TX0 3).2.2.1 RX11) ∈ lw_tbl := List.mem_of_getElem? (i := 116) (by decide +kernel)
theorem fl_X7_112 : flk RX7 112 (TX0 3) := Or.inr ⟨_, fl_X7_112_w⟩
theorem cw_X7_largestIn : (Cond.code yX7_largestIn cX7_largestIn 6 (some .int)) ∈ cr_U := mem_U (i := 1526) (by decide +kernel) rfl
theorem ml_X7_115 : (Cond.methodLink RX7 115 yX0_addMessage) ∈ cr_U := mem_U (i := 1445) (by decide +kernel) rfl
theorem im_X0_addMessage : (Cond.instanceMethod yX0_addMessage) ∈ cr_U := mem_U (i := 1096) (by decide +kernel) rfl
theorem se_X0_addMessage : (Cond.selects RX0 yX0_addMessage yX0_addMessage) ∈ cr_U := mem_U (i := 1097) (by decide +kernel) rfl
theorem cw_X7_copyRange : (Cond.code yX7_copyRange cX7_copyRange 8 (some .int)) ∈ cr_U := mem_U (i := 1444) (by decide +kernel) rfl
theorem ml_X7_119 : (Cond.methodLink RX7 119 yX0_removeMessage) ∈ cr_U := mem_U (i := 1457) (by decide +kernel) rfl
theorem cw_X7_removeRange : (Cond.code yX7_removeRange cX7_removeRange 5 (none)) ∈ cr_U := mem_U (i := 1456) (by decide +kernel) rfl
theorem ml_X7_131 : (Cond.methodLink RX7 131 yX5_increase) ∈ cr_U := mem_U (i := 1326) (by decide +kernel) rfl
theorem im_X5_increase : (Cond.instanceMethod yX5_increase) ∈ cr_U := mem_U (i := 1296) (by decide +kernel) rfl
theorem se_X5_increase : (Cond.selects RX5 yX5_increase yX5_increase) ∈ cr_U := mem_U (i := 1297) (by decide +kernel) rfl
theorem ml_X7_122 : (Cond.methodLink RX7 122 yX5_removeAt) ∈ cr_U := mem_U (i := 1317) (by decide +kernel) rfl
theorem ml_X7_125 : (Cond.methodLink RX7 125 yX4_add) ∈ cr_U := mem_U (i := 1321) (by decide +kernel) rfl
theorem im_X4_add : (Cond.instanceMethod yX4_add) ∈ cr_U := mem_U (i := 1322) (by decide +kernel) rfl
theorem se_X4_add : (Cond.selects RX4 yX4_add yX4_add) ∈ cr_U := mem_U (i := 1323) (by decide +kernel) rfl
theorem cw_X7_tellGone : (Cond.code yX7_tellGone cX7_tellGone 8 (some .int)) ∈ cr_U := mem_U (i := 1316) (by decide +kernel) rfl
theorem ml_X7_134 : (Cond.methodLink RX7 134 yX5_set) ∈ cr_U := mem_U (i := 1331) (by decide +kernel) rfl
theorem cw_X7_tellChanged : (Cond.code yX7_tellChanged cX7_tellChanged 7 (some .int)) ∈ cr_U := mem_U (i := 1330) (by decide +kernel) rfl
theorem cw_X7_tellNew : (Cond.code yX7_tellNew cX7_tellNew 4 (some .int)) ∈ cr_U := mem_U (i := 1335) (by decide +kernel) rfl
def mi_X5_init_60 : MI := (RX5, yX5_init, cX5_init, 2, none, [], { frames := 1, cells := 1, slots := 60, locals := 12 })
theorem ok_X5_init_60 : mOK mi_X5_init_60 1 := ⟨rfl, cw_X5_init, ini_X5, ⟨rfl, by decide⟩, by decide, by decide, rfl⟩
theorem v_X5_init_60 (this : Nat) (M : Mem) : V mi_X5_init_60 0 [(0, .ref this), (1, .int 60)] [] M 0 0 (f_X5_init_60 this M) wV := by
  unfold f_X5_init_60
  refine V_ob fun _ _ => ?_
  refine V_aload_n dX5_init_0 rfl 0 rfl ?_
  refine V_objInit ml_X5_3 dX5_init_1 rfl ⟨(Nat.le_of_ble_eq_true rfl), (Nat.le_of_ble_eq_true rfl)⟩ ?_
  refine V_aload_n dX5_init_4 rfl 0 rfl ?_
  refine V_iload_n dX5_init_5 rfl 1 rfl ?_
  refine V_if_ge_t (q := 13) (q2 := 9) dX5_init_6 (by decide) rfl (by decide) ?_
  refine V_iload_n dX5_init_13 rfl 1 rfl ?_
  refine V_newarray dX5_init_14 rfl (t := 0) (N := 60) (x := (60, .inl (fun _ => 0))) rfl ar_0 (by decide) rfl (Nat.le_of_ble_eq_true rfl) (fun _ _ => rfl) (fun _ _ h => h) ⟨(Nat.le_of_ble_eq_true rfl), (Nat.le_of_ble_eq_true rfl)⟩ (fun r1 => ?_)
  refine V_putFR dX5_init_16 rfl (ci := 4) (T := TX5) rfl (by decide) fl_X5_9_w rfl rfl rfl rfl (fun _ => rfl) (fun _ => rfl) (fun M2 => ?_)
  refine V_aload_n dX5_init_19 rfl 0 rfl ?_
  refine V_iconst (x := 0) dX5_init_20 rfl rfl ?_
  refine V_putI dX5_init_21 rfl (ci := 4) (T := TX5) rfl (by decide) fl_X5_15 rfl rfl (fun M3 => ?_)
  exact V_vret dX5_init_24 rfl rfl ⟨(Nat.le_of_ble_eq_true rfl), (Nat.le_of_ble_eq_true rfl)⟩
theorem k_X5_init_60 (this : Nat) (M : Mem) : K mi_X5_init_60 [.ref this, .int 60] M (f_X5_init_60 this M) wV := K_of_V ok_X5_init_60 (Nat.le_of_ble_eq_true rfl) (v_X5_init_60 this M)
theorem o_X5_init_60 {this : Nat} {M : Mem} {x} (h : f_X5_init_60 this M = some x) : isO M 4 this = true := (ob_of h).1
def mi_X5_init_5 : MI := (RX5, yX5_init, cX5_init, 2, none, [], { frames := 1, cells := 1, slots := 5, locals := 12 })
theorem ok_X5_init_5 : mOK mi_X5_init_5 1 := ⟨rfl, cw_X5_init, ini_X5, ⟨rfl, by decide⟩, by decide, by decide, rfl⟩
theorem v_X5_init_5 (this : Nat) (M : Mem) : V mi_X5_init_5 0 [(0, .ref this), (1, .int 5)] [] M 0 0 (f_X5_init_5 this M) wV := by
  unfold f_X5_init_5
  refine V_ob fun _ _ => ?_
  refine V_aload_n dX5_init_0 rfl 0 rfl ?_
  refine V_objInit ml_X5_3 dX5_init_1 rfl ⟨(Nat.le_of_ble_eq_true rfl), (Nat.le_of_ble_eq_true rfl)⟩ ?_
  refine V_aload_n dX5_init_4 rfl 0 rfl ?_
  refine V_iload_n dX5_init_5 rfl 1 rfl ?_
  refine V_if_ge_t (q := 13) (q2 := 9) dX5_init_6 (by decide) rfl (by decide) ?_
  refine V_iload_n dX5_init_13 rfl 1 rfl ?_
  refine V_newarray dX5_init_14 rfl (t := 0) (N := 5) (x := (5, .inl (fun _ => 0))) rfl ar_0 (by decide) rfl (Nat.le_of_ble_eq_true rfl) (fun _ _ => rfl) (fun _ _ h => h) ⟨(Nat.le_of_ble_eq_true rfl), (Nat.le_of_ble_eq_true rfl)⟩ (fun r1 => ?_)
  refine V_putFR dX5_init_16 rfl (ci := 4) (T := TX5) rfl (by decide) fl_X5_9_w rfl rfl rfl rfl (fun _ => rfl) (fun _ => rfl) (fun M2 => ?_)
  refine V_aload_n dX5_init_19 rfl 0 rfl ?_
  refine V_iconst (x := 0) dX5_init_20 rfl rfl ?_
  refine V_putI dX5_init_21 rfl (ci := 4) (T := TX5) rfl (by decide) fl_X5_15 rfl rfl (fun M3 => ?_)
  exact V_vret dX5_init_24 rfl rfl ⟨(Nat.le_of_ble_eq_true rfl), (Nat.le_of_ble_eq_true rfl)⟩
theorem k_X5_init_5 (this : Nat) (M : Mem) : K mi_X5_init_5 [.ref this, .int 5] M (f_X5_init_5 this M) wV := K_of_V ok_X5_init_5 (Nat.le_of_ble_eq_true rfl) (v_X5_init_5 this M)
theorem o_X5_init_5 {this : Nat} {M : Mem} {x} (h : f_X5_init_5 this M = some x) : isO M 4 this = true := (ob_of h).1
theorem dX7_init_0 : decode cX7_init 0 = .ok (.aload_n 0, 1) := by decide +kernel
theorem dX7_init_1 : decode cX7_init 1 = .ok (.invokespecial 3, 3) := by decide +kernel
theorem dX7_init_4 : decode cX7_init 4 = .ok (.aload_n 0, 1) := by decide +kernel
theorem dX7_init_5 : decode cX7_init 5 = .ok (.lconst 0, 1) := by decide +kernel
theorem dX7_init_6 : decode cX7_init 6 = .ok (.putfield 9, 3) := by decide +kernel
theorem dX7_init_9 : decode cX7_init 9 = .ok (.aload_n 0, 1) := by decide +kernel
theorem dX7_init_10 : decode cX7_init 10 = .ok (.iconst (-1), 1) := by decide +kernel
theorem dX7_init_11 : decode cX7_init 11 = .ok (.putfield 15, 3) := by decide +kernel
theorem dX7_init_14 : decode cX7_init 14 = .ok (.aload_n 0, 1) := by decide +kernel
theorem dX7_init_15 : decode cX7_init 15 = .ok (.new 19, 3) := by decide +kernel
theorem dX7_init_18 : decode cX7_init 18 = .ok (.dup, 1) := by decide +kernel
theorem dX7_init_19 : decode cX7_init 19 = .ok (.bipush 60, 2) := by decide +kernel
theorem dX7_init_21 : decode cX7_init 21 = .ok (.invokespecial 21, 3) := by decide +kernel
theorem dX7_init_24 : decode cX7_init 24 = .ok (.putfield 24, 3) := by decide +kernel
theorem dX7_init_27 : decode cX7_init 27 = .ok (.aload_n 0, 1) := by decide +kernel
theorem dX7_init_28 : decode cX7_init 28 = .ok (.new 19, 3) := by decide +kernel
theorem dX7_init_31 : decode cX7_init 31 = .ok (.dup, 1) := by decide +kernel
theorem dX7_init_32 : decode cX7_init 32 = .ok (.bipush 60, 2) := by decide +kernel
theorem dX7_init_34 : decode cX7_init 34 = .ok (.invokespecial 21, 3) := by decide +kernel
theorem dX7_init_37 : decode cX7_init 37 = .ok (.putfield 28, 3) := by decide +kernel
theorem dX7_init_40 : decode cX7_init 40 = .ok (.aload_n 0, 1) := by decide +kernel
theorem dX7_init_41 : decode cX7_init 41 = .ok (.new 19, 3) := by decide +kernel
theorem dX7_init_44 : decode cX7_init 44 = .ok (.dup, 1) := by decide +kernel
theorem dX7_init_45 : decode cX7_init 45 = .ok (.iconst 5, 1) := by decide +kernel
theorem dX7_init_46 : decode cX7_init 46 = .ok (.invokespecial 21, 3) := by decide +kernel
theorem dX7_init_49 : decode cX7_init 49 = .ok (.putfield 31, 3) := by decide +kernel
theorem dX7_init_52 : decode cX7_init 52 = .ok (.return_, 1) := by decide +kernel
def mi_X7_init : MI := (RX7, yX7_init, cX7_init, 1, none, [], { frames := 3, cells := 6, slots := 131, locals := 60 })
theorem ok_X7_init : mOK mi_X7_init 0 := ⟨rfl, cw_X7_init, ini_X7, ⟨rfl, by decide⟩, by decide, by decide, rfl⟩
theorem v_X7_init (this : Nat) (M : Mem) : V mi_X7_init 0 [(0, .ref this)] [] M 0 0 (f_X7_init this M) wV := by
  unfold f_X7_init
  refine V_ob fun _ _ => ?_
  refine V_aload_n dX7_init_0 rfl 0 rfl ?_
  refine V_objInit ml_X7_3 dX7_init_1 rfl ⟨(Nat.le_of_ble_eq_true rfl), (Nat.le_of_ble_eq_true rfl)⟩ ?_
  refine V_aload_n dX7_init_4 rfl 0 rfl ?_
  refine V_lconst (x := 0) dX7_init_5 rfl rfl ?_
  refine V_putJ dX7_init_6 rfl (ci := 6) (T := TX7) rfl (by decide) fl_X7_9 rfl rfl (fun M1 => ?_)
  refine V_aload_n dX7_init_9 rfl 0 rfl ?_
  refine V_iconst (x := (-1)) dX7_init_10 rfl rfl ?_
  refine V_putI dX7_init_11 rfl (ci := 6) (T := TX7) rfl (by decide) fl_X7_15 rfl rfl (fun M2 => ?_)
  refine V_aload_n dX7_init_14 rfl 0 rfl ?_
  refine V_new dX7_init_15 rfl (ci := 4) (T := TX5) (N := 2) (fs := [.null, .int 0]) (ty := tyX5) rfl cl_X7_19 ins_X5 ini_X5 tyX5_ok (fun _ j hj => match j, hj with | 0, _ => rfl | 1, _ => rfl | j + 2, h => absurd h (by omega)) ⟨(Nat.le_of_ble_eq_true rfl), (Nat.le_of_ble_eq_true rfl)⟩ (fun r3 => ?_)
  refine V_dup dX7_init_18 rfl rfl ?_
  refine V_bipush (x := 60) dX7_init_19 rfl rfl ?_
  refine V_cIwV (As := [.int 60]) (k_X5_init_60 r3 (mnew M2 (.inr (4, [.null, .int 0])))) ok_X5_init_60 im_X5_init ml_X7_21 ⟨⟨(Nat.le_of_ble_eq_true rfl), (Nat.le_of_ble_eq_true rfl)⟩, (Nat.le_of_ble_eq_true rfl), (Nat.le_of_ble_eq_true rfl)⟩ rfl rfl dX7_init_21 rfl rfl rfl (Nat.le_of_ble_eq_true rfl) rfl rfl (fun M5 => ?_)
  refine V_putFR dX7_init_24 rfl (ci := 6) (T := TX7) rfl (by decide) fl_X7_24_w rfl rfl rfl rfl (fun _ => rfl) (fun _ => rfl) (fun M6 => ?_)
  refine V_aload_n dX7_init_27 rfl 0 rfl ?_
  refine V_new dX7_init_28 rfl (ci := 4) (T := TX5) (N := 2) (fs := [.null, .int 0]) (ty := tyX5) rfl cl_X7_19 ins_X5 ini_X5 tyX5_ok (fun _ j hj => match j, hj with | 0, _ => rfl | 1, _ => rfl | j + 2, h => absurd h (by omega)) ⟨(Nat.le_of_ble_eq_true rfl), (Nat.le_of_ble_eq_true rfl)⟩ (fun r7 => ?_)
  refine V_dup dX7_init_31 rfl rfl ?_
  refine V_bipush (x := 60) dX7_init_32 rfl rfl ?_
  refine V_cIwV (As := [.int 60]) (k_X5_init_60 r7 (mnew M6 (.inr (4, [.null, .int 0])))) ok_X5_init_60 im_X5_init ml_X7_21 ⟨⟨(Nat.le_of_ble_eq_true rfl), (Nat.le_of_ble_eq_true rfl)⟩, (Nat.le_of_ble_eq_true rfl), (Nat.le_of_ble_eq_true rfl)⟩ rfl rfl dX7_init_34 rfl rfl rfl (Nat.le_of_ble_eq_true rfl) rfl rfl (fun M9 => ?_)
  refine V_putFR dX7_init_37 rfl (ci := 6) (T := TX7) rfl (by decide) fl_X7_28_w rfl rfl rfl rfl (fun _ => rfl) (fun _ => rfl) (fun M10 => ?_)
  refine V_aload_n dX7_init_40 rfl 0 rfl ?_
  refine V_new dX7_init_41 rfl (ci := 4) (T := TX5) (N := 2) (fs := [.null, .int 0]) (ty := tyX5) rfl cl_X7_19 ins_X5 ini_X5 tyX5_ok (fun _ j hj => match j, hj with | 0, _ => rfl | 1, _ => rfl | j + 2, h => absurd h (by omega)) ⟨(Nat.le_of_ble_eq_true rfl), (Nat.le_of_ble_eq_true rfl)⟩ (fun r11 => ?_)
  refine V_dup dX7_init_44 rfl rfl ?_
  refine V_iconst (x := 5) dX7_init_45 rfl rfl ?_
  refine V_cIwV (As := [.int 5]) (k_X5_init_5 r11 (mnew M10 (.inr (4, [.null, .int 0])))) ok_X5_init_5 im_X5_init ml_X7_21 ⟨⟨(Nat.le_of_ble_eq_true rfl), (Nat.le_of_ble_eq_true rfl)⟩, (Nat.le_of_ble_eq_true rfl), (Nat.le_of_ble_eq_true rfl)⟩ rfl rfl dX7_init_46 rfl rfl rfl (Nat.le_of_ble_eq_true rfl) rfl rfl (fun M13 => ?_)
  refine V_putFR dX7_init_49 rfl (ci := 6) (T := TX7) rfl (by decide) fl_X7_31_w rfl rfl rfl rfl (fun _ => rfl) (fun _ => rfl) (fun M14 => ?_)
  exact V_vret dX7_init_52 rfl rfl ⟨(Nat.le_of_ble_eq_true rfl), (Nat.le_of_ble_eq_true rfl)⟩
theorem k_X7_init (this : Nat) (M : Mem) : K mi_X7_init [.ref this] M (f_X7_init this M) wV := K_of_V ok_X7_init (Nat.le_of_ble_eq_true rfl) (v_X7_init this M)
theorem o_X7_init {this : Nat} {M : Mem} {x} (h : f_X7_init this M = some x) : isO M 6 this = true := (ob_of h).1
theorem dX7_takeFrom_0 : decode cX7_takeFrom 0 = .ok (.aload_n 0, 1) := by decide +kernel
theorem dX7_takeFrom_1 : decode cX7_takeFrom 1 = .ok (.aload_n 1, 1) := by decide +kernel
theorem dX7_takeFrom_2 : decode cX7_takeFrom 2 = .ok (.getfield 9, 3) := by decide +kernel
theorem dX7_takeFrom_5 : decode cX7_takeFrom 5 = .ok (.putfield 9, 3) := by decide +kernel
theorem dX7_takeFrom_8 : decode cX7_takeFrom 8 = .ok (.aload_n 0, 1) := by decide +kernel
theorem dX7_takeFrom_9 : decode cX7_takeFrom 9 = .ok (.aload_n 1, 1) := by decide +kernel
theorem dX7_takeFrom_10 : decode cX7_takeFrom 10 = .ok (.getfield 15, 3) := by decide +kernel
theorem dX7_takeFrom_13 : decode cX7_takeFrom 13 = .ok (.putfield 15, 3) := by decide +kernel
theorem dX7_takeFrom_16 : decode cX7_takeFrom 16 = .ok (.aload_n 0, 1) := by decide +kernel
theorem dX7_takeFrom_17 : decode cX7_takeFrom 17 = .ok (.aload_n 1, 1) := by decide +kernel
theorem dX7_takeFrom_18 : decode cX7_takeFrom 18 = .ok (.getfield 37, 3) := by decide +kernel
theorem dX7_takeFrom_21 : decode cX7_takeFrom 21 = .ok (.putfield 37, 3) := by decide +kernel
theorem dX7_takeFrom_24 : decode cX7_takeFrom 24 = .ok (.aload_n 0, 1) := by decide +kernel
theorem dX7_takeFrom_25 : decode cX7_takeFrom 25 = .ok (.aload_n 1, 1) := by decide +kernel
theorem dX7_takeFrom_26 : decode cX7_takeFrom 26 = .ok (.getfield 41, 3) := by decide +kernel
theorem dX7_takeFrom_29 : decode cX7_takeFrom 29 = .ok (.putfield 41, 3) := by decide +kernel
theorem dX7_takeFrom_32 : decode cX7_takeFrom 32 = .ok (.aload_n 0, 1) := by decide +kernel
theorem dX7_takeFrom_33 : decode cX7_takeFrom 33 = .ok (.aload_n 1, 1) := by decide +kernel
theorem dX7_takeFrom_34 : decode cX7_takeFrom 34 = .ok (.getfield 47, 3) := by decide +kernel
theorem dX7_takeFrom_37 : decode cX7_takeFrom 37 = .ok (.putfield 47, 3) := by decide +kernel
theorem dX7_takeFrom_40 : decode cX7_takeFrom 40 = .ok (.aload_n 0, 1) := by decide +kernel
theorem dX7_takeFrom_41 : decode cX7_takeFrom 41 = .ok (.getfield 24, 3) := by decide +kernel
theorem dX7_takeFrom_44 : decode cX7_takeFrom 44 = .ok (.aload_n 1, 1) := by decide +kernel
theorem dX7_takeFrom_45 : decode cX7_takeFrom 45 = .ok (.getfield 24, 3) := by decide +kernel
theorem dX7_takeFrom_48 : decode cX7_takeFrom 48 = .ok (.invokevirtual 50, 3) := by decide +kernel
theorem dX7_takeFrom_51 : decode cX7_takeFrom 51 = .ok (.aload_n 0, 1) := by decide +kernel
theorem dX7_takeFrom_52 : decode cX7_takeFrom 52 = .ok (.getfield 28, 3) := by decide +kernel
theorem dX7_takeFrom_55 : decode cX7_takeFrom 55 = .ok (.aload_n 1, 1) := by decide +kernel
theorem dX7_takeFrom_56 : decode cX7_takeFrom 56 = .ok (.getfield 28, 3) := by decide +kernel
theorem dX7_takeFrom_59 : decode cX7_takeFrom 59 = .ok (.invokevirtual 50, 3) := by decide +kernel
theorem dX7_takeFrom_62 : decode cX7_takeFrom 62 = .ok (.aload_n 0, 1) := by decide +kernel
theorem dX7_takeFrom_63 : decode cX7_takeFrom 63 = .ok (.getfield 31, 3) := by decide +kernel
theorem dX7_takeFrom_66 : decode cX7_takeFrom 66 = .ok (.aload_n 1, 1) := by decide +kernel
theorem dX7_takeFrom_67 : decode cX7_takeFrom 67 = .ok (.getfield 31, 3) := by decide +kernel
theorem dX7_takeFrom_70 : decode cX7_takeFrom 70 = .ok (.invokevirtual 50, 3) := by decide +kernel
theorem dX7_takeFrom_73 : decode cX7_takeFrom 73 = .ok (.return_, 1) := by decide +kernel
def mi_X7_takeFrom : MI := (RX7, yX7_takeFrom, cX7_takeFrom, 2, none, [], { frames := 2, cells := 0, slots := 0, locals := 34 })
theorem ok_X7_takeFrom : mOK mi_X7_takeFrom 1 := ⟨rfl, cw_X7_takeFrom, ini_X7, ⟨rfl, by decide⟩, by decide, by decide, rfl⟩
theorem v_X7_takeFrom (this : Nat) (a1 : Nat) (M : Mem) : V mi_X7_takeFrom 0 [(0, .ref this), (1, .ref a1)] [] M 0 0 (f_X7_takeFrom this a1 M) wV := by
  unfold f_X7_takeFrom
  refine V_ob fun _ _ => ?_
  refine V_aload_n dX7_takeFrom_0 rfl 0 rfl ?_
  refine V_aload_n dX7_takeFrom_1 rfl 1 rfl ?_
  refine V_getJ dX7_takeFrom_2 rfl (ci := 6) (T := TX7) rfl (by decide) fl_X7_9 (fun x1 => ?_)
  refine V_putJ dX7_takeFrom_5 rfl (ci := 6) (T := TX7) rfl (by decide) fl_X7_9 rfl rfl (fun M2 => ?_)
  refine V_aload_n dX7_takeFrom_8 rfl 0 rfl ?_
  refine V_aload_n dX7_takeFrom_9 rfl 1 rfl ?_
  refine V_getI dX7_takeFrom_10 rfl (ci := 6) (T := TX7) rfl (by decide) fl_X7_15 (fun x3 => ?_)
  refine V_putI dX7_takeFrom_13 rfl (ci := 6) (T := TX7) rfl (by decide) fl_X7_15 rfl rfl (fun M4 => ?_)
  refine V_aload_n dX7_takeFrom_16 rfl 0 rfl ?_
  refine V_aload_n dX7_takeFrom_17 rfl 1 rfl ?_
  refine V_getZ dX7_takeFrom_18 rfl (ci := 6) (T := TX7) rfl (by decide) fl_X7_37 (fun x5 => ?_)
  refine V_putZ (v := x5) dX7_takeFrom_21 rfl (ci := 6) (T := TX7) rfl (by decide) fl_X7_37 rfl rfl (fun M6 => ?_)
  refine V_aload_n dX7_takeFrom_24 rfl 0 rfl ?_
  refine V_aload_n dX7_takeFrom_25 rfl 1 rfl ?_
  refine V_getZ dX7_takeFrom_26 rfl (ci := 6) (T := TX7) rfl (by decide) fl_X7_41 (fun x7 => ?_)
  refine V_putZ (v := x7) dX7_takeFrom_29 rfl (ci := 6) (T := TX7) rfl (by decide) fl_X7_41 rfl rfl (fun M8 => ?_)
  refine V_aload_n dX7_takeFrom_32 rfl 0 rfl ?_
  refine V_aload_n dX7_takeFrom_33 rfl 1 rfl ?_
  refine V_getI dX7_takeFrom_34 rfl (ci := 6) (T := TX7) rfl (by decide) fl_X7_47 (fun x9 => ?_)
  refine V_putI dX7_takeFrom_37 rfl (ci := 6) (T := TX7) rfl (by decide) fl_X7_47 rfl rfl (fun M10 => ?_)
  refine V_aload_n dX7_takeFrom_40 rfl 0 rfl ?_
  refine V_getR dX7_takeFrom_41 rfl (ci := 6) (T := TX7) rfl (by decide) fl_X7_24 (fun x11 => ?_)
  refine V_aload_n dX7_takeFrom_44 rfl 1 rfl ?_
  refine V_getR dX7_takeFrom_45 rfl (ci := 6) (T := TX7) rfl (by decide) fl_X7_24 (fun x12 => ?_)
  refine V_cVwV (As := [.ref x12]) (k_X5_takeFrom x11 x12 M10) (fun _ h => o_X5_takeFrom h) ok_X5_takeFrom im_X5_takeFrom se_X5_takeFrom rfl (ci := 4) rfl ml_X7_50 ⟨⟨(Nat.le_of_ble_eq_true rfl), (Nat.le_of_ble_eq_true rfl)⟩, (Nat.le_of_ble_eq_true rfl), (Nat.le_of_ble_eq_true rfl)⟩ dX7_takeFrom_48 rfl rfl rfl (Nat.le_of_ble_eq_true rfl) rfl rfl (fun M14 => ?_)
  refine V_aload_n dX7_takeFrom_51 rfl 0 rfl ?_
  refine V_getR dX7_takeFrom_52 rfl (ci := 6) (T := TX7) rfl (by decide) fl_X7_28 (fun x15 => ?_)
  refine V_aload_n dX7_takeFrom_55 rfl 1 rfl ?_
  refine V_getR dX7_takeFrom_56 rfl (ci := 6) (T := TX7) rfl (by decide) fl_X7_28 (fun x16 => ?_)
  refine V_cVwV (As := [.ref x16]) (k_X5_takeFrom x15 x16 M14) (fun _ h => o_X5_takeFrom h) ok_X5_takeFrom im_X5_takeFrom se_X5_takeFrom rfl (ci := 4) rfl ml_X7_50 ⟨⟨(Nat.le_of_ble_eq_true rfl), (Nat.le_of_ble_eq_true rfl)⟩, (Nat.le_of_ble_eq_true rfl), (Nat.le_of_ble_eq_true rfl)⟩ dX7_takeFrom_59 rfl rfl rfl (Nat.le_of_ble_eq_true rfl) rfl rfl (fun M18 => ?_)
  refine V_aload_n dX7_takeFrom_62 rfl 0 rfl ?_
  refine V_getR dX7_takeFrom_63 rfl (ci := 6) (T := TX7) rfl (by decide) fl_X7_31 (fun x19 => ?_)
  refine V_aload_n dX7_takeFrom_66 rfl 1 rfl ?_
  refine V_getR dX7_takeFrom_67 rfl (ci := 6) (T := TX7) rfl (by decide) fl_X7_31 (fun x20 => ?_)
  refine V_cVwV (As := [.ref x20]) (k_X5_takeFrom x19 x20 M18) (fun _ h => o_X5_takeFrom h) ok_X5_takeFrom im_X5_takeFrom se_X5_takeFrom rfl (ci := 4) rfl ml_X7_50 ⟨⟨(Nat.le_of_ble_eq_true rfl), (Nat.le_of_ble_eq_true rfl)⟩, (Nat.le_of_ble_eq_true rfl), (Nat.le_of_ble_eq_true rfl)⟩ dX7_takeFrom_70 rfl rfl rfl (Nat.le_of_ble_eq_true rfl) rfl rfl (fun M22 => ?_)
  exact V_vret dX7_takeFrom_73 rfl rfl ⟨(Nat.le_of_ble_eq_true rfl), (Nat.le_of_ble_eq_true rfl)⟩
theorem k_X7_takeFrom (this : Nat) (a1 : Nat) (M : Mem) : K mi_X7_takeFrom [.ref this, .ref a1] M (f_X7_takeFrom this a1 M) wV := K_of_V ok_X7_takeFrom (Nat.le_of_ble_eq_true rfl) (v_X7_takeFrom this a1 M)
theorem o_X7_takeFrom {this : Nat} {a1 : Nat} {M : Mem} {x} (h : f_X7_takeFrom this a1 M = some x) : isO M 6 this = true := (ob_of h).1
theorem dX7_leave_0 : decode cX7_leave 0 = .ok (.aload_n 0, 1) := by decide +kernel
theorem dX7_leave_1 : decode cX7_leave 1 = .ok (.iconst (-1), 1) := by decide +kernel
theorem dX7_leave_2 : decode cX7_leave 2 = .ok (.putfield 15, 3) := by decide +kernel
theorem dX7_leave_5 : decode cX7_leave 5 = .ok (.aload_n 0, 1) := by decide +kernel
theorem dX7_leave_6 : decode cX7_leave 6 = .ok (.iconst 0, 1) := by decide +kernel
theorem dX7_leave_7 : decode cX7_leave 7 = .ok (.putfield 37, 3) := by decide +kernel
theorem dX7_leave_10 : decode cX7_leave 10 = .ok (.aload_n 0, 1) := by decide +kernel
theorem dX7_leave_11 : decode cX7_leave 11 = .ok (.iconst 0, 1) := by decide +kernel
theorem dX7_leave_12 : decode cX7_leave 12 = .ok (.putfield 47, 3) := by decide +kernel
theorem dX7_leave_15 : decode cX7_leave 15 = .ok (.aload_n 0, 1) := by decide +kernel
theorem dX7_leave_16 : decode cX7_leave 16 = .ok (.getfield 24, 3) := by decide +kernel
theorem dX7_leave_19 : decode cX7_leave 19 = .ok (.invokevirtual 54, 3) := by decide +kernel
theorem dX7_leave_22 : decode cX7_leave 22 = .ok (.aload_n 0, 1) := by decide +kernel
theorem dX7_leave_23 : decode cX7_leave 23 = .ok (.getfield 28, 3) := by decide +kernel
theorem dX7_leave_26 : decode cX7_leave 26 = .ok (.invokevirtual 54, 3) := by decide +kernel
theorem dX7_leave_29 : decode cX7_leave 29 = .ok (.return_, 1) := by decide +kernel
def mi_X7_leave : MI := (RX7, yX7_leave, cX7_leave, 1, none, [], { frames := 2, cells := 0, slots := 0, locals := 32 })
theorem ok_X7_leave : mOK mi_X7_leave 0 := ⟨rfl, cw_X7_leave, ini_X7, ⟨rfl, by decide⟩, by decide, by decide, rfl⟩
theorem v_X7_leave (this : Nat) (M : Mem) : V mi_X7_leave 0 [(0, .ref this)] [] M 0 0 (f_X7_leave this M) wV := by
  unfold f_X7_leave
  refine V_ob fun _ _ => ?_
  refine V_aload_n dX7_leave_0 rfl 0 rfl ?_
  refine V_iconst (x := (-1)) dX7_leave_1 rfl rfl ?_
  refine V_putI dX7_leave_2 rfl (ci := 6) (T := TX7) rfl (by decide) fl_X7_15 rfl rfl (fun M1 => ?_)
  refine V_aload_n dX7_leave_5 rfl 0 rfl ?_
  refine V_iconst (x := 0) dX7_leave_6 rfl rfl ?_
  refine V_putZ (v := false) dX7_leave_7 rfl (ci := 6) (T := TX7) rfl (by decide) fl_X7_37 rfl rfl (fun M2 => ?_)
  refine V_aload_n dX7_leave_10 rfl 0 rfl ?_
  refine V_iconst (x := 0) dX7_leave_11 rfl rfl ?_
  refine V_putI dX7_leave_12 rfl (ci := 6) (T := TX7) rfl (by decide) fl_X7_47 rfl rfl (fun M3 => ?_)
  refine V_aload_n dX7_leave_15 rfl 0 rfl ?_
  refine V_getR dX7_leave_16 rfl (ci := 6) (T := TX7) rfl (by decide) fl_X7_24 (fun x4 => ?_)
  refine V_cVwV (As := []) (k_X5_clear x4 M3) (fun _ h => o_X5_clear h) ok_X5_clear im_X5_clear se_X5_clear rfl (ci := 4) rfl ml_X7_54 ⟨⟨(Nat.le_of_ble_eq_true rfl), (Nat.le_of_ble_eq_true rfl)⟩, (Nat.le_of_ble_eq_true rfl), (Nat.le_of_ble_eq_true rfl)⟩ dX7_leave_19 rfl rfl rfl (Nat.le_of_ble_eq_true rfl) rfl rfl (fun M6 => ?_)
  refine V_aload_n dX7_leave_22 rfl 0 rfl ?_
  refine V_getR dX7_leave_23 rfl (ci := 6) (T := TX7) rfl (by decide) fl_X7_28 (fun x7 => ?_)
  refine V_cVwV (As := []) (k_X5_clear x7 M6) (fun _ h => o_X5_clear h) ok_X5_clear im_X5_clear se_X5_clear rfl (ci := 4) rfl ml_X7_54 ⟨⟨(Nat.le_of_ble_eq_true rfl), (Nat.le_of_ble_eq_true rfl)⟩, (Nat.le_of_ble_eq_true rfl), (Nat.le_of_ble_eq_true rfl)⟩ dX7_leave_26 rfl rfl rfl (Nat.le_of_ble_eq_true rfl) rfl rfl (fun M9 => ?_)
  exact V_vret dX7_leave_29 rfl rfl ⟨(Nat.le_of_ble_eq_true rfl), (Nat.le_of_ble_eq_true rfl)⟩
theorem k_X7_leave (this : Nat) (M : Mem) : K mi_X7_leave [.ref this] M (f_X7_leave this M) wV := K_of_V ok_X7_leave (Nat.le_of_ble_eq_true rfl) (v_X7_leave this M)
theorem o_X7_leave {this : Nat} {M : Mem} {x} (h : f_X7_leave this M = some x) : isO M 6 this = true := (ob_of h).1
theorem dX7_begin_0 : decode cX7_begin 0 = .ok (.aload_n 0, 1) := by decide +kernel
theorem dX7_begin_1 : decode cX7_begin 1 = .ok (.lload_n 1, 1) := by decide +kernel
theorem dX7_begin_2 : decode cX7_begin 2 = .ok (.putfield 9, 3) := by decide +kernel
theorem dX7_begin_5 : decode cX7_begin 5 = .ok (.aload_n 0, 1) := by decide +kernel
theorem dX7_begin_6 : decode cX7_begin 6 = .ok (.invokevirtual 34, 3) := by decide +kernel
theorem dX7_begin_9 : decode cX7_begin 9 = .ok (.aload_n 0, 1) := by decide +kernel
theorem dX7_begin_10 : decode cX7_begin 10 = .ok (.iload_n 3, 1) := by decide +kernel
theorem dX7_begin_11 : decode cX7_begin 11 = .ok (.putfield 15, 3) := by decide +kernel
theorem dX7_begin_14 : decode cX7_begin 14 = .ok (.aload_n 0, 1) := by decide +kernel
theorem dX7_begin_15 : decode cX7_begin 15 = .ok (.iload 4, 2) := by decide +kernel
theorem dX7_begin_17 : decode cX7_begin 17 = .ok (.putfield 37, 3) := by decide +kernel
theorem dX7_begin_20 : decode cX7_begin 20 = .ok (.aload_n 0, 1) := by decide +kernel
theorem dX7_begin_21 : decode cX7_begin 21 = .ok (.iconst 0, 1) := by decide +kernel
theorem dX7_begin_22 : decode cX7_begin 22 = .ok (.putfield 41, 3) := by decide +kernel
theorem dX7_begin_25 : decode cX7_begin 25 = .ok (.aload_n 0, 1) := by decide +kernel
theorem dX7_begin_26 : decode cX7_begin 26 = .ok (.getfield 31, 3) := by decide +kernel
theorem dX7_begin_29 : decode cX7_begin 29 = .ok (.iconst 5, 1) := by decide +kernel
theorem dX7_begin_30 : decode cX7_begin 30 = .ok (.invokevirtual 44, 3) := by decide +kernel
theorem dX7_begin_33 : decode cX7_begin 33 = .ok (.return_, 1) := by decide +kernel
def mi_X7_begin : MI := (RX7, yX7_begin, cX7_begin, 5, none, [], { frames := 3, cells := 0, slots := 0, locals := 55 })
theorem ok_X7_begin : mOK mi_X7_begin 3 := ⟨rfl, cw_X7_begin, ini_X7, ⟨rfl, by decide⟩, by decide, by decide, rfl⟩
theorem v_X7_begin (this : Nat) (a1 : Int64) (a3 : Int32) (a4 : Bool) (M : Mem) : V mi_X7_begin 0 [(0, .ref this), (1, .long a1), (3, .int a3), (4, .int (b2i a4))] [] M 0 0 (f_X7_begin this a1 a3 a4 M) wV := by
  unfold f_X7_begin
  refine V_ob fun _ _ => ?_
  refine V_aload_n dX7_begin_0 rfl 0 rfl ?_
  refine V_lload_n dX7_begin_1 rfl 1 rfl ?_
  refine V_putJ dX7_begin_2 rfl (ci := 6) (T := TX7) rfl (by decide) fl_X7_9 rfl rfl (fun M1 => ?_)
  refine V_aload_n dX7_begin_5 rfl 0 rfl ?_
  refine V_cVwV (As := []) (k_X7_leave this M1) (fun _ h => o_X7_leave h) ok_X7_leave im_X7_leave se_X7_leave rfl (ci := 6) rfl ml_X7_34 ⟨⟨(Nat.le_of_ble_eq_true rfl), (Nat.le_of_ble_eq_true rfl)⟩, (Nat.le_of_ble_eq_true rfl), (Nat.le_of_ble_eq_true rfl)⟩ dX7_begin_6 rfl rfl rfl (Nat.le_of_ble_eq_true rfl) rfl rfl (fun M3 => ?_)
  refine V_aload_n dX7_begin_9 rfl 0 rfl ?_
  refine V_iload_n dX7_begin_10 rfl 2 rfl ?_
  refine V_putI dX7_begin_11 rfl (ci := 6) (T := TX7) rfl (by decide) fl_X7_15 rfl rfl (fun M4 => ?_)
  refine V_aload_n dX7_begin_14 rfl 0 rfl ?_
  refine V_iload dX7_begin_15 rfl 3 rfl ?_
  refine V_putZ (v := a4) dX7_begin_17 rfl (ci := 6) (T := TX7) rfl (by decide) fl_X7_37 rfl rfl (fun M5 => ?_)
  refine V_aload_n dX7_begin_20 rfl 0 rfl ?_
  refine V_iconst (x := 0) dX7_begin_21 rfl rfl ?_
  refine V_putZ (v := false) dX7_begin_22 rfl (ci := 6) (T := TX7) rfl (by decide) fl_X7_41 rfl rfl (fun M6 => ?_)
  refine V_aload_n dX7_begin_25 rfl 0 rfl ?_
  refine V_getR dX7_begin_26 rfl (ci := 6) (T := TX7) rfl (by decide) fl_X7_31 (fun x7 => ?_)
  refine V_iconst (x := 5) dX7_begin_29 rfl rfl ?_
  refine V_cVwV (As := [.int 5]) (k_X5_becomeZeros x7 5 M6) (fun _ h => o_X5_becomeZeros h) ok_X5_becomeZeros im_X5_becomeZeros se_X5_becomeZeros rfl (ci := 4) rfl ml_X7_44 ⟨⟨(Nat.le_of_ble_eq_true rfl), (Nat.le_of_ble_eq_true rfl)⟩, (Nat.le_of_ble_eq_true rfl), (Nat.le_of_ble_eq_true rfl)⟩ dX7_begin_30 rfl rfl rfl (Nat.le_of_ble_eq_true rfl) rfl rfl (fun M9 => ?_)
  exact V_vret dX7_begin_33 rfl rfl ⟨(Nat.le_of_ble_eq_true rfl), (Nat.le_of_ble_eq_true rfl)⟩
theorem k_X7_begin (this : Nat) (a1 : Int64) (a3 : Int32) (a4 : Bool) (M : Mem) : K mi_X7_begin [.ref this, .long a1, .int a3, .int (b2i a4)] M (f_X7_begin this a1 a3 a4 M) wV := K_of_V ok_X7_begin (Nat.le_of_ble_eq_true rfl) (v_X7_begin this a1 a3 a4 M)
theorem o_X7_begin {this : Nat} {a1 : Int64} {a3 : Int32} {a4 : Bool} {M : Mem} {x} (h : f_X7_begin this a1 a3 a4 M = some x) : isO M 6 this = true := (ob_of h).1
theorem dX7_size_0 : decode cX7_size 0 = .ok (.aload_n 0, 1) := by decide +kernel
theorem dX7_size_1 : decode cX7_size 1 = .ok (.getfield 24, 3) := by decide +kernel
theorem dX7_size_4 : decode cX7_size 4 = .ok (.invokevirtual 61, 3) := by decide +kernel
theorem dX7_size_7 : decode cX7_size 7 = .ok (.ireturn, 1) := by decide +kernel
def mi_X7_size : MI := (RX7, yX7_size, cX7_size, 1, some .int, [], { frames := 2, cells := 0, slots := 0, locals := 32 })
theorem ok_X7_size : mOK mi_X7_size 0 := ⟨rfl, cw_X7_size, ini_X7, ⟨rfl, by decide⟩, by decide, by decide, rfl⟩
theorem v_X7_size (this : Nat) (M : Mem) : V mi_X7_size 0 [(0, .ref this)] [] M 0 0 (f_X7_size this M) (eI M) := by
  unfold f_X7_size
  refine V_ob fun _ _ => ?_
  refine V_aload_n dX7_size_0 rfl 0 rfl ?_
  refine V_getR dX7_size_1 rfl (ci := 6) (T := TX7) rfl (by decide) fl_X7_24 (fun x1 => ?_)
  refine V_cVeI (As := []) (k_X5_size x1 M) (fun _ h => o_X5_size h) ok_X5_size im_X5_size se_X5_size rfl (ci := 4) rfl ml_X7_61 ⟨⟨(Nat.le_of_ble_eq_true rfl), (Nat.le_of_ble_eq_true rfl)⟩, (Nat.le_of_ble_eq_true rfl), (Nat.le_of_ble_eq_true rfl)⟩ dX7_size_4 rfl rfl rfl (Nat.le_of_ble_eq_true rfl) rfl rfl (fun x2 => ?_)
  exact V_iret dX7_size_7 rfl rfl ⟨(Nat.le_of_ble_eq_true rfl), (Nat.le_of_ble_eq_true rfl)⟩
theorem k_X7_size (this : Nat) (M : Mem) : K mi_X7_size [.ref this] M (f_X7_size this M) (eI M) := K_of_V ok_X7_size (Nat.le_of_ble_eq_true rfl) (v_X7_size this M)
theorem o_X7_size {this : Nat} {M : Mem} {x} (h : f_X7_size this M = some x) : isO M 6 this = true := (ob_of h).1
theorem dX7_addNewEntries_0 : decode cX7_addNewEntries 0 = .ok (.iconst 0, 1) := by decide +kernel
theorem dX7_addNewEntries_1 : decode cX7_addNewEntries 1 = .ok (.istore_n 2, 1) := by decide +kernel
theorem dX7_addNewEntries_2 : decode cX7_addNewEntries 2 = .ok (.iconst 0, 1) := by decide +kernel
theorem dX7_addNewEntries_3 : decode cX7_addNewEntries 3 = .ok (.istore_n 3, 1) := by decide +kernel
theorem dX7_addNewEntries_4 : decode cX7_addNewEntries 4 = .ok (.iload_n 3, 1) := by decide +kernel
theorem dX7_addNewEntries_5 : decode cX7_addNewEntries 5 = .ok (.aload_n 1, 1) := by decide +kernel
theorem dX7_addNewEntries_6 : decode cX7_addNewEntries 6 = .ok (.invokevirtual 98, 3) := by decide +kernel
theorem dX7_addNewEntries_9 : decode cX7_addNewEntries 9 = .ok (.if_icmp .ge 70, 3) := by decide +kernel
theorem dX7_addNewEntries_12 : decode cX7_addNewEntries 12 = .ok (.aload_n 0, 1) := by decide +kernel
theorem dX7_addNewEntries_13 : decode cX7_addNewEntries 13 = .ok (.invokevirtual 86, 3) := by decide +kernel
theorem dX7_addNewEntries_16 : decode cX7_addNewEntries 16 = .ok (.bipush 60, 2) := by decide +kernel
theorem dX7_addNewEntries_18 : decode cX7_addNewEntries 18 = .ok (.if_icmp .ge 61, 3) := by decide +kernel
theorem dX7_addNewEntries_21 : decode cX7_addNewEntries 21 = .ok (.aload_n 1, 1) := by decide +kernel
theorem dX7_addNewEntries_22 : decode cX7_addNewEntries 22 = .ok (.getfield 99, 3) := by decide +kernel
theorem dX7_addNewEntries_25 : decode cX7_addNewEntries 25 = .ok (.iload_n 3, 1) := by decide +kernel
theorem dX7_addNewEntries_26 : decode cX7_addNewEntries 26 = .ok (.invokevirtual 65, 3) := by decide +kernel
theorem dX7_addNewEntries_29 : decode cX7_addNewEntries 29 = .ok (.istore 4, 2) := by decide +kernel
theorem dX7_addNewEntries_31 : decode cX7_addNewEntries 31 = .ok (.iload 4, 2) := by decide +kernel
theorem dX7_addNewEntries_33 : decode cX7_addNewEntries 33 = .ok (.aload_n 0, 1) := by decide +kernel
theorem dX7_addNewEntries_34 : decode cX7_addNewEntries 34 = .ok (.getfield 47, 3) := by decide +kernel
theorem dX7_addNewEntries_37 : decode cX7_addNewEntries 37 = .ok (.if_icmp .le 36, 3) := by decide +kernel
theorem dX7_addNewEntries_40 : decode cX7_addNewEntries 40 = .ok (.aload_n 0, 1) := by decide +kernel
theorem dX7_addNewEntries_41 : decode cX7_addNewEntries 41 = .ok (.getfield 24, 3) := by decide +kernel
theorem dX7_addNewEntries_44 : decode cX7_addNewEntries 44 = .ok (.iload 4, 2) := by decide +kernel
theorem dX7_addNewEntries_46 : decode cX7_addNewEntries 46 = .ok (.invokevirtual 137, 3) := by decide +kernel
theorem dX7_addNewEntries_49 : decode cX7_addNewEntries 49 = .ok (.aload_n 0, 1) := by decide +kernel
theorem dX7_addNewEntries_50 : decode cX7_addNewEntries 50 = .ok (.getfield 28, 3) := by decide +kernel
theorem dX7_addNewEntries_53 : decode cX7_addNewEntries 53 = .ok (.aload_n 1, 1) := by decide +kernel
theorem dX7_addNewEntries_54 : decode cX7_addNewEntries 54 = .ok (.getfield 80, 3) := by decide +kernel
theorem dX7_addNewEntries_57 : decode cX7_addNewEntries 57 = .ok (.iload_n 3, 1) := by decide +kernel
theorem dX7_addNewEntries_58 : decode cX7_addNewEntries 58 = .ok (.invokevirtual 65, 3) := by decide +kernel
theorem dX7_addNewEntries_61 : decode cX7_addNewEntries 61 = .ok (.invokevirtual 137, 3) := by decide +kernel
theorem dX7_addNewEntries_64 : decode cX7_addNewEntries 64 = .ok (.aload_n 0, 1) := by decide +kernel
theorem dX7_addNewEntries_65 : decode cX7_addNewEntries 65 = .ok (.iload 4, 2) := by decide +kernel
theorem dX7_addNewEntries_67 : decode cX7_addNewEntries 67 = .ok (.putfield 47, 3) := by decide +kernel
theorem dX7_addNewEntries_70 : decode cX7_addNewEntries 70 = .ok (.iinc 2 1, 3) := by decide +kernel
theorem dX7_addNewEntries_73 : decode cX7_addNewEntries 73 = .ok (.iinc 3 1, 3) := by decide +kernel
theorem dX7_addNewEntries_76 : decode cX7_addNewEntries 76 = .ok (.goto (-72), 3) := by decide +kernel
theorem dX7_addNewEntries_79 : decode cX7_addNewEntries 79 = .ok (.iload_n 2, 1) := by decide +kernel
theorem dX7_addNewEntries_80 : decode cX7_addNewEntries 80 = .ok (.ireturn, 1) := by decide +kernel
def mi_X7_addNewEntries : MI := (RX7, yX7_addNewEntries, cX7_addNewEntries, 5, some .int, [], { frames := 3, cells := 0, slots := 0, locals := 52 })
theorem ok_X7_addNewEntries : mOK mi_X7_addNewEntries 1 := ⟨rfl, cw_X7_addNewEntries, ini_X7, ⟨rfl, by decide⟩, by decide, by decide, rfl⟩
theorem v_X7_addNewEntries_73 (rc4 : Nat → Nat → Int32 → Int32 → Mem → Option (Int32 × Mem)) (h4 : ∀ (l0 : Nat) (l1 : Nat) (l2 : Int32) (l3 : Int32) (M : Mem), V mi_X7_addNewEntries 4 [(0, .ref l0), (1, .ref l1), (2, .int l2), (3, .int l3)] [] M 0 0 (rc4 l0 l1 l2 l3 M) wI) (this : Nat) (l1 : Nat) (l2 : Int32) (l3 : Int32) (M : Mem) : V mi_X7_addNewEntries 73 [(0, .ref this), (1, .ref l1), (2, .int l2), (3, .int l3)] [] M 0 0 (f_X7_addNewEntries_73 rc4 this l1 l2 l3 M) wI := by
  unfold f_X7_addNewEntries_73
  refine V_iinc (y := (l3 + 1)) (L' := [(0, .ref this), (1, .ref l1), (2, .int l2), (3, .int (l3 + 1))]) dX7_addNewEntries_73 rfl 3 rfl rfl (by decide) rfl ?_
  refine V_goto (q := 4) dX7_addNewEntries_76 (by decide) ?_
  exact h4 this l1 l2 (l3 + 1) M
theorem v_X7_addNewEntries_4 : ∀ (fu : Nat) (this : Nat) (l1 : Nat) (l2 : Int32) (l3 : Int32) (M : Mem), V mi_X7_addNewEntries 4 [(0, .ref this), (1, .ref l1), (2, .int l2), (3, .int l3)] [] M 0 0 (f_X7_addNewEntries_4 fu this l1 l2 l3 M) wI := by
  intro fu
  induction fu with
  | zero => intros; exact V_none
  | succ fu ih =>
    intro this l1 l2 l3 M
    show V mi_X7_addNewEntries 4 [(0, .ref this), (1, .ref l1), (2, .int l2), (3, .int l3)] [] M 0 0 (f_X7_addNewEntries_4 (fu + 1) this l1 l2 l3 M) wI
    unfold f_X7_addNewEntries_4
    refine V_iload_n dX7_addNewEntries_4 rfl 3 rfl ?_
    refine V_aload_n dX7_addNewEntries_5 rfl 1 rfl ?_
    refine V_cVeI (As := []) (k_X0_size l1 M) (fun _ h => o_X0_size h) ok_X0_size im_X0_size se_X0_size rfl (ci := 0) rfl ml_X7_98 ⟨⟨(Nat.le_of_ble_eq_true rfl), (Nat.le_of_ble_eq_true rfl)⟩, (Nat.le_of_ble_eq_true rfl), (Nat.le_of_ble_eq_true rfl)⟩ dX7_addNewEntries_6 rfl rfl rfl (Nat.le_of_ble_eq_true rfl) rfl rfl (fun x1 => ?_)
    refine V_icmp_ge (q := 79) (q2 := 12) dX7_addNewEntries_9 (by decide) rfl ?_ ?_
    · refine V_iload_n dX7_addNewEntries_79 rfl 2 rfl ?_
      exact V_iret dX7_addNewEntries_80 rfl rfl ⟨(Nat.le_of_ble_eq_true rfl), (Nat.le_of_ble_eq_true rfl)⟩
    · refine V_aload_n dX7_addNewEntries_12 rfl 0 rfl ?_
      refine V_cVeI (As := []) (k_X7_size this M) (fun _ h => o_X7_size h) ok_X7_size im_X7_size se_X7_size rfl (ci := 6) rfl ml_X7_86 ⟨⟨(Nat.le_of_ble_eq_true rfl), (Nat.le_of_ble_eq_true rfl)⟩, (Nat.le_of_ble_eq_true rfl), (Nat.le_of_ble_eq_true rfl)⟩ dX7_addNewEntries_13 rfl rfl rfl (Nat.le_of_ble_eq_true rfl) rfl rfl (fun x2 => ?_)
      refine V_bipush (x := 60) dX7_addNewEntries_16 rfl rfl ?_
      refine V_icmp_ge (q := 79) (q2 := 21) dX7_addNewEntries_18 (by decide) rfl ?_ ?_
      · refine V_iload_n dX7_addNewEntries_79 rfl 2 rfl ?_
        exact V_iret dX7_addNewEntries_80 rfl rfl ⟨(Nat.le_of_ble_eq_true rfl), (Nat.le_of_ble_eq_true rfl)⟩
      · refine V_aload_n dX7_addNewEntries_21 rfl 1 rfl ?_
        refine V_getR dX7_addNewEntries_22 rfl (ci := 0) (T := TX0) rfl (by decide) fl_X7_99 (fun x3 => ?_)
        refine V_iload_n dX7_addNewEntries_25 rfl 3 rfl ?_
        refine V_cVeI (As := [.int l3]) (k_X5_get x3 l3 M) (fun _ h => o_X5_get h) ok_X5_get im_X5_get se_X5_get rfl (ci := 4) rfl ml_X7_65 ⟨⟨(Nat.le_of_ble_eq_true rfl), (Nat.le_of_ble_eq_true rfl)⟩, (Nat.le_of_ble_eq_true rfl), (Nat.le_of_ble_eq_true rfl)⟩ dX7_addNewEntries_26 rfl rfl rfl (Nat.le_of_ble_eq_true rfl) rfl rfl (fun x4 => ?_)
        refine V_istore (L' := [(0, .ref this), (1, .ref l1), (2, .int l2), (3, .int l3), (4, .int x4)]) dX7_addNewEntries_29 rfl (by decide) rfl ?_
        refine V_iload dX7_addNewEntries_31 rfl 4 rfl ?_
        refine V_aload_n dX7_addNewEntries_33 rfl 0 rfl ?_
        refine V_getI dX7_addNewEntries_34 rfl (ci := 6) (T := TX7) rfl (by decide) fl_X7_47 (fun x5 => ?_)
        refine V_icmp_le (q := 73) (q2 := 40) dX7_addNewEntries_37 (by decide) rfl ?_ ?_
        · exact V_sub [0, 1, 2, 3] rfl (v_X7_addNewEntries_73 (f_X7_addNewEntries_4 fu) ih this l1 l2 l3 M)
        · refine V_aload_n dX7_addNewEntries_40 rfl 0 rfl ?_
          refine V_getR dX7_addNewEntries_41 rfl (ci := 6) (T := TX7) rfl (by decide) fl_X7_24 (fun x6 => ?_)
          refine V_iload dX7_addNewEntries_44 rfl 4 rfl ?_
          refine V_cVwV (As := [.int x4]) (k_X5_add x6 x4 M) (fun _ h => o_X5_add h) ok_X5_add im_X5_add se_X5_add rfl (ci := 4) rfl ml_X7_137 ⟨⟨(Nat.le_of_ble_eq_true rfl), (Nat.le_of_ble_eq_true rfl)⟩, (Nat.le_of_ble_eq_true rfl), (Nat.le_of_ble_eq_true rfl)⟩ dX7_addNewEntries_46 rfl rfl rfl (Nat.le_of_ble_eq_true rfl) rfl rfl (fun M8 => ?_)
          refine V_aload_n dX7_addNewEntries_49 rfl 0 rfl ?_
          refine V_getR dX7_addNewEntries_50 rfl (ci := 6) (T := TX7) rfl (by decide) fl_X7_28 (fun x9 => ?_)
          refine V_aload_n dX7_addNewEntries_53 rfl 1 rfl ?_
          refine V_getR dX7_addNewEntries_54 rfl (ci := 0) (T := TX0) rfl (by decide) fl_X7_80 (fun x10 => ?_)
          refine V_iload_n dX7_addNewEntries_57 rfl 3 rfl ?_
          refine V_cVeI (As := [.int l3]) (k_X5_get x10 l3 M8) (fun _ h => o_X5_get h) ok_X5_get im_X5_get se_X5_get rfl (ci := 4) rfl ml_X7_65 ⟨⟨(Nat.le_of_ble_eq_true rfl), (Nat.le_of_ble_eq_true rfl)⟩, (Nat.le_of_ble_eq_true rfl), (Nat.le_of_ble_eq_true rfl)⟩ dX7_addNewEntries_58 rfl rfl rfl (Nat.le_of_ble_eq_true rfl) rfl rfl (fun x11 => ?_)
          refine V_cVwV (As := [.int x11]) (k_X5_add x9 x11 M8) (fun _ h => o_X5_add h) ok_X5_add im_X5_add se_X5_add rfl (ci := 4) rfl ml_X7_137 ⟨⟨(Nat.le_of_ble_eq_true rfl), (Nat.le_of_ble_eq_true rfl)⟩, (Nat.le_of_ble_eq_true rfl), (Nat.le_of_ble_eq_true rfl)⟩ dX7_addNewEntries_61 rfl rfl rfl (Nat.le_of_ble_eq_true rfl) rfl rfl (fun M13 => ?_)
          refine V_aload_n dX7_addNewEntries_64 rfl 0 rfl ?_
          refine V_iload dX7_addNewEntries_65 rfl 4 rfl ?_
          refine V_putI dX7_addNewEntries_67 rfl (ci := 6) (T := TX7) rfl (by decide) fl_X7_47 rfl rfl (fun M14 => ?_)
          refine V_iinc (y := (l2 + 1)) (L' := [(0, .ref this), (1, .ref l1), (2, .int (l2 + 1)), (3, .int l3), (4, .int x4)]) dX7_addNewEntries_70 rfl 2 rfl rfl (by decide) rfl ?_
          exact V_sub [0, 1, 2, 3] rfl (v_X7_addNewEntries_73 (f_X7_addNewEntries_4 fu) ih this l1 (l2 + 1) l3 M14)
theorem v_X7_addNewEntries (this : Nat) (a1 : Nat) (M : Mem) : V mi_X7_addNewEntries 0 [(0, .ref this), (1, .ref a1)] [] M 0 0 (f_X7_addNewEntries this a1 M) wI := by
  unfold f_X7_addNewEntries
  refine V_ob fun _ _ => ?_
  refine V_iconst (x := 0) dX7_addNewEntries_0 rfl rfl ?_
  refine V_istore_n (L' := [(0, .ref this), (1, .ref a1), (2, .int 0)]) dX7_addNewEntries_1 rfl (by decide) rfl ?_
  refine V_iconst (x := 0) dX7_addNewEntries_2 rfl rfl ?_
  refine V_istore_n (L' := [(0, .ref this), (1, .ref a1), (2, .int 0), (3, .int 0)]) dX7_addNewEntries_3 rfl (by decide) rfl ?_
  exact v_X7_addNewEntries_4 FU this a1 0 0 M
theorem k_X7_addNewEntries (this : Nat) (a1 : Nat) (M : Mem) : K mi_X7_addNewEntries [.ref this, .ref a1] M (f_X7_addNewEntries this a1 M) wI := K_of_V ok_X7_addNewEntries (Nat.le_of_ble_eq_true rfl) (v_X7_addNewEntries this a1 M)
theorem o_X7_addNewEntries {this : Nat} {a1 : Nat} {M : Mem} {x} (h : f_X7_addNewEntries this a1 M = some x) : isO M 6 this = true := (ob_of h).1
theorem dX7_enter_0 : decode cX7_enter 0 = .ok (.aload_n 0, 1) := by decide +kernel
theorem dX7_enter_1 : decode cX7_enter 1 = .ok (.invokevirtual 34, 3) := by decide +kernel
theorem dX7_enter_4 : decode cX7_enter 4 = .ok (.aload_n 0, 1) := by decide +kernel
theorem dX7_enter_5 : decode cX7_enter 5 = .ok (.iload_n 1, 1) := by decide +kernel
theorem dX7_enter_6 : decode cX7_enter 6 = .ok (.putfield 15, 3) := by decide +kernel
theorem dX7_enter_9 : decode cX7_enter 9 = .ok (.aload_n 0, 1) := by decide +kernel
theorem dX7_enter_10 : decode cX7_enter 10 = .ok (.iload_n 3, 1) := by decide +kernel
theorem dX7_enter_11 : decode cX7_enter 11 = .ok (.putfield 37, 3) := by decide +kernel
theorem dX7_enter_14 : decode cX7_enter 14 = .ok (.aload_n 0, 1) := by decide +kernel
theorem dX7_enter_15 : decode cX7_enter 15 = .ok (.aload_n 2, 1) := by decide +kernel
theorem dX7_enter_16 : decode cX7_enter 16 = .ok (.invokevirtual 57, 3) := by decide +kernel
theorem dX7_enter_19 : decode cX7_enter 19 = .ok (.pop, 1) := by decide +kernel
theorem dX7_enter_20 : decode cX7_enter 20 = .ok (.return_, 1) := by decide +kernel
def mi_X7_enter : MI := (RX7, yX7_enter, cX7_enter, 4, none, [], { frames := 4, cells := 0, slots := 0, locals := 76 })
theorem ok_X7_enter : mOK mi_X7_enter 3 := ⟨rfl, cw_X7_enter, ini_X7, ⟨rfl, by decide⟩, by decide, by decide, rfl⟩
theorem v_X7_enter (this : Nat) (a1 : Int32) (a2 : Nat) (a3 : Bool) (M : Mem) : V mi_X7_enter 0 [(0, .ref this), (1, .int a1), (2, .ref a2), (3, .int (b2i a3))] [] M 0 0 (f_X7_enter this a1 a2 a3 M) wV := by
  unfold f_X7_enter
  refine V_ob fun _ _ => ?_
  refine V_aload_n dX7_enter_0 rfl 0 rfl ?_
  refine V_cVwV (As := []) (k_X7_leave this M) (fun _ h => o_X7_leave h) ok_X7_leave im_X7_leave se_X7_leave rfl (ci := 6) rfl ml_X7_34 ⟨⟨(Nat.le_of_ble_eq_true rfl), (Nat.le_of_ble_eq_true rfl)⟩, (Nat.le_of_ble_eq_true rfl), (Nat.le_of_ble_eq_true rfl)⟩ dX7_enter_1 rfl rfl rfl (Nat.le_of_ble_eq_true rfl) rfl rfl (fun M2 => ?_)
  refine V_aload_n dX7_enter_4 rfl 0 rfl ?_
  refine V_iload_n dX7_enter_5 rfl 1 rfl ?_
  refine V_putI dX7_enter_6 rfl (ci := 6) (T := TX7) rfl (by decide) fl_X7_15 rfl rfl (fun M3 => ?_)
  refine V_aload_n dX7_enter_9 rfl 0 rfl ?_
  refine V_iload_n dX7_enter_10 rfl 3 rfl ?_
  refine V_putZ (v := a3) dX7_enter_11 rfl (ci := 6) (T := TX7) rfl (by decide) fl_X7_37 rfl rfl (fun M4 => ?_)
  refine V_aload_n dX7_enter_14 rfl 0 rfl ?_
  refine V_aload_n dX7_enter_15 rfl 2 rfl ?_
  refine V_cVwI (As := [.ref a2]) (k_X7_addNewEntries this a2 M4) (fun _ h => o_X7_addNewEntries h) ok_X7_addNewEntries im_X7_addNewEntries se_X7_addNewEntries rfl (ci := 6) rfl ml_X7_57 ⟨⟨(Nat.le_of_ble_eq_true rfl), (Nat.le_of_ble_eq_true rfl)⟩, (Nat.le_of_ble_eq_true rfl), (Nat.le_of_ble_eq_true rfl)⟩ dX7_enter_16 rfl rfl rfl (Nat.le_of_ble_eq_true rfl) rfl rfl (fun x5 M6 => ?_)
  refine V_pop dX7_enter_19 rfl rfl ?_
  exact V_vret dX7_enter_20 rfl rfl ⟨(Nat.le_of_ble_eq_true rfl), (Nat.le_of_ble_eq_true rfl)⟩
theorem k_X7_enter (this : Nat) (a1 : Int32) (a2 : Nat) (a3 : Bool) (M : Mem) : K mi_X7_enter [.ref this, .int a1, .ref a2, .int (b2i a3)] M (f_X7_enter this a1 a2 a3 M) wV := K_of_V ok_X7_enter (Nat.le_of_ble_eq_true rfl) (v_X7_enter this a1 a2 a3 M)
theorem o_X7_enter {this : Nat} {a1 : Int32} {a2 : Nat} {a3 : Bool} {M : Mem} {x} (h : f_X7_enter this a1 a2 a3 M = some x) : isO M 6 this = true := (ob_of h).1
theorem dX7_hasBox_0 : decode cX7_hasBox 0 = .ok (.aload_n 0, 1) := by decide +kernel
theorem dX7_hasBox_1 : decode cX7_hasBox 1 = .ok (.getfield 15, 3) := by decide +kernel
theorem dX7_hasBox_4 : decode cX7_hasBox 4 = .ok (.iconst (-1), 1) := by decide +kernel
theorem dX7_hasBox_5 : decode cX7_hasBox 5 = .ok (.if_icmp .eq 7, 3) := by decide +kernel
theorem dX7_hasBox_8 : decode cX7_hasBox 8 = .ok (.iconst 1, 1) := by decide +kernel
theorem dX7_hasBox_9 : decode cX7_hasBox 9 = .ok (.goto 4, 3) := by decide +kernel
theorem dX7_hasBox_12 : decode cX7_hasBox 12 = .ok (.iconst 0, 1) := by decide +kernel
theorem dX7_hasBox_13 : decode cX7_hasBox 13 = .ok (.ireturn, 1) := by decide +kernel
def mi_X7_hasBox : MI := (RX7, yX7_hasBox, cX7_hasBox, 1, some .boolean, [], { frames := 1, cells := 0, slots := 0, locals := 12 })
theorem ok_X7_hasBox : mOK mi_X7_hasBox 0 := ⟨rfl, cw_X7_hasBox, ini_X7, ⟨rfl, by decide⟩, by decide, by decide, rfl⟩
theorem v_X7_hasBox (this : Nat) (M : Mem) : V mi_X7_hasBox 0 [(0, .ref this)] [] M 0 0 (f_X7_hasBox this M) (eZ M) := by
  unfold f_X7_hasBox
  refine V_ob fun _ _ => ?_
  refine V_aload_n dX7_hasBox_0 rfl 0 rfl ?_
  refine V_getI dX7_hasBox_1 rfl (ci := 6) (T := TX7) rfl (by decide) fl_X7_15 (fun x1 => ?_)
  refine V_iconst (x := (-1)) dX7_hasBox_4 rfl rfl ?_
  refine V_icmp_eq (q := 12) (q2 := 8) dX7_hasBox_5 (by decide) rfl ?_ ?_
  · refine V_iconst (x := 0) dX7_hasBox_12 rfl rfl ?_
    exact V_zret (v := false) dX7_hasBox_13 rfl rfl ⟨(Nat.le_of_ble_eq_true rfl), (Nat.le_of_ble_eq_true rfl)⟩
  · refine V_iconst (x := 1) dX7_hasBox_8 rfl rfl ?_
    refine V_goto (q := 13) dX7_hasBox_9 (by decide) ?_
    exact V_zret (v := true) dX7_hasBox_13 rfl rfl ⟨(Nat.le_of_ble_eq_true rfl), (Nat.le_of_ble_eq_true rfl)⟩
theorem k_X7_hasBox (this : Nat) (M : Mem) : K mi_X7_hasBox [.ref this] M (f_X7_hasBox this M) (eZ M) := K_of_V ok_X7_hasBox (Nat.le_of_ble_eq_true rfl) (v_X7_hasBox this M)
theorem o_X7_hasBox {this : Nat} {M : Mem} {x} (h : f_X7_hasBox this M = some x) : isO M 6 this = true := (ob_of h).1
theorem dX7_uidOf_0 : decode cX7_uidOf 0 = .ok (.aload_n 0, 1) := by decide +kernel
theorem dX7_uidOf_1 : decode cX7_uidOf 1 = .ok (.getfield 24, 3) := by decide +kernel
theorem dX7_uidOf_4 : decode cX7_uidOf 4 = .ok (.iload_n 1, 1) := by decide +kernel
theorem dX7_uidOf_5 : decode cX7_uidOf 5 = .ok (.iconst 1, 1) := by decide +kernel
theorem dX7_uidOf_6 : decode cX7_uidOf 6 = .ok (.isub, 1) := by decide +kernel
theorem dX7_uidOf_7 : decode cX7_uidOf 7 = .ok (.invokevirtual 65, 3) := by decide +kernel
theorem dX7_uidOf_10 : decode cX7_uidOf 10 = .ok (.ireturn, 1) := by decide +kernel
def mi_X7_uidOf : MI := (RX7, yX7_uidOf, cX7_uidOf, 2, some .int, [], { frames := 2, cells := 0, slots := 0, locals := 33 })
theorem ok_X7_uidOf : mOK mi_X7_uidOf 1 := ⟨rfl, cw_X7_uidOf, ini_X7, ⟨rfl, by decide⟩, by decide, by decide, rfl⟩
theorem v_X7_uidOf (this : Nat) (a1 : Int32) (M : Mem) : V mi_X7_uidOf 0 [(0, .ref this), (1, .int a1)] [] M 0 0 (f_X7_uidOf this a1 M) (eI M) := by
  unfold f_X7_uidOf
  refine V_ob fun _ _ => ?_
  refine V_aload_n dX7_uidOf_0 rfl 0 rfl ?_
  refine V_getR dX7_uidOf_1 rfl (ci := 6) (T := TX7) rfl (by decide) fl_X7_24 (fun x1 => ?_)
  refine V_iload_n dX7_uidOf_4 rfl 1 rfl ?_
  refine V_iconst (x := 1) dX7_uidOf_5 rfl rfl ?_
  refine V_isub dX7_uidOf_6 rfl ?_
  refine V_cVeI (As := [.int (a1 - 1)]) (k_X5_get x1 (a1 - 1) M) (fun _ h => o_X5_get h) ok_X5_get im_X5_get se_X5_get rfl (ci := 4) rfl ml_X7_65 ⟨⟨(Nat.le_of_ble_eq_true rfl), (Nat.le_of_ble_eq_true rfl)⟩, (Nat.le_of_ble_eq_true rfl), (Nat.le_of_ble_eq_true rfl)⟩ dX7_uidOf_7 rfl rfl rfl (Nat.le_of_ble_eq_true rfl) rfl rfl (fun x2 => ?_)
  exact V_iret dX7_uidOf_10 rfl rfl ⟨(Nat.le_of_ble_eq_true rfl), (Nat.le_of_ble_eq_true rfl)⟩
theorem k_X7_uidOf (this : Nat) (a1 : Int32) (M : Mem) : K mi_X7_uidOf [.ref this, .int a1] M (f_X7_uidOf this a1 M) (eI M) := K_of_V ok_X7_uidOf (Nat.le_of_ble_eq_true rfl) (v_X7_uidOf this a1 M)
theorem o_X7_uidOf {this : Nat} {a1 : Int32} {M : Mem} {x} (h : f_X7_uidOf this a1 M = some x) : isO M 6 this = true := (ob_of h).1
theorem dX7_toldOf_0 : decode cX7_toldOf 0 = .ok (.aload_n 0, 1) := by decide +kernel
theorem dX7_toldOf_1 : decode cX7_toldOf 1 = .ok (.getfield 28, 3) := by decide +kernel
theorem dX7_toldOf_4 : decode cX7_toldOf 4 = .ok (.iload_n 1, 1) := by decide +kernel
theorem dX7_toldOf_5 : decode cX7_toldOf 5 = .ok (.iconst 1, 1) := by decide +kernel
theorem dX7_toldOf_6 : decode cX7_toldOf 6 = .ok (.isub, 1) := by decide +kernel
theorem dX7_toldOf_7 : decode cX7_toldOf 7 = .ok (.invokevirtual 65, 3) := by decide +kernel
theorem dX7_toldOf_10 : decode cX7_toldOf 10 = .ok (.ireturn, 1) := by decide +kernel
def mi_X7_toldOf : MI := (RX7, yX7_toldOf, cX7_toldOf, 2, some .int, [], { frames := 2, cells := 0, slots := 0, locals := 33 })
theorem ok_X7_toldOf : mOK mi_X7_toldOf 1 := ⟨rfl, cw_X7_toldOf, ini_X7, ⟨rfl, by decide⟩, by decide, by decide, rfl⟩
theorem v_X7_toldOf (this : Nat) (a1 : Int32) (M : Mem) : V mi_X7_toldOf 0 [(0, .ref this), (1, .int a1)] [] M 0 0 (f_X7_toldOf this a1 M) (eI M) := by
  unfold f_X7_toldOf
  refine V_ob fun _ _ => ?_
  refine V_aload_n dX7_toldOf_0 rfl 0 rfl ?_
  refine V_getR dX7_toldOf_1 rfl (ci := 6) (T := TX7) rfl (by decide) fl_X7_28 (fun x1 => ?_)
  refine V_iload_n dX7_toldOf_4 rfl 1 rfl ?_
  refine V_iconst (x := 1) dX7_toldOf_5 rfl rfl ?_
  refine V_isub dX7_toldOf_6 rfl ?_
  refine V_cVeI (As := [.int (a1 - 1)]) (k_X5_get x1 (a1 - 1) M) (fun _ h => o_X5_get h) ok_X5_get im_X5_get se_X5_get rfl (ci := 4) rfl ml_X7_65 ⟨⟨(Nat.le_of_ble_eq_true rfl), (Nat.le_of_ble_eq_true rfl)⟩, (Nat.le_of_ble_eq_true rfl), (Nat.le_of_ble_eq_true rfl)⟩ dX7_toldOf_7 rfl rfl rfl (Nat.le_of_ble_eq_true rfl) rfl rfl (fun x2 => ?_)
  exact V_iret dX7_toldOf_10 rfl rfl ⟨(Nat.le_of_ble_eq_true rfl), (Nat.le_of_ble_eq_true rfl)⟩
theorem k_X7_toldOf (this : Nat) (a1 : Int32) (M : Mem) : K mi_X7_toldOf [.ref this, .int a1] M (f_X7_toldOf this a1 M) (eI M) := K_of_V ok_X7_toldOf (Nat.le_of_ble_eq_true rfl) (v_X7_toldOf this a1 M)
theorem o_X7_toldOf {this : Nat} {a1 : Int32} {M : Mem} {x} (h : f_X7_toldOf this a1 M = some x) : isO M 6 this = true := (ob_of h).1
theorem dX7_numberOfUid_0 : decode cX7_numberOfUid 0 = .ok (.aload_n 0, 1) := by decide +kernel
theorem dX7_numberOfUid_1 : decode cX7_numberOfUid 1 = .ok (.getfield 24, 3) := by decide +kernel
theorem dX7_numberOfUid_4 : decode cX7_numberOfUid 4 = .ok (.iload_n 1, 1) := by decide +kernel
theorem dX7_numberOfUid_5 : decode cX7_numberOfUid 5 = .ok (.invokevirtual 69, 3) := by decide +kernel
theorem dX7_numberOfUid_8 : decode cX7_numberOfUid 8 = .ok (.istore_n 2, 1) := by decide +kernel
theorem dX7_numberOfUid_9 : decode cX7_numberOfUid 9 = .ok (.iload_n 2, 1) := by decide +kernel
theorem dX7_numberOfUid_10 : decode cX7_numberOfUid 10 = .ok (.iconst (-1), 1) := by decide +kernel
theorem dX7_numberOfUid_11 : decode cX7_numberOfUid 11 = .ok (.if_icmp .ne 7, 3) := by decide +kernel
theorem dX7_numberOfUid_14 : decode cX7_numberOfUid 14 = .ok (.iconst (-1), 1) := by decide +kernel
theorem dX7_numberOfUid_15 : decode cX7_numberOfUid 15 = .ok (.goto 6, 3) := by decide +kernel
theorem dX7_numberOfUid_18 : decode cX7_numberOfUid 18 = .ok (.iload_n 2, 1) := by decide +kernel
theorem dX7_numberOfUid_19 : decode cX7_numberOfUid 19 = .ok (.iconst 1, 1) := by decide +kernel
theorem dX7_numberOfUid_20 : decode cX7_numberOfUid 20 = .ok (.iadd, 1) := by decide +kernel
theorem dX7_numberOfUid_21 : decode cX7_numberOfUid 21 = .ok (.ireturn, 1) := by decide +kernel
def mi_X7_numberOfUid : MI := (RX7, yX7_numberOfUid, cX7_numberOfUid, 3, some .int, [], { frames := 2, cells := 0, slots := 0, locals := 34 })
theorem ok_X7_numberOfUid : mOK mi_X7_numberOfUid 1 := ⟨rfl, cw_X7_numberOfUid, ini_X7, ⟨rfl, by decide⟩, by decide, by decide, rfl⟩
theorem v_X7_numberOfUid (this : Nat) (a1 : Int32) (M : Mem) : V mi_X7_numberOfUid 0 [(0, .ref this), (1, .int a1)] [] M 0 0 (f_X7_numberOfUid this a1 M) (eI M) := by
  unfold f_X7_numberOfUid
  refine V_ob fun _ _ => ?_
  refine V_aload_n dX7_numberOfUid_0 rfl 0 rfl ?_
  refine V_getR dX7_numberOfUid_1 rfl (ci := 6) (T := TX7) rfl (by decide) fl_X7_24 (fun x1 => ?_)
  refine V_iload_n dX7_numberOfUid_4 rfl 1 rfl ?_
  refine V_cVeI (As := [.int a1]) (k_X5_find x1 a1 M) (fun _ h => o_X5_find h) ok_X5_find im_X5_find se_X5_find rfl (ci := 4) rfl ml_X7_69 ⟨⟨(Nat.le_of_ble_eq_true rfl), (Nat.le_of_ble_eq_true rfl)⟩, (Nat.le_of_ble_eq_true rfl), (Nat.le_of_ble_eq_true rfl)⟩ dX7_numberOfUid_5 rfl rfl rfl (Nat.le_of_ble_eq_true rfl) rfl rfl (fun x2 => ?_)
  refine V_istore_n (L' := [(0, .ref this), (1, .int a1), (2, .int x2)]) dX7_numberOfUid_8 rfl (by decide) rfl ?_
  refine V_iload_n dX7_numberOfUid_9 rfl 2 rfl ?_
  refine V_iconst (x := (-1)) dX7_numberOfUid_10 rfl rfl ?_
  refine V_icmp_ne (q := 18) (q2 := 14) dX7_numberOfUid_11 (by decide) rfl ?_ ?_
  · refine V_iload_n dX7_numberOfUid_18 rfl 2 rfl ?_
    refine V_iconst (x := 1) dX7_numberOfUid_19 rfl rfl ?_
    refine V_iadd dX7_numberOfUid_20 rfl ?_
    exact V_iret dX7_numberOfUid_21 rfl rfl ⟨(Nat.le_of_ble_eq_true rfl), (Nat.le_of_ble_eq_true rfl)⟩
  · refine V_iconst (x := (-1)) dX7_numberOfUid_14 rfl rfl ?_
    refine V_goto (q := 21) dX7_numberOfUid_15 (by decide) ?_
    exact V_iret dX7_numberOfUid_21 rfl rfl ⟨(Nat.le_of_ble_eq_true rfl), (Nat.le_of_ble_eq_true rfl)⟩
theorem k_X7_numberOfUid (this : Nat) (a1 : Int32) (M : Mem) : K mi_X7_numberOfUid [.ref this, .int a1] M (f_X7_numberOfUid this a1 M) (eI M) := K_of_V ok_X7_numberOfUid (Nat.le_of_ble_eq_true rfl) (v_X7_numberOfUid this a1 M)
theorem o_X7_numberOfUid {this : Nat} {a1 : Int32} {M : Mem} {x} (h : f_X7_numberOfUid this a1 M = some x) : isO M 6 this = true := (ob_of h).1
theorem dX7_isGone_0 : decode cX7_isGone 0 = .ok (.aload_n 1, 1) := by decide +kernel
theorem dX7_isGone_1 : decode cX7_isGone 1 = .ok (.aload_n 0, 1) := by decide +kernel
theorem dX7_isGone_2 : decode cX7_isGone 2 = .ok (.iload_n 2, 1) := by decide +kernel
theorem dX7_isGone_3 : decode cX7_isGone 3 = .ok (.invokevirtual 72, 3) := by decide +kernel
theorem dX7_isGone_6 : decode cX7_isGone 6 = .ok (.invokevirtual 75, 3) := by decide +kernel
theorem dX7_isGone_9 : decode cX7_isGone 9 = .ok (.iconst (-1), 1) := by decide +kernel
theorem dX7_isGone_10 : decode cX7_isGone 10 = .ok (.if_icmp .ne 7, 3) := by decide +kernel
theorem dX7_isGone_13 : decode cX7_isGone 13 = .ok (.iconst 1, 1) := by decide +kernel
theorem dX7_isGone_14 : decode cX7_isGone 14 = .ok (.goto 4, 3) := by decide +kernel
theorem dX7_isGone_17 : decode cX7_isGone 17 = .ok (.iconst 0, 1) := by decide +kernel
theorem dX7_isGone_18 : decode cX7_isGone 18 = .ok (.ireturn, 1) := by decide +kernel
def mi_X7_isGone : MI := (RX7, yX7_isGone, cX7_isGone, 3, some .boolean, [], { frames := 3, cells := 0, slots := 0, locals := 55 })
theorem ok_X7_isGone : mOK mi_X7_isGone 2 := ⟨rfl, cw_X7_isGone, ini_X7, ⟨rfl, by decide⟩, by decide, by decide, rfl⟩
theorem v_X7_isGone (this : Nat) (a1 : Nat) (a2 : Int32) (M : Mem) : V mi_X7_isGone 0 [(0, .ref this), (1, .ref a1), (2, .int a2)] [] M 0 0 (f_X7_isGone this a1 a2 M) (eZ M) := by
  unfold f_X7_isGone
  refine V_ob fun _ _ => ?_
  refine V_aload_n dX7_isGone_0 rfl 1 rfl ?_
  refine V_aload_n dX7_isGone_1 rfl 0 rfl ?_
  refine V_iload_n dX7_isGone_2 rfl 2 rfl ?_
  refine V_cVeI (As := [.int a2]) (k_X7_uidOf this a2 M) (fun _ h => o_X7_uidOf h) ok_X7_uidOf im_X7_uidOf se_X7_uidOf rfl (ci := 6) rfl ml_X7_72 ⟨⟨(Nat.le_of_ble_eq_true rfl), (Nat.le_of_ble_eq_true rfl)⟩, (Nat.le_of_ble_eq_true rfl), (Nat.le_of_ble_eq_true rfl)⟩ dX7_isGone_3 rfl rfl rfl (Nat.le_of_ble_eq_true rfl) rfl rfl (fun x1 => ?_)
  refine V_cVeI (As := [.int x1]) (k_X0_indexOfUid a1 x1 M) (fun _ h => o_X0_indexOfUid h) ok_X0_indexOfUid im_X0_indexOfUid se_X0_indexOfUid rfl (ci := 0) rfl ml_X7_75 ⟨⟨(Nat.le_of_ble_eq_true rfl), (Nat.le_of_ble_eq_true rfl)⟩, (Nat.le_of_ble_eq_true rfl), (Nat.le_of_ble_eq_true rfl)⟩ dX7_isGone_6 rfl rfl rfl (Nat.le_of_ble_eq_true rfl) rfl rfl (fun x2 => ?_)
  refine V_iconst (x := (-1)) dX7_isGone_9 rfl rfl ?_
  refine V_icmp_ne (q := 17) (q2 := 13) dX7_isGone_10 (by decide) rfl ?_ ?_
  · refine V_iconst (x := 0) dX7_isGone_17 rfl rfl ?_
    exact V_zret (v := false) dX7_isGone_18 rfl rfl ⟨(Nat.le_of_ble_eq_true rfl), (Nat.le_of_ble_eq_true rfl)⟩
  · refine V_iconst (x := 1) dX7_isGone_13 rfl rfl ?_
    refine V_goto (q := 18) dX7_isGone_14 (by decide) ?_
    exact V_zret (v := true) dX7_isGone_18 rfl rfl ⟨(Nat.le_of_ble_eq_true rfl), (Nat.le_of_ble_eq_true rfl)⟩
theorem k_X7_isGone (this : Nat) (a1 : Nat) (a2 : Int32) (M : Mem) : K mi_X7_isGone [.ref this, .ref a1, .int a2] M (f_X7_isGone this a1 a2 M) (eZ M) := K_of_V ok_X7_isGone (Nat.le_of_ble_eq_true rfl) (v_X7_isGone this a1 a2 M)
theorem o_X7_isGone {this : Nat} {a1 : Nat} {a2 : Int32} {M : Mem} {x} (h : f_X7_isGone this a1 a2 M = some x) : isO M 6 this = true := (ob_of h).1
theorem dX7_isChanged_0 : decode cX7_isChanged 0 = .ok (.aload_n 1, 1) := by decide +kernel
theorem dX7_isChanged_1 : decode cX7_isChanged 1 = .ok (.aload_n 0, 1) := by decide +kernel
theorem dX7_isChanged_2 : decode cX7_isChanged 2 = .ok (.iload_n 2, 1) := by decide +kernel
theorem dX7_isChanged_3 : decode cX7_isChanged 3 = .ok (.invokevirtual 72, 3) := by decide +kernel
theorem dX7_isChanged_6 : decode cX7_isChanged 6 = .ok (.invokevirtual 75, 3) := by decide +kernel
theorem dX7_isChanged_9 : decode cX7_isChanged 9 = .ok (.istore_n 3, 1) := by decide +kernel
theorem dX7_isChanged_10 : decode cX7_isChanged 10 = .ok (.iload_n 3, 1) := by decide +kernel
theorem dX7_isChanged_11 : decode cX7_isChanged 11 = .ok (.iconst (-1), 1) := by decide +kernel
theorem dX7_isChanged_12 : decode cX7_isChanged 12 = .ok (.if_icmp .eq 23, 3) := by decide +kernel
theorem dX7_isChanged_15 : decode cX7_isChanged 15 = .ok (.aload_n 1, 1) := by decide +kernel
theorem dX7_isChanged_16 : decode cX7_isChanged 16 = .ok (.getfield 80, 3) := by decide +kernel
theorem dX7_isChanged_19 : decode cX7_isChanged 19 = .ok (.iload_n 3, 1) := by decide +kernel
theorem dX7_isChanged_20 : decode cX7_isChanged 20 = .ok (.invokevirtual 65, 3) := by decide +kernel
theorem dX7_isChanged_23 : decode cX7_isChanged 23 = .ok (.aload_n 0, 1) := by decide +kernel
theorem dX7_isChanged_24 : decode cX7_isChanged 24 = .ok (.iload_n 2, 1) := by decide +kernel
theorem dX7_isChanged_25 : decode cX7_isChanged 25 = .ok (.invokevirtual 83, 3) := by decide +kernel
theorem dX7_isChanged_28 : decode cX7_isChanged 28 = .ok (.if_icmp .eq 7, 3) := by decide +kernel
theorem dX7_isChanged_31 : decode cX7_isChanged 31 = .ok (.iconst 1, 1) := by decide +kernel
theorem dX7_isChanged_32 : decode cX7_isChanged 32 = .ok (.goto 4, 3) := by decide +kernel
theorem dX7_isChanged_35 : decode cX7_isChanged 35 = .ok (.iconst 0, 1) := by decide +kernel
theorem dX7_isChanged_36 : decode cX7_isChanged 36 = .ok (.ireturn, 1) := by decide +kernel
def mi_X7_isChanged : MI := (RX7, yX7_isChanged, cX7_isChanged, 4, some .boolean, [], { frames := 3, cells := 0, slots := 0, locals := 55 })
theorem ok_X7_isChanged : mOK mi_X7_isChanged 2 := ⟨rfl, cw_X7_isChanged, ini_X7, ⟨rfl, by decide⟩, by decide, by decide, rfl⟩
theorem v_X7_isChanged (this : Nat) (a1 : Nat) (a2 : Int32) (M : Mem) : V mi_X7_isChanged 0 [(0, .ref this), (1, .ref a1), (2, .int a2)] [] M 0 0 (f_X7_isChanged this a1 a2 M) (eZ M) := by
  unfold f_X7_isChanged
  refine V_ob fun _ _ => ?_
  refine V_aload_n dX7_isChanged_0 rfl 1 rfl ?_
  refine V_aload_n dX7_isChanged_1 rfl 0 rfl ?_
  refine V_iload_n dX7_isChanged_2 rfl 2 rfl ?_
  refine V_cVeI (As := [.int a2]) (k_X7_uidOf this a2 M) (fun _ h => o_X7_uidOf h) ok_X7_uidOf im_X7_uidOf se_X7_uidOf rfl (ci := 6) rfl ml_X7_72 ⟨⟨(Nat.le_of_ble_eq_true rfl), (Nat.le_of_ble_eq_true rfl)⟩, (Nat.le_of_ble_eq_true rfl), (Nat.le_of_ble_eq_true rfl)⟩ dX7_isChanged_3 rfl rfl rfl (Nat.le_of_ble_eq_true rfl) rfl rfl (fun x1 => ?_)
  refine V_cVeI (As := [.int x1]) (k_X0_indexOfUid a1 x1 M) (fun _ h => o_X0_indexOfUid h) ok_X0_indexOfUid im_X0_indexOfUid se_X0_indexOfUid rfl (ci := 0) rfl ml_X7_75 ⟨⟨(Nat.le_of_ble_eq_true rfl), (Nat.le_of_ble_eq_true rfl)⟩, (Nat.le_of_ble_eq_true rfl), (Nat.le_of_ble_eq_true rfl)⟩ dX7_isChanged_6 rfl rfl rfl (Nat.le_of_ble_eq_true rfl) rfl rfl (fun x2 => ?_)
  refine V_istore_n (L' := [(0, .ref this), (1, .ref a1), (2, .int a2), (3, .int x2)]) dX7_isChanged_9 rfl (by decide) rfl ?_
  refine V_iload_n dX7_isChanged_10 rfl 3 rfl ?_
  refine V_iconst (x := (-1)) dX7_isChanged_11 rfl rfl ?_
  refine V_icmp_eq (q := 35) (q2 := 15) dX7_isChanged_12 (by decide) rfl ?_ ?_
  · refine V_iconst (x := 0) dX7_isChanged_35 rfl rfl ?_
    exact V_zret (v := false) dX7_isChanged_36 rfl rfl ⟨(Nat.le_of_ble_eq_true rfl), (Nat.le_of_ble_eq_true rfl)⟩
  · refine V_aload_n dX7_isChanged_15 rfl 1 rfl ?_
    refine V_getR dX7_isChanged_16 rfl (ci := 0) (T := TX0) rfl (by decide) fl_X7_80 (fun x3 => ?_)
    refine V_iload_n dX7_isChanged_19 rfl 3 rfl ?_
    refine V_cVeI (As := [.int x2]) (k_X5_get x3 x2 M) (fun _ h => o_X5_get h) ok_X5_get im_X5_get se_X5_get rfl (ci := 4) rfl ml_X7_65 ⟨⟨(Nat.le_of_ble_eq_true rfl), (Nat.le_of_ble_eq_true rfl)⟩, (Nat.le_of_ble_eq_true rfl), (Nat.le_of_ble_eq_true rfl)⟩ dX7_isChanged_20 rfl rfl rfl (Nat.le_of_ble_eq_true rfl) rfl rfl (fun x4 => ?_)
    refine V_aload_n dX7_isChanged_23 rfl 0 rfl ?_
    refine V_iload_n dX7_isChanged_24 rfl 2 rfl ?_
    refine V_cVeI (As := [.int a2]) (k_X7_toldOf this a2 M) (fun _ h => o_X7_toldOf h) ok_X7_toldOf im_X7_toldOf se_X7_toldOf rfl (ci := 6) rfl ml_X7_83 ⟨⟨(Nat.le_of_ble_eq_true rfl), (Nat.le_of_ble_eq_true rfl)⟩, (Nat.le_of_ble_eq_true rfl), (Nat.le_of_ble_eq_true rfl)⟩ dX7_isChanged_25 rfl rfl rfl (Nat.le_of_ble_eq_true rfl) rfl rfl (fun x5 => ?_)
    refine V_icmp_eq (q := 35) (q2 := 31) dX7_isChanged_28 (by decide) rfl ?_ ?_
    · refine V_iconst (x := 0) dX7_isChanged_35 rfl rfl ?_
      exact V_zret (v := false) dX7_isChanged_36 rfl rfl ⟨(Nat.le_of_ble_eq_true rfl), (Nat.le_of_ble_eq_true rfl)⟩
    · refine V_iconst (x := 1) dX7_isChanged_31 rfl rfl ?_
      refine V_goto (q := 36) dX7_isChanged_32 (by decide) ?_
      exact V_zret (v := true) dX7_isChanged_36 rfl rfl ⟨(Nat.le_of_ble_eq_true rfl), (Nat.le_of_ble_eq_true rfl)⟩
theorem k_X7_isChanged (this : Nat) (a1 : Nat) (a2 : Int32) (M : Mem) : K mi_X7_isChanged [.ref this, .ref a1, .int a2] M (f_X7_isChanged this a1 a2 M) (eZ M) := K_of_V ok_X7_isChanged (Nat.le_of_ble_eq_true rfl) (v_X7_isChanged this a1 a2 M)
theorem o_X7_isChanged {this : Nat} {a1 : Nat} {a2 : Int32} {M : Mem} {x} (h : f_X7_isChanged this a1 a2 M = some x) : isO M 6 this = true := (ob_of h).1
theorem dX7_countGoneBefore_0 : decode cX7_countGoneBefore 0 = .ok (.iconst 0, 1) := by decide +kernel
theorem dX7_countGoneBefore_1 : decode cX7_countGoneBefore 1 = .ok (.istore_n 3, 1) := by decide +kernel
theorem dX7_countGoneBefore_2 : decode cX7_countGoneBefore 2 = .ok (.iconst 1, 1) := by decide +kernel
theorem dX7_countGoneBefore_3 : decode cX7_countGoneBefore 3 = .ok (.istore 4, 2) := by decide +kernel
theorem dX7_countGoneBefore_5 : decode cX7_countGoneBefore 5 = .ok (.iload 4, 2) := by decide +kernel
theorem dX7_countGoneBefore_7 : decode cX7_countGoneBefore 7 = .ok (.iload_n 2, 1) := by decide +kernel
theorem dX7_countGoneBefore_8 : decode cX7_countGoneBefore 8 = .ok (.if_icmp .ge 31, 3) := by decide +kernel
theorem dX7_countGoneBefore_11 : decode cX7_countGoneBefore 11 = .ok (.iload 4, 2) := by decide +kernel
theorem dX7_countGoneBefore_13 : decode cX7_countGoneBefore 13 = .ok (.aload_n 0, 1) := by decide +kernel
theorem dX7_countGoneBefore_14 : decode cX7_countGoneBefore 14 = .ok (.invokevirtual 86, 3) := by decide +kernel
theorem dX7_countGoneBefore_17 : decode cX7_countGoneBefore 17 = .ok (.if_icmp .gt 22, 3) := by decide +kernel
theorem dX7_countGoneBefore_20 : decode cX7_countGoneBefore 20 = .ok (.aload_n 0, 1) := by decide +kernel
theorem dX7_countGoneBefore_21 : decode cX7_countGoneBefore 21 = .ok (.aload_n 1, 1) := by decide +kernel
theorem dX7_countGoneBefore_22 : decode cX7_countGoneBefore 22 = .ok (.iload 4, 2) := by decide +kernel
theorem dX7_countGoneBefore_24 : decode cX7_countGoneBefore 24 = .ok (.invokevirtual 87, 3) := by decide +kernel
theorem dX7_countGoneBefore_27 : decode cX7_countGoneBefore 27 = .ok (.ifCond .eq 6, 3) := by decide +kernel
theorem dX7_countGoneBefore_30 : decode cX7_countGoneBefore 30 = .ok (.iinc 3 1, 3) := by decide +kernel
theorem dX7_countGoneBefore_33 : decode cX7_countGoneBefore 33 = .ok (.iinc 4 1, 3) := by decide +kernel
theorem dX7_countGoneBefore_36 : decode cX7_countGoneBefore 36 = .ok (.goto (-31), 3) := by decide +kernel
theorem dX7_countGoneBefore_39 : decode cX7_countGoneBefore 39 = .ok (.iload_n 3, 1) := by decide +kernel
theorem dX7_countGoneBefore_40 : decode cX7_countGoneBefore 40 = .ok (.ireturn, 1) := by decide +kernel
def mi_X7_countGoneBefore : MI := (RX7, yX7_countGoneBefore, cX7_countGoneBefore, 5, some .int, [], { frames := 4, cells := 0, slots := 0, locals := 77 })
theorem ok_X7_countGoneBefore : mOK mi_X7_countGoneBefore 2 := ⟨rfl, cw_X7_countGoneBefore, ini_X7, ⟨rfl, by decide⟩, by decide, by decide, rfl⟩
theorem v_X7_countGoneBefore_33 (rc5 : Nat → Nat → Int32 → Int32 → Int32 → Mem → Option Int32) (h5 : ∀ (l0 : Nat) (l1 : Nat) (l2 : Int32) (l3 : Int32) (l4 : Int32) (M : Mem), V mi_X7_countGoneBefore 5 [(0, .ref l0), (1, .ref l1), (2, .int l2), (3, .int l3), (4, .int l4)] [] M 0 0 (rc5 l0 l1 l2 l3 l4 M) (eI M)) (this : Nat) (l1 : Nat) (l2 : Int32) (l3 : Int32) (l4 : Int32) (M : Mem) : V mi_X7_countGoneBefore 33 [(0, .ref this), (1, .ref l1), (2, .int l2), (3, .int l3), (4, .int l4)] [] M 0 0 (f_X7_countGoneBefore_33 rc5 this l1 l2 l3 l4 M) (eI M) := by
  unfold f_X7_countGoneBefore_33
  refine V_iinc (y := (l4 + 1)) (L' := [(0, .ref this), (1, .ref l1), (2, .int l2), (3, .int l3), (4, .int (l4 + 1))]) dX7_countGoneBefore_33 rfl 4 rfl rfl (by decide) rfl ?_
  refine V_goto (q := 5) dX7_countGoneBefore_36 (by decide) ?_
  exact h5 this l1 l2 l3 (l4 + 1) M
theorem v_X7_countGoneBefore_5 : ∀ (fu : Nat) (this : Nat) (l1 : Nat) (l2 : Int32) (l3 : Int32) (l4 : Int32) (M : Mem), V mi_X7_countGoneBefore 5 [(0, .ref this), (1, .ref l1), (2, .int l2), (3, .int l3), (4, .int l4)] [] M 0 0 (f_X7_countGoneBefore_5 fu this l1 l2 l3 l4 M) (eI M) := by
  intro fu
  induction fu with
  | zero => intros; exact V_none
  | succ fu ih =>
    intro this l1 l2 l3 l4 M
    show V mi_X7_countGoneBefore 5 [(0, .ref this), (1, .ref l1), (2, .int l2), (3, .int l3), (4, .int l4)] [] M 0 0 (f_X7_countGoneBefore_5 (fu + 1) this l1 l2 l3 l4 M) (eI M)
    unfold f_X7_countGoneBefore_5
    refine V_iload dX7_countGoneBefore_5 rfl 4 rfl ?_
    refine V_iload_n dX7_countGoneBefore_7 rfl 2 rfl ?_
    refine V_icmp_ge (q := 39) (q2 := 11) dX7_countGoneBefore_8 (by decide) rfl ?_ ?_
    · refine V_iload_n dX7_countGoneBefore_39 rfl 3 rfl ?_
      exact V_iret dX7_countGoneBefore_40 rfl rfl ⟨(Nat.le_of_ble_eq_true rfl), (Nat.le_of_ble_eq_true rfl)⟩
    · refine V_iload dX7_countGoneBefore_11 rfl 4 rfl ?_
      refine V_aload_n dX7_countGoneBefore_13 rfl 0 rfl ?_
      refine V_cVeI (As := []) (k_X7_size this M) (fun _ h => o_X7_size h) ok_X7_size im_X7_size se_X7_size rfl (ci := 6) rfl ml_X7_86 ⟨⟨(Nat.le_of_ble_eq_true rfl), (Nat.le_of_ble_eq_true rfl)⟩, (Nat.le_of_ble_eq_true rfl), (Nat.le_of_ble_eq_true rfl)⟩ dX7_countGoneBefore_14 rfl rfl rfl (Nat.le_of_ble_eq_true rfl) rfl rfl (fun x1 => ?_)
      refine V_icmp_gt (q := 39) (q2 := 20) dX7_countGoneBefore_17 (by decide) rfl ?_ ?_
      · refine V_iload_n dX7_countGoneBefore_39 rfl 3 rfl ?_
        exact V_iret dX7_countGoneBefore_40 rfl rfl ⟨(Nat.le_of_ble_eq_true rfl), (Nat.le_of_ble_eq_true rfl)⟩
      · refine V_aload_n dX7_countGoneBefore_20 rfl 0 rfl ?_
        refine V_aload_n dX7_countGoneBefore_21 rfl 1 rfl ?_
        refine V_iload dX7_countGoneBefore_22 rfl 4 rfl ?_
        refine V_cVeZ (As := [.ref l1, .int l4]) (k_X7_isGone this l1 l4 M) (fun _ h => o_X7_isGone h) ok_X7_isGone im_X7_isGone se_X7_isGone rfl (ci := 6) rfl ml_X7_87 ⟨⟨(Nat.le_of_ble_eq_true rfl), (Nat.le_of_ble_eq_true rfl)⟩, (Nat.le_of_ble_eq_true rfl), (Nat.le_of_ble_eq_true rfl)⟩ dX7_countGoneBefore_24 rfl rfl rfl (Nat.le_of_ble_eq_true rfl) rfl rfl (fun x2 => ?_)
        refine V_ifz_eq (q := 33) (q2 := 30) dX7_countGoneBefore_27 (by decide) rfl ?_ ?_
        · exact v_X7_countGoneBefore_33 (f_X7_countGoneBefore_5 fu) ih this l1 l2 l3 l4 M
        · refine V_iinc (y := (l3 + 1)) (L' := [(0, .ref this), (1, .ref l1), (2, .int l2), (3, .int (l3 + 1)), (4, .int l4)]) dX7_countGoneBefore_30 rfl 3 rfl rfl (by decide) rfl ?_
          exact v_X7_countGoneBefore_33 (f_X7_countGoneBefore_5 fu) ih this l1 l2 (l3 + 1) l4 M
theorem v_X7_countGoneBefore (this : Nat) (a1 : Nat) (a2 : Int32) (M : Mem) : V mi_X7_countGoneBefore 0 [(0, .ref this), (1, .ref a1), (2, .int a2)] [] M 0 0 (f_X7_countGoneBefore this a1 a2 M) (eI M) := by
  unfold f_X7_countGoneBefore
  refine V_ob fun _ _ => ?_
  refine V_iconst (x := 0) dX7_countGoneBefore_0 rfl rfl ?_
  refine V_istore_n (L' := [(0, .ref this), (1, .ref a1), (2, .int a2), (3, .int 0)]) dX7_countGoneBefore_1 rfl (by decide) rfl ?_
  refine V_iconst (x := 1) dX7_countGoneBefore_2 rfl rfl ?_
  refine V_istore (L' := [(0, .ref this), (1, .ref a1), (2, .int a2), (3, .int 0), (4, .int 1)]) dX7_countGoneBefore_3 rfl (by decide) rfl ?_
  exact v_X7_countGoneBefore_5 FU this a1 a2 0 1 M
theorem k_X7_countGoneBefore (this : Nat) (a1 : Nat) (a2 : Int32) (M : Mem) : K mi_X7_countGoneBefore [.ref this, .ref a1, .int a2] M (f_X7_countGoneBefore this a1 a2 M) (eI M) := K_of_V ok_X7_countGoneBefore (Nat.le_of_ble_eq_true rfl) (v_X7_countGoneBefore this a1 a2 M)
theorem o_X7_countGoneBefore {this : Nat} {a1 : Nat} {a2 : Int32} {M : Mem} {x} (h : f_X7_countGoneBefore this a1 a2 M = some x) : isO M 6 this = true := (ob_of h).1
theorem dX7_countGone_0 : decode cX7_countGone 0 = .ok (.aload_n 0, 1) := by decide +kernel
theorem dX7_countGone_1 : decode cX7_countGone 1 = .ok (.aload_n 1, 1) := by decide +kernel
theorem dX7_countGone_2 : decode cX7_countGone 2 = .ok (.aload_n 0, 1) := by decide +kernel
theorem dX7_countGone_3 : decode cX7_countGone 3 = .ok (.invokevirtual 86, 3) := by decide +kernel
theorem dX7_countGone_6 : decode cX7_countGone 6 = .ok (.iconst 1, 1) := by decide +kernel
theorem dX7_countGone_7 : decode cX7_countGone 7 = .ok (.iadd, 1) := by decide +kernel
theorem dX7_countGone_8 : decode cX7_countGone 8 = .ok (.invokevirtual 91, 3) := by decide +kernel
theorem dX7_countGone_11 : decode cX7_countGone 11 = .ok (.ireturn, 1) := by decide +kernel
def mi_X7_countGone : MI := (RX7, yX7_countGone, cX7_countGone, 2, some .int, [], { frames := 5, cells := 0, slots := 0, locals := 101 })
theorem ok_X7_countGone : mOK mi_X7_countGone 1 := ⟨rfl, cw_X7_countGone, ini_X7, ⟨rfl, by decide⟩, by decide, by decide, rfl⟩
theorem v_X7_countGone (this : Nat) (a1 : Nat) (M : Mem) : V mi_X7_countGone 0 [(0, .ref this), (1, .ref a1)] [] M 0 0 (f_X7_countGone this a1 M) (eI M) := by
  unfold f_X7_countGone
  refine V_ob fun _ _ => ?_
  refine V_aload_n dX7_countGone_0 rfl 0 rfl ?_
  refine V_aload_n dX7_countGone_1 rfl 1 rfl ?_
  refine V_aload_n dX7_countGone_2 rfl 0 rfl ?_
  refine V_cVeI (As := []) (k_X7_size this M) (fun _ h => o_X7_size h) ok_X7_size im_X7_size se_X7_size rfl (ci := 6) rfl ml_X7_86 ⟨⟨(Nat.le_of_ble_eq_true rfl), (Nat.le_of_ble_eq_true rfl)⟩, (Nat.le_of_ble_eq_true rfl), (Nat.le_of_ble_eq_true rfl)⟩ dX7_countGone_3 rfl rfl rfl (Nat.le_of_ble_eq_true rfl) rfl rfl (fun x1 => ?_)
  refine V_iconst (x := 1) dX7_countGone_6 rfl rfl ?_
  refine V_iadd dX7_countGone_7 rfl ?_
  refine V_cVeI (As := [.ref a1, .int (x1 + 1)]) (k_X7_countGoneBefore this a1 (x1 + 1) M) (fun _ h => o_X7_countGoneBefore h) ok_X7_countGoneBefore im_X7_countGoneBefore se_X7_countGoneBefore rfl (ci := 6) rfl ml_X7_91 ⟨⟨(Nat.le_of_ble_eq_true rfl), (Nat.le_of_ble_eq_true rfl)⟩, (Nat.le_of_ble_eq_true rfl), (Nat.le_of_ble_eq_true rfl)⟩ dX7_countGone_8 rfl rfl rfl (Nat.le_of_ble_eq_true rfl) rfl rfl (fun x2 => ?_)
  exact V_iret dX7_countGone_11 rfl rfl ⟨(Nat.le_of_ble_eq_true rfl), (Nat.le_of_ble_eq_true rfl)⟩
theorem k_X7_countGone (this : Nat) (a1 : Nat) (M : Mem) : K mi_X7_countGone [.ref this, .ref a1] M (f_X7_countGone this a1 M) (eI M) := K_of_V ok_X7_countGone (Nat.le_of_ble_eq_true rfl) (v_X7_countGone this a1 M)
theorem o_X7_countGone {this : Nat} {a1 : Nat} {M : Mem} {x} (h : f_X7_countGone this a1 M = some x) : isO M 6 this = true := (ob_of h).1
theorem dX7_countThere_0 : decode cX7_countThere 0 = .ok (.iconst 0, 1) := by decide +kernel
theorem dX7_countThere_1 : decode cX7_countThere 1 = .ok (.istore 4, 2) := by decide +kernel
theorem dX7_countThere_3 : decode cX7_countThere 3 = .ok (.iload_n 2, 1) := by decide +kernel
theorem dX7_countThere_4 : decode cX7_countThere 4 = .ok (.istore 5, 2) := by decide +kernel
theorem dX7_countThere_6 : decode cX7_countThere 6 = .ok (.iload 5, 2) := by decide +kernel
theorem dX7_countThere_8 : decode cX7_countThere 8 = .ok (.iload_n 3, 1) := by decide +kernel
theorem dX7_countThere_9 : decode cX7_countThere 9 = .ok (.if_icmp .gt 31, 3) := by decide +kernel
theorem dX7_countThere_12 : decode cX7_countThere 12 = .ok (.iload 5, 2) := by decide +kernel
theorem dX7_countThere_14 : decode cX7_countThere 14 = .ok (.aload_n 0, 1) := by decide +kernel
theorem dX7_countThere_15 : decode cX7_countThere 15 = .ok (.invokevirtual 86, 3) := by decide +kernel
theorem dX7_countThere_18 : decode cX7_countThere 18 = .ok (.if_icmp .gt 22, 3) := by decide +kernel
theorem dX7_countThere_21 : decode cX7_countThere 21 = .ok (.aload_n 0, 1) := by decide +kernel
theorem dX7_countThere_22 : decode cX7_countThere 22 = .ok (.aload_n 1, 1) := by decide +kernel
theorem dX7_countThere_23 : decode cX7_countThere 23 = .ok (.iload 5, 2) := by decide +kernel
theorem dX7_countThere_25 : decode cX7_countThere 25 = .ok (.invokevirtual 87, 3) := by decide +kernel
theorem dX7_countThere_28 : decode cX7_countThere 28 = .ok (.ifCond .ne 6, 3) := by decide +kernel
theorem dX7_countThere_31 : decode cX7_countThere 31 = .ok (.iinc 4 1, 3) := by decide +kernel
theorem dX7_countThere_34 : decode cX7_countThere 34 = .ok (.iinc 5 1, 3) := by decide +kernel
theorem dX7_countThere_37 : decode cX7_countThere 37 = .ok (.goto (-31), 3) := by decide +kernel
theorem dX7_countThere_40 : decode cX7_countThere 40 = .ok (.iload 4, 2) := by decide +kernel
theorem dX7_countThere_42 : decode cX7_countThere 42 = .ok (.ireturn, 1) := by decide +kernel
def mi_X7_countThere : MI := (RX7, yX7_countThere, cX7_countThere, 6, some .int, [], { frames := 4, cells := 0, slots := 0, locals := 77 })
theorem ok_X7_countThere : mOK mi_X7_countThere 3 := ⟨rfl, cw_X7_countThere, ini_X7, ⟨rfl, by decide⟩, by decide, by decide, rfl⟩
theorem v_X7_countThere_34 (rc6 : Nat → Nat → Int32 → Int32 → Int32 → Mem → Option Int32) (h6 : ∀ (l0 : Nat) (l1 : Nat) (l3 : Int32) (l4 : Int32) (l5 : Int32) (M : Mem), V mi_X7_countThere 6 [(0, .ref l0), (1, .ref l1), (3, .int l3), (4, .int l4), (5, .int l5)] [] M 0 0 (rc6 l0 l1 l3 l4 l5 M) (eI M)) (this : Nat) (l1 : Nat) (l3 : Int32) (l4 : Int32) (l5 : Int32) (M : Mem) : V mi_X7_countThere 34 [(0, .ref this), (1, .ref l1), (3, .int l3), (4, .int l4), (5, .int l5)] [] M 0 0 (f_X7_countThere_34 rc6 this l1 l3 l4 l5 M) (eI M) := by
  unfold f_X7_countThere_34
  refine V_iinc (y := (l5 + 1)) (L' := [(0, .ref this), (1, .ref l1), (3, .int l3), (4, .int l4), (5, .int (l5 + 1))]) dX7_countThere_34 rfl 4 rfl rfl (by decide) rfl ?_
  refine V_goto (q := 6) dX7_countThere_37 (by decide) ?_
  exact h6 this l1 l3 l4 (l5 + 1) M
theorem v_X7_countThere_6 : ∀ (fu : Nat) (this : Nat) (l1 : Nat) (l3 : Int32) (l4 : Int32) (l5 : Int32) (M : Mem), V mi_X7_countThere 6 [(0, .ref this), (1, .ref l1), (3, .int l3), (4, .int l4), (5, .int l5)] [] M 0 0 (f_X7_countThere_6 fu this l1 l3 l4 l5 M) (eI M) := by
  intro fu
  induction fu with
  | zero => intros; exact V_none
  | succ fu ih =>
    intro this l1 l3 l4 l5 M
    show V mi_X7_countThere 6 [(0, .ref this), (1, .ref l1), (3, .int l3), (4, .int l4), (5, .int l5)] [] M 0 0 (f_X7_countThere_6 (fu + 1) this l1 l3 l4 l5 M) (eI M)
    unfold f_X7_countThere_6
    refine V_iload dX7_countThere_6 rfl 4 rfl ?_
    refine V_iload_n dX7_countThere_8 rfl 2 rfl ?_
    refine V_icmp_gt (q := 40) (q2 := 12) dX7_countThere_9 (by decide) rfl ?_ ?_
    · refine V_iload dX7_countThere_40 rfl 3 rfl ?_
      exact V_iret dX7_countThere_42 rfl rfl ⟨(Nat.le_of_ble_eq_true rfl), (Nat.le_of_ble_eq_true rfl)⟩
    · refine V_iload dX7_countThere_12 rfl 4 rfl ?_
      refine V_aload_n dX7_countThere_14 rfl 0 rfl ?_
      refine V_cVeI (As := []) (k_X7_size this M) (fun _ h => o_X7_size h) ok_X7_size im_X7_size se_X7_size rfl (ci := 6) rfl ml_X7_86 ⟨⟨(Nat.le_of_ble_eq_true rfl), (Nat.le_of_ble_eq_true rfl)⟩, (Nat.le_of_ble_eq_true rfl), (Nat.le_of_ble_eq_true rfl)⟩ dX7_countThere_15 rfl rfl rfl (Nat.le_of_ble_eq_true rfl) rfl rfl (fun x1 => ?_)
      refine V_icmp_gt (q := 40) (q2 := 21) dX7_countThere_18 (by decide) rfl ?_ ?_
      · refine V_iload dX7_countThere_40 rfl 3 rfl ?_
        exact V_iret dX7_countThere_42 rfl rfl ⟨(Nat.le_of_ble_eq_true rfl), (Nat.le_of_ble_eq_true rfl)⟩
      · refine V_aload_n dX7_countThere_21 rfl 0 rfl ?_
        refine V_aload_n dX7_countThere_22 rfl 1 rfl ?_
        refine V_iload dX7_countThere_23 rfl 4 rfl ?_
        refine V_cVeZ (As := [.ref l1, .int l5]) (k_X7_isGone this l1 l5 M) (fun _ h => o_X7_isGone h) ok_X7_isGone im_X7_isGone se_X7_isGone rfl (ci := 6) rfl ml_X7_87 ⟨⟨(Nat.le_of_ble_eq_true rfl), (Nat.le_of_ble_eq_true rfl)⟩, (Nat.le_of_ble_eq_true rfl), (Nat.le_of_ble_eq_true rfl)⟩ dX7_countThere_25 rfl rfl rfl (Nat.le_of_ble_eq_true rfl) rfl rfl (fun x2 => ?_)
        refine V_ifz_ne (q := 34) (q2 := 31) dX7_countThere_28 (by decide) rfl ?_ ?_
        · exact v_X7_countThere_34 (f_X7_countThere_6 fu) ih this l1 l3 l4 l5 M
        · refine V_iinc (y := (l4 + 1)) (L' := [(0, .ref this), (1, .ref l1), (3, .int l3), (4, .int (l4 + 1)), (5, .int l5)]) dX7_countThere_31 rfl 3 rfl rfl (by decide) rfl ?_
          exact v_X7_countThere_34 (f_X7_countThere_6 fu) ih this l1 l3 (l4 + 1) l5 M
theorem v_X7_countThere (this : Nat) (a1 : Nat) (a2 : Int32) (a3 : Int32) (M : Mem) : V mi_X7_countThere 0 [(0, .ref this), (1, .ref a1), (2, .int a2), (3, .int a3)] [] M 0 0 (f_X7_countThere this a1 a2 a3 M) (eI M) := by
  unfold f_X7_countThere
  refine V_ob fun _ _ => ?_
  refine V_iconst (x := 0) dX7_countThere_0 rfl rfl ?_
  refine V_istore (L' := [(0, .ref this), (1, .ref a1), (2, .int a2), (3, .int a3), (4, .int 0)]) dX7_countThere_1 rfl (by decide) rfl ?_
  refine V_iload_n dX7_countThere_3 rfl 2 rfl ?_
  refine V_istore (L' := [(0, .ref this), (1, .ref a1), (2, .int a2), (3, .int a3), (4, .int 0), (5, .int a2)]) dX7_countThere_4 rfl (by decide) rfl ?_
  exact V_sub [0, 1, 3, 4, 5] rfl (v_X7_countThere_6 FU this a1 a3 0 a2 M)
theorem k_X7_countThere (this : Nat) (a1 : Nat) (a2 : Int32) (a3 : Int32) (M : Mem) : K mi_X7_countThere [.ref this, .ref a1, .int a2, .int a3] M (f_X7_countThere this a1 a2 a3 M) (eI M) := K_of_V ok_X7_countThere (Nat.le_of_ble_eq_true rfl) (v_X7_countThere this a1 a2 a3 M)
theorem o_X7_countThere {this : Nat} {a1 : Nat} {a2 : Int32} {a3 : Int32} {M : Mem} {x} (h : f_X7_countThere this a1 a2 a3 M = some x) : isO M 6 this = true := (ob_of h).1
theorem dX7_countChanged_0 : decode cX7_countChanged 0 = .ok (.iconst 0, 1) := by decide +kernel
theorem dX7_countChanged_1 : decode cX7_countChanged 1 = .ok (.istore_n 2, 1) := by decide +kernel
theorem dX7_countChanged_2 : decode cX7_countChanged 2 = .ok (.iconst 1, 1) := by decide +kernel
theorem dX7_countChanged_3 : decode cX7_countChanged 3 = .ok (.istore_n 3, 1) := by decide +kernel
theorem dX7_countChanged_4 : decode cX7_countChanged 4 = .ok (.iload_n 3, 1) := by decide +kernel
theorem dX7_countChanged_5 : decode cX7_countChanged 5 = .ok (.aload_n 0, 1) := by decide +kernel
theorem dX7_countChanged_6 : decode cX7_countChanged 6 = .ok (.invokevirtual 86, 3) := by decide +kernel
theorem dX7_countChanged_9 : decode cX7_countChanged 9 = .ok (.if_icmp .gt 21, 3) := by decide +kernel
theorem dX7_countChanged_12 : decode cX7_countChanged 12 = .ok (.aload_n 0, 1) := by decide +kernel
theorem dX7_countChanged_13 : decode cX7_countChanged 13 = .ok (.aload_n 1, 1) := by decide +kernel
theorem dX7_countChanged_14 : decode cX7_countChanged 14 = .ok (.iload_n 3, 1) := by decide +kernel
theorem dX7_countChanged_15 : decode cX7_countChanged 15 = .ok (.invokevirtual 95, 3) := by decide +kernel
theorem dX7_countChanged_18 : decode cX7_countChanged 18 = .ok (.ifCond .eq 6, 3) := by decide +kernel
theorem dX7_countChanged_21 : decode cX7_countChanged 21 = .ok (.iinc 2 1, 3) := by decide +kernel
theorem dX7_countChanged_24 : decode cX7_countChanged 24 = .ok (.iinc 3 1, 3) := by decide +kernel
theorem dX7_countChanged_27 : decode cX7_countChanged 27 = .ok (.goto (-23), 3) := by decide +kernel
theorem dX7_countChanged_30 : decode cX7_countChanged 30 = .ok (.iload_n 2, 1) := by decide +kernel
theorem dX7_countChanged_31 : decode cX7_countChanged 31 = .ok (.ireturn, 1) := by decide +kernel
def mi_X7_countChanged : MI := (RX7, yX7_countChanged, cX7_countChanged, 4, some .int, [], { frames := 4, cells := 0, slots := 0, locals := 78 })
theorem ok_X7_countChanged : mOK mi_X7_countChanged 1 := ⟨rfl, cw_X7_countChanged, ini_X7, ⟨rfl, by decide⟩, by decide, by decide, rfl⟩
theorem v_X7_countChanged_24 (rc4 : Nat → Nat → Int32 → Int32 → Mem → Option Int32) (h4 : ∀ (l0 : Nat) (l1 : Nat) (l2 : Int32) (l3 : Int32) (M : Mem), V mi_X7_countChanged 4 [(0, .ref l0), (1, .ref l1), (2, .int l2), (3, .int l3)] [] M 0 0 (rc4 l0 l1 l2 l3 M) (eI M)) (this : Nat) (l1 : Nat) (l2 : Int32) (l3 : Int32) (M : Mem) : V mi_X7_countChanged 24 [(0, .ref this), (1, .ref l1), (2, .int l2), (3, .int l3)] [] M 0 0 (f_X7_countChanged_24 rc4 this l1 l2 l3 M) (eI M) := by
  unfold f_X7_countChanged_24
  refine V_iinc (y := (l3 + 1)) (L' := [(0, .ref this), (1, .ref l1), (2, .int l2), (3, .int (l3 + 1))]) dX7_countChanged_24 rfl 3 rfl rfl (by decide) rfl ?_
  refine V_goto (q := 4) dX7_countChanged_27 (by decide) ?_
  exact h4 this l1 l2 (l3 + 1) M
theorem v_X7_countChanged_4 : ∀ (fu : Nat) (this : Nat) (l1 : Nat) (l2 : Int32) (l3 : Int32) (M : Mem), V mi_X7_countChanged 4 [(0, .ref this), (1, .ref l1), (2, .int l2), (3, .int l3)] [] M 0 0 (f_X7_countChanged_4 fu this l1 l2 l3 M) (eI M) := by
  intro fu
  induction fu with
  | zero => intros; exact V_none
  | succ fu ih =>
    intro this l1 l2 l3 M
    show V mi_X7_countChanged 4 [(0, .ref this), (1, .ref l1), (2, .int l2), (3, .int l3)] [] M 0 0 (f_X7_countChanged_4 (fu + 1) this l1 l2 l3 M) (eI M)
    unfold f_X7_countChanged_4
    refine V_iload_n dX7_countChanged_4 rfl 3 rfl ?_
    refine V_aload_n dX7_countChanged_5 rfl 0 rfl ?_
    refine V_cVeI (As := []) (k_X7_size this M) (fun _ h => o_X7_size h) ok_X7_size im_X7_size se_X7_size rfl (ci := 6) rfl ml_X7_86 ⟨⟨(Nat.le_of_ble_eq_true rfl), (Nat.le_of_ble_eq_true rfl)⟩, (Nat.le_of_ble_eq_true rfl), (Nat.le_of_ble_eq_true rfl)⟩ dX7_countChanged_6 rfl rfl rfl (Nat.le_of_ble_eq_true rfl) rfl rfl (fun x1 => ?_)
    refine V_icmp_gt (q := 30) (q2 := 12) dX7_countChanged_9 (by decide) rfl ?_ ?_
    · refine V_iload_n dX7_countChanged_30 rfl 2 rfl ?_
      exact V_iret dX7_countChanged_31 rfl rfl ⟨(Nat.le_of_ble_eq_true rfl), (Nat.le_of_ble_eq_true rfl)⟩
    · refine V_aload_n dX7_countChanged_12 rfl 0 rfl ?_
      refine V_aload_n dX7_countChanged_13 rfl 1 rfl ?_
      refine V_iload_n dX7_countChanged_14 rfl 3 rfl ?_
      refine V_cVeZ (As := [.ref l1, .int l3]) (k_X7_isChanged this l1 l3 M) (fun _ h => o_X7_isChanged h) ok_X7_isChanged im_X7_isChanged se_X7_isChanged rfl (ci := 6) rfl ml_X7_95 ⟨⟨(Nat.le_of_ble_eq_true rfl), (Nat.le_of_ble_eq_true rfl)⟩, (Nat.le_of_ble_eq_true rfl), (Nat.le_of_ble_eq_true rfl)⟩ dX7_countChanged_15 rfl rfl rfl (Nat.le_of_ble_eq_true rfl) rfl rfl (fun x2 => ?_)
      refine V_ifz_eq (q := 24) (q2 := 21) dX7_countChanged_18 (by decide) rfl ?_ ?_
      · exact v_X7_countChanged_24 (f_X7_countChanged_4 fu) ih this l1 l2 l3 M
      · refine V_iinc (y := (l2 + 1)) (L' := [(0, .ref this), (1, .ref l1), (2, .int (l2 + 1)), (3, .int l3)]) dX7_countChanged_21 rfl 2 rfl rfl (by decide) rfl ?_
        exact v_X7_countChanged_24 (f_X7_countChanged_4 fu) ih this l1 (l2 + 1) l3 M
theorem v_X7_countChanged (this : Nat) (a1 : Nat) (M : Mem) : V mi_X7_countChanged 0 [(0, .ref this), (1, .ref a1)] [] M 0 0 (f_X7_countChanged this a1 M) (eI M) := by
  unfold f_X7_countChanged
  refine V_ob fun _ _ => ?_
  refine V_iconst (x := 0) dX7_countChanged_0 rfl rfl ?_
  refine V_istore_n (L' := [(0, .ref this), (1, .ref a1), (2, .int 0)]) dX7_countChanged_1 rfl (by decide) rfl ?_
  refine V_iconst (x := 1) dX7_countChanged_2 rfl rfl ?_
  refine V_istore_n (L' := [(0, .ref this), (1, .ref a1), (2, .int 0), (3, .int 1)]) dX7_countChanged_3 rfl (by decide) rfl ?_
  exact v_X7_countChanged_4 FU this a1 0 1 M
theorem k_X7_countChanged (this : Nat) (a1 : Nat) (M : Mem) : K mi_X7_countChanged [.ref this, .ref a1] M (f_X7_countChanged this a1 M) (eI M) := K_of_V ok_X7_countChanged (Nat.le_of_ble_eq_true rfl) (v_X7_countChanged this a1 M)
theorem o_X7_countChanged {this : Nat} {a1 : Nat} {M : Mem} {x} (h : f_X7_countChanged this a1 M = some x) : isO M 6 this = true := (ob_of h).1
theorem dX7_countNew_0 : decode cX7_countNew 0 = .ok (.iconst 0, 1) := by decide +kernel
theorem dX7_countNew_1 : decode cX7_countNew 1 = .ok (.istore_n 2, 1) := by decide +kernel
theorem dX7_countNew_2 : decode cX7_countNew 2 = .ok (.iconst 0, 1) := by decide +kernel
theorem dX7_countNew_3 : decode cX7_countNew 3 = .ok (.istore_n 3, 1) := by decide +kernel
theorem dX7_countNew_4 : decode cX7_countNew 4 = .ok (.iload_n 3, 1) := by decide +kernel
theorem dX7_countNew_5 : decode cX7_countNew 5 = .ok (.aload_n 1, 1) := by decide +kernel
theorem dX7_countNew_6 : decode cX7_countNew 6 = .ok (.invokevirtual 98, 3) := by decide +kernel
theorem dX7_countNew_9 : decode cX7_countNew 9 = .ok (.if_icmp .ge 27, 3) := by decide +kernel
theorem dX7_countNew_12 : decode cX7_countNew 12 = .ok (.aload_n 1, 1) := by decide +kernel
theorem dX7_countNew_13 : decode cX7_countNew 13 = .ok (.getfield 99, 3) := by decide +kernel
theorem dX7_countNew_16 : decode cX7_countNew 16 = .ok (.iload_n 3, 1) := by decide +kernel
theorem dX7_countNew_17 : decode cX7_countNew 17 = .ok (.invokevirtual 65, 3) := by decide +kernel
theorem dX7_countNew_20 : decode cX7_countNew 20 = .ok (.aload_n 0, 1) := by decide +kernel
theorem dX7_countNew_21 : decode cX7_countNew 21 = .ok (.getfield 47, 3) := by decide +kernel
theorem dX7_countNew_24 : decode cX7_countNew 24 = .ok (.if_icmp .le 6, 3) := by decide +kernel
theorem dX7_countNew_27 : decode cX7_countNew 27 = .ok (.iinc 2 1, 3) := by decide +kernel
theorem dX7_countNew_30 : decode cX7_countNew 30 = .ok (.iinc 3 1, 3) := by decide +kernel
theorem dX7_countNew_33 : decode cX7_countNew 33 = .ok (.goto (-29), 3) := by decide +kernel
theorem dX7_countNew_36 : decode cX7_countNew 36 = .ok (.iload_n 2, 1) := by decide +kernel
theorem dX7_countNew_37 : decode cX7_countNew 37 = .ok (.ireturn, 1) := by decide +kernel
def mi_X7_countNew : MI := (RX7, yX7_countNew, cX7_countNew, 4, some .int, [], { frames := 3, cells := 0, slots := 0, locals := 52 })
theorem ok_X7_countNew : mOK mi_X7_countNew 1 := ⟨rfl, cw_X7_countNew, ini_X7, ⟨rfl, by decide⟩, by decide, by decide, rfl⟩
theorem v_X7_countNew_30 (rc4 : Nat → Nat → Int32 → Int32 → Mem → Option Int32) (h4 : ∀ (l0 : Nat) (l1 : Nat) (l2 : Int32) (l3 : Int32) (M : Mem), V mi_X7_countNew 4 [(0, .ref l0), (1, .ref l1), (2, .int l2), (3, .int l3)] [] M 0 0 (rc4 l0 l1 l2 l3 M) (eI M)) (this : Nat) (l1 : Nat) (l2 : Int32) (l3 : Int32) (M : Mem) : V mi_X7_countNew 30 [(0, .ref this), (1, .ref l1), (2, .int l2), (3, .int l3)] [] M 0 0 (f_X7_countNew_30 rc4 this l1 l2 l3 M) (eI M) := by
  unfold f_X7_countNew_30
  refine V_iinc (y := (l3 + 1)) (L' := [(0, .ref this), (1, .ref l1), (2, .int l2), (3, .int (l3 + 1))]) dX7_countNew_30 rfl 3 rfl rfl (by decide) rfl ?_
  refine V_goto (q := 4) dX7_countNew_33 (by decide) ?_
  exact h4 this l1 l2 (l3 + 1) M
theorem v_X7_countNew_4 : ∀ (fu : Nat) (this : Nat) (l1 : Nat) (l2 : Int32) (l3 : Int32) (M : Mem), V mi_X7_countNew 4 [(0, .ref this), (1, .ref l1), (2, .int l2), (3, .int l3)] [] M 0 0 (f_X7_countNew_4 fu this l1 l2 l3 M) (eI M) := by
  intro fu
  induction fu with
  | zero => intros; exact V_none
  | succ fu ih =>
    intro this l1 l2 l3 M
    show V mi_X7_countNew 4 [(0, .ref this), (1, .ref l1), (2, .int l2), (3, .int l3)] [] M 0 0 (f_X7_countNew_4 (fu + 1) this l1 l2 l3 M) (eI M)
    unfold f_X7_countNew_4
    refine V_iload_n dX7_countNew_4 rfl 3 rfl ?_
    refine V_aload_n dX7_countNew_5 rfl 1 rfl ?_
    refine V_cVeI (As := []) (k_X0_size l1 M) (fun _ h => o_X0_size h) ok_X0_size im_X0_size se_X0_size rfl (ci := 0) rfl ml_X7_98 ⟨⟨(Nat.le_of_ble_eq_true rfl), (Nat.le_of_ble_eq_true rfl)⟩, (Nat.le_of_ble_eq_true rfl), (Nat.le_of_ble_eq_true rfl)⟩ dX7_countNew_6 rfl rfl rfl (Nat.le_of_ble_eq_true rfl) rfl rfl (fun x1 => ?_)
    refine V_icmp_ge (q := 36) (q2 := 12) dX7_countNew_9 (by decide) rfl ?_ ?_
    · refine V_iload_n dX7_countNew_36 rfl 2 rfl ?_
      exact V_iret dX7_countNew_37 rfl rfl ⟨(Nat.le_of_ble_eq_true rfl), (Nat.le_of_ble_eq_true rfl)⟩
    · refine V_aload_n dX7_countNew_12 rfl 1 rfl ?_
      refine V_getR dX7_countNew_13 rfl (ci := 0) (T := TX0) rfl (by decide) fl_X7_99 (fun x2 => ?_)
      refine V_iload_n dX7_countNew_16 rfl 3 rfl ?_
      refine V_cVeI (As := [.int l3]) (k_X5_get x2 l3 M) (fun _ h => o_X5_get h) ok_X5_get im_X5_get se_X5_get rfl (ci := 4) rfl ml_X7_65 ⟨⟨(Nat.le_of_ble_eq_true rfl), (Nat.le_of_ble_eq_true rfl)⟩, (Nat.le_of_ble_eq_true rfl), (Nat.le_of_ble_eq_true rfl)⟩ dX7_countNew_17 rfl rfl rfl (Nat.le_of_ble_eq_true rfl) rfl rfl (fun x3 => ?_)
      refine V_aload_n dX7_countNew_20 rfl 0 rfl ?_
      refine V_getI dX7_countNew_21 rfl (ci := 6) (T := TX7) rfl (by decide) fl_X7_47 (fun x4 => ?_)
      refine V_icmp_le (q := 30) (q2 := 27) dX7_countNew_24 (by decide) rfl ?_ ?_
      · exact v_X7_countNew_30 (f_X7_countNew_4 fu) ih this l1 l2 l3 M
      · refine V_iinc (y := (l2 + 1)) (L' := [(0, .ref this), (1, .ref l1), (2, .int (l2 + 1)), (3, .int l3)]) dX7_countNew_27 rfl 2 rfl rfl (by decide) rfl ?_
        exact v_X7_countNew_30 (f_X7_countNew_4 fu) ih this l1 (l2 + 1) l3 M
theorem v_X7_countNew (this : Nat) (a1 : Nat) (M : Mem) : V mi_X7_countNew 0 [(0, .ref this), (1, .ref a1)] [] M 0 0 (f_X7_countNew this a1 M) (eI M) := by
  unfold f_X7_countNew
  refine V_ob fun _ _ => ?_
  refine V_iconst (x := 0) dX7_countNew_0 rfl rfl ?_
  refine V_istore_n (L' := [(0, .ref this), (1, .ref a1), (2, .int 0)]) dX7_countNew_1 rfl (by decide) rfl ?_
  refine V_iconst (x := 0) dX7_countNew_2 rfl rfl ?_
  refine V_istore_n (L' := [(0, .ref this), (1, .ref a1), (2, .int 0), (3, .int 0)]) dX7_countNew_3 rfl (by decide) rfl ?_
  exact v_X7_countNew_4 FU this a1 0 0 M
theorem k_X7_countNew (this : Nat) (a1 : Nat) (M : Mem) : K mi_X7_countNew [.ref this, .ref a1] M (f_X7_countNew this a1 M) (eI M) := K_of_V ok_X7_countNew (Nat.le_of_ble_eq_true rfl) (v_X7_countNew this a1 M)
theorem o_X7_countNew {this : Nat} {a1 : Nat} {M : Mem} {x} (h : f_X7_countNew this a1 M = some x) : isO M 6 this = true := (ob_of h).1
theorem dX7_countPending_0 : decode cX7_countPending 0 = .ok (.aload_n 0, 1) := by decide +kernel
theorem dX7_countPending_1 : decode cX7_countPending 1 = .ok (.aload_n 1, 1) := by decide +kernel
theorem dX7_countPending_2 : decode cX7_countPending 2 = .ok (.invokevirtual 100, 3) := by decide +kernel
theorem dX7_countPending_5 : decode cX7_countPending 5 = .ok (.istore_n 2, 1) := by decide +kernel
theorem dX7_countPending_6 : decode cX7_countPending 6 = .ok (.aload_n 0, 1) := by decide +kernel
theorem dX7_countPending_7 : decode cX7_countPending 7 = .ok (.invokevirtual 86, 3) := by decide +kernel
theorem dX7_countPending_10 : decode cX7_countPending 10 = .ok (.iload_n 2, 1) := by decide +kernel
theorem dX7_countPending_11 : decode cX7_countPending 11 = .ok (.isub, 1) := by decide +kernel
theorem dX7_countPending_12 : decode cX7_countPending 12 = .ok (.bipush 60, 2) := by decide +kernel
theorem dX7_countPending_14 : decode cX7_countPending 14 = .ok (.if_icmp .ge 7, 3) := by decide +kernel
theorem dX7_countPending_17 : decode cX7_countPending 17 = .ok (.iconst 1, 1) := by decide +kernel
theorem dX7_countPending_18 : decode cX7_countPending 18 = .ok (.goto 4, 3) := by decide +kernel
theorem dX7_countPending_21 : decode cX7_countPending 21 = .ok (.iconst 0, 1) := by decide +kernel
theorem dX7_countPending_22 : decode cX7_countPending 22 = .ok (.istore_n 3, 1) := by decide +kernel
theorem dX7_countPending_23 : decode cX7_countPending 23 = .ok (.iload_n 2, 1) := by decide +kernel
theorem dX7_countPending_24 : decode cX7_countPending 24 = .ok (.aload_n 0, 1) := by decide +kernel
theorem dX7_countPending_25 : decode cX7_countPending 25 = .ok (.aload_n 1, 1) := by decide +kernel
theorem dX7_countPending_26 : decode cX7_countPending 26 = .ok (.invokevirtual 103, 3) := by decide +kernel
theorem dX7_countPending_29 : decode cX7_countPending 29 = .ok (.iadd, 1) := by decide +kernel
theorem dX7_countPending_30 : decode cX7_countPending 30 = .ok (.iload_n 3, 1) := by decide +kernel
theorem dX7_countPending_31 : decode cX7_countPending 31 = .ok (.ifCond .eq 15, 3) := by decide +kernel
theorem dX7_countPending_34 : decode cX7_countPending 34 = .ok (.aload_n 0, 1) := by decide +kernel
theorem dX7_countPending_35 : decode cX7_countPending 35 = .ok (.aload_n 1, 1) := by decide +kernel
theorem dX7_countPending_36 : decode cX7_countPending 36 = .ok (.invokevirtual 106, 3) := by decide +kernel
theorem dX7_countPending_39 : decode cX7_countPending 39 = .ok (.ifCond .le 7, 3) := by decide +kernel
theorem dX7_countPending_42 : decode cX7_countPending 42 = .ok (.iconst 1, 1) := by decide +kernel
theorem dX7_countPending_43 : decode cX7_countPending 43 = .ok (.goto 4, 3) := by decide +kernel
theorem dX7_countPending_46 : decode cX7_countPending 46 = .ok (.iconst 0, 1) := by decide +kernel
theorem dX7_countPending_47 : decode cX7_countPending 47 = .ok (.iadd, 1) := by decide +kernel
theorem dX7_countPending_48 : decode cX7_countPending 48 = .ok (.ireturn, 1) := by decide +kernel
def mi_X7_countPending : MI := (RX7, yX7_countPending, cX7_countPending, 4, some .int, [], { frames := 6, cells := 0, slots := 0, locals := 122 })
theorem ok_X7_countPending : mOK mi_X7_countPending 1 := ⟨rfl, cw_X7_countPending, ini_X7, ⟨rfl, by decide⟩, by decide, by decide, rfl⟩
theorem v_X7_countPending_22 (this : Nat) (l1 : Nat) (l2 : Int32) (s0 : Bool) (M : Mem) : V mi_X7_countPending 22 [(0, .ref this), (1, .ref l1), (2, .int l2)] [.int (b2i s0)] M 0 0 (f_X7_countPending_22 this l1 l2 s0 M) (eI M) := by
  unfold f_X7_countPending_22
  refine V_istore_n (L' := [(0, .ref this), (1, .ref l1), (2, .int l2), (3, .int (b2i s0))]) dX7_countPending_22 rfl (by decide) rfl ?_
  refine V_iload_n dX7_countPending_23 rfl 2 rfl ?_
  refine V_aload_n dX7_countPending_24 rfl 0 rfl ?_
  refine V_aload_n dX7_countPending_25 rfl 1 rfl ?_
  refine V_cVeI (As := [.ref l1]) (k_X7_countChanged this l1 M) (fun _ h => o_X7_countChanged h) ok_X7_countChanged im_X7_countChanged se_X7_countChanged rfl (ci := 6) rfl ml_X7_103 ⟨⟨(Nat.le_of_ble_eq_true rfl), (Nat.le_of_ble_eq_true rfl)⟩, (Nat.le_of_ble_eq_true rfl), (Nat.le_of_ble_eq_true rfl)⟩ dX7_countPending_26 rfl rfl rfl (Nat.le_of_ble_eq_true rfl) rfl rfl (fun x3 => ?_)
  refine V_iadd dX7_countPending_29 rfl ?_
  refine V_iload_n dX7_countPending_30 rfl 3 rfl ?_
  refine V_ifz_eq (q := 46) (q2 := 34) dX7_countPending_31 (by decide) rfl ?_ ?_
  · refine V_iconst (x := 0) dX7_countPending_46 rfl rfl ?_
    refine V_iadd dX7_countPending_47 rfl ?_
    exact V_iret dX7_countPending_48 rfl rfl ⟨(Nat.le_of_ble_eq_true rfl), (Nat.le_of_ble_eq_true rfl)⟩
  · refine V_aload_n dX7_countPending_34 rfl 0 rfl ?_
    refine V_aload_n dX7_countPending_35 rfl 1 rfl ?_
    refine V_cVeI (As := [.ref l1]) (k_X7_countNew this l1 M) (fun _ h => o_X7_countNew h) ok_X7_countNew im_X7_countNew se_X7_countNew rfl (ci := 6) rfl ml_X7_106 ⟨⟨(Nat.le_of_ble_eq_true rfl), (Nat.le_of_ble_eq_true rfl)⟩, (Nat.le_of_ble_eq_true rfl), (Nat.le_of_ble_eq_true rfl)⟩ dX7_countPending_36 rfl rfl rfl (Nat.le_of_ble_eq_true rfl) rfl rfl (fun x4 => ?_)
    refine V_if_le (q := 46) (q2 := 42) dX7_countPending_39 (by decide) rfl ?_ ?_
    · refine V_iconst (x := 0) dX7_countPending_46 rfl rfl ?_
      refine V_iadd dX7_countPending_47 rfl ?_
      exact V_iret dX7_countPending_48 rfl rfl ⟨(Nat.le_of_ble_eq_true rfl), (Nat.le_of_ble_eq_true rfl)⟩
    · refine V_iconst (x := 1) dX7_countPending_42 rfl rfl ?_
      refine V_goto (q := 47) dX7_countPending_43 (by decide) ?_
      refine V_iadd dX7_countPending_47 rfl ?_
      exact V_iret dX7_countPending_48 rfl rfl ⟨(Nat.le_of_ble_eq_true rfl), (Nat.le_of_ble_eq_true rfl)⟩
theorem v_X7_countPending (this : Nat) (a1 : Nat) (M : Mem) : V mi_X7_countPending 0 [(0, .ref this), (1, .ref a1)] [] M 0 0 (f_X7_countPending this a1 M) (eI M) := by
  unfold f_X7_countPending
  refine V_ob fun _ _ => ?_
  refine V_aload_n dX7_countPending_0 rfl 0 rfl ?_
  refine V_aload_n dX7_countPending_1 rfl 1 rfl ?_
  refine V_cVeI (As := [.ref a1]) (k_X7_countGone this a1 M) (fun _ h => o_X7_countGone h) ok_X7_countGone im_X7_countGone se_X7_countGone rfl (ci := 6) rfl ml_X7_100 ⟨⟨(Nat.le_of_ble_eq_true rfl), (Nat.le_of_ble_eq_true rfl)⟩, (Nat.le_of_ble_eq_true rfl), (Nat.le_of_ble_eq_true rfl)⟩ dX7_countPending_2 rfl rfl rfl (Nat.le_of_ble_eq_true rfl) rfl rfl (fun x1 => ?_)
  refine V_istore_n (L' := [(0, .ref this), (1, .ref a1), (2, .int x1)]) dX7_countPending_5 rfl (by decide) rfl ?_
  refine V_aload_n dX7_countPending_6 rfl 0 rfl ?_
  refine V_cVeI (As := []) (k_X7_size this M) (fun _ h => o_X7_size h) ok_X7_size im_X7_size se_X7_size rfl (ci := 6) rfl ml_X7_86 ⟨⟨(Nat.le_of_ble_eq_true rfl), (Nat.le_of_ble_eq_true rfl)⟩, (Nat.le_of_ble_eq_true rfl), (Nat.le_of_ble_eq_true rfl)⟩ dX7_countPending_7 rfl rfl rfl (Nat.le_of_ble_eq_true rfl) rfl rfl (fun x2 => ?_)
  refine V_iload_n dX7_countPending_10 rfl 2 rfl ?_
  refine V_isub dX7_countPending_11 rfl ?_
  refine V_bipush (x := 60) dX7_countPending_12 rfl rfl ?_
  refine V_icmp_ge (q := 21) (q2 := 17) dX7_countPending_14 (by decide) rfl ?_ ?_
  · refine V_iconst (x := 0) dX7_countPending_21 rfl rfl ?_
    exact v_X7_countPending_22 this a1 x1 false M
  · refine V_iconst (x := 1) dX7_countPending_17 rfl rfl ?_
    refine V_goto (q := 22) dX7_countPending_18 (by decide) ?_
    exact v_X7_countPending_22 this a1 x1 true M
theorem k_X7_countPending (this : Nat) (a1 : Nat) (M : Mem) : K mi_X7_countPending [.ref this, .ref a1] M (f_X7_countPending this a1 M) (eI M) := K_of_V ok_X7_countPending (Nat.le_of_ble_eq_true rfl) (v_X7_countPending this a1 M)
theorem o_X7_countPending {this : Nat} {a1 : Nat} {M : Mem} {x} (h : f_X7_countPending this a1 M = some x) : isO M 6 this = true := (ob_of h).1
theorem dX7_firstNotToldSeen_0 : decode cX7_firstNotToldSeen 0 = .ok (.iconst 1, 1) := by decide +kernel
theorem dX7_firstNotToldSeen_1 : decode cX7_firstNotToldSeen 1 = .ok (.istore_n 1, 1) := by decide +kernel
theorem dX7_firstNotToldSeen_2 : decode cX7_firstNotToldSeen 2 = .ok (.iload_n 1, 1) := by decide +kernel
theorem dX7_firstNotToldSeen_3 : decode cX7_firstNotToldSeen 3 = .ok (.aload_n 0, 1) := by decide +kernel
theorem dX7_firstNotToldSeen_4 : decode cX7_firstNotToldSeen 4 = .ok (.invokevirtual 86, 3) := by decide +kernel
theorem dX7_firstNotToldSeen_7 : decode cX7_firstNotToldSeen 7 = .ok (.if_icmp .gt 21, 3) := by decide +kernel
theorem dX7_firstNotToldSeen_10 : decode cX7_firstNotToldSeen 10 = .ok (.aload_n 0, 1) := by decide +kernel
theorem dX7_firstNotToldSeen_11 : decode cX7_firstNotToldSeen 11 = .ok (.iload_n 1, 1) := by decide +kernel
theorem dX7_firstNotToldSeen_12 : decode cX7_firstNotToldSeen 12 = .ok (.invokevirtual 83, 3) := by decide +kernel
theorem dX7_firstNotToldSeen_15 : decode cX7_firstNotToldSeen 15 = .ok (.iconst 1, 1) := by decide +kernel
theorem dX7_firstNotToldSeen_16 : decode cX7_firstNotToldSeen 16 = .ok (.iand, 1) := by decide +kernel
theorem dX7_firstNotToldSeen_17 : decode cX7_firstNotToldSeen 17 = .ok (.ifCond .ne 5, 3) := by decide +kernel
theorem dX7_firstNotToldSeen_20 : decode cX7_firstNotToldSeen 20 = .ok (.iload_n 1, 1) := by decide +kernel
theorem dX7_firstNotToldSeen_21 : decode cX7_firstNotToldSeen 21 = .ok (.ireturn, 1) := by decide +kernel
theorem dX7_firstNotToldSeen_22 : decode cX7_firstNotToldSeen 22 = .ok (.iinc 1 1, 3) := by decide +kernel
theorem dX7_firstNotToldSeen_25 : decode cX7_firstNotToldSeen 25 = .ok (.goto (-23), 3) := by decide +kernel
theorem dX7_firstNotToldSeen_28 : decode cX7_firstNotToldSeen 28 = .ok (.iconst (-1), 1) := by decide +kernel
theorem dX7_firstNotToldSeen_29 : decode cX7_firstNotToldSeen 29 = .ok (.ireturn, 1) := by decide +kernel
def mi_X7_firstNotToldSeen : MI := (RX7, yX7_firstNotToldSeen, cX7_firstNotToldSeen, 2, some .int, [], { frames := 3, cells := 0, slots := 0, locals := 54 })
theorem ok_X7_firstNotToldSeen : mOK mi_X7_firstNotToldSeen 0 := ⟨rfl, cw_X7_firstNotToldSeen, ini_X7, ⟨rfl, by decide⟩, by decide, by decide, rfl⟩
theorem v_X7_firstNotToldSeen_2 : ∀ (fu : Nat) (this : Nat) (l1 : Int32) (M : Mem), V mi_X7_firstNotToldSeen 2 [(0, .ref this), (1, .int l1)] [] M 0 0 (f_X7_firstNotToldSeen_2 fu this l1 M) (eI M) := by
  intro fu
  induction fu with
  | zero => intros; exact V_none
  | succ fu ih =>
    intro this l1 M
    show V mi_X7_firstNotToldSeen 2 [(0, .ref this), (1, .int l1)] [] M 0 0 (f_X7_firstNotToldSeen_2 (fu + 1) this l1 M) (eI M)
    unfold f_X7_firstNotToldSeen_2
    refine V_iload_n dX7_firstNotToldSeen_2 rfl 1 rfl ?_
    refine V_aload_n dX7_firstNotToldSeen_3 rfl 0 rfl ?_
    refine V_cVeI (As := []) (k_X7_size this M) (fun _ h => o_X7_size h) ok_X7_size im_X7_size se_X7_size rfl (ci := 6) rfl ml_X7_86 ⟨⟨(Nat.le_of_ble_eq_true rfl), (Nat.le_of_ble_eq_true rfl)⟩, (Nat.le_of_ble_eq_true rfl), (Nat.le_of_ble_eq_true rfl)⟩ dX7_firstNotToldSeen_4 rfl rfl rfl (Nat.le_of_ble_eq_true rfl) rfl rfl (fun x1 => ?_)
    refine V_icmp_gt (q := 28) (q2 := 10) dX7_firstNotToldSeen_7 (by decide) rfl ?_ ?_
    · refine V_iconst (x := (-1)) dX7_firstNotToldSeen_28 rfl rfl ?_
      exact V_iret dX7_firstNotToldSeen_29 rfl rfl ⟨(Nat.le_of_ble_eq_true rfl), (Nat.le_of_ble_eq_true rfl)⟩
    · refine V_aload_n dX7_firstNotToldSeen_10 rfl 0 rfl ?_
      refine V_iload_n dX7_firstNotToldSeen_11 rfl 1 rfl ?_
      refine V_cVeI (As := [.int l1]) (k_X7_toldOf this l1 M) (fun _ h => o_X7_toldOf h) ok_X7_toldOf im_X7_toldOf se_X7_toldOf rfl (ci := 6) rfl ml_X7_83 ⟨⟨(Nat.le_of_ble_eq_true rfl), (Nat.le_of_ble_eq_true rfl)⟩, (Nat.le_of_ble_eq_true rfl), (Nat.le_of_ble_eq_true rfl)⟩ dX7_firstNotToldSeen_12 rfl rfl rfl (Nat.le_of_ble_eq_true rfl) rfl rfl (fun x2 => ?_)
      refine V_iconst (x := 1) dX7_firstNotToldSeen_15 rfl rfl ?_
      refine V_iand dX7_firstNotToldSeen_16 rfl ?_
      refine V_if_ne (q := 22) (q2 := 20) dX7_firstNotToldSeen_17 (by decide) rfl ?_ ?_
      · refine V_iinc (y := (l1 + 1)) (L' := [(0, .ref this), (1, .int (l1 + 1))]) dX7_firstNotToldSeen_22 rfl 1 rfl rfl (by decide) rfl ?_
        refine V_goto (q := 2) dX7_firstNotToldSeen_25 (by decide) ?_
        exact ih this (l1 + 1) M
      · refine V_iload_n dX7_firstNotToldSeen_20 rfl 1 rfl ?_
        exact V_iret dX7_firstNotToldSeen_21 rfl rfl ⟨(Nat.le_of_ble_eq_true rfl), (Nat.le_of_ble_eq_true rfl)⟩
theorem v_X7_firstNotToldSeen (this : Nat) (M : Mem) : V mi_X7_firstNotToldSeen 0 [(0, .ref this)] [] M 0 0 (f_X7_firstNotToldSeen this M) (eI M) := by
  unfold f_X7_firstNotToldSeen
  refine V_ob fun _ _ => ?_
  refine V_iconst (x := 1) dX7_firstNotToldSeen_0 rfl rfl ?_
  refine V_istore_n (L' := [(0, .ref this), (1, .int 1)]) dX7_firstNotToldSeen_1 rfl (by decide) rfl ?_
  exact v_X7_firstNotToldSeen_2 FU this 1 M
theorem k_X7_firstNotToldSeen (this : Nat) (M : Mem) : K mi_X7_firstNotToldSeen [.ref this] M (f_X7_firstNotToldSeen this M) (eI M) := K_of_V ok_X7_firstNotToldSeen (Nat.le_of_ble_eq_true rfl) (v_X7_firstNotToldSeen this M)
theorem o_X7_firstNotToldSeen {this : Nat} {M : Mem} {x} (h : f_X7_firstNotToldSeen this M = some x) : isO M 6 this = true := (ob_of h).1
theorem dX7_largestIn_0 : decode cX7_largestIn 0 = .ok (.iconst (-1), 1) := by decide +kernel
theorem dX7_largestIn_1 : decode cX7_largestIn 1 = .ok (.istore_n 2, 1) := by decide +kernel
theorem dX7_largestIn_2 : decode cX7_largestIn 2 = .ok (.iconst 0, 1) := by decide +kernel
theorem dX7_largestIn_3 : decode cX7_largestIn 3 = .ok (.istore_n 3, 1) := by decide +kernel
theorem dX7_largestIn_4 : decode cX7_largestIn 4 = .ok (.iconst 1, 1) := by decide +kernel
theorem dX7_largestIn_5 : decode cX7_largestIn 5 = .ok (.istore 4, 2) := by decide +kernel
theorem dX7_largestIn_7 : decode cX7_largestIn 7 = .ok (.iload 4, 2) := by decide +kernel
theorem dX7_largestIn_9 : decode cX7_largestIn 9 = .ok (.aload_n 0, 1) := by decide +kernel
theorem dX7_largestIn_10 : decode cX7_largestIn 10 = .ok (.invokevirtual 86, 3) := by decide +kernel
theorem dX7_largestIn_13 : decode cX7_largestIn 13 = .ok (.if_icmp .gt 40, 3) := by decide +kernel
theorem dX7_largestIn_16 : decode cX7_largestIn 16 = .ok (.aload_n 1, 1) := by decide +kernel
theorem dX7_largestIn_17 : decode cX7_largestIn 17 = .ok (.getfield 112, 3) := by decide +kernel
theorem dX7_largestIn_20 : decode cX7_largestIn 20 = .ok (.aload_n 1, 1) := by decide +kernel
theorem dX7_largestIn_21 : decode cX7_largestIn 21 = .ok (.aload_n 0, 1) := by decide +kernel
theorem dX7_largestIn_22 : decode cX7_largestIn 22 = .ok (.iload 4, 2) := by decide +kernel
theorem dX7_largestIn_24 : decode cX7_largestIn 24 = .ok (.invokevirtual 72, 3) := by decide +kernel
theorem dX7_largestIn_27 : decode cX7_largestIn 27 = .ok (.invokevirtual 75, 3) := by decide +kernel
theorem dX7_largestIn_30 : decode cX7_largestIn 30 = .ok (.invokevirtual 65, 3) := by decide +kernel
theorem dX7_largestIn_33 : decode cX7_largestIn 33 = .ok (.istore 5, 2) := by decide +kernel
theorem dX7_largestIn_35 : decode cX7_largestIn 35 = .ok (.iload 5, 2) := by decide +kernel
theorem dX7_largestIn_37 : decode cX7_largestIn 37 = .ok (.iload_n 3, 1) := by decide +kernel
theorem dX7_largestIn_38 : decode cX7_largestIn 38 = .ok (.if_icmp .le 9, 3) := by decide +kernel
theorem dX7_largestIn_41 : decode cX7_largestIn 41 = .ok (.iload 4, 2) := by decide +kernel
theorem dX7_largestIn_43 : decode cX7_largestIn 43 = .ok (.istore_n 2, 1) := by decide +kernel
theorem dX7_largestIn_44 : decode cX7_largestIn 44 = .ok (.iload 5, 2) := by decide +kernel
theorem dX7_largestIn_46 : decode cX7_largestIn 46 = .ok (.istore_n 3, 1) := by decide +kernel
theorem dX7_largestIn_47 : decode cX7_largestIn 47 = .ok (.iinc 4 1, 3) := by decide +kernel
theorem dX7_largestIn_50 : decode cX7_largestIn 50 = .ok (.goto (-43), 3) := by decide +kernel
theorem dX7_largestIn_53 : decode cX7_largestIn 53 = .ok (.iload_n 2, 1) := by decide +kernel
theorem dX7_largestIn_54 : decode cX7_largestIn 54 = .ok (.ireturn, 1) := by decide +kernel
def mi_X7_largestIn : MI := (RX7, yX7_largestIn, cX7_largestIn, 6, some .int, [], { frames := 3, cells := 0, slots := 0, locals := 55 })
theorem ok_X7_largestIn : mOK mi_X7_largestIn 1 := ⟨rfl, cw_X7_largestIn, ini_X7, ⟨rfl, by decide⟩, by decide, by decide, rfl⟩
theorem v_X7_largestIn_47 (rc7 : Nat → Nat → Int32 → Int32 → Int32 → Mem → Option Int32) (h7 : ∀ (l0 : Nat) (l1 : Nat) (l2 : Int32) (l3 : Int32) (l4 : Int32) (M : Mem), V mi_X7_largestIn 7 [(0, .ref l0), (1, .ref l1), (2, .int l2), (3, .int l3), (4, .int l4)] [] M 0 0 (rc7 l0 l1 l2 l3 l4 M) (eI M)) (this : Nat) (l1 : Nat) (l2 : Int32) (l3 : Int32) (l4 : Int32) (M : Mem) : V mi_X7_largestIn 47 [(0, .ref this), (1, .ref l1), (2, .int l2), (3, .int l3), (4, .int l4)] [] M 0 0 (f_X7_largestIn_47 rc7 this l1 l2 l3 l4 M) (eI M) := by
  unfold f_X7_largestIn_47
  refine V_iinc (y := (l4 + 1)) (L' := [(0, .ref this), (1, .ref l1), (2, .int l2), (3, .int l3), (4, .int (l4 + 1))]) dX7_largestIn_47 rfl 4 rfl rfl (by decide) rfl ?_
  refine V_goto (q := 7) dX7_largestIn_50 (by decide) ?_
  exact h7 this l1 l2 l3 (l4 + 1) M
theorem v_X7_largestIn_7 : ∀ (fu : Nat) (this : Nat) (l1 : Nat) (l2 : Int32) (l3 : Int32) (l4 : Int32) (M : Mem), V mi_X7_largestIn 7 [(0, .ref this), (1, .ref l1), (2, .int l2), (3, .int l3), (4, .int l4)] [] M 0 0 (f_X7_largestIn_7 fu this l1 l2 l3 l4 M) (eI M) := by
  intro fu
  induction fu with
  | zero => intros; exact V_none
  | succ fu ih =>
    intro this l1 l2 l3 l4 M
    show V mi_X7_largestIn 7 [(0, .ref this), (1, .ref l1), (2, .int l2), (3, .int l3), (4, .int l4)] [] M 0 0 (f_X7_largestIn_7 (fu + 1) this l1 l2 l3 l4 M) (eI M)
    unfold f_X7_largestIn_7
    refine V_iload dX7_largestIn_7 rfl 4 rfl ?_
    refine V_aload_n dX7_largestIn_9 rfl 0 rfl ?_
    refine V_cVeI (As := []) (k_X7_size this M) (fun _ h => o_X7_size h) ok_X7_size im_X7_size se_X7_size rfl (ci := 6) rfl ml_X7_86 ⟨⟨(Nat.le_of_ble_eq_true rfl), (Nat.le_of_ble_eq_true rfl)⟩, (Nat.le_of_ble_eq_true rfl), (Nat.le_of_ble_eq_true rfl)⟩ dX7_largestIn_10 rfl rfl rfl (Nat.le_of_ble_eq_true rfl) rfl rfl (fun x1 => ?_)
    refine V_icmp_gt (q := 53) (q2 := 16) dX7_largestIn_13 (by decide) rfl ?_ ?_
    · refine V_iload_n dX7_largestIn_53 rfl 2 rfl ?_
      exact V_iret dX7_largestIn_54 rfl rfl ⟨(Nat.le_of_ble_eq_true rfl), (Nat.le_of_ble_eq_true rfl)⟩
    · refine V_aload_n dX7_largestIn_16 rfl 1 rfl ?_
      refine V_getR dX7_largestIn_17 rfl (ci := 0) (T := TX0) rfl (by decide) fl_X7_112 (fun x2 => ?_)
      refine V_aload_n dX7_largestIn_20 rfl 1 rfl ?_
      refine V_aload_n dX7_largestIn_21 rfl 0 rfl ?_
      refine V_iload dX7_largestIn_22 rfl 4 rfl ?_
      refine V_cVeI (As := [.int l4]) (k_X7_uidOf this l4 M) (fun _ h => o_X7_uidOf h) ok_X7_uidOf im_X7_uidOf se_X7_uidOf rfl (ci := 6) rfl ml_X7_72 ⟨⟨(Nat.le_of_ble_eq_true rfl), (Nat.le_of_ble_eq_true rfl)⟩, (Nat.le_of_ble_eq_true rfl), (Nat.le_of_ble_eq_true rfl)⟩ dX7_largestIn_24 rfl rfl rfl (Nat.le_of_ble_eq_true rfl) rfl rfl (fun x3 => ?_)
      refine V_cVeI (As := [.int x3]) (k_X0_indexOfUid l1 x3 M) (fun _ h => o_X0_indexOfUid h) ok_X0_indexOfUid im_X0_indexOfUid se_X0_indexOfUid rfl (ci := 0) rfl ml_X7_75 ⟨⟨(Nat.le_of_ble_eq_true rfl), (Nat.le_of_ble_eq_true rfl)⟩, (Nat.le_of_ble_eq_true rfl), (Nat.le_of_ble_eq_true rfl)⟩ dX7_largestIn_27 rfl rfl rfl (Nat.le_of_ble_eq_true rfl) rfl rfl (fun x4 => ?_)
      refine V_cVeI (As := [.int x4]) (k_X5_get x2 x4 M) (fun _ h => o_X5_get h) ok_X5_get im_X5_get se_X5_get rfl (ci := 4) rfl ml_X7_65 ⟨⟨(Nat.le_of_ble_eq_true rfl), (Nat.le_of_ble_eq_true rfl)⟩, (Nat.le_of_ble_eq_true rfl), (Nat.le_of_ble_eq_true rfl)⟩ dX7_largestIn_30 rfl rfl rfl (Nat.le_of_ble_eq_true rfl) rfl rfl (fun x5 => ?_)
      refine V_istore (L' := [(0, .ref this), (1, .ref l1), (2, .int l2), (3, .int l3), (4, .int l4), (5, .int x5)]) dX7_largestIn_33 rfl (by decide) rfl ?_
      refine V_iload dX7_largestIn_35 rfl 5 rfl ?_
      refine V_iload_n dX7_largestIn_37 rfl 3 rfl ?_
      refine V_icmp_le (q := 47) (q2 := 41) dX7_largestIn_38 (by decide) rfl ?_ ?_
      · exact V_sub [0, 1, 2, 3, 4] rfl (v_X7_largestIn_47 (f_X7_largestIn_7 fu) ih this l1 l2 l3 l4 M)
      · refine V_iload dX7_largestIn_41 rfl 4 rfl ?_
        refine V_istore_n (L' := [(0, .ref this), (1, .ref l1), (2, .int l4), (3, .int l3), (4, .int l4), (5, .int x5)]) dX7_largestIn_43 rfl (by decide) rfl ?_
        refine V_iload dX7_largestIn_44 rfl 5 rfl ?_
        refine V_istore_n (L' := [(0, .ref this), (1, .ref l1), (2, .int l4), (3, .int x5), (4, .int l4), (5, .int x5)]) dX7_largestIn_46 rfl (by decide) rfl ?_
        exact V_sub [0, 1, 2, 3, 4] rfl (v_X7_largestIn_47 (f_X7_largestIn_7 fu) ih this l1 l4 x5 l4 M)
theorem v_X7_largestIn (this : Nat) (a1 : Nat) (M : Mem) : V mi_X7_largestIn 0 [(0, .ref this), (1, .ref a1)] [] M 0 0 (f_X7_largestIn this a1 M) (eI M) := by
  unfold f_X7_largestIn
  refine V_ob fun _ _ => ?_
  refine V_iconst (x := (-1)) dX7_largestIn_0 rfl rfl ?_
  refine V_istore_n (L' := [(0, .ref this), (1, .ref a1), (2, .int (-1))]) dX7_largestIn_1 rfl (by decide) rfl ?_
  refine V_iconst (x := 0) dX7_largestIn_2 rfl rfl ?_
  refine V_istore_n (L' := [(0, .ref this), (1, .ref a1), (2, .int (-1)), (3, .int 0)]) dX7_largestIn_3 rfl (by decide) rfl ?_
  refine V_iconst (x := 1) dX7_largestIn_4 rfl rfl ?_
  refine V_istore (L' := [(0, .ref this), (1, .ref a1), (2, .int (-1)), (3, .int 0), (4, .int 1)]) dX7_largestIn_5 rfl (by decide) rfl ?_
  exact v_X7_largestIn_7 FU this a1 (-1) 0 1 M
theorem k_X7_largestIn (this : Nat) (a1 : Nat) (M : Mem) : K mi_X7_largestIn [.ref this, .ref a1] M (f_X7_largestIn this a1 M) (eI M) := K_of_V ok_X7_largestIn (Nat.le_of_ble_eq_true rfl) (v_X7_largestIn this a1 M)
theorem o_X7_largestIn {this : Nat} {a1 : Nat} {M : Mem} {x} (h : f_X7_largestIn this a1 M = some x) : isO M 6 this = true := (ob_of h).1
theorem dX7_copyRange_0 : decode cX7_copyRange 0 = .ok (.iconst 0, 1) := by decide +kernel
theorem dX7_copyRange_1 : decode cX7_copyRange 1 = .ok (.istore 5, 2) := by decide +kernel
theorem dX7_copyRange_3 : decode cX7_copyRange 3 = .ok (.iload_n 2, 1) := by decide +kernel
theorem dX7_copyRange_4 : decode cX7_copyRange 4 = .ok (.istore 6, 2) := by decide +kernel
theorem dX7_copyRange_6 : decode cX7_copyRange 6 = .ok (.iload 6, 2) := by decide +kernel
theorem dX7_copyRange_8 : decode cX7_copyRange 8 = .ok (.iload_n 3, 1) := by decide +kernel
theorem dX7_copyRange_9 : decode cX7_copyRange 9 = .ok (.if_icmp .gt 62, 3) := by decide +kernel
theorem dX7_copyRange_12 : decode cX7_copyRange 12 = .ok (.iload 6, 2) := by decide +kernel
theorem dX7_copyRange_14 : decode cX7_copyRange 14 = .ok (.aload_n 0, 1) := by decide +kernel
theorem dX7_copyRange_15 : decode cX7_copyRange 15 = .ok (.invokevirtual 86, 3) := by decide +kernel
theorem dX7_copyRange_18 : decode cX7_copyRange 18 = .ok (.if_icmp .gt 53, 3) := by decide +kernel
theorem dX7_copyRange_21 : decode cX7_copyRange 21 = .ok (.aload_n 1, 1) := by decide +kernel
theorem dX7_copyRange_22 : decode cX7_copyRange 22 = .ok (.aload_n 0, 1) := by decide +kernel
theorem dX7_copyRange_23 : decode cX7_copyRange 23 = .ok (.iload 6, 2) := by decide +kernel
theorem dX7_copyRange_25 : decode cX7_copyRange 25 = .ok (.invokevirtual 72, 3) := by decide +kernel
theorem dX7_copyRange_28 : decode cX7_copyRange 28 = .ok (.invokevirtual 75, 3) := by decide +kernel
theorem dX7_copyRange_31 : decode cX7_copyRange 31 = .ok (.istore 7, 2) := by decide +kernel
theorem dX7_copyRange_33 : decode cX7_copyRange 33 = .ok (.iload 7, 2) := by decide +kernel
theorem dX7_copyRange_35 : decode cX7_copyRange 35 = .ok (.iconst (-1), 1) := by decide +kernel
theorem dX7_copyRange_36 : decode cX7_copyRange 36 = .ok (.if_icmp .eq 29, 3) := by decide +kernel
theorem dX7_copyRange_39 : decode cX7_copyRange 39 = .ok (.aload 4, 2) := by decide +kernel
theorem dX7_copyRange_41 : decode cX7_copyRange 41 = .ok (.aload_n 1, 1) := by decide +kernel
theorem dX7_copyRange_42 : decode cX7_copyRange 42 = .ok (.getfield 112, 3) := by decide +kernel
theorem dX7_copyRange_45 : decode cX7_copyRange 45 = .ok (.iload 7, 2) := by decide +kernel
theorem dX7_copyRange_47 : decode cX7_copyRange 47 = .ok (.invokevirtual 65, 3) := by decide +kernel
theorem dX7_copyRange_50 : decode cX7_copyRange 50 = .ok (.aload_n 1, 1) := by decide +kernel
theorem dX7_copyRange_51 : decode cX7_copyRange 51 = .ok (.getfield 80, 3) := by decide +kernel
theorem dX7_copyRange_54 : decode cX7_copyRange 54 = .ok (.iload 7, 2) := by decide +kernel
theorem dX7_copyRange_56 : decode cX7_copyRange 56 = .ok (.invokevirtual 65, 3) := by decide +kernel
theorem dX7_copyRange_59 : decode cX7_copyRange 59 = .ok (.invokevirtual 115, 3) := by decide +kernel
theorem dX7_copyRange_62 : decode cX7_copyRange 62 = .ok (.iinc 5 1, 3) := by decide +kernel
theorem dX7_copyRange_65 : decode cX7_copyRange 65 = .ok (.iinc 6 1, 3) := by decide +kernel
theorem dX7_copyRange_68 : decode cX7_copyRange 68 = .ok (.goto (-62), 3) := by decide +kernel
theorem dX7_copyRange_71 : decode cX7_copyRange 71 = .ok (.iload 5, 2) := by decide +kernel
theorem dX7_copyRange_73 : decode cX7_copyRange 73 = .ok (.ireturn, 1) := by decide +kernel
def mi_X7_copyRange : MI := (RX7, yX7_copyRange, cX7_copyRange, 8, some .int, [], { frames := 3, cells := 0, slots := 0, locals := 55 })
theorem ok_X7_copyRange : mOK mi_X7_copyRange 4 := ⟨rfl, cw_X7_copyRange, ini_X7, ⟨rfl, by decide⟩, by decide, by decide, rfl⟩
theorem v_X7_copyRange_65 (rc6 : Nat → Nat → Int32 → Nat → Int32 → Int32 → Mem → Option (Int32 × Mem)) (h6 : ∀ (l0 : Nat) (l1 : Nat) (l3 : Int32) (l4 : Nat) (l5 : Int32) (l6 : Int32) (M : Mem), V mi_X7_copyRange 6 [(0, .ref l0), (1, .ref l1), (3, .int l3), (4, .ref l4), (5, .int l5), (6, .int l6)] [] M 0 0 (rc6 l0 l1 l3 l4 l5 l6 M) wI) (this : Nat) (l1 : Nat) (l3 : Int32) (l4 : Nat) (l5 : Int32) (l6 : Int32) (M : Mem) : V mi_X7_copyRange 65 [(0, .ref this), (1, .ref l1), (3, .int l3), (4, .ref l4), (5, .int l5), (6, .int l6)] [] M 0 0 (f_X7_copyRange_65 rc6 this l1 l3 l4 l5 l6 M) wI := by
  unfold f_X7_copyRange_65
  refine V_iinc (y := (l6 + 1)) (L' := [(0, .ref this), (1, .ref l1), (3, .int l3), (4, .ref l4), (5, .int l5), (6, .int (l6 + 1))]) dX7_copyRange_65 rfl 5 rfl rfl (by decide) rfl ?_
  refine V_goto (q := 6) dX7_copyRange_68 (by decide) ?_
  exact h6 this l1 l3 l4 l5 (l6 + 1) M
theorem v_X7_copyRange_6 : ∀ (fu : Nat) (this : Nat) (l1 : Nat) (l3 : Int32) (l4 : Nat) (l5 : Int32) (l6 : Int32) (M : Mem), V mi_X7_copyRange 6 [(0, .ref this), (1, .ref l1), (3, .int l3), (4, .ref l4), (5, .int l5), (6, .int l6)] [] M 0 0 (f_X7_copyRange_6 fu this l1 l3 l4 l5 l6 M) wI := by
  intro fu
  induction fu with
  | zero => intros; exact V_none
  | succ fu ih =>
    intro this l1 l3 l4 l5 l6 M
    show V mi_X7_copyRange 6 [(0, .ref this), (1, .ref l1), (3, .int l3), (4, .ref l4), (5, .int l5), (6, .int l6)] [] M 0 0 (f_X7_copyRange_6 (fu + 1) this l1 l3 l4 l5 l6 M) wI
    unfold f_X7_copyRange_6
    refine V_iload dX7_copyRange_6 rfl 5 rfl ?_
    refine V_iload_n dX7_copyRange_8 rfl 2 rfl ?_
    refine V_icmp_gt (q := 71) (q2 := 12) dX7_copyRange_9 (by decide) rfl ?_ ?_
    · refine V_iload dX7_copyRange_71 rfl 4 rfl ?_
      exact V_iret dX7_copyRange_73 rfl rfl ⟨(Nat.le_of_ble_eq_true rfl), (Nat.le_of_ble_eq_true rfl)⟩
    · refine V_iload dX7_copyRange_12 rfl 5 rfl ?_
      refine V_aload_n dX7_copyRange_14 rfl 0 rfl ?_
      refine V_cVeI (As := []) (k_X7_size this M) (fun _ h => o_X7_size h) ok_X7_size im_X7_size se_X7_size rfl (ci := 6) rfl ml_X7_86 ⟨⟨(Nat.le_of_ble_eq_true rfl), (Nat.le_of_ble_eq_true rfl)⟩, (Nat.le_of_ble_eq_true rfl), (Nat.le_of_ble_eq_true rfl)⟩ dX7_copyRange_15 rfl rfl rfl (Nat.le_of_ble_eq_true rfl) rfl rfl (fun x1 => ?_)
      refine V_icmp_gt (q := 71) (q2 := 21) dX7_copyRange_18 (by decide) rfl ?_ ?_
      · refine V_iload dX7_copyRange_71 rfl 4 rfl ?_
        exact V_iret dX7_copyRange_73 rfl rfl ⟨(Nat.le_of_ble_eq_true rfl), (Nat.le_of_ble_eq_true rfl)⟩
      · refine V_aload_n dX7_copyRange_21 rfl 1 rfl ?_
        refine V_aload_n dX7_copyRange_22 rfl 0 rfl ?_
        refine V_iload dX7_copyRange_23 rfl 5 rfl ?_
        refine V_cVeI (As := [.int l6]) (k_X7_uidOf this l6 M) (fun _ h => o_X7_uidOf h) ok_X7_uidOf im_X7_uidOf se_X7_uidOf rfl (ci := 6) rfl ml_X7_72 ⟨⟨(Nat.le_of_ble_eq_true rfl), (Nat.le_of_ble_eq_true rfl)⟩, (Nat.le_of_ble_eq_true rfl), (Nat.le_of_ble_eq_true rfl)⟩ dX7_copyRange_25 rfl rfl rfl (Nat.le_of_ble_eq_true rfl) rfl rfl (fun x2 => ?_)
        refine V_cVeI (As := [.int x2]) (k_X0_indexOfUid l1 x2 M) (fun _ h => o_X0_indexOfUid h) ok_X0_indexOfUid im_X0_indexOfUid se_X0_indexOfUid rfl (ci := 0) rfl ml_X7_75 ⟨⟨(Nat.le_of_ble_eq_true rfl), (Nat.le_of_ble_eq_true rfl)⟩, (Nat.le_of_ble_eq_true rfl), (Nat.le_of_ble_eq_true rfl)⟩ dX7_copyRange_28 rfl rfl rfl (Nat.le_of_ble_eq_true rfl) rfl rfl (fun x3 => ?_)
        refine V_istore (L' := [(0, .ref this), (1, .ref l1), (3, .int l3), (4, .ref l4), (5, .int l5), (6, .int l6), (7, .int x3)]) dX7_copyRange_31 rfl (by decide) rfl ?_
        refine V_iload dX7_copyRange_33 rfl 6 rfl ?_
        refine V_iconst (x := (-1)) dX7_copyRange_35 rfl rfl ?_
        refine V_icmp_eq (q := 65) (q2 := 39) dX7_copyRange_36 (by decide) rfl ?_ ?_
        · exact V_sub [0, 1, 2, 3, 4, 5] rfl (v_X7_copyRange_65 (f_X7_copyRange_6 fu) ih this l1 l3 l4 l5 l6 M)
        · refine V_aload dX7_copyRange_39 rfl 3 rfl ?_
          refine V_aload_n dX7_copyRange_41 rfl 1 rfl ?_
          refine V_getR dX7_copyRange_42 rfl (ci := 0) (T := TX0) rfl (by decide) fl_X7_112 (fun x4 => ?_)
          refine V_iload dX7_copyRange_45 rfl 6 rfl ?_
          refine V_cVeI (As := [.int x3]) (k_X5_get x4 x3 M) (fun _ h => o_X5_get h) ok_X5_get im_X5_get se_X5_get rfl (ci := 4) rfl ml_X7_65 ⟨⟨(Nat.le_of_ble_eq_true rfl), (Nat.le_of_ble_eq_true rfl)⟩, (Nat.le_of_ble_eq_true rfl), (Nat.le_of_ble_eq_true rfl)⟩ dX7_copyRange_47 rfl rfl rfl (Nat.le_of_ble_eq_true rfl) rfl rfl (fun x5 => ?_)
          refine V_aload_n dX7_copyRange_50 rfl 1 rfl ?_
          refine V_getR dX7_copyRange_51 rfl (ci := 0) (T := TX0) rfl (by decide) fl_X7_80 (fun x6 => ?_)
          refine V_iload dX7_copyRange_54 rfl 6 rfl ?_
          refine V_cVeI (As := [.int x3]) (k_X5_get x6 x3 M) (fun _ h => o_X5_get h) ok_X5_get im_X5_get se_X5_get rfl (ci := 4) rfl ml_X7_65 ⟨⟨(Nat.le_of_ble_eq_true rfl), (Nat.le_of_ble_eq_true rfl)⟩, (Nat.le_of_ble_eq_true rfl), (Nat.le_of_ble_eq_true rfl)⟩ dX7_copyRange_56 rfl rfl rfl (Nat.le_of_ble_eq_true rfl) rfl rfl (fun x7 => ?_)
          refine V_cVwV (As := [.int x5, .int x7]) (k_X0_addMessage l4 x5 x7 M) (fun _ h => o_X0_addMessage h) ok_X0_addMessage im_X0_addMessage se_X0_addMessage rfl (ci := 0) rfl ml_X7_115 ⟨⟨(Nat.le_of_ble_eq_true rfl), (Nat.le_of_ble_eq_true rfl)⟩, (Nat.le_of_ble_eq_true rfl), (Nat.le_of_ble_eq_true rfl)⟩ dX7_copyRange_59 rfl rfl rfl (Nat.le_of_ble_eq_true rfl) rfl rfl (fun M9 => ?_)
          refine V_iinc (y := (l5 + 1)) (L' := [(0, .ref this), (1, .ref l1), (3, .int l3), (4, .ref l4), (5, .int (l5 + 1)), (6, .int l6), (7, .int x3)]) dX7_copyRange_62 rfl 4 rfl rfl (by decide) rfl ?_
          exact V_sub [0, 1, 2, 3, 4, 5] rfl (v_X7_copyRange_65 (f_X7_copyRange_6 fu) ih this l1 l3 l4 (l5 + 1) l6 M9)
theorem v_X7_copyRange (this : Nat) (a1 : Nat) (a2 : Int32) (a3 : Int32) (a4 : Nat) (M : Mem) : V mi_X7_copyRange 0 [(0, .ref this), (1, .ref a1), (2, .int a2), (3, .int a3), (4, .ref a4)] [] M 0 0 (f_X7_copyRange this a1 a2 a3 a4 M) wI := by
  unfold f_X7_copyRange
  refine V_ob fun _ _ => ?_
  refine V_iconst (x := 0) dX7_copyRange_0 rfl rfl ?_
  refine V_istore (L' := [(0, .ref this), (1, .ref a1), (2, .int a2), (3, .int a3), (4, .ref a4), (5, .int 0)]) dX7_copyRange_1 rfl (by decide) rfl ?_
  refine V_iload_n dX7_copyRange_3 rfl 2 rfl ?_
  refine V_istore (L' := [(0, .ref this), (1, .ref a1), (2, .int a2), (3, .int a3), (4, .ref a4), (5, .int 0), (6, .int a2)]) dX7_copyRange_4 rfl (by decide) rfl ?_
  exact V_sub [0, 1, 3, 4, 5, 6] rfl (v_X7_copyRange_6 FU this a1 a3 a4 0 a2 M)
theorem k_X7_copyRange (this : Nat) (a1 : Nat) (a2 : Int32) (a3 : Int32) (a4 : Nat) (M : Mem) : K mi_X7_copyRange [.ref this, .ref a1, .int a2, .int a3, .ref a4] M (f_X7_copyRange this a1 a2 a3 a4 M) wI := K_of_V ok_X7_copyRange (Nat.le_of_ble_eq_true rfl) (v_X7_copyRange this a1 a2 a3 a4 M)
theorem o_X7_copyRange {this : Nat} {a1 : Nat} {a2 : Int32} {a3 : Int32} {a4 : Nat} {M : Mem} {x} (h : f_X7_copyRange this a1 a2 a3 a4 M = some x) : isO M 6 this = true := (ob_of h).1
theorem dX7_removeRange_0 : decode cX7_removeRange 0 = .ok (.iload_n 2, 1) := by decide +kernel
theorem dX7_removeRange_1 : decode cX7_removeRange 1 = .ok (.istore 4, 2) := by decide +kernel
theorem dX7_removeRange_3 : decode cX7_removeRange 3 = .ok (.iload 4, 2) := by decide +kernel
theorem dX7_removeRange_5 : decode cX7_removeRange 5 = .ok (.iload_n 3, 1) := by decide +kernel
theorem dX7_removeRange_6 : decode cX7_removeRange 6 = .ok (.if_icmp .gt 32, 3) := by decide +kernel
theorem dX7_removeRange_9 : decode cX7_removeRange 9 = .ok (.iload 4, 2) := by decide +kernel
theorem dX7_removeRange_11 : decode cX7_removeRange 11 = .ok (.aload_n 0, 1) := by decide +kernel
theorem dX7_removeRange_12 : decode cX7_removeRange 12 = .ok (.invokevirtual 86, 3) := by decide +kernel
theorem dX7_removeRange_15 : decode cX7_removeRange 15 = .ok (.if_icmp .gt 23, 3) := by decide +kernel
theorem dX7_removeRange_18 : decode cX7_removeRange 18 = .ok (.aload_n 1, 1) := by decide +kernel
theorem dX7_removeRange_19 : decode cX7_removeRange 19 = .ok (.aload_n 1, 1) := by decide +kernel
theorem dX7_removeRange_20 : decode cX7_removeRange 20 = .ok (.aload_n 0, 1) := by decide +kernel
theorem dX7_removeRange_21 : decode cX7_removeRange 21 = .ok (.iload 4, 2) := by decide +kernel
theorem dX7_removeRange_23 : decode cX7_removeRange 23 = .ok (.invokevirtual 72, 3) := by decide +kernel
theorem dX7_removeRange_26 : decode cX7_removeRange 26 = .ok (.invokevirtual 75, 3) := by decide +kernel
theorem dX7_removeRange_29 : decode cX7_removeRange 29 = .ok (.invokevirtual 119, 3) := by decide +kernel
theorem dX7_removeRange_32 : decode cX7_removeRange 32 = .ok (.iinc 4 1, 3) := by decide +kernel
theorem dX7_removeRange_35 : decode cX7_removeRange 35 = .ok (.goto (-32), 3) := by decide +kernel
theorem dX7_removeRange_38 : decode cX7_removeRange 38 = .ok (.return_, 1) := by decide +kernel
def mi_X7_removeRange : MI := (RX7, yX7_removeRange, cX7_removeRange, 5, none, [], { frames := 4, cells := 0, slots := 0, locals := 77 })
theorem ok_X7_removeRange : mOK mi_X7_removeRange 3 := ⟨rfl, cw_X7_removeRange, ini_X7, ⟨rfl, by decide⟩, by decide, by decide, rfl⟩
theorem v_X7_removeRange_3 : ∀ (fu : Nat) (this : Nat) (l1 : Nat) (l3 : Int32) (l4 : Int32) (M : Mem), V mi_X7_removeRange 3 [(0, .ref this), (1, .ref l1), (3, .int l3), (4, .int l4)] [] M 0 0 (f_X7_removeRange_3 fu this l1 l3 l4 M) wV := by
  intro fu
  induction fu with
  | zero => intros; exact V_none
  | succ fu ih =>
    intro this l1 l3 l4 M
    show V mi_X7_removeRange 3 [(0, .ref this), (1, .ref l1), (3, .int l3), (4, .int l4)] [] M 0 0 (f_X7_removeRange_3 (fu + 1) this l1 l3 l4 M) wV
    unfold f_X7_removeRange_3
    refine V_iload dX7_removeRange_3 rfl 3 rfl ?_
    refine V_iload_n dX7_removeRange_5 rfl 2 rfl ?_
    refine V_icmp_gt (q := 38) (q2 := 9) dX7_removeRange_6 (by decide) rfl ?_ ?_
    · exact V_vret dX7_removeRange_38 rfl rfl ⟨(Nat.le_of_ble_eq_true rfl), (Nat.le_of_ble_eq_true rfl)⟩
    · refine V_iload dX7_removeRange_9 rfl 3 rfl ?_
      refine V_aload_n dX7_removeRange_11 rfl 0 rfl ?_
      refine V_cVeI (As := []) (k_X7_size this M) (fun _ h => o_X7_size h) ok_X7_size im_X7_size se_X7_size rfl (ci := 6) rfl ml_X7_86 ⟨⟨(Nat.le_of_ble_eq_true rfl), (Nat.le_of_ble_eq_true rfl)⟩, (Nat.le_of_ble_eq_true rfl), (Nat.le_of_ble_eq_true rfl)⟩ dX7_removeRange_12 rfl rfl rfl (Nat.le_of_ble_eq_true rfl) rfl rfl (fun x1 => ?_)
      refine V_icmp_gt (q := 38) (q2 := 18) dX7_removeRange_15 (by decide) rfl ?_ ?_
      · exact V_vret dX7_removeRange_38 rfl rfl ⟨(Nat.le_of_ble_eq_true rfl), (Nat.le_of_ble_eq_true rfl)⟩
      · refine V_aload_n dX7_removeRange_18 rfl 1 rfl ?_
        refine V_aload_n dX7_removeRange_19 rfl 1 rfl ?_
        refine V_aload_n dX7_removeRange_20 rfl 0 rfl ?_
        refine V_iload dX7_removeRange_21 rfl 3 rfl ?_
        refine V_cVeI (As := [.int l4]) (k_X7_uidOf this l4 M) (fun _ h => o_X7_uidOf h) ok_X7_uidOf im_X7_uidOf se_X7_uidOf rfl (ci := 6) rfl ml_X7_72 ⟨⟨(Nat.le_of_ble_eq_true rfl), (Nat.le_of_ble_eq_true rfl)⟩, (Nat.le_of_ble_eq_true rfl), (Nat.le_of_ble_eq_true rfl)⟩ dX7_removeRange_23 rfl rfl rfl (Nat.le_of_ble_eq_true rfl) rfl rfl (fun x2 => ?_)
        refine V_cVeI (As := [.int x2]) (k_X0_indexOfUid l1 x2 M) (fun _ h => o_X0_indexOfUid h) ok_X0_indexOfUid im_X0_indexOfUid se_X0_indexOfUid rfl (ci := 0) rfl ml_X7_75 ⟨⟨(Nat.le_of_ble_eq_true rfl), (Nat.le_of_ble_eq_true rfl)⟩, (Nat.le_of_ble_eq_true rfl), (Nat.le_of_ble_eq_true rfl)⟩ dX7_removeRange_26 rfl rfl rfl (Nat.le_of_ble_eq_true rfl) rfl rfl (fun x3 => ?_)
        refine V_cVwV (As := [.int x3]) (k_X0_removeMessage l1 x3 M) (fun _ h => o_X0_removeMessage h) ok_X0_removeMessage im_X0_removeMessage se_X0_removeMessage rfl (ci := 0) rfl ml_X7_119 ⟨⟨(Nat.le_of_ble_eq_true rfl), (Nat.le_of_ble_eq_true rfl)⟩, (Nat.le_of_ble_eq_true rfl), (Nat.le_of_ble_eq_true rfl)⟩ dX7_removeRange_29 rfl rfl rfl (Nat.le_of_ble_eq_true rfl) rfl rfl (fun M5 => ?_)
        refine V_iinc (y := (l4 + 1)) (L' := [(0, .ref this), (1, .ref l1), (3, .int l3), (4, .int (l4 + 1))]) dX7_removeRange_32 rfl 3 rfl rfl (by decide) rfl ?_
        refine V_goto (q := 3) dX7_removeRange_35 (by decide) ?_
        exact ih this l1 l3 (l4 + 1) M5
theorem v_X7_removeRange (this : Nat) (a1 : Nat) (a2 : Int32) (a3 : Int32) (M : Mem) : V mi_X7_removeRange 0 [(0, .ref this), (1, .ref a1), (2, .int a2), (3, .int a3)] [] M 0 0 (f_X7_removeRange this a1 a2 a3 M) wV := by
  unfold f_X7_removeRange
  refine V_ob fun _ _ => ?_
  refine V_iload_n dX7_removeRange_0 rfl 2 rfl ?_
  refine V_istore (L' := [(0, .ref this), (1, .ref a1), (2, .int a2), (3, .int a3), (4, .int a2)]) dX7_removeRange_1 rfl (by decide) rfl ?_
  exact V_sub [0, 1, 3, 4] rfl (v_X7_removeRange_3 FU this a1 a3 a2 M)
theorem k_X7_removeRange (this : Nat) (a1 : Nat) (a2 : Int32) (a3 : Int32) (M : Mem) : K mi_X7_removeRange [.ref this, .ref a1, .int a2, .int a3] M (f_X7_removeRange this a1 a2 a3 M) wV := K_of_V ok_X7_removeRange (Nat.le_of_ble_eq_true rfl) (v_X7_removeRange this a1 a2 a3 M)
theorem o_X7_removeRange {this : Nat} {a1 : Nat} {a2 : Int32} {a3 : Int32} {M : Mem} {x} (h : f_X7_removeRange this a1 a2 a3 M = some x) : isO M 6 this = true := (ob_of h).1
theorem dX7_tellGone_0 : decode cX7_tellGone 0 = .ok (.aload_n 0, 1) := by decide +kernel
theorem dX7_tellGone_1 : decode cX7_tellGone 1 = .ok (.invokevirtual 86, 3) := by decide +kernel
theorem dX7_tellGone_4 : decode cX7_tellGone 4 = .ok (.istore 4, 2) := by decide +kernel
theorem dX7_tellGone_6 : decode cX7_tellGone 6 = .ok (.iconst 1, 1) := by decide +kernel
theorem dX7_tellGone_7 : decode cX7_tellGone 7 = .ok (.istore 5, 2) := by decide +kernel
theorem dX7_tellGone_9 : decode cX7_tellGone 9 = .ok (.iconst 0, 1) := by decide +kernel
theorem dX7_tellGone_10 : decode cX7_tellGone 10 = .ok (.istore 6, 2) := by decide +kernel
theorem dX7_tellGone_12 : decode cX7_tellGone 12 = .ok (.iconst 0, 1) := by decide +kernel
theorem dX7_tellGone_13 : decode cX7_tellGone 13 = .ok (.istore 7, 2) := by decide +kernel
theorem dX7_tellGone_15 : decode cX7_tellGone 15 = .ok (.iload 7, 2) := by decide +kernel
theorem dX7_tellGone_17 : decode cX7_tellGone 17 = .ok (.iload 4, 2) := by decide +kernel
theorem dX7_tellGone_19 : decode cX7_tellGone 19 = .ok (.if_icmp .ge 59, 3) := by decide +kernel
theorem dX7_tellGone_22 : decode cX7_tellGone 22 = .ok (.aload_n 0, 1) := by decide +kernel
theorem dX7_tellGone_23 : decode cX7_tellGone 23 = .ok (.aload_n 2, 1) := by decide +kernel
theorem dX7_tellGone_24 : decode cX7_tellGone 24 = .ok (.iload 5, 2) := by decide +kernel
theorem dX7_tellGone_26 : decode cX7_tellGone 26 = .ok (.invokevirtual 87, 3) := by decide +kernel
theorem dX7_tellGone_29 : decode cX7_tellGone 29 = .ok (.ifCond .eq 40, 3) := by decide +kernel
theorem dX7_tellGone_32 : decode cX7_tellGone 32 = .ok (.aload_n 0, 1) := by decide +kernel
theorem dX7_tellGone_33 : decode cX7_tellGone 33 = .ok (.getfield 24, 3) := by decide +kernel
theorem dX7_tellGone_36 : decode cX7_tellGone 36 = .ok (.iload 5, 2) := by decide +kernel
theorem dX7_tellGone_38 : decode cX7_tellGone 38 = .ok (.iconst 1, 1) := by decide +kernel
theorem dX7_tellGone_39 : decode cX7_tellGone 39 = .ok (.isub, 1) := by decide +kernel
theorem dX7_tellGone_40 : decode cX7_tellGone 40 = .ok (.invokevirtual 122, 3) := by decide +kernel
theorem dX7_tellGone_43 : decode cX7_tellGone 43 = .ok (.aload_n 0, 1) := by decide +kernel
theorem dX7_tellGone_44 : decode cX7_tellGone 44 = .ok (.getfield 28, 3) := by decide +kernel
theorem dX7_tellGone_47 : decode cX7_tellGone 47 = .ok (.iload 5, 2) := by decide +kernel
theorem dX7_tellGone_49 : decode cX7_tellGone 49 = .ok (.iconst 1, 1) := by decide +kernel
theorem dX7_tellGone_50 : decode cX7_tellGone 50 = .ok (.isub, 1) := by decide +kernel
theorem dX7_tellGone_51 : decode cX7_tellGone 51 = .ok (.invokevirtual 122, 3) := by decide +kernel
theorem dX7_tellGone_54 : decode cX7_tellGone 54 = .ok (.aload_n 3, 1) := by decide +kernel
theorem dX7_tellGone_55 : decode cX7_tellGone 55 = .ok (.iload_n 1, 1) := by decide +kernel
theorem dX7_tellGone_56 : decode cX7_tellGone 56 = .ok (.iconst 0, 1) := by decide +kernel
theorem dX7_tellGone_57 : decode cX7_tellGone 57 = .ok (.iload 5, 2) := by decide +kernel
theorem dX7_tellGone_59 : decode cX7_tellGone 59 = .ok (.iconst 0, 1) := by decide +kernel
theorem dX7_tellGone_60 : decode cX7_tellGone 60 = .ok (.invokevirtual 125, 3) := by decide +kernel
theorem dX7_tellGone_63 : decode cX7_tellGone 63 = .ok (.iinc 6 1, 3) := by decide +kernel
theorem dX7_tellGone_66 : decode cX7_tellGone 66 = .ok (.goto 6, 3) := by decide +kernel
theorem dX7_tellGone_69 : decode cX7_tellGone 69 = .ok (.iinc 5 1, 3) := by decide +kernel
theorem dX7_tellGone_72 : decode cX7_tellGone 72 = .ok (.iinc 7 1, 3) := by decide +kernel
theorem dX7_tellGone_75 : decode cX7_tellGone 75 = .ok (.goto (-60), 3) := by decide +kernel
theorem dX7_tellGone_78 : decode cX7_tellGone 78 = .ok (.aload_n 0, 1) := by decide +kernel
theorem dX7_tellGone_79 : decode cX7_tellGone 79 = .ok (.getfield 31, 3) := by decide +kernel
theorem dX7_tellGone_82 : decode cX7_tellGone 82 = .ok (.iconst 1, 1) := by decide +kernel
theorem dX7_tellGone_83 : decode cX7_tellGone 83 = .ok (.iload 6, 2) := by decide +kernel
theorem dX7_tellGone_85 : decode cX7_tellGone 85 = .ok (.invokevirtual 131, 3) := by decide +kernel
theorem dX7_tellGone_88 : decode cX7_tellGone 88 = .ok (.iload 6, 2) := by decide +kernel
theorem dX7_tellGone_90 : decode cX7_tellGone 90 = .ok (.ireturn, 1) := by decide +kernel
def mi_X7_tellGone : MI := (RX7, yX7_tellGone, cX7_tellGone, 8, some .int, [], { frames := 4, cells := 0, slots := 0, locals := 77 })
theorem ok_X7_tellGone : mOK mi_X7_tellGone 3 := ⟨rfl, cw_X7_tellGone, ini_X7, ⟨rfl, by decide⟩, by decide, by decide, rfl⟩
theorem v_X7_tellGone_72 (rc15 : Nat → Int32 → Nat → Nat → Int32 → Int32 → Int32 → Int32 → Mem → Option (Int32 × Mem)) (h15 : ∀ (l0 : Nat) (l1 : Int32) (l2 : Nat) (l3 : Nat) (l4 : Int32) (l5 : Int32) (l6 : Int32) (l7 : Int32) (M : Mem), V mi_X7_tellGone 15 [(0, .ref l0), (1, .int l1), (2, .ref l2), (3, .ref l3), (4, .int l4), (5, .int l5), (6, .int l6), (7, .int l7)] [] M 0 0 (rc15 l0 l1 l2 l3 l4 l5 l6 l7 M) wI) (this : Nat) (l1 : Int32) (l2 : Nat) (l3 : Nat) (l4 : Int32) (l5 : Int32) (l6 : Int32) (l7 : Int32) (M : Mem) : V mi_X7_tellGone 72 [(0, .ref this), (1, .int l1), (2, .ref l2), (3, .ref l3), (4, .int l4), (5, .int l5), (6, .int l6), (7, .int l7)] [] M 0 0 (f_X7_tellGone_72 rc15 this l1 l2 l3 l4 l5 l6 l7 M) wI := by
  unfold f_X7_tellGone_72
  refine V_iinc (y := (l7 + 1)) (L' := [(0, .ref this), (1, .int l1), (2, .ref l2), (3, .ref l3), (4, .int l4), (5, .int l5), (6, .int l6), (7, .int (l7 + 1))]) dX7_tellGone_72 rfl 7 rfl rfl (by decide) rfl ?_
  refine V_goto (q := 15) dX7_tellGone_75 (by decide) ?_
  exact h15 this l1 l2 l3 l4 l5 l6 (l7 + 1) M
theorem v_X7_tellGone_15 : ∀ (fu : Nat) (this : Nat) (l1 : Int32) (l2 : Nat) (l3 : Nat) (l4 : Int32) (l5 : Int32) (l6 : Int32) (l7 : Int32) (M : Mem), V mi_X7_tellGone 15 [(0, .ref this), (1, .int l1), (2, .ref l2), (3, .ref l3), (4, .int l4), (5, .int l5), (6, .int l6), (7, .int l7)] [] M 0 0 (f_X7_tellGone_15 fu this l1 l2 l3 l4 l5 l6 l7 M) wI := by
  intro fu
  induction fu with
  | zero => intros; exact V_none
  | succ fu ih =>
    intro this l1 l2 l3 l4 l5 l6 l7 M
    show V mi_X7_tellGone 15 [(0, .ref this), (1, .int l1), (2, .ref l2), (3, .ref l3), (4, .int l4), (5, .int l5), (6, .int l6), (7, .int l7)] [] M 0 0 (f_X7_tellGone_15 (fu + 1) this l1 l2 l3 l4 l5 l6 l7 M) wI
    unfold f_X7_tellGone_15
    refine V_iload dX7_tellGone_15 rfl 7 rfl ?_
    refine V_iload dX7_tellGone_17 rfl 4 rfl ?_
    refine V_icmp_ge (q := 78) (q2 := 22) dX7_tellGone_19 (by decide) rfl ?_ ?_
    · refine V_aload_n dX7_tellGone_78 rfl 0 rfl ?_
      refine V_getR dX7_tellGone_79 rfl (ci := 6) (T := TX7) rfl (by decide) fl_X7_31 (fun x2 => ?_)
      refine V_iconst (x := 1) dX7_tellGone_82 rfl rfl ?_
      refine V_iload dX7_tellGone_83 rfl 6 rfl ?_
      refine V_cVwV (As := [.int 1, .int l6]) (k_X5_increase x2 1 l6 M) (fun _ h => o_X5_increase h) ok_X5_increase im_X5_increase se_X5_increase rfl (ci := 4) rfl ml_X7_131 ⟨⟨(Nat.le_of_ble_eq_true rfl), (Nat.le_of_ble_eq_true rfl)⟩, (Nat.le_of_ble_eq_true rfl), (Nat.le_of_ble_eq_true rfl)⟩ dX7_tellGone_85 rfl rfl rfl (Nat.le_of_ble_eq_true rfl) rfl rfl (fun M4 => ?_)
      refine V_iload dX7_tellGone_88 rfl 6 rfl ?_
      exact V_iret dX7_tellGone_90 rfl rfl ⟨(Nat.le_of_ble_eq_true rfl), (Nat.le_of_ble_eq_true rfl)⟩
    · refine V_aload_n dX7_tellGone_22 rfl 0 rfl ?_
      refine V_aload_n dX7_tellGone_23 rfl 2 rfl ?_
      refine V_iload dX7_tellGone_24 rfl 5 rfl ?_
      refine V_cVeZ (As := [.ref l2, .int l5]) (k_X7_isGone this l2 l5 M) (fun _ h => o_X7_isGone h) ok_X7_isGone im_X7_isGone se_X7_isGone rfl (ci := 6) rfl ml_X7_87 ⟨⟨(Nat.le_of_ble_eq_true rfl), (Nat.le_of_ble_eq_true rfl)⟩, (Nat.le_of_ble_eq_true rfl), (Nat.le_of_ble_eq_true rfl)⟩ dX7_tellGone_26 rfl rfl rfl (Nat.le_of_ble_eq_true rfl) rfl rfl (fun x5 => ?_)
      refine V_ifz_eq (q := 69) (q2 := 32) dX7_tellGone_29 (by decide) rfl ?_ ?_
      · refine V_iinc (y := (l5 + 1)) (L' := [(0, .ref this), (1, .int l1), (2, .ref l2), (3, .ref l3), (4, .int l4), (5, .int (l5 + 1)), (6, .int l6), (7, .int l7)]) dX7_tellGone_69 rfl 5 rfl rfl (by decide) rfl ?_
        exact v_X7_tellGone_72 (f_X7_tellGone_15 fu) ih this l1 l2 l3 l4 (l5 + 1) l6 l7 M
      · refine V_aload_n dX7_tellGone_32 rfl 0 rfl ?_
        refine V_getR dX7_tellGone_33 rfl (ci := 6) (T := TX7) rfl (by decide) fl_X7_24 (fun x6 => ?_)
        refine V_iload dX7_tellGone_36 rfl 5 rfl ?_
        refine V_iconst (x := 1) dX7_tellGone_38 rfl rfl ?_
        refine V_isub dX7_tellGone_39 rfl ?_
        refine V_cVwV (As := [.int (l5 - 1)]) (k_X5_removeAt x6 (l5 - 1) M) (fun _ h => o_X5_removeAt h) ok_X5_removeAt im_X5_removeAt se_X5_removeAt rfl (ci := 4) rfl ml_X7_122 ⟨⟨(Nat.le_of_ble_eq_true rfl), (Nat.le_of_ble_eq_true rfl)⟩, (Nat.le_of_ble_eq_true rfl), (Nat.le_of_ble_eq_true rfl)⟩ dX7_tellGone_40 rfl rfl rfl (Nat.le_of_ble_eq_true rfl) rfl rfl (fun M8 => ?_)
        refine V_aload_n dX7_tellGone_43 rfl 0 rfl ?_
        refine V_getR dX7_tellGone_44 rfl (ci := 6) (T := TX7) rfl (by decide) fl_X7_28 (fun x9 => ?_)
        refine V_iload dX7_tellGone_47 rfl 5 rfl ?_
        refine V_iconst (x := 1) dX7_tellGone_49 rfl rfl ?_
        refine V_isub dX7_tellGone_50 rfl ?_
        refine V_cVwV (As := [.int (l5 - 1)]) (k_X5_removeAt x9 (l5 - 1) M8) (fun _ h => o_X5_removeAt h) ok_X5_removeAt im_X5_removeAt se_X5_removeAt rfl (ci := 4) rfl ml_X7_122 ⟨⟨(Nat.le_of_ble_eq_true rfl), (Nat.le_of_ble_eq_true rfl)⟩, (Nat.le_of_ble_eq_true rfl), (Nat.le_of_ble_eq_true rfl)⟩ dX7_tellGone_51 rfl rfl rfl (Nat.le_of_ble_eq_true rfl) rfl rfl (fun M11 => ?_)
        refine V_aload_n dX7_tellGone_54 rfl 3 rfl ?_
        refine V_iload_n dX7_tellGone_55 rfl 1 rfl ?_
        refine V_iconst (x := 0) dX7_tellGone_56 rfl rfl ?_
        refine V_iload dX7_tellGone_57 rfl 5 rfl ?_
        refine V_iconst (x := 0) dX7_tellGone_59 rfl rfl ?_
        refine V_cVwV (As := [.int l1, .int 0, .int l5, .int 0]) (k_X4_add l3 l1 0 l5 0 M11) (fun _ h => o_X4_add h) ok_X4_add im_X4_add se_X4_add rfl (ci := 3) rfl ml_X7_125 ⟨⟨(Nat.le_of_ble_eq_true rfl), (Nat.le_of_ble_eq_true rfl)⟩, (Nat.le_of_ble_eq_true rfl), (Nat.le_of_ble_eq_true rfl)⟩ dX7_tellGone_60 rfl rfl rfl (Nat.le_of_ble_eq_true rfl) rfl rfl (fun M13 => ?_)
        refine V_iinc (y := (l6 + 1)) (L' := [(0, .ref this), (1, .int l1), (2, .ref l2), (3, .ref l3), (4, .int l4), (5, .int l5), (6, .int (l6 + 1)), (7, .int l7)]) dX7_tellGone_63 rfl 6 rfl rfl (by decide) rfl ?_
        refine V_goto (q := 72) dX7_tellGone_66 (by decide) ?_
        exact v_X7_tellGone_72 (f_X7_tellGone_15 fu) ih this l1 l2 l3 l4 l5 (l6 + 1) l7 M13
theorem v_X7_tellGone (this : Nat) (a1 : Int32) (a2 : Nat) (a3 : Nat) (M : Mem) : V mi_X7_tellGone 0 [(0, .ref this), (1, .int a1), (2, .ref a2), (3, .ref a3)] [] M 0 0 (f_X7_tellGone this a1 a2 a3 M) wI := by
  unfold f_X7_tellGone
  refine V_ob fun _ _ => ?_
  refine V_aload_n dX7_tellGone_0 rfl 0 rfl ?_
  refine V_cVeI (As := []) (k_X7_size this M) (fun _ h => o_X7_size h) ok_X7_size im_X7_size se_X7_size rfl (ci := 6) rfl ml_X7_86 ⟨⟨(Nat.le_of_ble_eq_true rfl), (Nat.le_of_ble_eq_true rfl)⟩, (Nat.le_of_ble_eq_true rfl), (Nat.le_of_ble_eq_true rfl)⟩ dX7_tellGone_1 rfl rfl rfl (Nat.le_of_ble_eq_true rfl) rfl rfl (fun x1 => ?_)
  refine V_istore (L' := [(0, .ref this), (1, .int a1), (2, .ref a2), (3, .ref a3), (4, .int x1)]) dX7_tellGone_4 rfl (by decide) rfl ?_
  refine V_iconst (x := 1) dX7_tellGone_6 rfl rfl ?_
  refine V_istore (L' := [(0, .ref this), (1, .int a1), (2, .ref a2), (3, .ref a3), (4, .int x1), (5, .int 1)]) dX7_tellGone_7 rfl (by decide) rfl ?_
  refine V_iconst (x := 0) dX7_tellGone_9 rfl rfl ?_
  refine V_istore (L' := [(0, .ref this), (1, .int a1), (2, .ref a2), (3, .ref a3), (4, .int x1), (5, .int 1), (6, .int 0)]) dX7_tellGone_10 rfl (by decide) rfl ?_
  refine V_iconst (x := 0) dX7_tellGone_12 rfl rfl ?_
  refine V_istore (L' := [(0, .ref this), (1, .int a1), (2, .ref a2), (3, .ref a3), (4, .int x1), (5, .int 1), (6, .int 0), (7, .int 0)]) dX7_tellGone_13 rfl (by decide) rfl ?_
  exact v_X7_tellGone_15 FU this a1 a2 a3 x1 1 0 0 M
theorem k_X7_tellGone (this : Nat) (a1 : Int32) (a2 : Nat) (a3 : Nat) (M : Mem) : K mi_X7_tellGone [.ref this, .int a1, .ref a2, .ref a3] M (f_X7_tellGone this a1 a2 a3 M) wI := K_of_V ok_X7_tellGone (Nat.le_of_ble_eq_true rfl) (v_X7_tellGone this a1 a2 a3 M)
theorem o_X7_tellGone {this : Nat} {a1 : Int32} {a2 : Nat} {a3 : Nat} {M : Mem} {x} (h : f_X7_tellGone this a1 a2 a3 M = some x) : isO M 6 this = true := (ob_of h).1
theorem dX7_tellChanged_0 : decode cX7_tellChanged 0 = .ok (.iconst 0, 1) := by decide +kernel
theorem dX7_tellChanged_1 : decode cX7_tellChanged 1 = .ok (.istore 4, 2) := by decide +kernel
theorem dX7_tellChanged_3 : decode cX7_tellChanged 3 = .ok (.iconst 1, 1) := by decide +kernel
theorem dX7_tellChanged_4 : decode cX7_tellChanged 4 = .ok (.istore 5, 2) := by decide +kernel
theorem dX7_tellChanged_6 : decode cX7_tellChanged 6 = .ok (.iload 5, 2) := by decide +kernel
theorem dX7_tellChanged_8 : decode cX7_tellChanged 8 = .ok (.aload_n 0, 1) := by decide +kernel
theorem dX7_tellChanged_9 : decode cX7_tellChanged 9 = .ok (.invokevirtual 86, 3) := by decide +kernel
theorem dX7_tellChanged_12 : decode cX7_tellChanged 12 = .ok (.if_icmp .gt 64, 3) := by decide +kernel
theorem dX7_tellChanged_15 : decode cX7_tellChanged 15 = .ok (.aload_n 0, 1) := by decide +kernel
theorem dX7_tellChanged_16 : decode cX7_tellChanged 16 = .ok (.aload_n 2, 1) := by decide +kernel
theorem dX7_tellChanged_17 : decode cX7_tellChanged 17 = .ok (.iload 5, 2) := by decide +kernel
theorem dX7_tellChanged_19 : decode cX7_tellChanged 19 = .ok (.invokevirtual 95, 3) := by decide +kernel
theorem dX7_tellChanged_22 : decode cX7_tellChanged 22 = .ok (.ifCond .eq 48, 3) := by decide +kernel
theorem dX7_tellChanged_25 : decode cX7_tellChanged 25 = .ok (.aload_n 2, 1) := by decide +kernel
theorem dX7_tellChanged_26 : decode cX7_tellChanged 26 = .ok (.getfield 80, 3) := by decide +kernel
theorem dX7_tellChanged_29 : decode cX7_tellChanged 29 = .ok (.aload_n 2, 1) := by decide +kernel
theorem dX7_tellChanged_30 : decode cX7_tellChanged 30 = .ok (.aload_n 0, 1) := by decide +kernel
theorem dX7_tellChanged_31 : decode cX7_tellChanged 31 = .ok (.iload 5, 2) := by decide +kernel
theorem dX7_tellChanged_33 : decode cX7_tellChanged 33 = .ok (.invokevirtual 72, 3) := by decide +kernel
theorem dX7_tellChanged_36 : decode cX7_tellChanged 36 = .ok (.invokevirtual 75, 3) := by decide +kernel
theorem dX7_tellChanged_39 : decode cX7_tellChanged 39 = .ok (.invokevirtual 65, 3) := by decide +kernel
theorem dX7_tellChanged_42 : decode cX7_tellChanged 42 = .ok (.istore 6, 2) := by decide +kernel
theorem dX7_tellChanged_44 : decode cX7_tellChanged 44 = .ok (.aload_n 0, 1) := by decide +kernel
theorem dX7_tellChanged_45 : decode cX7_tellChanged 45 = .ok (.getfield 28, 3) := by decide +kernel
theorem dX7_tellChanged_48 : decode cX7_tellChanged 48 = .ok (.iload 5, 2) := by decide +kernel
theorem dX7_tellChanged_50 : decode cX7_tellChanged 50 = .ok (.iconst 1, 1) := by decide +kernel
theorem dX7_tellChanged_51 : decode cX7_tellChanged 51 = .ok (.isub, 1) := by decide +kernel
theorem dX7_tellChanged_52 : decode cX7_tellChanged 52 = .ok (.iload 6, 2) := by decide +kernel
theorem dX7_tellChanged_54 : decode cX7_tellChanged 54 = .ok (.invokevirtual 134, 3) := by decide +kernel
theorem dX7_tellChanged_57 : decode cX7_tellChanged 57 = .ok (.aload_n 3, 1) := by decide +kernel
theorem dX7_tellChanged_58 : decode cX7_tellChanged 58 = .ok (.iload_n 1, 1) := by decide +kernel
theorem dX7_tellChanged_59 : decode cX7_tellChanged 59 = .ok (.iconst 1, 1) := by decide +kernel
theorem dX7_tellChanged_60 : decode cX7_tellChanged 60 = .ok (.iload 5, 2) := by decide +kernel
theorem dX7_tellChanged_62 : decode cX7_tellChanged 62 = .ok (.iload 6, 2) := by decide +kernel
theorem dX7_tellChanged_64 : decode cX7_tellChanged 64 = .ok (.invokevirtual 125, 3) := by decide +kernel
theorem dX7_tellChanged_67 : decode cX7_tellChanged 67 = .ok (.iinc 4 1, 3) := by decide +kernel
theorem dX7_tellChanged_70 : decode cX7_tellChanged 70 = .ok (.iinc 5 1, 3) := by decide +kernel
theorem dX7_tellChanged_73 : decode cX7_tellChanged 73 = .ok (.goto (-67), 3) := by decide +kernel
theorem dX7_tellChanged_76 : decode cX7_tellChanged 76 = .ok (.aload_n 0, 1) := by decide +kernel
theorem dX7_tellChanged_77 : decode cX7_tellChanged 77 = .ok (.getfield 31, 3) := by decide +kernel
theorem dX7_tellChanged_80 : decode cX7_tellChanged 80 = .ok (.iconst 2, 1) := by decide +kernel
theorem dX7_tellChanged_81 : decode cX7_tellChanged 81 = .ok (.iload 4, 2) := by decide +kernel
theorem dX7_tellChanged_83 : decode cX7_tellChanged 83 = .ok (.invokevirtual 131, 3) := by decide +kernel
theorem dX7_tellChanged_86 : decode cX7_tellChanged 86 = .ok (.iload 4, 2) := by decide +kernel
theorem dX7_tellChanged_88 : decode cX7_tellChanged 88 = .ok (.ireturn, 1) := by decide +kernel
def mi_X7_tellChanged : MI := (RX7, yX7_tellChanged, cX7_tellChanged, 7, some .int, [], { frames := 4, cells := 0, slots := 0, locals := 78 })
theorem ok_X7_tellChanged : mOK mi_X7_tellChanged 3 := ⟨rfl, cw_X7_tellChanged, ini_X7, ⟨rfl, by decide⟩, by decide, by decide, rfl⟩
theorem v_X7_tellChanged_70 (rc6 : Nat → Int32 → Nat → Nat → Int32 → Int32 → Mem → Option (Int32 × Mem)) (h6 : ∀ (l0 : Nat) (l1 : Int32) (l2 : Nat) (l3 : Nat) (l4 : Int32) (l5 : Int32) (M : Mem), V mi_X7_tellChanged 6 [(0, .ref l0), (1, .int l1), (2, .ref l2), (3, .ref l3), (4, .int l4), (5, .int l5)] [] M 0 0 (rc6 l0 l1 l2 l3 l4 l5 M) wI) (this : Nat) (l1 : Int32) (l2 : Nat) (l3 : Nat) (l4 : Int32) (l5 : Int32) (M : Mem) : V mi_X7_tellChanged 70 [(0, .ref this), (1, .int l1), (2, .ref l2), (3, .ref l3), (4, .int l4), (5, .int l5)] [] M 0 0 (f_X7_tellChanged_70 rc6 this l1 l2 l3 l4 l5 M) wI := by
  unfold f_X7_tellChanged_70
  refine V_iinc (y := (l5 + 1)) (L' := [(0, .ref this), (1, .int l1), (2, .ref l2), (3, .ref l3), (4, .int l4), (5, .int (l5 + 1))]) dX7_tellChanged_70 rfl 5 rfl rfl (by decide) rfl ?_
  refine V_goto (q := 6) dX7_tellChanged_73 (by decide) ?_
  exact h6 this l1 l2 l3 l4 (l5 + 1) M
theorem v_X7_tellChanged_6 : ∀ (fu : Nat) (this : Nat) (l1 : Int32) (l2 : Nat) (l3 : Nat) (l4 : Int32) (l5 : Int32) (M : Mem), V mi_X7_tellChanged 6 [(0, .ref this), (1, .int l1), (2, .ref l2), (3, .ref l3), (4, .int l4), (5, .int l5)] [] M 0 0 (f_X7_tellChanged_6 fu this l1 l2 l3 l4 l5 M) wI := by
  intro fu
  induction fu with
  | zero => intros; exact V_none
  | succ fu ih =>
    intro this l1 l2 l3 l4 l5 M
    show V mi_X7_tellChanged 6 [(0, .ref this), (1, .int l1), (2, .ref l2), (3, .ref l3), (4, .int l4), (5, .int l5)] [] M 0 0 (f_X7_tellChanged_6 (fu + 1) this l1 l2 l3 l4 l5 M) wI
    unfold f_X7_tellChanged_6
    refine V_iload dX7_tellChanged_6 rfl 5 rfl ?_
    refine V_aload_n dX7_tellChanged_8 rfl 0 rfl ?_
    refine V_cVeI (As := []) (k_X7_size this M) (fun _ h => o_X7_size h) ok_X7_size im_X7_size se_X7_size rfl (ci := 6) rfl ml_X7_86 ⟨⟨(Nat.le_of_ble_eq_true rfl), (Nat.le_of_ble_eq_true rfl)⟩, (Nat.le_of_ble_eq_true rfl), (Nat.le_of_ble_eq_true rfl)⟩ dX7_tellChanged_9 rfl rfl rfl (Nat.le_of_ble_eq_true rfl) rfl rfl (fun x1 => ?_)
    refine V_icmp_gt (q := 76) (q2 := 15) dX7_tellChanged_12 (by decide) rfl ?_ ?_
    · refine V_aload_n dX7_tellChanged_76 rfl 0 rfl ?_
      refine V_getR dX7_tellChanged_77 rfl (ci := 6) (T := TX7) rfl (by decide) fl_X7_31 (fun x2 => ?_)
      refine V_iconst (x := 2) dX7_tellChanged_80 rfl rfl ?_
      refine V_iload dX7_tellChanged_81 rfl 4 rfl ?_
      refine V_cVwV (As := [.int 2, .int l4]) (k_X5_increase x2 2 l4 M) (fun _ h => o_X5_increase h) ok_X5_increase im_X5_increase se_X5_increase rfl (ci := 4) rfl ml_X7_131 ⟨⟨(Nat.le_of_ble_eq_true rfl), (Nat.le_of_ble_eq_true rfl)⟩, (Nat.le_of_ble_eq_true rfl), (Nat.le_of_ble_eq_true rfl)⟩ dX7_tellChanged_83 rfl rfl rfl (Nat.le_of_ble_eq_true rfl) rfl rfl (fun M4 => ?_)
      refine V_iload dX7_tellChanged_86 rfl 4 rfl ?_
      exact V_iret dX7_tellChanged_88 rfl rfl ⟨(Nat.le_of_ble_eq_true rfl), (Nat.le_of_ble_eq_true rfl)⟩
    · refine V_aload_n dX7_tellChanged_15 rfl 0 rfl ?_
      refine V_aload_n dX7_tellChanged_16 rfl 2 rfl ?_
      refine V_iload dX7_tellChanged_17 rfl 5 rfl ?_
      refine V_cVeZ (As := [.ref l2, .int l5]) (k_X7_isChanged this l2 l5 M) (fun _ h => o_X7_isChanged h) ok_X7_isChanged im_X7_isChanged se_X7_isChanged rfl (ci := 6) rfl ml_X7_95 ⟨⟨(Nat.le_of_ble_eq_true rfl), (Nat.le_of_ble_eq_true rfl)⟩, (Nat.le_of_ble_eq_true rfl), (Nat.le_of_ble_eq_true rfl)⟩ dX7_tellChanged_19 rfl rfl rfl (Nat.le_of_ble_eq_true rfl) rfl rfl (fun x5 => ?_)
      refine V_ifz_eq (q := 70) (q2 := 25) dX7_tellChanged_22 (by decide) rfl ?_ ?_
      · exact v_X7_tellChanged_70 (f_X7_tellChanged_6 fu) ih this l1 l2 l3 l4 l5 M
      · refine V_aload_n dX7_tellChanged_25 rfl 2 rfl ?_
        refine V_getR dX7_tellChanged_26 rfl (ci := 0) (T := TX0) rfl (by decide) fl_X7_80 (fun x6 => ?_)
        refine V_aload_n dX7_tellChanged_29 rfl 2 rfl ?_
        refine V_aload_n dX7_tellChanged_30 rfl 0 rfl ?_
        refine V_iload dX7_tellChanged_31 rfl 5 rfl ?_
        refine V_cVeI (As := [.int l5]) (k_X7_uidOf this l5 M) (fun _ h => o_X7_uidOf h) ok_X7_uidOf im_X7_uidOf se_X7_uidOf rfl (ci := 6) rfl ml_X7_72 ⟨⟨(Nat.le_of_ble_eq_true rfl), (Nat.le_of_ble_eq_true rfl)⟩, (Nat.le_of_ble_eq_true rfl), (Nat.le_of_ble_eq_true rfl)⟩ dX7_tellChanged_33 rfl rfl rfl (Nat.le_of_ble_eq_true rfl) rfl rfl (fun x7 => ?_)
        refine V_cVeI (As := [.int x7]) (k_X0_indexOfUid l2 x7 M) (fun _ h => o_X0_indexOfUid h) ok_X0_indexOfUid im_X0_indexOfUid se_X0_indexOfUid rfl (ci := 0) rfl ml_X7_75 ⟨⟨(Nat.le_of_ble_eq_true rfl), (Nat.le_of_ble_eq_true rfl)⟩, (Nat.le_of_ble_eq_true rfl), (Nat.le_of_ble_eq_true rfl)⟩ dX7_tellChanged_36 rfl rfl rfl (Nat.le_of_ble_eq_true rfl) rfl rfl (fun x8 => ?_)
        refine V_cVeI (As := [.int x8]) (k_X5_get x6 x8 M) (fun _ h => o_X5_get h) ok_X5_get im_X5_get se_X5_get rfl (ci := 4) rfl ml_X7_65 ⟨⟨(Nat.le_of_ble_eq_true rfl), (Nat.le_of_ble_eq_true rfl)⟩, (Nat.le_of_ble_eq_true rfl), (Nat.le_of_ble_eq_true rfl)⟩ dX7_tellChanged_39 rfl rfl rfl (Nat.le_of_ble_eq_true rfl) rfl rfl (fun x9 => ?_)
        refine V_istore (L' := [(0, .ref this), (1, .int l1), (2, .ref l2), (3, .ref l3), (4, .int l4), (5, .int l5), (6, .int x9)]) dX7_tellChanged_42 rfl (by decide) rfl ?_
        refine V_aload_n dX7_tellChanged_44 rfl 0 rfl ?_
        refine V_getR dX7_tellChanged_45 rfl (ci := 6) (T := TX7) rfl (by decide) fl_X7_28 (fun x10 => ?_)
        refine V_iload dX7_tellChanged_48 rfl 5 rfl ?_
        refine V_iconst (x := 1) dX7_tellChanged_50 rfl rfl ?_
        refine V_isub dX7_tellChanged_51 rfl ?_
        refine V_iload dX7_tellChanged_52 rfl 6 rfl ?_
        refine V_cVwV (As := [.int (l5 - 1), .int x9]) (k_X5_set x10 (l5 - 1) x9 M) (fun _ h => o_X5_set h) ok_X5_set im_X5_set se_X5_set rfl (ci := 4) rfl ml_X7_134 ⟨⟨(Nat.le_of_ble_eq_true rfl), (Nat.le_of_ble_eq_true rfl)⟩, (Nat.le_of_ble_eq_true rfl), (Nat.le_of_ble_eq_true rfl)⟩ dX7_tellChanged_54 rfl rfl rfl (Nat.le_of_ble_eq_true rfl) rfl rfl (fun M12 => ?_)
        refine V_aload_n dX7_tellChanged_57 rfl 3 rfl ?_
        refine V_iload_n dX7_tellChanged_58 rfl 1 rfl ?_
        refine V_iconst (x := 1) dX7_tellChanged_59 rfl rfl ?_
        refine V_iload dX7_tellChanged_60 rfl 5 rfl ?_
        refine V_iload dX7_tellChanged_62 rfl 6 rfl ?_
        refine V_cVwV (As := [.int l1, .int 1, .int l5, .int x9]) (k_X4_add l3 l1 1 l5 x9 M12) (fun _ h => o_X4_add h) ok_X4_add im_X4_add se_X4_add rfl (ci := 3) rfl ml_X7_125 ⟨⟨(Nat.le_of_ble_eq_true rfl), (Nat.le_of_ble_eq_true rfl)⟩, (Nat.le_of_ble_eq_true rfl), (Nat.le_of_ble_eq_true rfl)⟩ dX7_tellChanged_64 rfl rfl rfl (Nat.le_of_ble_eq_true rfl) rfl rfl (fun M14 => ?_)
        refine V_iinc (y := (l4 + 1)) (L' := [(0, .ref this), (1, .int l1), (2, .ref l2), (3, .ref l3), (4, .int (l4 + 1)), (5, .int l5), (6, .int x9)]) dX7_tellChanged_67 rfl 4 rfl rfl (by decide) rfl ?_
        exact V_sub [0, 1, 2, 3, 4, 5] rfl (v_X7_tellChanged_70 (f_X7_tellChanged_6 fu) ih this l1 l2 l3 (l4 + 1) l5 M14)
theorem v_X7_tellChanged (this : Nat) (a1 : Int32) (a2 : Nat) (a3 : Nat) (M : Mem) : V mi_X7_tellChanged 0 [(0, .ref this), (1, .int a1), (2, .ref a2), (3, .ref a3)] [] M 0 0 (f_X7_tellChanged this a1 a2 a3 M) wI := by
  unfold f_X7_tellChanged
  refine V_ob fun _ _ => ?_
  refine V_iconst (x := 0) dX7_tellChanged_0 rfl rfl ?_
  refine V_istore (L' := [(0, .ref this), (1, .int a1), (2, .ref a2), (3, .ref a3), (4, .int 0)]) dX7_tellChanged_1 rfl (by decide) rfl ?_
  refine V_iconst (x := 1) dX7_tellChanged_3 rfl rfl ?_
  refine V_istore (L' := [(0, .ref this), (1, .int a1), (2, .ref a2), (3, .ref a3), (4, .int 0), (5, .int 1)]) dX7_tellChanged_4 rfl (by decide) rfl ?_
  exact v_X7_tellChanged_6 FU this a1 a2 a3 0 1 M
theorem k_X7_tellChanged (this : Nat) (a1 : Int32) (a2 : Nat) (a3 : Nat) (M : Mem) : K mi_X7_tellChanged [.ref this, .int a1, .ref a2, .ref a3] M (f_X7_tellChanged this a1 a2 a3 M) wI := K_of_V ok_X7_tellChanged (Nat.le_of_ble_eq_true rfl) (v_X7_tellChanged this a1 a2 a3 M)
theorem o_X7_tellChanged {this : Nat} {a1 : Int32} {a2 : Nat} {a3 : Nat} {M : Mem} {x} (h : f_X7_tellChanged this a1 a2 a3 M = some x) : isO M 6 this = true := (ob_of h).1
theorem dX7_tellNew_0 : decode cX7_tellNew 0 = .ok (.aload_n 0, 1) := by decide +kernel
theorem dX7_tellNew_1 : decode cX7_tellNew 1 = .ok (.aload_n 2, 1) := by decide +kernel
theorem dX7_tellNew_2 : decode cX7_tellNew 2 = .ok (.invokevirtual 57, 3) := by decide +kernel
theorem dX7_tellNew_5 : decode cX7_tellNew 5 = .ok (.ifCond .ne 5, 3) := by decide +kernel
theorem dX7_tellNew_8 : decode cX7_tellNew 8 = .ok (.iconst 0, 1) := by decide +kernel
theorem dX7_tellNew_9 : decode cX7_tellNew 9 = .ok (.ireturn, 1) := by decide +kernel
theorem dX7_tellNew_10 : decode cX7_tellNew 10 = .ok (.aload_n 3, 1) := by decide +kernel
theorem dX7_tellNew_11 : decode cX7_tellNew 11 = .ok (.iload_n 1, 1) := by decide +kernel
theorem dX7_tellNew_12 : decode cX7_tellNew 12 = .ok (.iconst 2, 1) := by decide +kernel
theorem dX7_tellNew_13 : decode cX7_tellNew 13 = .ok (.aload_n 0, 1) := by decide +kernel
theorem dX7_tellNew_14 : decode cX7_tellNew 14 = .ok (.invokevirtual 86, 3) := by decide +kernel
theorem dX7_tellNew_17 : decode cX7_tellNew 17 = .ok (.iconst 0, 1) := by decide +kernel
theorem dX7_tellNew_18 : decode cX7_tellNew 18 = .ok (.invokevirtual 125, 3) := by decide +kernel
theorem dX7_tellNew_21 : decode cX7_tellNew 21 = .ok (.aload_n 0, 1) := by decide +kernel
theorem dX7_tellNew_22 : decode cX7_tellNew 22 = .ok (.getfield 31, 3) := by decide +kernel
theorem dX7_tellNew_25 : decode cX7_tellNew 25 = .ok (.iconst 3, 1) := by decide +kernel
theorem dX7_tellNew_26 : decode cX7_tellNew 26 = .ok (.iconst 1, 1) := by decide +kernel
theorem dX7_tellNew_27 : decode cX7_tellNew 27 = .ok (.invokevirtual 131, 3) := by decide +kernel
theorem dX7_tellNew_30 : decode cX7_tellNew 30 = .ok (.iconst 1, 1) := by decide +kernel
theorem dX7_tellNew_31 : decode cX7_tellNew 31 = .ok (.ireturn, 1) := by decide +kernel
def mi_X7_tellNew : MI := (RX7, yX7_tellNew, cX7_tellNew, 4, some .int, [], { frames := 4, cells := 0, slots := 0, locals := 76 })
theorem ok_X7_tellNew : mOK mi_X7_tellNew 3 := ⟨rfl, cw_X7_tellNew, ini_X7, ⟨rfl, by decide⟩, by decide, by decide, rfl⟩
theorem v_X7_tellNew (this : Nat) (a1 : Int32) (a2 : Nat) (a3 : Nat) (M : Mem) : V mi_X7_tellNew 0 [(0, .ref this), (1, .int a1), (2, .ref a2), (3, .ref a3)] [] M 0 0 (f_X7_tellNew this a1 a2 a3 M) wI := by
  unfold f_X7_tellNew
  refine V_ob fun _ _ => ?_
  refine V_aload_n dX7_tellNew_0 rfl 0 rfl ?_
  refine V_aload_n dX7_tellNew_1 rfl 2 rfl ?_
  refine V_cVwI (As := [.ref a2]) (k_X7_addNewEntries this a2 M) (fun _ h => o_X7_addNewEntries h) ok_X7_addNewEntries im_X7_addNewEntries se_X7_addNewEntries rfl (ci := 6) rfl ml_X7_57 ⟨⟨(Nat.le_of_ble_eq_true rfl), (Nat.le_of_ble_eq_true rfl)⟩, (Nat.le_of_ble_eq_true rfl), (Nat.le_of_ble_eq_true rfl)⟩ dX7_tellNew_2 rfl rfl rfl (Nat.le_of_ble_eq_true rfl) rfl rfl (fun x1 M2 => ?_)
  refine V_if_ne (q := 10) (q2 := 8) dX7_tellNew_5 (by decide) rfl ?_ ?_
  · refine V_aload_n dX7_tellNew_10 rfl 3 rfl ?_
    refine V_iload_n dX7_tellNew_11 rfl 1 rfl ?_
    refine V_iconst (x := 2) dX7_tellNew_12 rfl rfl ?_
    refine V_aload_n dX7_tellNew_13 rfl 0 rfl ?_
    refine V_cVeI (As := []) (k_X7_size this M2) (fun _ h => o_X7_size h) ok_X7_size im_X7_size se_X7_size rfl (ci := 6) rfl ml_X7_86 ⟨⟨(Nat.le_of_ble_eq_true rfl), (Nat.le_of_ble_eq_true rfl)⟩, (Nat.le_of_ble_eq_true rfl), (Nat.le_of_ble_eq_true rfl)⟩ dX7_tellNew_14 rfl rfl rfl (Nat.le_of_ble_eq_true rfl) rfl rfl (fun x3 => ?_)
    refine V_iconst (x := 0) dX7_tellNew_17 rfl rfl ?_
    refine V_cVwV (As := [.int a1, .int 2, .int x3, .int 0]) (k_X4_add a3 a1 2 x3 0 M2) (fun _ h => o_X4_add h) ok_X4_add im_X4_add se_X4_add rfl (ci := 3) rfl ml_X7_125 ⟨⟨(Nat.le_of_ble_eq_true rfl), (Nat.le_of_ble_eq_true rfl)⟩, (Nat.le_of_ble_eq_true rfl), (Nat.le_of_ble_eq_true rfl)⟩ dX7_tellNew_18 rfl rfl rfl (Nat.le_of_ble_eq_true rfl) rfl rfl (fun M5 => ?_)
    refine V_aload_n dX7_tellNew_21 rfl 0 rfl ?_
    refine V_getR dX7_tellNew_22 rfl (ci := 6) (T := TX7) rfl (by decide) fl_X7_31 (fun x6 => ?_)
    refine V_iconst (x := 3) dX7_tellNew_25 rfl rfl ?_
    refine V_iconst (x := 1) dX7_tellNew_26 rfl rfl ?_
    refine V_cVwV (As := [.int 3, .int 1]) (k_X5_increase x6 3 1 M5) (fun _ h => o_X5_increase h) ok_X5_increase im_X5_increase se_X5_increase rfl (ci := 4) rfl ml_X7_131 ⟨⟨(Nat.le_of_ble_eq_true rfl), (Nat.le_of_ble_eq_true rfl)⟩, (Nat.le_of_ble_eq_true rfl), (Nat.le_of_ble_eq_true rfl)⟩ dX7_tellNew_27 rfl rfl rfl (Nat.le_of_ble_eq_true rfl) rfl rfl (fun M8 => ?_)
    refine V_iconst (x := 1) dX7_tellNew_30 rfl rfl ?_
    exact V_iret dX7_tellNew_31 rfl rfl ⟨(Nat.le_of_ble_eq_true rfl), (Nat.le_of_ble_eq_true rfl)⟩
  · refine V_iconst (x := 0) dX7_tellNew_8 rfl rfl ?_
    exact V_iret dX7_tellNew_9 rfl rfl ⟨(Nat.le_of_ble_eq_true rfl), (Nat.le_of_ble_eq_true rfl)⟩
theorem k_X7_tellNew (this : Nat) (a1 : Int32) (a2 : Nat) (a3 : Nat) (M : Mem) : K mi_X7_tellNew [.ref this, .int a1, .ref a2, .ref a3] M (f_X7_tellNew this a1 a2 a3 M) wI := K_of_V ok_X7_tellNew (Nat.le_of_ble_eq_true rfl) (v_X7_tellNew this a1 a2 a3 M)
theorem o_X7_tellNew {this : Nat} {a1 : Int32} {a2 : Nat} {a3 : Nat} {M : Mem} {x} (h : f_X7_tellNew this a1 a2 a3 M = some x) : isO M 6 this = true := (ob_of h).1
