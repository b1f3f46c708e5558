def f_L_draw (a0 : Nat) (a1 : Int32) (a2 : Int32) (M : Mem) : Option Int32 :=
  (sL M a0).bind fun x1 =>
  if x1 ≤ a1 then (
    dv a2 (
      some ((0 &&& 2147483647) - (0 &&& 2147483647) / a2 * a2)
    )
  ) else (
    (sC M a0 a1).bind fun x2 =>
    dv a2 (
      some ((x2 &&& 2147483647) - (x2 &&& 2147483647) / a2 * a2)
    )
  )
def f_L_four_34 (rc4 : Nat → Int32 → Int32 → Int32 → Mem → Option Int32) (l0 : Nat) (l1 : Int32) (l3 : Int32) (s0 : Int32) (s1 : Int32) (M : Mem) : Option Int32 :=
  rc4 l0 l1 (s0 ||| s1) (l3 + 1) M
def f_L_four_4 : Nat → Nat → Int32 → Int32 → Int32 → Mem → Option Int32
  | 0 => fun _ _ _ _ _ => none
  | fu + 1 => fun l0 l1 l2 l3 M =>
    if 4 ≤ l3 then (
      some l2
    ) else (
      (f_J0_length_8abf5 l0 M).bind fun x1 =>
      if x1 ≤ (l1 + l3) then (
        f_L_four_34 (f_L_four_4 fu) l0 l1 l3 (l2 <<< (8 &&& 31)) 0 M
      ) else (
        (f_J0_charAt_5068e l0 (l1 + l3) M).bind fun x2 =>
        f_L_four_34 (f_L_four_4 fu) l0 l1 l3 (l2 <<< (8 &&& 31)) x2 M
      )
    )
def f_L_four (a0 : Nat) (a1 : Int32) (M : Mem) : Option Int32 :=
  f_L_four_4 FU a0 a1 0 0 M
def f_L_feed_21 (rc9 : Nat → Nat → Int32 → Int32 → Mem → Option ((Unit ⊕ String) × Mem)) (l0 : Nat) (l1 : Nat) (l3 : Int32) (M : Mem) : Option ((Unit ⊕ String) × Mem) :=
  (f_L_four l1 l3 M).bind fun x4 =>
  (f_L_four l1 (l3 + 4) M).bind fun x5 =>
  (f_L_four l1 (l3 + 8) M).bind fun x6 =>
  (f_L_four l1 (l3 + 12) M).bind fun x7 =>
  (f_L_four l1 (l3 + 16) M).bind fun x8 =>
  bX (f_X11_append l0 x4 x5 x6 x7 x8 M) fun x9 M10 =>
  rc9 l0 l1 x9 (l3 + 20) M10
def f_L_feed_68 (l0 : Nat) (l1 : Nat) (l2 : Int32) (M : Mem) : Option ((Unit ⊕ String) × Mem) :=
  (f_J0_length_8abf5 l1 M).bind fun x11 =>
  (f_J9_min_7cf53 l2 x11 M).bind fun x12 =>
  bX (f_X11_truncate l0 x12 M) fun _ M14 =>
  some (.inl (), M14)
def f_L_feed_9 : Nat → Nat → Nat → Int32 → Int32 → Mem → Option ((Unit ⊕ String) × Mem)
  | 0 => fun _ _ _ _ _ => none
  | fu + 1 => fun l0 l1 l2 l3 M =>
    (f_J0_length_8abf5 l1 M).bind fun x3 =>
    if l3 < x3 then (
      f_L_feed_21 (f_L_feed_9 fu) l0 l1 l3 M
    ) else (
      if l3 = 0 then (
        f_L_feed_21 (f_L_feed_9 fu) l0 l1 l3 M
      ) else (
        f_L_feed_68 l0 l1 l2 M
      )
    )
def f_L_feed (a0 : Nat) (a1 : Nat) (M : Mem) : Option ((Unit ⊕ String) × Mem) :=
  bX (f_X11_truncate a0 0 M) fun _ M2 =>
  f_L_feed_9 30 a0 a1 0 0 M2
def f_L_flags_73 (l2 : Nat) (M : Mem) : Option (Nat × Mem) :=
  (f_J4_toString_0e30d l2 M).bind fun (x10, M11) =>
  some (x10, M11)
def f_L_flags_63 (rc40 : Int32 → Nat → Nat → Int32 → Mem → Option (Nat × Mem)) (l0 : Int32) (l1 : Nat) (l2 : Nat) (l3 : Int32) (s0 : Nat) (s1 : Option Nat) (M : Mem) : Option (Nat × Mem) :=
  (s1).bind fun r12 =>
  (f_J4_append_15ec4 s0 r12 M).bind fun (x13, M14) =>
  rc40 l0 l1 l2 (l3 + 1) M14
def f_L_flags_40 : Nat → Int32 → Nat → Nat → Int32 → Mem → Option (Nat × Mem)
  | 0 => fun _ _ _ _ _ => none
  | fu + 1 => fun l0 l1 l2 l3 M =>
    if 5 ≤ l3 then (
      f_L_flags_73 l2 M
    ) else (
      if ((l0 >>> (l3 &&& 31)) &&& 1) = 1 then (
        (aQ M 10 l1 l3).bind fun x15 =>
        f_L_flags_63 (f_L_flags_40 fu) l0 l1 l2 l3 l2 x15 M
      ) else (
        f_L_flags_63 (f_L_flags_40 fu) l0 l1 l2 l3 l2 (some 53) M
      )
    )
def f_L_flags (a0 : Int32) (M : Mem) : Option (Nat × Mem) :=
  (alc M).bind fun r1 =>
  gd (strc 48) ((sQ (mnew M (.inl (10, (5, .inr (.inr (.inr (.inr (fun _ => none)))))))) 10 r1 0 (some 48)).bind fun M2 =>
  gd (strc 49) ((sQ M2 10 r1 1 (some 49)).bind fun M3 =>
  gd (strc 50) ((sQ M3 10 r1 2 (some 50)).bind fun M4 =>
  gd (strc 51) ((sQ M4 10 r1 3 (some 51)).bind fun M5 =>
  gd (strc 52) ((sQ M5 10 r1 4 (some 52)).bind fun M6 =>
  (alc M6).bind fun r7 =>
  (f_J4_init_da8c8 r7 (mnew M6 (.inr (12, [.null, .int 0, .int 0, .int 0])))).bind fun M9 =>
  f_L_flags_40 6 a0 r1 r7 0 M9
  )
  )
  )
  )
  )
def f_L_load_548 (rc445 : Nat → Nat → Int32 → Int32 → Nat → Int32 → Mem → Option ((Bool ⊕ String) × Mem)) (l0 : Nat) (l1 : Nat) (l2 : Int32) (l3 : Int32) (l7 : Nat) (l9 : Int32) (s0 : Int32) (s1 : Int32) (M : Mem) : Option ((Bool ⊕ String) × Mem) :=
  if s0 = s1 then (
    rc445 l0 l1 l2 l3 l7 (l9 + 1) M
  ) else (
    some (.inl false, M)
  )
def f_L_load_514 (rc445 : Nat → Nat → Int32 → Int32 → Nat → Int32 → Mem → Option ((Bool ⊕ String) × Mem)) (l0 : Nat) (l1 : Nat) (l2 : Int32) (l3 : Int32) (l7 : Nat) (l9 : Int32) (l11 : Int32) (s0 : Int32) (s1 : Bool) (M : Mem) : Option ((Bool ⊕ String) × Mem) :=
  if s0 = (b2i s1) then (
    bX (f_X11_session l0 l9 2 M) fun x37 M38 =>
    if x37 = 0 then (
      bX (f_X11_session l0 l9 3 M38) fun x39 M40 =>
      if 0 ≤ l11 then (
        (aI M40 0 l7 l11).bind fun x41 =>
        f_L_load_548 rc445 l0 l1 l2 l3 l7 l9 x39 x41 M40
      ) else (
        f_L_load_548 rc445 l0 l1 l2 l3 l7 l9 x39 0 M40
      )
    ) else (
      some (.inl false, M38)
    )
  ) else (
    some (.inl false, M)
  )
def f_L_load_482 (rc445 : Nat → Nat → Int32 → Int32 → Nat → Int32 → Mem → Option ((Bool ⊕ String) × Mem)) (l0 : Nat) (l1 : Nat) (l2 : Int32) (l3 : Int32) (l7 : Nat) (l9 : Int32) (l10 : Int32) (s0 : Int32) (M : Mem) : Option ((Bool ⊕ String) × Mem) :=
  bX (f_X11_session l0 l9 0 M) fun x33 M34 =>
  if x33 = s0 then (
    bX (f_X11_session l0 l9 1 M34) fun x35 M36 =>
    if l10 = 1 then (
      f_L_load_514 rc445 l0 l1 l2 l3 l7 l9 s0 x35 true M36
    ) else (
      f_L_load_514 rc445 l0 l1 l2 l3 l7 l9 s0 x35 false M36
    )
  ) else (
    some (.inl false, M34)
  )
def f_L_load_445 : Nat → Nat → Nat → Int32 → Int32 → Nat → Int32 → Mem → Option ((Bool ⊕ String) × Mem)
  | 0 => fun _ _ _ _ _ _ _ => none
  | fu + 1 => fun l0 l1 l2 l3 l7 l9 M =>
    if l3 ≤ l9 then (
      some (.inl true, M)
    ) else (
      (f_L_draw l1 (4 + l9) 6 M).bind fun x31 =>
      if x31 = 0 then (
        f_L_load_482 (f_L_load_445 fu) l0 l1 l2 l3 l7 l9 x31 (-1) M
      ) else (
        (f_L_draw l1 (40 + l9) l2 M).bind fun x32 =>
        f_L_load_482 (f_L_load_445 fu) l0 l1 l2 l3 l7 l9 x31 x32 M
      )
    )
def f_L_load_442 (l0 : Nat) (l1 : Nat) (l2 : Int32) (l3 : Int32) (l7 : Nat) (M : Mem) : Option ((Bool ⊕ String) × Mem) :=
  f_L_load_445 5 l0 l1 l2 l3 l7 0 M
def f_L_load_396 : Nat → Nat → Nat → Int32 → Int32 → Nat → Int32 → Mem → Option ((Bool ⊕ String) × Mem)
  | 0 => fun _ _ _ _ _ _ _ => none
  | fu + 1 => fun l0 l1 l2 l3 l7 l9 M =>
    if l2 ≤ l9 then (
      f_L_load_442 l0 l1 l2 l3 l7 M
    ) else (
      bX (f_X11_box l0 l9 0 M) fun x42 M43 =>
      (aI M43 0 l7 l9).bind fun x44 =>
      if x42 = x44 then (
        bX (f_X11_box l0 l9 1 M43) fun x45 M46 =>
        (aI M46 0 l7 l9).bind fun x47 =>
        if x45 = (x47 + 1) then (
          (f_L_load_396 fu) l0 l1 l2 l3 l7 (l9 + 1) M46
        ) else (
          some (.inl false, M46)
        )
      ) else (
        some (.inl false, M43)
      )
    )
def f_L_load_312 (l0 : Nat) (l1 : Nat) (l2 : Int32) (l3 : Int32) (l5 : Int32) (l6 : Nat) (l7 : Nat) (l8 : Int32) (M : Mem) : Option ((Bool ⊕ String) × Mem) :=
  (f_J4_toString_0e30d l6 M).bind fun (x13, M14) =>
  bX (f_L_feed l0 x13 M14) fun _ M16 =>
  (f_X11_load l0 M16).bind fun (x17, M18) =>
  if x17 = l8 then (
    (f_X11_errorCode l0 M18).bind fun x19 =>
    if x19 = 0 then (
      (f_X11_errorPosition l0 M18).bind fun x20 =>
      if x20 = (-1) then (
        bX (f_X11_property l0 0 M18) fun x21 M22 =>
        if x21 = l2 then (
          bX (f_X11_property l0 1 M22) fun x23 M24 =>
          if x23 = l3 then (
            bX (f_X11_property l0 2 M24) fun x25 M26 =>
            if x25 = l5 then (
              bX (f_X11_property l0 3 M26) fun x27 M28 =>
              if x27 = l8 then (
                bX (f_X11_property l0 4 M28) fun x29 M30 =>
                if x29 = 0 then (
                  f_L_load_396 4 l0 l1 l2 l3 l7 0 M30
                ) else (
                  some (.inl false, M30)
                )
              ) else (
                some (.inl false, M28)
              )
            ) else (
              some (.inl false, M26)
            )
          ) else (
            some (.inl false, M24)
          )
        ) else (
          some (.inl false, M22)
        )
      ) else (
        some (.inl false, M18)
      )
    ) else (
      some (.inl false, M18)
    )
  ) else (
    some (.inl false, M18)
  )
def f_L_load_298 (rc222 : Nat → Nat → Int32 → Int32 → Int32 → Nat → Nat → Int32 → Int32 → Mem → Option ((Bool ⊕ String) × Mem)) (l0 : Nat) (l1 : Nat) (l2 : Int32) (l3 : Int32) (l5 : Int32) (l6 : Nat) (l7 : Nat) (l8 : Int32) (l9 : Int32) (M : Mem) : Option ((Bool ⊕ String) × Mem) :=
  (f_J4_append_15ec4 l6 44 M).bind fun (x53, M54) =>
  rc222 l0 l1 l2 l3 l5 l6 l7 l8 (l9 + 1) M54
def f_L_load_277 (rc222 : Nat → Nat → Int32 → Int32 → Int32 → Nat → Nat → Int32 → Int32 → Mem → Option ((Bool ⊕ String) × Mem)) (l0 : Nat) (l1 : Nat) (l2 : Int32) (l3 : Int32) (l5 : Int32) (l6 : Nat) (l7 : Nat) (l8 : Int32) (l9 : Int32) (s0 : Nat) (s1 : Nat) (M : Mem) : Option ((Bool ⊕ String) × Mem) :=
  (f_J4_append_15ec4 s0 s1 M).bind fun (x55, M56) =>
  (f_L_draw l1 (40 + l9) l2 M56).bind fun x57 =>
  (f_J4_append_cf468 x55 (((97 + x57).toUInt32 % 65536).toInt32) M56).bind fun (x58, M59) =>
  f_L_load_298 rc222 l0 l1 l2 l3 l5 l6 l7 l8 l9 M59
def f_L_load_222 : Nat → Nat → Nat → Int32 → Int32 → Int32 → Nat → Nat → Int32 → Int32 → Mem → Option ((Bool ⊕ String) × Mem)
  | 0 => fun _ _ _ _ _ _ _ _ _ _ => none
  | fu + 1 => fun l0 l1 l2 l3 l5 l6 l7 l8 l9 M =>
    if l3 ≤ l9 then (
      f_L_load_312 l0 l1 l2 l3 l5 l6 l7 l8 M
    ) else (
      (f_J4_append_15ec4 l6 54 M).bind fun (x48, M49) =>
      (f_J4_append_cf468 x48 (((97 + l9).toUInt32 % 65536).toInt32) M49).bind fun (x50, M51) =>
      (f_L_draw l1 (4 + l9) 6 M51).bind fun x52 =>
      if x52 ≤ 0 then (
        f_L_load_298 (f_L_load_222 fu) l0 l1 l2 l3 l5 l6 l7 l8 l9 M51
      ) else (
        if x52 = 1 then (
          f_L_load_277 (f_L_load_222 fu) l0 l1 l2 l3 l5 l6 l7 l8 l9 l6 55 M51
        ) else (
          f_L_load_277 (f_L_load_222 fu) l0 l1 l2 l3 l5 l6 l7 l8 l9 l6 56 M51
        )
      )
    )
def f_L_load_219 (l0 : Nat) (l1 : Nat) (l2 : Int32) (l3 : Int32) (l5 : Int32) (l6 : Nat) (l7 : Nat) (l8 : Int32) (M : Mem) : Option ((Bool ⊕ String) × Mem) :=
  f_L_load_222 5 l0 l1 l2 l3 l5 l6 l7 l8 0 M
def f_L_load_213 (rc108 : Nat → Nat → Int32 → Int32 → Int32 → Int32 → Nat → Nat → Int32 → Int32 → Mem → Option ((Bool ⊕ String) × Mem)) (l0 : Nat) (l1 : Nat) (l2 : Int32) (l3 : Int32) (l4 : Int32) (l5 : Int32) (l6 : Nat) (l7 : Nat) (l8 : Int32) (l9 : Int32) (M : Mem) : Option ((Bool ⊕ String) × Mem) :=
  rc108 l0 l1 l2 l3 l4 l5 l6 l7 l8 (l9 + 1) M
def f_L_load_108 : Nat → Nat → Nat → Int32 → Int32 → Int32 → Int32 → Nat → Nat → Int32 → Int32 → Mem → Option ((Bool ⊕ String) × Mem)
  | 0 => fun _ _ _ _ _ _ _ _ _ _ _ => none
  | fu + 1 => fun l0 l1 l2 l3 l4 l5 l6 l7 l8 l9 M =>
    if l4 ≤ l9 then (
      f_L_load_219 l0 l1 l2 l3 l5 l6 l7 l8 M
    ) else (
      (f_L_draw l1 (10 + l9) l2 M).bind fun x60 =>
      (aI M 0 l7 x60).bind fun x61 =>
      if x61 = l5 then (
        f_L_load_213 (f_L_load_108 fu) l0 l1 l2 l3 l4 l5 l6 l7 l8 l9 M
      ) else (
        (aI M 0 l7 x60).bind fun x62 =>
        (sI M 0 l7 x60 (x62 + 1)).bind fun M63 =>
        (f_J4_append_15ec4 l6 46 M63).bind fun (x64, M65) =>
        (f_J4_append_cf468 x64 (((97 + x60).toUInt32 % 65536).toInt32) M65).bind fun (x66, M67) =>
        (f_J4_append_15ec4 x66 47 M67).bind fun (x68, M69) =>
        (f_L_draw l1 (20 + l9) 500 M69).bind fun x70 =>
        (f_J4_append_bf812 x68 (1 + x70) M69).bind fun (x71, M72) =>
        (f_L_draw l1 (30 + l9) 32 M72).bind fun x73 =>
        (f_L_flags x73 M72).bind fun (x74, M75) =>
        (f_J4_append_15ec4 x71 x74 M75).bind fun (x76, M77) =>
        (f_J4_append_15ec4 x76 44 M77).bind fun (x78, M79) =>
        f_L_load_213 (f_L_load_108 fu) l0 l1 l2 l3 l4 l5 l6 l7 (l8 + 1) l9 M79
      )
    )
def f_L_load_97 (l0 : Nat) (l1 : Nat) (l2 : Int32) (l3 : Int32) (l4 : Int32) (l5 : Int32) (l6 : Nat) (M : Mem) : Option ((Bool ⊕ String) × Mem) :=
  (alc M).bind fun r12 =>
  f_L_load_108 9 l0 l1 l2 l3 l4 l5 l6 r12 0 0 (mnew M (.inl (0, (3, .inl (fun _ => 0)))))
def f_L_load_63 : Nat → Nat → Nat → Int32 → Int32 → Int32 → Int32 → Nat → Int32 → Mem → Option ((Bool ⊕ String) × Mem)
  | 0 => fun _ _ _ _ _ _ _ _ _ => none
  | fu + 1 => fun l0 l1 l2 l3 l4 l5 l6 l7 M =>
    if l2 ≤ l7 then (
      f_L_load_97 l0 l1 l2 l3 l4 l5 l6 M
    ) else (
      (f_J4_append_15ec4 l6 45 M).bind fun (x80, M81) =>
      (f_J4_append_cf468 x80 (((97 + l7).toUInt32 % 65536).toInt32) M81).bind fun (x82, M83) =>
      (f_J4_append_15ec4 x82 44 M83).bind fun (x84, M85) =>
      (f_L_load_63 fu) l0 l1 l2 l3 l4 l5 l6 (l7 + 1) M85
    )
def f_L_load (a0 : Nat) (a1 : Nat) (M : Mem) : Option ((Bool ⊕ String) × Mem) :=
  (f_L_draw a1 0 3 M).bind fun x1 =>
  (f_L_draw a1 1 4 M).bind fun x2 =>
  (f_L_draw a1 2 9 M).bind fun x3 =>
  (f_L_draw a1 3 25 M).bind fun x4 =>
  (alc M).bind fun r5 =>
  (f_J4_init_a7421 r5 43 (mnew M (.inr (12, [.null, .int 0, .int 0, .int 0])))).bind fun M7 =>
  (f_J4_append_bf812 r5 (6 + x4) M7).bind fun (x8, M9) =>
  (f_J4_append_15ec4 x8 44 M9).bind fun (x10, M11) =>
  f_L_load_63 4 a0 a1 (1 + x1) (1 + x2) x3 (6 + x4) x10 0 M11
def f_L_selected (a0 : Nat) (a1 : Int32) (a2 : Int32) (a3 : Bool) (M : Mem) : Option (Int32 × Mem) :=
  bH [("java/lang/IllegalStateException", (-2147483648))] (f_X11_select a0 a1 a2 a3 M) fun x1 M2 =>
  some (x1, M2)
def f_L_nooped (a0 : Nat) (a1 : Int32) (M : Mem) : Option (Int32 × Mem) :=
  bH [("java/lang/IllegalStateException", (-2147483648))] (f_X11_noop a0 a1 M) fun x1 M2 =>
  some (x1, M2)
def f_L_started (a0 : Nat) (a1 : Int32) (M : Mem) : Option (Int32 × Mem) :=
  bH [("java/lang/IllegalStateException", (-2147483648))] (f_X11_startIdle a0 a1 M) fun x1 M2 =>
  some (x1, M2)
def f_L_stopped (a0 : Nat) (a1 : Int32) (M : Mem) : Option (Int32 × Mem) :=
  bH [("java/lang/IllegalStateException", (-2147483648))] (f_X11_stopIdle a0 a1 M) fun x1 M2 =>
  some (x1, M2)
def f_L_fetched (a0 : Nat) (a1 : Int32) (a2 : Int32) (a3 : Int32) (a4 : Bool) (M : Mem) : Option (Int32 × Mem) :=
  bH [("java/lang/IllegalStateException", (-2147483648))] (f_X11_fetch a0 a1 a2 a3 a4 M) fun x1 M2 =>
  some (x1, M2)
def f_L_stored (a0 : Nat) (a1 : Int32) (a2 : Int32) (a3 : Int32) (a4 : Int32) (a5 : Int32) (a6 : Bool) (M : Mem) : Option (Int32 × Mem) :=
  bH [("java/lang/IllegalStateException", (-2147483648))] (f_X11_store a0 a1 a2 a3 a4 a5 a6 M) fun x1 M2 =>
  some (x1, M2)
def f_L_uidStored (a0 : Nat) (a1 : Int32) (a2 : Int32) (a3 : Int32) (a4 : Int32) (a5 : Int32) (M : Mem) : Option (Int32 × Mem) :=
  bH [("java/lang/IllegalStateException", (-2147483648))] (f_X11_uidStore a0 a1 a2 a3 a4 a5 M) fun x1 M2 =>
  some (x1, M2)
def f_L_expunged (a0 : Nat) (a1 : Int32) (M : Mem) : Option (Int32 × Mem) :=
  bH [("java/lang/IllegalStateException", (-2147483648))] (f_X11_expunge a0 a1 M) fun x1 M2 =>
  some (x1, M2)
def f_L_copied (a0 : Nat) (a1 : Int32) (a2 : Int32) (a3 : Int32) (a4 : Int32) (M : Mem) : Option (Int32 × Mem) :=
  bH [("java/lang/IllegalStateException", (-2147483648))] (f_X11_copy a0 a1 a2 a3 a4 M) fun x1 M2 =>
  some (x1, M2)
def f_L_moved (a0 : Nat) (a1 : Int32) (a2 : Int32) (a3 : Int32) (a4 : Int32) (M : Mem) : Option (Int32 × Mem) :=
  bH [("java/lang/IllegalStateException", (-2147483648))] (f_X11_move a0 a1 a2 a3 a4 M) fun x1 M2 =>
  some (x1, M2)
def f_L_closed (a0 : Nat) (a1 : Int32) (M : Mem) : Option (Int32 × Mem) :=
  bH [("java/lang/IllegalStateException", (-2147483648))] (f_X11_close a0 a1 M) fun x1 M2 =>
  some (x1, M2)
def f_L_delivered (a0 : Nat) (a1 : Int32) (a2 : Int32) (a3 : Int32) (M : Mem) : Option (Int32 × Mem) :=
  bH [("java/lang/IllegalStateException", (-2147483648))] (f_X11_deliver a0 a1 a2 a3 M) fun x1 M2 =>
  some (x1, M2)
def f_L_boxOf_11 : Nat → Nat → Int32 → Int64 → Int32 → Mem → Option ((Int64 ⊕ String) × Mem)
  | 0 => fun _ _ _ _ _ => none
  | fu + 1 => fun l0 l1 l2 l4 M =>
    bX (f_X11_box l0 l1 0 M) fun x3 M4 =>
    if x3 ≤ l4 then (
      some (.inl l2, M4)
    ) else (
      bX (f_X11_message l0 l1 l4 0 M4) fun x5 M6 =>
      bX (f_X11_message l0 l1 l4 1 M6) fun x7 M8 =>
      bX (f_X11_message l0 l1 l4 2 M8) fun x9 M10 =>
      (f_L_boxOf_11 fu) l0 l1 ((31 * ((31 * ((31 * l2) + (Int32.toInt64 x5))) + (Int32.toInt64 x7))) + (Int32.toInt64 x9)) (l4 + 1) M10
    )
def f_L_boxOf (a0 : Nat) (a1 : Int32) (M : Mem) : Option ((Int64 ⊕ String) × Mem) :=
  bX (f_X11_box a0 a1 1 M) fun x1 M2 =>
  f_L_boxOf_11 31 a0 a1 (Int32.toInt64 x1) 0 M2
def f_L_viewOf_85 : Nat → Nat → Int32 → Int64 → Int32 → Mem → Option ((Int64 ⊕ String) × Mem)
  | 0 => fun _ _ _ _ _ => none
  | fu + 1 => fun l0 l1 l2 l4 M =>
    if 5 ≤ l4 then (
      some (.inl l2, M)
    ) else (
      bX (f_X11_account l0 l1 l4 M) fun x9 M10 =>
      (f_L_viewOf_85 fu) l0 l1 ((1000003 * l2) + (Int32.toInt64 x9)) (l4 + 1) M10
    )
def f_L_viewOf_82 (l0 : Nat) (l1 : Int32) (l2 : Int64) (M : Mem) : Option ((Int64 ⊕ String) × Mem) :=
  f_L_viewOf_85 6 l0 l1 l2 0 M
def f_L_viewOf_35 : Nat → Nat → Int32 → Int64 → Int32 → Mem → Option ((Int64 ⊕ String) × Mem)
  | 0 => fun _ _ _ _ _ => none
  | fu + 1 => fun l0 l1 l2 l4 M =>
    bX (f_X11_session l0 l1 3 M) fun x7 M8 =>
    if x7 < l4 then (
      f_L_viewOf_82 l0 l1 l2 M8
    ) else (
      bX (f_X11_entry l0 l1 l4 0 M8) fun x11 M12 =>
      bX (f_X11_entry l0 l1 l4 1 M12) fun x13 M14 =>
      (f_L_viewOf_35 fu) l0 l1 ((31 * ((31 * l2) + (Int32.toInt64 x11))) + (Int32.toInt64 x13)) (l4 + 1) M14
    )
def f_L_viewOf (a0 : Nat) (a1 : Int32) (M : Mem) : Option ((Int64 ⊕ String) × Mem) :=
  bX (f_X11_session a0 a1 0 M) fun x1 M2 =>
  bX (f_X11_session a0 a1 1 M2) fun x3 M4 =>
  bX (f_X11_session a0 a1 2 M4) fun x5 M6 =>
  f_L_viewOf_35 61 a0 a1 ((31 * ((31 * (Int32.toInt64 x1)) + (Int32.toInt64 x3))) + (Int32.toInt64 x5)) 1 M6
def f_L_all_38 : Nat → Nat → Int64 → Int32 → Mem → Option ((Int64 ⊕ String) × Mem)
  | 0 => fun _ _ _ _ => none
  | fu + 1 => fun l0 l1 l3 M =>
    bX (f_X11_property l0 1 M) fun x5 M6 =>
    if x5 ≤ l3 then (
      some (.inl l1, M6)
    ) else (
      bX (f_L_viewOf l0 l3 M6) fun x7 M8 =>
      (f_L_all_38 fu) l0 ((1000003 * l1) + x7) (l3 + 1) M8
    )
def f_L_all_36 (l0 : Nat) (l1 : Int64) (M : Mem) : Option ((Int64 ⊕ String) × Mem) :=
  f_L_all_38 5 l0 l1 0 M
def f_L_all_9 : Nat → Nat → Int64 → Int32 → Mem → Option ((Int64 ⊕ String) × Mem)
  | 0 => fun _ _ _ _ => none
  | fu + 1 => fun l0 l1 l3 M =>
    bX (f_X11_property l0 0 M) fun x3 M4 =>
    if x3 ≤ l3 then (
      f_L_all_36 l0 l1 M4
    ) else (
      bX (f_L_boxOf l0 l3 M4) fun x9 M10 =>
      (f_L_all_9 fu) l0 ((1000003 * l1) + x9) (l3 + 1) M10
    )
def f_L_all (a0 : Nat) (M : Mem) : Option ((Int64 ⊕ String) × Mem) :=
  bX (f_X11_property a0 2 M) fun x1 M2 =>
  f_L_all_9 4 a0 (Int32.toInt64 x1) 0 M2
def f_L_act_186 (s0 : Nat) (s1 : Int32) (s2 : Int32) (s3 : Bool) (M : Mem) : Option ((Int32 ⊕ String) × Mem) :=
  (f_L_selected s0 s1 s2 s3 M).bind fun (x13, M14) =>
  some (.inl x13, M14)
def f_L_act_202 (l0 : Nat) (l3 : Int32) (M : Mem) : Option ((Int32 ⊕ String) × Mem) :=
  (f_L_stopped l0 l3 M).bind fun (x19, M20) =>
  some (.inl x19, M20)
def f_L_act_236 (s0 : Nat) (s1 : Int32) (s2 : Int32) (s3 : Int32) (s4 : Bool) (M : Mem) : Option ((Int32 ⊕ String) × Mem) :=
  (f_L_fetched s0 s1 s2 s3 s4 M).bind fun (x21, M22) =>
  some (.inl x21, M22)
def f_L_act_274 (s0 : Nat) (s1 : Int32) (s2 : Int32) (s3 : Int32) (s4 : Int32) (s5 : Int32) (s6 : Bool) (M : Mem) : Option ((Int32 ⊕ String) × Mem) :=
  (f_L_stored s0 s1 s2 s3 s4 s5 s6 M).bind fun (x23, M24) =>
  some (.inl x23, M24)
def f_L_act_240 (l0 : Nat) (l3 : Int32) (l5 : Int32) (l6 : Int32) (l7 : Int32) (l8 : Int32) (M : Mem) : Option ((Int32 ⊕ String) × Mem) :=
  if l5 = 0 then (
    some (.inl (-2147483648), M)
  ) else (
    if l8 ≤ 20 then (
      f_L_act_274 l0 l3 l6 l7 (l8 - l8 / 3 * 3) l8 false M
    ) else (
      f_L_act_274 l0 l3 l6 l7 (l8 - l8 / 3 * 3) l8 true M
    )
  )
def f_L_act_299 (l0 : Nat) (l3 : Int32) (M : Mem) : Option ((Int32 ⊕ String) × Mem) :=
  (f_L_expunged l0 l3 M).bind fun (x27, M28) =>
  some (.inl x27, M28)
def f_L_act_81 (l0 : Nat) (l1 : Nat) (l2 : Int32) (l3 : Int32) (l4 : Int32) (l5 : Int32) (l6 : Int32) (s0 : Int32) (M : Mem) : Option ((Int32 ⊕ String) × Mem) :=
  (f_L_draw l1 (l2 + 4) 32 M).bind fun x11 =>
  (f_L_draw l1 (l2 + 5) 16 M).bind fun x12 =>
  if x12 = 0 then (
    if x11 = 0 then (
      f_L_act_186 l0 l3 l4 true M
    ) else (
      f_L_act_186 l0 l3 l4 false M
    )
  ) else
  if x12 = 1 then (
    (f_L_nooped l0 l3 M).bind fun (x15, M16) =>
    some (.inl x15, M16)
  ) else
  if x12 = 2 then (
    (f_L_started l0 l3 M).bind fun (x17, M18) =>
    some (.inl x17, M18)
  ) else
  if x12 = 3 then (
    f_L_act_202 l0 l3 M
  ) else
  if x12 = 4 then (
    f_L_act_202 l0 l3 M
  ) else
  if x12 = 5 then (
    if l5 = 0 then (
      some (.inl (-2147483648), M)
    ) else (
      if (x11 - x11 / 2 * 2) = 0 then (
        f_L_act_236 l0 l3 l6 s0 true M
      ) else (
        f_L_act_236 l0 l3 l6 s0 false M
      )
    )
  ) else
  if x12 = 6 then (
    f_L_act_240 l0 l3 l5 l6 s0 x11 M
  ) else
  if x12 = 7 then (
    f_L_act_240 l0 l3 l5 l6 s0 x11 M
  ) else
  if x12 = 8 then (
    (f_L_uidStored l0 l3 (x11 - x11 / 5 * 5) (x11 - x11 / 11 * 11) (x11 - x11 / 3 * 3) x11 M).bind fun (x25, M26) =>
    some (.inl x25, M26)
  ) else
  if x12 = 9 then (
    f_L_act_299 l0 l3 M
  ) else
  if x12 = 10 then (
    f_L_act_299 l0 l3 M
  ) else
  if x12 = 11 then (
    if l5 = 0 then (
      some (.inl (-2147483648), M)
    ) else (
      (f_L_copied l0 l3 l6 s0 l4 M).bind fun (x29, M30) =>
      some (.inl x29, M30)
    )
  ) else
  if x12 = 12 then (
    if l5 = 0 then (
      some (.inl (-2147483648), M)
    ) else (
      (f_L_moved l0 l3 l6 s0 l4 M).bind fun (x31, M32) =>
      some (.inl x31, M32)
    )
  ) else
  if x12 = 13 then (
    (f_L_closed l0 l3 M).bind fun (x33, M34) =>
    some (.inl x33, M34)
  ) else
  (
    (f_L_delivered l0 l4 (1 + x11) x11 M).bind fun (x35, M36) =>
    some (.inl x35, M36)
  )
def f_L_act_53 (l0 : Nat) (l1 : Nat) (l2 : Int32) (l3 : Int32) (l4 : Int32) (l5 : Int32) (s0 : Int32) (M : Mem) : Option ((Int32 ⊕ String) × Mem) :=
  if l5 = 0 then (
    f_L_act_81 l0 l1 l2 l3 l4 l5 s0 0 M
  ) else (
    (f_L_draw l1 (l2 + 3) ((l5 - s0) + 1) M).bind fun x10 =>
    f_L_act_81 l0 l1 l2 l3 l4 l5 s0 (s0 + x10) M
  )
def f_L_act (a0 : Nat) (a1 : Nat) (a2 : Int32) (M : Mem) : Option ((Int32 ⊕ String) × Mem) :=
  bX (f_X11_property a0 1 M) fun x1 M2 =>
  (f_L_draw a1 a2 x1 M2).bind fun x3 =>
  bX (f_X11_property a0 0 M2) fun x4 M5 =>
  (f_L_draw a1 (a2 + 1) x4 M5).bind fun x6 =>
  bX (f_X11_session a0 x3 3 M5) fun x7 M8 =>
  if x7 = 0 then (
    f_L_act_53 a0 a1 a2 x3 x6 x7 0 M8
  ) else (
    (f_L_draw a1 (a2 + 2) x7 M8).bind fun x9 =>
    f_L_act_53 a0 a1 a2 x3 x6 x7 (1 + x9) M8
  )
def f_L_views_62 (rc11 : Nat → Int32 → Nat → Int32 → Mem → Option ((Nat ⊕ String) × Mem)) (l0 : Nat) (l1 : Int32) (l2 : Nat) (l3 : Int32) (M : Mem) : Option ((Nat ⊕ String) × Mem) :=
  rc11 l0 l1 l2 (l3 + 1) M
def f_L_views_31 (rc11 : Nat → Int32 → Nat → Int32 → Mem → Option ((Nat ⊕ String) × Mem)) : Nat → Nat → Int32 → Nat → Int32 → Int32 → Mem → Option ((Nat ⊕ String) × Mem)
  | 0 => fun _ _ _ _ _ _ => none
  | fu + 1 => fun l0 l1 l2 l3 l4 M =>
    (aQ M 9 l2 l3).bind fun x9 =>
    (x9).bind fun r11 =>
    (aL M r11).bind fun x10 =>
    if x10 ≤ l4 then (
      f_L_views_62 rc11 l0 l1 l2 l3 M
    ) else (
      (aQ M 9 l2 l3).bind fun x12 =>
      bX (f_X11_entry l0 l3 (l4 + 1) l1 M) fun x13 M14 =>
      (x12).bind fun r16 =>
      (sI M14 0 r16 l4 x13).bind fun M15 =>
      (f_L_views_31 rc11 fu) l0 l1 l2 l3 (l4 + 1) M15
    )
def f_L_views_11 : Nat → Nat → Int32 → Nat → Int32 → Mem → Option ((Nat ⊕ String) × Mem)
  | 0 => fun _ _ _ _ _ => none
  | fu + 1 => fun l0 l1 l2 l3 M =>
    (aL M l2).bind fun x4 =>
    if x4 ≤ l3 then (
      some (.inl l2, M)
    ) else (
      bX (f_X11_session l0 l3 3 M) fun x5 M6 =>
      gd (okN 64 x5) ((alc M6).bind fun r7 =>
      gd (isI (mnew M6 (.inl (0, (x5.toNatClampNeg, .inl (fun _ => 0))))) r7) ((sQ (mnew M6 (.inl (0, (x5.toNatClampNeg, .inl (fun _ => 0))))) 9 l2 l3 (some r7)).bind fun M8 =>
      f_L_views_31 (f_L_views_11 fu) 61 l0 l1 l2 l3 0 M8
      )
      )
    )
def f_L_views (a0 : Nat) (a1 : Int32) (M : Mem) : Option ((Nat ⊕ String) × Mem) :=
  bX (f_X11_property a0 1 M) fun x1 M2 =>
  gd (okN 8 x1) ((alc M2).bind fun r3 =>
  f_L_views_11 5 a0 a1 r3 0 (mnew M2 (.inl (9, (x1.toNatClampNeg, .inr (.inr (.inr (.inr (fun _ => none))))))))
  )
def f_L_without_30 (rc9 : Nat → Int32 → Nat → Int32 → Mem → Option (Nat × Mem)) (l0 : Nat) (l1 : Int32) (l2 : Nat) (l3 : Int32) (s0 : Nat) (s1 : Int32) (s2 : Nat) (s3 : Int32) (M : Mem) : Option (Nat × Mem) :=
  (aI M 0 s2 s3).bind fun x4 =>
  (sI M 0 s0 s1 x4).bind fun M5 =>
  rc9 l0 l1 l2 (l3 + 1) M5
def f_L_without_9 : Nat → Nat → Int32 → Nat → Int32 → Mem → Option (Nat × Mem)
  | 0 => fun _ _ _ _ _ => none
  | fu + 1 => fun l0 l1 l2 l3 M =>
    (aL M l2).bind fun x3 =>
    if x3 ≤ l3 then (
      some (l2, M)
    ) else (
      if l1 ≤ l3 then (
        f_L_without_30 (f_L_without_9 fu) l0 l1 l2 l3 l2 l3 l0 (l3 + 1) M
      ) else (
        f_L_without_30 (f_L_without_9 fu) l0 l1 l2 l3 l2 l3 l0 l3 M
      )
    )
def f_L_without (a0 : Nat) (a1 : Int32) (M : Mem) : Option (Nat × Mem) :=
  (aL M a0).bind fun x1 =>
  gd (okN 64 (x1 - 1)) ((alc M).bind fun r2 =>
  f_L_without_9 FU a0 a1 r2 0 (mnew M (.inl (0, ((x1 - 1).toNatClampNeg, .inl (fun _ => 0)))))
  )
def f_L_longer_26 (rc6 : Nat → Int32 → Nat → Int32 → Mem → Option (Nat × Mem)) (l0 : Nat) (l1 : Int32) (l2 : Nat) (l3 : Int32) (s0 : Nat) (s1 : Int32) (s2 : Int32) (M : Mem) : Option (Nat × Mem) :=
  (sI M 0 s0 s1 s2).bind fun M3 =>
  rc6 l0 l1 l2 (l3 + 1) M3
def f_L_longer_6 : Nat → Nat → Int32 → Nat → Int32 → Mem → Option (Nat × Mem)
  | 0 => fun _ _ _ _ _ => none
  | fu + 1 => fun l0 l1 l2 l3 M =>
    if l1 ≤ l3 then (
      some (l2, M)
    ) else (
      (aL M l0).bind fun x2 =>
      if x2 ≤ l3 then (
        f_L_longer_26 (f_L_longer_6 fu) l0 l1 l2 l3 l2 l3 (-1) M
      ) else (
        (aI M 0 l0 l3).bind fun x4 =>
        f_L_longer_26 (f_L_longer_6 fu) l0 l1 l2 l3 l2 l3 x4 M
      )
    )
def f_L_longer (a0 : Nat) (a1 : Int32) (M : Mem) : Option (Nat × Mem) :=
  gd (okN 64 a1) ((alc M).bind fun r1 =>
  f_L_longer_6 FU a0 a1 r1 0 (mnew M (.inl (0, (a1.toNatClampNeg, .inl (fun _ => 0)))))
  )
def f_L_replays_289 (rc163 : Nat → Nat → Nat → Int32 → Bool → Int32 → Mem → Option ((Bool ⊕ String) × Mem)) (l0 : Nat) (l1 : Nat) (l2 : Nat) (l3 : Int32) (l4 : Bool) (l5 : Int32) (M : Mem) : Option ((Bool ⊕ String) × Mem) :=
  rc163 l0 l1 l2 l3 l4 (l5 + 1) M
def f_L_replays_283 (rc163 : Nat → Nat → Nat → Int32 → Bool → Int32 → Mem → Option ((Bool ⊕ String) × Mem)) (rc202 : Nat → Nat → Nat → Int32 → Bool → Int32 → Int32 → Mem → Option ((Bool ⊕ String) × Mem)) (l0 : Nat) (l1 : Nat) (l2 : Nat) (l3 : Int32) (l4 : Bool) (l5 : Int32) (l6 : Int32) (M : Mem) : Option ((Bool ⊕ String) × Mem) :=
  rc202 l0 l1 l2 l3 l4 l5 (l6 + 1) M
def f_L_replays_245 (rc163 : Nat → Nat → Nat → Int32 → Bool → Int32 → Mem → Option ((Bool ⊕ String) × Mem)) (rc202 : Nat → Nat → Nat → Int32 → Bool → Int32 → Int32 → Mem → Option ((Bool ⊕ String) × Mem)) (l0 : Nat) (l1 : Nat) (l2 : Nat) (l3 : Int32) (l4 : Bool) (l5 : Int32) (l6 : Int32) (M : Mem) : Option ((Bool ⊕ String) × Mem) :=
  bif l4 then (
    f_L_replays_283 rc163 rc202 l0 l1 l2 l3 l4 l5 l6 M
  ) else (
    (aQ M 9 l2 l5).bind fun x16 =>
    (x16).bind fun r18 =>
    (aI M 0 r18 l6).bind fun x17 =>
    if x17 < 0 then (
      f_L_replays_283 rc163 rc202 l0 l1 l2 l3 l4 l5 l6 M
    ) else (
      bX (f_X11_entry l0 l5 (l6 + 1) 1 M) fun x19 M20 =>
      (aQ M20 9 l2 l5).bind fun x21 =>
      (x21).bind fun r23 =>
      (aI M20 0 r23 l6).bind fun x22 =>
      if x19 = x22 then (
        f_L_replays_283 rc163 rc202 l0 l1 l2 l3 l4 l5 l6 M20
      ) else (
        some (.inl false, M20)
      )
    )
  )
def f_L_replays_202 (rc163 : Nat → Nat → Nat → Int32 → Bool → Int32 → Mem → Option ((Bool ⊕ String) × Mem)) : Nat → Nat → Nat → Nat → Int32 → Bool → Int32 → Int32 → Mem → Option ((Bool ⊕ String) × Mem)
  | 0 => fun _ _ _ _ _ _ _ _ => none
  | fu + 1 => fun l0 l1 l2 l3 l4 l5 l6 M =>
    (aQ M 9 l1 l5).bind fun x10 =>
    (x10).bind fun r12 =>
    (aL M r12).bind fun x11 =>
    if x11 ≤ l6 then (
      f_L_replays_289 rc163 l0 l1 l2 l3 l4 l5 M
    ) else (
      (aQ M 9 l1 l5).bind fun x13 =>
      (x13).bind fun r15 =>
      (aI M 0 r15 l6).bind fun x14 =>
      if x14 < 0 then (
        f_L_replays_245 rc163 (f_L_replays_202 rc163 fu) l0 l1 l2 l3 l4 l5 l6 M
      ) else (
        bX (f_X11_entry l0 l5 (l6 + 1) 0 M) fun x24 M25 =>
        (aQ M25 9 l1 l5).bind fun x26 =>
        (x26).bind fun r28 =>
        (aI M25 0 r28 l6).bind fun x27 =>
        if x24 = x27 then (
          f_L_replays_245 rc163 (f_L_replays_202 rc163 fu) l0 l1 l2 l3 l4 l5 l6 M25
        ) else (
          some (.inl false, M25)
        )
      )
    )
def f_L_replays_163 : Nat → Nat → Nat → Nat → Int32 → Bool → Int32 → Mem → Option ((Bool ⊕ String) × Mem)
  | 0 => fun _ _ _ _ _ _ _ => none
  | fu + 1 => fun l0 l1 l2 l3 l4 l5 M =>
    bX (f_X11_property l0 1 M) fun x3 M4 =>
    if x3 ≤ l5 then (
      some (.inl true, M4)
    ) else (
      if l5 = l3 then (
        f_L_replays_289 (f_L_replays_163 fu) l0 l1 l2 l3 l4 l5 M4
      ) else (
        bX (f_X11_session l0 l5 3 M4) fun x5 M6 =>
        (aQ M6 9 l1 l5).bind fun x7 =>
        (x7).bind fun r9 =>
        (aL M6 r9).bind fun x8 =>
        if x5 = x8 then (
          f_L_replays_202 (f_L_replays_163 fu) 61 l0 l1 l2 l3 l4 l5 0 M6
        ) else (
          some (.inl false, M6)
        )
      )
    )
def f_L_replays_160 (l0 : Nat) (l1 : Nat) (l2 : Nat) (l3 : Int32) (l4 : Bool) (M : Mem) : Option ((Bool ⊕ String) × Mem) :=
  f_L_replays_163 5 l0 l1 l2 l3 l4 0 M
def f_L_replays_154 (rc3 : Nat → Nat → Nat → Int32 → Bool → Int32 → Mem → Option ((Bool ⊕ String) × Mem)) (l0 : Nat) (l1 : Nat) (l2 : Nat) (l3 : Int32) (l4 : Bool) (l5 : Int32) (M : Mem) : Option ((Bool ⊕ String) × Mem) :=
  rc3 l0 l1 l2 l3 l4 (l5 + 1) M
def f_L_replays_3 : Nat → Nat → Nat → Nat → Int32 → Bool → Int32 → Mem → Option ((Bool ⊕ String) × Mem)
  | 0 => fun _ _ _ _ _ _ _ => none
  | fu + 1 => fun l0 l1 l2 l3 l4 l5 M =>
    bX (f_X11_property l0 4 M) fun x1 M2 =>
    if x1 ≤ l5 then (
      f_L_replays_160 l0 l1 l2 l3 l4 M2
    ) else (
      bX (f_X11_notice l0 l5 0 M2) fun x29 M30 =>
      bX (f_X11_notice l0 l5 2 M30) fun x31 M32 =>
      bX (f_X11_notice l0 l5 1 M32) fun x33 M34 =>
      if x33 = 0 then (
        (aQ M34 9 l1 x29).bind fun x35 =>
        (x35).bind fun r36 =>
        (f_L_without r36 (x31 - 1) M34).bind fun (x37, M38) =>
        gd (isI M38 x37) ((sQ M38 9 l1 x29 (some x37)).bind fun M39 =>
        (aQ M39 9 l2 x29).bind fun x40 =>
        (x40).bind fun r41 =>
        (f_L_without r41 (x31 - 1) M39).bind fun (x42, M43) =>
        gd (isI M43 x42) ((sQ M43 9 l2 x29 (some x42)).bind fun M44 =>
        f_L_replays_154 (f_L_replays_3 fu) l0 l1 l2 l3 l4 l5 M44
        )
        )
      ) else if x33 = 1 then (
        (aQ M34 9 l2 x29).bind fun x45 =>
        bX (f_X11_notice l0 l5 3 M34) fun x46 M47 =>
        (x45).bind fun r49 =>
        (sI M47 0 r49 (x31 - 1) x46).bind fun M48 =>
        f_L_replays_154 (f_L_replays_3 fu) l0 l1 l2 l3 l4 l5 M48
      ) else (
        (aQ M34 9 l1 x29).bind fun x50 =>
        (x50).bind fun r52 =>
        (aL M34 r52).bind fun x51 =>
        if x51 < x31 then (
          (aQ M34 9 l1 x29).bind fun x53 =>
          (x53).bind fun r54 =>
          (f_L_longer r54 x31 M34).bind fun (x55, M56) =>
          gd (isI M56 x55) ((sQ M56 9 l1 x29 (some x55)).bind fun M57 =>
          (aQ M57 9 l2 x29).bind fun x58 =>
          (x58).bind fun r59 =>
          (f_L_longer r59 x31 M57).bind fun (x60, M61) =>
          gd (isI M61 x60) ((sQ M61 9 l2 x29 (some x60)).bind fun M62 =>
          f_L_replays_154 (f_L_replays_3 fu) l0 l1 l2 l3 l4 l5 M62
          )
          )
        ) else (
          some (.inl false, M34)
        )
      )
    )
def f_L_replays (a0 : Nat) (a1 : Nat) (a2 : Nat) (a3 : Int32) (a4 : Bool) (M : Mem) : Option ((Bool ⊕ String) × Mem) :=
  f_L_replays_3 246 a0 a1 a2 a3 a4 0 M
def f_L_session_516 (s0 : Int32) (s1 : Bool) (M : Mem) : Option ((Bool ⊕ String) × Mem) :=
  if s0 = (b2i s1) then (
    some (.inl true, M)
  ) else (
    some (.inl false, M)
  )
def f_L_session_515 (s0 : Int32) (M : Mem) : Option ((Bool ⊕ String) × Mem) :=
  f_L_session_516 s0 false M
def f_L_session_491 (l0 : Nat) (l1 : Int32) (l2 : Int32) (l10 : Int32) (s0 : Bool) (s1 : Bool) (M : Mem) : Option ((Bool ⊕ String) × Mem) :=
  if (b2i s0) = (b2i s1) then (
    (f_X11_stale l0 M).bind fun x21 =>
    if l2 < 0 then (
      f_L_session_515 ((x21 >>> (l1 &&& 31)) &&& 1) M
    ) else (
      if l10 ≤ 0 then (
        f_L_session_515 ((x21 >>> (l1 &&& 31)) &&& 1) M
      ) else (
        f_L_session_516 ((x21 >>> (l1 &&& 31)) &&& 1) true M
      )
    )
  ) else (
    some (.inl false, M)
  )
def f_L_session_490 (l0 : Nat) (l1 : Int32) (l2 : Int32) (l10 : Int32) (s0 : Bool) (M : Mem) : Option ((Bool ⊕ String) × Mem) :=
  f_L_session_491 l0 l1 l2 l10 s0 false M
def f_L_session_459 (l0 : Nat) (l1 : Int32) (l2 : Int32) (s0 : Int32) (s1 : Bool) (M : Mem) : Option ((Bool ⊕ String) × Mem) :=
  bX (f_X11_pending l0 l1 M) fun x17 M18 =>
  if x17 = (s0 + (b2i s1)) then (
    bX (f_X11_isCurrent l0 l1 M18) fun x19 M20 =>
    if l2 < 0 then (
      f_L_session_490 l0 l1 l2 (s0 + (b2i s1)) x19 M20
    ) else (
      if (s0 + (b2i s1)) = 0 then (
        f_L_session_491 l0 l1 l2 (s0 + (b2i s1)) x19 true M20
      ) else (
        f_L_session_490 l0 l1 l2 (s0 + (b2i s1)) x19 M20
      )
    )
  ) else (
    some (.inl false, M18)
  )
def f_L_session_458 (l0 : Nat) (l1 : Int32) (l2 : Int32) (s0 : Int32) (M : Mem) : Option ((Bool ⊕ String) × Mem) :=
  f_L_session_459 l0 l1 l2 s0 false M
def f_L_session_372 (l0 : Nat) (l1 : Int32) (l2 : Int32) (l3 : Int32) (l4 : Int32) (l6 : Int32) (l7 : Int32) (l9 : Int32) (M : Mem) : Option ((Bool ⊕ String) × Mem) :=
  bX (f_X11_session l0 l1 4 M) fun x5 M6 =>
  if x5 = l3 then (
    bX (f_X11_session l0 l1 5 M6) fun x7 M8 =>
    if x7 = l4 then (
      bX (f_X11_session l0 l1 6 M8) fun x9 M10 =>
      if l9 < x9 then (
        some (.inl false, M10)
      ) else (
        bX (f_X11_firstUnseen l0 l1 M10) fun x11 M12 =>
        if x11 = l6 then (
          bX (f_X11_largest l0 l1 M12) fun x13 M14 =>
          if x13 = l7 then (
            bX (f_X11_session l0 l1 6 M14) fun x15 M16 =>
            if x15 ≤ 0 then (
              f_L_session_458 l0 l1 l2 (l3 + l4) M16
            ) else (
              bX (f_X11_session l0 l1 3 M16) fun x22 M23 =>
              if 60 ≤ (x22 - l3) then (
                f_L_session_458 l0 l1 l2 (l3 + l4) M23
              ) else (
                f_L_session_459 l0 l1 l2 (l3 + l4) true M23
              )
            )
          ) else (
            some (.inl false, M14)
          )
        ) else (
          some (.inl false, M12)
        )
      )
    ) else (
      some (.inl false, M8)
    )
  ) else (
    some (.inl false, M6)
  )
def f_L_session_363 (rc312 : Nat → Int32 → Int32 → Int32 → Int32 → Int32 → Int32 → Int32 → Int32 → Int32 → Mem → Option ((Bool ⊕ String) × Mem)) (l0 : Nat) (l1 : Int32) (l2 : Int32) (l3 : Int32) (l4 : Int32) (l5 : Int32) (l6 : Int32) (l7 : Int32) (l10 : Int32) (s0 : Int32) (s1 : Bool) (M : Mem) : Option ((Bool ⊕ String) × Mem) :=
  rc312 l0 l1 l2 l3 l4 l5 l6 l7 (s0 + (b2i s1)) (l10 + 1) M
def f_L_session_362 (rc312 : Nat → Int32 → Int32 → Int32 → Int32 → Int32 → Int32 → Int32 → Int32 → Int32 → Mem → Option ((Bool ⊕ String) × Mem)) (l0 : Nat) (l1 : Int32) (l2 : Int32) (l3 : Int32) (l4 : Int32) (l5 : Int32) (l6 : Int32) (l7 : Int32) (l10 : Int32) (s0 : Int32) (M : Mem) : Option ((Bool ⊕ String) × Mem) :=
  f_L_session_363 rc312 l0 l1 l2 l3 l4 l5 l6 l7 l10 s0 false M
def f_L_session_312 : Nat → Nat → Int32 → Int32 → Int32 → Int32 → Int32 → Int32 → Int32 → Int32 → Int32 → Mem → Option ((Bool ⊕ String) × Mem)
  | 0 => fun _ _ _ _ _ _ _ _ _ _ _ => none
  | fu + 1 => fun l0 l1 l2 l3 l4 l5 l6 l7 l9 l10 M =>
    if l2 < 0 then (
      f_L_session_372 l0 l1 l2 l3 l4 l6 l7 l9 M
    ) else (
      bX (f_X11_box l0 l2 0 M) fun x24 M25 =>
      if x24 ≤ l10 then (
        f_L_session_372 l0 l1 l2 l3 l4 l6 l7 l9 M25
      ) else (
        bX (f_X11_message l0 l2 l10 0 M25) fun x26 M27 =>
        if x26 ≤ l5 then (
          f_L_session_362 (f_L_session_312 fu) l0 l1 l2 l3 l4 l5 l6 l7 l10 l9 M27
        ) else (
          bX (f_X11_message l0 l2 l10 0 M27) fun x28 M29 =>
          bX (f_X11_numberOf l0 l1 x28 M29) fun x30 M31 =>
          if 0 ≤ x30 then (
            f_L_session_362 (f_L_session_312 fu) l0 l1 l2 l3 l4 l5 l6 l7 l10 l9 M31
          ) else (
            f_L_session_363 (f_L_session_312 fu) l0 l1 l2 l3 l4 l5 l6 l7 l10 l9 true M31
          )
        )
      )
    )
def f_L_session_306 (l0 : Nat) (l1 : Int32) (l2 : Int32) (l3 : Int32) (l4 : Int32) (l5 : Int32) (l6 : Int32) (l7 : Int32) (M : Mem) : Option ((Bool ⊕ String) × Mem) :=
  f_L_session_312 31 l0 l1 l2 l3 l4 l5 l6 l7 0 0 M
def f_L_session_296 (rc27 : Nat → Int32 → Int32 → Int32 → Int32 → Int32 → Int32 → Int32 → Int32 → Int32 → Mem → Option ((Bool ⊕ String) × Mem)) (l0 : Nat) (l1 : Int32) (l2 : Int32) (l3 : Int32) (l4 : Int32) (l6 : Int32) (l7 : Int32) (l8 : Int32) (l9 : Int32) (l10 : Int32) (M : Mem) : Option ((Bool ⊕ String) × Mem) :=
  rc27 l0 l1 l2 l3 l4 l10 l6 l7 l8 (l9 + 1) M
def f_L_session_262 (rc27 : Nat → Int32 → Int32 → Int32 → Int32 → Int32 → Int32 → Int32 → Int32 → Int32 → Mem → Option ((Bool ⊕ String) × Mem)) (l0 : Nat) (l1 : Int32) (l2 : Int32) (l3 : Int32) (l4 : Int32) (l7 : Int32) (l8 : Int32) (l9 : Int32) (l10 : Int32) (l11 : Int32) (s0 : Int32) (M : Mem) : Option ((Bool ⊕ String) × Mem) :=
  if l11 < 0 then (
    f_L_session_296 rc27 l0 l1 l2 l3 l4 s0 l7 l8 l9 l10 M
  ) else (
    bX (f_X11_message l0 l2 l11 1 M) fun x50 M51 =>
    if x50 ≤ l8 then (
      f_L_session_296 rc27 l0 l1 l2 l3 l4 s0 l7 l8 l9 l10 M51
    ) else (
      bX (f_X11_message l0 l2 l11 1 M51) fun x52 M53 =>
      f_L_session_296 rc27 l0 l1 l2 l3 l4 s0 l9 x52 l9 l10 M53
    )
  )
def f_L_session_260 (rc27 : Nat → Int32 → Int32 → Int32 → Int32 → Int32 → Int32 → Int32 → Int32 → Int32 → Mem → Option ((Bool ⊕ String) × Mem)) (l0 : Nat) (l1 : Int32) (l2 : Int32) (l3 : Int32) (l4 : Int32) (l6 : Int32) (l7 : Int32) (l8 : Int32) (l9 : Int32) (l10 : Int32) (l11 : Int32) (M : Mem) : Option ((Bool ⊕ String) × Mem) :=
  f_L_session_262 rc27 l0 l1 l2 l3 l4 l7 l8 l9 l10 l11 l6 M
def f_L_session_234 (rc27 : Nat → Int32 → Int32 → Int32 → Int32 → Int32 → Int32 → Int32 → Int32 → Int32 → Mem → Option ((Bool ⊕ String) × Mem)) (l0 : Nat) (l1 : Int32) (l2 : Int32) (l3 : Int32) (l6 : Int32) (l7 : Int32) (l8 : Int32) (l9 : Int32) (l10 : Int32) (l11 : Int32) (s0 : Int32) (s1 : Bool) (M : Mem) : Option ((Bool ⊕ String) × Mem) :=
  if 0 ≤ l6 then (
    f_L_session_260 rc27 l0 l1 l2 l3 (s0 + (b2i s1)) l6 l7 l8 l9 l10 l11 M
  ) else (
    bX (f_X11_entry l0 l1 l9 1 M) fun x54 M55 =>
    if (x54 &&& 1) = 0 then (
      f_L_session_262 rc27 l0 l1 l2 l3 (s0 + (b2i s1)) l7 l8 l9 l10 l11 l9 M55
    ) else (
      f_L_session_260 rc27 l0 l1 l2 l3 (s0 + (b2i s1)) l6 l7 l8 l9 l10 l11 M55
    )
  )
def f_L_session_233 (rc27 : Nat → Int32 → Int32 → Int32 → Int32 → Int32 → Int32 → Int32 → Int32 → Int32 → Mem → Option ((Bool ⊕ String) × Mem)) (l0 : Nat) (l1 : Int32) (l2 : Int32) (l3 : Int32) (l6 : Int32) (l7 : Int32) (l8 : Int32) (l9 : Int32) (l10 : Int32) (l11 : Int32) (s0 : Int32) (M : Mem) : Option ((Bool ⊕ String) × Mem) :=
  f_L_session_234 rc27 l0 l1 l2 l3 l6 l7 l8 l9 l10 l11 s0 false M
def f_L_session_201 (rc27 : Nat → Int32 → Int32 → Int32 → Int32 → Int32 → Int32 → Int32 → Int32 → Int32 → Mem → Option ((Bool ⊕ String) × Mem)) (l0 : Nat) (l1 : Int32) (l2 : Int32) (l4 : Int32) (l6 : Int32) (l7 : Int32) (l8 : Int32) (l9 : Int32) (l10 : Int32) (l11 : Int32) (s0 : Int32) (s1 : Bool) (M : Mem) : Option ((Bool ⊕ String) × Mem) :=
  if l11 < 0 then (
    f_L_session_233 rc27 l0 l1 l2 (s0 + (b2i s1)) l6 l7 l8 l9 l10 l11 l4 M
  ) else (
    bX (f_X11_message l0 l2 l11 2 M) fun x56 M57 =>
    bX (f_X11_entry l0 l1 l9 1 M57) fun x58 M59 =>
    if x56 = x58 then (
      f_L_session_233 rc27 l0 l1 l2 (s0 + (b2i s1)) l6 l7 l8 l9 l10 l11 l4 M59
    ) else (
      f_L_session_234 rc27 l0 l1 l2 (s0 + (b2i s1)) l6 l7 l8 l9 l10 l11 l4 true M59
    )
  )
def f_L_session_185 (rc27 : Nat → Int32 → Int32 → Int32 → Int32 → Int32 → Int32 → Int32 → Int32 → Int32 → Mem → Option ((Bool ⊕ String) × Mem)) (l0 : Nat) (l1 : Int32) (l2 : Int32) (l3 : Int32) (l4 : Int32) (l6 : Int32) (l7 : Int32) (l8 : Int32) (l9 : Int32) (l10 : Int32) (l11 : Int32) (s0 : Int32) (s1 : Int32) (M : Mem) : Option ((Bool ⊕ String) × Mem) :=
  if s0 = s1 then (
    if 0 ≤ l11 then (
      f_L_session_201 rc27 l0 l1 l2 l4 l6 l7 l8 l9 l10 l11 l3 false M
    ) else (
      f_L_session_201 rc27 l0 l1 l2 l4 l6 l7 l8 l9 l10 l11 l3 true M
    )
  ) else (
    some (.inl false, M)
  )
def f_L_session_160 (rc27 : Nat → Int32 → Int32 → Int32 → Int32 → Int32 → Int32 → Int32 → Int32 → Int32 → Mem → Option ((Bool ⊕ String) × Mem)) (l0 : Nat) (l1 : Int32) (l2 : Int32) (l3 : Int32) (l4 : Int32) (l6 : Int32) (l7 : Int32) (l8 : Int32) (l9 : Int32) (l10 : Int32) (l11 : Int32) (s0 : Int32) (s1 : Int32) (M : Mem) : Option ((Bool ⊕ String) × Mem) :=
  if s0 = s1 then (
    bX (f_X11_numberThen l0 l1 l9 M) fun x48 M49 =>
    if 0 ≤ l11 then (
      f_L_session_185 rc27 l0 l1 l2 l3 l4 l6 l7 l8 l9 l10 l11 x48 (l9 - l3) M49
    ) else (
      f_L_session_185 rc27 l0 l1 l2 l3 l4 l6 l7 l8 l9 l10 l11 x48 (-1) M49
    )
  ) else (
    some (.inl false, M)
  )
def f_L_session_132 (rc27 : Nat → Int32 → Int32 → Int32 → Int32 → Int32 → Int32 → Int32 → Int32 → Int32 → Mem → Option ((Bool ⊕ String) × Mem)) (l0 : Nat) (l1 : Int32) (l2 : Int32) (l3 : Int32) (l4 : Int32) (l6 : Int32) (l7 : Int32) (l8 : Int32) (l9 : Int32) (l10 : Int32) (l11 : Int32) (s0 : Int32) (s1 : Int32) (M : Mem) : Option ((Bool ⊕ String) × Mem) :=
  if s0 = s1 then (
    bX (f_X11_entry l0 l1 l9 4 M) fun x44 M45 =>
    if 0 ≤ l11 then (
      bX (f_X11_message l0 l2 l11 2 M45) fun x46 M47 =>
      f_L_session_160 rc27 l0 l1 l2 l3 l4 l6 l7 l8 l9 l10 l11 x44 x46 M47
    ) else (
      f_L_session_160 rc27 l0 l1 l2 l3 l4 l6 l7 l8 l9 l10 l11 x44 0 M45
    )
  ) else (
    some (.inl false, M)
  )
def f_L_session_90 (rc27 : Nat → Int32 → Int32 → Int32 → Int32 → Int32 → Int32 → Int32 → Int32 → Int32 → Mem → Option ((Bool ⊕ String) × Mem)) (l0 : Nat) (l1 : Int32) (l2 : Int32) (l3 : Int32) (l4 : Int32) (l6 : Int32) (l7 : Int32) (l8 : Int32) (l9 : Int32) (l10 : Int32) (l11 : Int32) (s0 : Int32) (s1 : Bool) (M : Mem) : Option ((Bool ⊕ String) × Mem) :=
  if s0 = (b2i s1) then (
    bX (f_X11_numberOf l0 l1 l10 M) fun x38 M39 =>
    if x38 = l9 then (
      bX (f_X11_entry l0 l1 l9 3 M39) fun x40 M41 =>
      if 0 ≤ l11 then (
        bX (f_X11_message l0 l2 l11 1 M41) fun x42 M43 =>
        f_L_session_132 rc27 l0 l1 l2 l3 l4 l6 l7 l8 l9 l10 l11 x40 x42 M43
      ) else (
        f_L_session_132 rc27 l0 l1 l2 l3 l4 l6 l7 l8 l9 l10 l11 x40 0 M41
      )
    ) else (
      some (.inl false, M39)
    )
  ) else (
    some (.inl false, M)
  )
def f_L_session_63 (rc27 : Nat → Int32 → Int32 → Int32 → Int32 → Int32 → Int32 → Int32 → Int32 → Int32 → Mem → Option ((Bool ⊕ String) × Mem)) (l0 : Nat) (l1 : Int32) (l2 : Int32) (l3 : Int32) (l4 : Int32) (l5 : Int32) (l6 : Int32) (l7 : Int32) (l8 : Int32) (l9 : Int32) (l10 : Int32) (s0 : Int32) (M : Mem) : Option ((Bool ⊕ String) × Mem) :=
  if l10 ≤ l5 then (
    some (.inl false, M)
  ) else (
    bX (f_X11_entry l0 l1 l9 2 M) fun x36 M37 =>
    if 0 ≤ s0 then (
      f_L_session_90 rc27 l0 l1 l2 l3 l4 l6 l7 l8 l9 l10 s0 x36 false M37
    ) else (
      f_L_session_90 rc27 l0 l1 l2 l3 l4 l6 l7 l8 l9 l10 s0 x36 true M37
    )
  )
def f_L_session_27 : Nat → Nat → Int32 → Int32 → Int32 → Int32 → Int32 → Int32 → Int32 → Int32 → Int32 → Mem → Option ((Bool ⊕ String) × Mem)
  | 0 => fun _ _ _ _ _ _ _ _ _ _ _ => none
  | fu + 1 => fun l0 l1 l2 l3 l4 l5 l6 l7 l8 l9 M =>
    bX (f_X11_session l0 l1 3 M) fun x3 M4 =>
    if x3 < l9 then (
      f_L_session_306 l0 l1 l2 l3 l4 l5 l6 l7 M4
    ) else (
      bX (f_X11_entry l0 l1 l9 0 M4) fun x32 M33 =>
      if 0 ≤ l2 then (
        bX (f_X11_indexOf l0 l2 x32 M33) fun x34 M35 =>
        f_L_session_63 (f_L_session_27 fu) l0 l1 l2 l3 l4 l5 l6 l7 l8 l9 x32 x34 M35
      ) else (
        f_L_session_63 (f_L_session_27 fu) l0 l1 l2 l3 l4 l5 l6 l7 l8 l9 x32 (-1) M33
      )
    )
def f_L_session (a0 : Nat) (a1 : Int32) (M : Mem) : Option ((Bool ⊕ String) × Mem) :=
  bX (f_X11_session a0 a1 0 M) fun x1 M2 =>
  f_L_session_27 61 a0 a1 x1 0 0 0 (-1) (-1) 0 1 M2
def f_L_law_375 (rc21 : Nat → Nat → Int32 → Mem → Option (Bool × Mem)) (l0 : Nat) (l1 : Nat) (l2 : Int32) (M : Mem) : Option (Bool × Mem) :=
  rc21 l0 l1 (l2 + 6) M
def f_L_law_366 (rc21 : Nat → Nat → Int32 → Mem → Option (Bool × Mem)) (l0 : Nat) (l1 : Nat) (l2 : Int32) (l10 : Int32) (l12 : Int32) (M : Mem) : Option (Bool × Mem) :=
  if l10 = l12 then (
    f_L_law_375 rc21 l0 l1 l2 M
  ) else (
    some (false, M)
  )
def f_L_law_357 (rc21 : Nat → Nat → Int32 → Mem → Option (Bool × Mem)) (rc328 : Nat → Nat → Int32 → Int32 → Int32 → Int32 → Int32 → Mem → Option (Bool × Mem)) (l0 : Nat) (l1 : Nat) (l2 : Int32) (l8 : Int32) (l10 : Int32) (l13 : Int32) (s0 : Int32) (s1 : Bool) (M : Mem) : Option (Bool × Mem) :=
  rc328 l0 l1 l2 l8 l10 (s0 + (b2i s1)) (l13 + 1) M
def f_L_law_328 (rc21 : Nat → Nat → Int32 → Mem → Option (Bool × Mem)) : Nat → Nat → Nat → Int32 → Int32 → Int32 → Int32 → Int32 → Mem → Option (Bool × Mem)
  | 0 => fun _ _ _ _ _ _ _ _ => none
  | fu + 1 => fun l0 l1 l2 l8 l10 l12 l13 M =>
    bN (f_X11_property l1 4 M) fun x24 M25 =>
    if x24 ≤ l13 then (
      f_L_law_366 rc21 l0 l1 l2 l10 l12 M25
    ) else (
      bN (f_X11_notice l1 l13 0 M25) fun x26 M27 =>
      if x26 = l8 then (
        f_L_law_357 rc21 (f_L_law_328 rc21 fu) l0 l1 l2 l8 l10 l13 l12 true M27
      ) else (
        f_L_law_357 rc21 (f_L_law_328 rc21 fu) l0 l1 l2 l8 l10 l13 l12 false M27
      )
    )
def f_L_law_311 (rc21 : Nat → Nat → Int32 → Mem → Option (Bool × Mem)) (l0 : Nat) (l1 : Nat) (l2 : Int32) (l8 : Int32) (l9 : Int32) (l10 : Int32) (M : Mem) : Option (Bool × Mem) :=
  if l9 ≤ 0 then (
    f_L_law_375 rc21 l0 l1 l2 M
  ) else (
    if 5 ≤ l9 then (
      f_L_law_375 rc21 l0 l1 l2 M
    ) else (
      f_L_law_328 rc21 246 l0 l1 l2 l8 l10 0 0 M
    )
  )
def f_L_law_305 (rc21 : Nat → Nat → Int32 → Mem → Option (Bool × Mem)) (rc262 : Nat → Nat → Int32 → Int32 → Int32 → Int32 → Int32 → Mem → Option (Bool × Mem)) (l0 : Nat) (l1 : Nat) (l2 : Int32) (l8 : Int32) (l9 : Int32) (l10 : Int32) (l12 : Int32) (M : Mem) : Option (Bool × Mem) :=
  rc262 l0 l1 l2 l8 l9 l10 (l12 + 1) M
def f_L_law_262 (rc21 : Nat → Nat → Int32 → Mem → Option (Bool × Mem)) : Nat → Nat → Nat → Int32 → Int32 → Int32 → Int32 → Int32 → Mem → Option (Bool × Mem)
  | 0 => fun _ _ _ _ _ _ _ _ => none
  | fu + 1 => fun l0 l1 l2 l8 l9 l10 l12 M =>
    bN (f_X11_property l1 1 M) fun x22 M23 =>
    if x22 ≤ l12 then (
      f_L_law_311 rc21 l0 l1 l2 l8 l9 l10 M23
    ) else (
      bN (f_L_session l1 l12 M23) fun x28 M29 =>
      bif x28 then (
        bN (f_X11_session l1 l12 2 M29) fun x30 M31 =>
        if x30 = 1 then (
          bN (f_X11_isCurrent l1 l12 M31) fun x32 M33 =>
          bif x32 then (
            f_L_law_305 rc21 (f_L_law_262 rc21 fu) l0 l1 l2 l8 l9 l10 l12 M33
          ) else (
            some (false, M33)
          )
        ) else (
          f_L_law_305 rc21 (f_L_law_262 rc21 fu) l0 l1 l2 l8 l9 l10 l12 M31
        )
      ) else (
        some (false, M29)
      )
    )
def f_L_law_259 (rc21 : Nat → Nat → Int32 → Mem → Option (Bool × Mem)) (l0 : Nat) (l1 : Nat) (l2 : Int32) (l8 : Int32) (l9 : Int32) (l10 : Int32) (M : Mem) : Option (Bool × Mem) :=
  f_L_law_262 rc21 5 l0 l1 l2 l8 l9 l10 0 M
def f_L_law_234 (rc21 : Nat → Nat → Int32 → Mem → Option (Bool × Mem)) (l0 : Nat) (l1 : Nat) (l2 : Int32) (l8 : Int32) (l9 : Int32) (l10 : Int32) (M : Mem) : Option (Bool × Mem) :=
  if l9 ≤ 4 then (
    f_L_law_259 rc21 l0 l1 l2 l8 l9 l10 M
  ) else (
    if 8 ≤ l9 then (
      f_L_law_259 rc21 l0 l1 l2 l8 l9 l10 M
    ) else (
      bN (f_X11_session l1 l8 5 M) fun x34 M35 =>
      if x34 = 0 then (
        f_L_law_259 rc21 l0 l1 l2 l8 l9 l10 M35
      ) else (
        some (false, M35)
      )
    )
  )
def f_L_law_205 (rc21 : Nat → Nat → Int32 → Mem → Option (Bool × Mem)) (l0 : Nat) (l1 : Nat) (l2 : Int32) (l8 : Int32) (l9 : Int32) (l10 : Int32) (M : Mem) : Option (Bool × Mem) :=
  bN (f_X11_session l1 l8 4 M) fun x36 M37 =>
  bN (f_X11_session l1 l8 5 M37) fun x38 M39 =>
  if (x36 + x38) = 0 then (
    bN (f_X11_isCurrent l1 l8 M39) fun x40 M41 =>
    bif x40 then (
      f_L_law_234 rc21 l0 l1 l2 l8 l9 l10 M41
    ) else (
      some (false, M41)
    )
  ) else (
    some (false, M39)
  )
def f_L_law_191 (rc21 : Nat → Nat → Int32 → Mem → Option (Bool × Mem)) (l0 : Nat) (l1 : Nat) (l2 : Int32) (l8 : Int32) (l9 : Int32) (l10 : Int32) (M : Mem) : Option (Bool × Mem) :=
  if l9 ≤ 7 then (
    f_L_law_234 rc21 l0 l1 l2 l8 l9 l10 M
  ) else (
    if 13 ≤ l9 then (
      f_L_law_234 rc21 l0 l1 l2 l8 l9 l10 M
    ) else (
      f_L_law_205 rc21 l0 l1 l2 l8 l9 l10 M
    )
  )
def f_L_law_170 (rc21 : Nat → Nat → Int32 → Mem → Option (Bool × Mem)) (l0 : Nat) (l1 : Nat) (l2 : Int32) (l8 : Int32) (l9 : Int32) (l10 : Int32) (l11 : Bool) (s0 : Nat) (s1 : Nat) (s2 : Nat) (s3 : Int32) (M : Mem) : Option (Bool × Mem) :=
  bN (f_L_replays s0 s1 s2 s3 l11 M) fun x20 M21 =>
  bif x20 then (
    if l9 ≤ 0 then (
      f_L_law_191 rc21 l0 l1 l2 l8 l9 l10 M21
    ) else (
      if l9 < 5 then (
        f_L_law_205 rc21 l0 l1 l2 l8 l9 l10 M21
      ) else (
        f_L_law_191 rc21 l0 l1 l2 l8 l9 l10 M21
      )
    )
  ) else (
    some (false, M21)
  )
def f_L_law_164 (rc21 : Nat → Nat → Int32 → Mem → Option (Bool × Mem)) (l0 : Nat) (l1 : Nat) (l2 : Int32) (l8 : Int32) (l9 : Int32) (l10 : Int32) (l11 : Bool) (s0 : Nat) (s1 : Nat) (s2 : Nat) (M : Mem) : Option (Bool × Mem) :=
  f_L_law_170 rc21 l0 l1 l2 l8 l9 l10 l11 s0 s1 s2 l8 M
def f_L_law_146 (rc21 : Nat → Nat → Int32 → Mem → Option (Bool × Mem)) (l0 : Nat) (l1 : Nat) (l2 : Int32) (l3 : Nat) (l4 : Nat) (l8 : Int32) (l9 : Int32) (l10 : Int32) (s0 : Bool) (M : Mem) : Option (Bool × Mem) :=
  if l9 = 0 then (
    f_L_law_164 rc21 l0 l1 l2 l8 l9 l10 s0 l1 l3 l4 M
  ) else (
    if l9 = 13 then (
      f_L_law_164 rc21 l0 l1 l2 l8 l9 l10 s0 l1 l3 l4 M
    ) else (
      f_L_law_170 rc21 l0 l1 l2 l8 l9 l10 s0 l1 l3 l4 (-1) M
    )
  )
def f_L_law_145 (rc21 : Nat → Nat → Int32 → Mem → Option (Bool × Mem)) (l0 : Nat) (l1 : Nat) (l2 : Int32) (l3 : Nat) (l4 : Nat) (l8 : Int32) (l9 : Int32) (l10 : Int32) (M : Mem) : Option (Bool × Mem) :=
  f_L_law_146 rc21 l0 l1 l2 l3 l4 l8 l9 l10 false M
def f_L_law_21 (rc21 : Nat → Nat → Int32 → Mem → Option (Bool × Mem)) (l0 : Nat) (l1 : Nat) (l2 : Int32) (M : Mem) : Option (Bool × Mem) :=
  if 182 ≤ l2 then (
    some (true, M)
  ) else (
    bN (f_L_views l1 0 M) fun x6 M7 =>
    bN (f_L_views l1 1 M7) fun x8 M9 =>
    bN (f_L_all l1 M9) fun x10 M11 =>
    bN (f_X11_property l1 4 M11) fun x12 M13 =>
    bN (f_X11_property l1 1 M13) fun x14 M15 =>
    (f_L_draw l0 l2 x14 M15).bind fun x16 =>
    (f_L_draw l0 (l2 + 5) 16 M15).bind fun x17 =>
    bN (f_L_act l1 l0 l2 M15) fun x18 M19 =>
    if x18 = (-2147483648) then (
      bN (f_L_all l1 M19) fun x43 M44 =>
      if (lg_cmp x43 x10) = 0 then (
        bN (f_X11_property l1 4 M44) fun x45 M46 =>
        if x45 = x12 then (
          f_L_law_375 rc21 l0 l1 l2 M46
        ) else (
          some (false, M46)
        )
      ) else (
        some (false, M44)
      )
    ) else (
      if x17 ≤ 5 then (
        f_L_law_145 rc21 l0 l1 l2 x6 x8 x16 x17 x18 M19
      ) else (
        if 8 ≤ x17 then (
          f_L_law_145 rc21 l0 l1 l2 x6 x8 x16 x17 x18 M19
        ) else (
          (f_L_draw l0 (l2 + 4) 32 M19).bind fun x42 =>
          if x42 ≤ 20 then (
            f_L_law_145 rc21 l0 l1 l2 x6 x8 x16 x17 x18 M19
          ) else (
            f_L_law_146 rc21 l0 l1 l2 x6 x8 x16 x17 x18 true M19
          )
        )
      )
    )
  )
def f_L_law (rc21 : Nat → Nat → Int32 → Mem → Option (Bool × Mem)) (a0 : Nat) (M : Mem) : Option (Bool × Mem) :=
  (alc M).bind fun r1 =>
  (f_X11_init r1 (mnew M (.inr (10, [.null, .null, .null, .null, .null, .null, .null, .null, .null, .null, .null, .int 0, .int 0])))).bind fun M3 =>
  bN (f_L_load r1 a0 M3) fun x4 M5 =>
  bif x4 then (
    rc21 a0 r1 50 M5
  ) else (
    some (false, M5)
  )
theorem kc_L_9 : (Cond.constant RL 9 2147483647) ∈ cr_U := mem_U (i := 584) (by decide +kernel) rfl
theorem cw_L_draw : (Cond.code yL_draw cL_draw 3 (some .int)) ∈ cr_U := mem_U (i := 583) (by decide +kernel) rfl
theorem ini_L : (Cond.initialized RL) ∈ cr_U := mem_U (i := 25) (by decide +kernel) rfl
theorem ml_L_10 : (Cond.methodLink RL 10 yJ0_length_8abf5) ∈ cr_U := mem_U (i := 894) (by decide +kernel) rfl
theorem ml_L_16 : (Cond.methodLink RL 16 yJ0_charAt_5068e) ∈ cr_U := mem_U (i := 898) (by decide +kernel) rfl
theorem im_J0_charAt_5068e : (Cond.instanceMethod yJ0_charAt_5068e) ∈ cr_U := mem_U (i := 899) (by decide +kernel) rfl
theorem se_J0_charAt_5068e : (Cond.selects RJ0 yJ0_charAt_5068e yJ0_charAt_5068e) ∈ cr_U := mem_U (i := 900) (by decide +kernel) rfl
theorem cw_L_four : (Cond.code yL_four cL_four 4 (some .int)) ∈ cr_U := mem_U (i := 897) (by decide +kernel) rfl
theorem ml_L_20 : (Cond.methodLink RL 20 yX11_truncate) ∈ cr_U := mem_U (i := 881) (by decide +kernel) rfl
theorem im_X11_truncate : (Cond.instanceMethod yX11_truncate) ∈ cr_U := mem_U (i := 882) (by decide +kernel) rfl
theorem se_X11_truncate : (Cond.selects RX11 yX11_truncate yX11_truncate) ∈ cr_U := mem_U (i := 883) (by decide +kernel) rfl
theorem ml_L_26 : (Cond.methodLink RL 26 yL_four) ∈ cr_U := mem_U (i := 895) (by decide +kernel) rfl
theorem sm_L_four : (Cond.static yL_four) ∈ cr_U := mem_U (i := 896) (by decide +kernel) rfl
theorem ml_L_32 : (Cond.methodLink RL 32 yX11_append) ∈ cr_U := mem_U (i := 913) (by decide +kernel) rfl
theorem im_X11_append : (Cond.instanceMethod yX11_append) ∈ cr_U := mem_U (i := 914) (by decide +kernel) rfl
theorem se_X11_append : (Cond.selects RX11 yX11_append yX11_append) ∈ cr_U := mem_U (i := 915) (by decide +kernel) rfl
theorem ml_L_36 : (Cond.methodLink RL 36 yJ9_min_7cf53) ∈ cr_U := mem_U (i := 941) (by decide +kernel) rfl
theorem cw_L_feed : (Cond.code yL_feed cL_feed 4 (none)) ∈ cr_U := mem_U (i := 880) (by decide +kernel) rfl
theorem ml_L_54 : (Cond.methodLink RL 54 yJ4_init_da8c8) ∈ cr_U := mem_U (i := 808) (by decide +kernel) rfl
theorem im_J4_init_da8c8 : (Cond.instanceMethod yJ4_init_da8c8) ∈ cr_U := mem_U (i := 809) (by decide +kernel) rfl
theorem ml_L_60 : (Cond.methodLink RL 60 yJ4_toString_0e30d) ∈ cr_U := mem_U (i := 815) (by decide +kernel) rfl
theorem im_J4_toString_0e30d : (Cond.instanceMethod yJ4_toString_0e30d) ∈ cr_U := mem_U (i := 816) (by decide +kernel) rfl
theorem se_J4_toString_0e30d : (Cond.selects RJ4 yJ4_toString_0e30d yJ4_toString_0e30d) ∈ cr_U := mem_U (i := 817) (by decide +kernel) rfl
theorem ml_L_57 : (Cond.methodLink RL 57 yJ4_append_15ec4) ∈ cr_U := mem_U (i := 772) (by decide +kernel) rfl
theorem cl_L_52 : (Cond.classLink RL 52 RJ4) ∈ cr_U := mem_U (i := 588) (by decide +kernel) rfl
theorem cl_L_11 : (Cond.classLink RL 11 RJ0) ∈ cr_U := mem_U (i := 801) (by decide +kernel) rfl
theorem cw_L_flags : (Cond.code yL_flags cL_flags 4 (some (.object "java/lang/String"))) ∈ cr_U := mem_U (i := 800) (by decide +kernel) rfl
theorem ml_L_64 : (Cond.methodLink RL 64 yL_draw) ∈ cr_U := mem_U (i := 581) (by decide +kernel) rfl
theorem sm_L_draw : (Cond.static yL_draw) ∈ cr_U := mem_U (i := 582) (by decide +kernel) rfl
theorem ml_L_70 : (Cond.methodLink RL 70 yJ4_init_a7421) ∈ cr_U := mem_U (i := 591) (by decide +kernel) rfl
theorem im_J4_init_a7421 : (Cond.instanceMethod yJ4_init_a7421) ∈ cr_U := mem_U (i := 592) (by decide +kernel) rfl
theorem ml_L_73 : (Cond.methodLink RL 73 yJ4_append_bf812) ∈ cr_U := mem_U (i := 746) (by decide +kernel) rfl
theorem im_J4_append_bf812 : (Cond.instanceMethod yJ4_append_bf812) ∈ cr_U := mem_U (i := 747) (by decide +kernel) rfl
theorem se_J4_append_bf812 : (Cond.selects RJ4 yJ4_append_bf812 yJ4_append_bf812) ∈ cr_U := mem_U (i := 748) (by decide +kernel) rfl
theorem ml_L_97 : (Cond.methodLink RL 97 yL_feed) ∈ cr_U := mem_U (i := 878) (by decide +kernel) rfl
theorem sm_L_feed : (Cond.static yL_feed) ∈ cr_U := mem_U (i := 879) (by decide +kernel) rfl
theorem ml_L_101 : (Cond.methodLink RL 101 yX11_load) ∈ cr_U := mem_U (i := 942) (by decide +kernel) rfl
theorem im_X11_load : (Cond.instanceMethod yX11_load) ∈ cr_U := mem_U (i := 943) (by decide +kernel) rfl
theorem se_X11_load : (Cond.selects RX11 yX11_load yX11_load) ∈ cr_U := mem_U (i := 944) (by decide +kernel) rfl
theorem ml_L_104 : (Cond.methodLink RL 104 yX11_errorCode) ∈ cr_U := mem_U (i := 1205) (by decide +kernel) rfl
theorem im_X11_errorCode : (Cond.instanceMethod yX11_errorCode) ∈ cr_U := mem_U (i := 1206) (by decide +kernel) rfl
theorem se_X11_errorCode : (Cond.selects RX11 yX11_errorCode yX11_errorCode) ∈ cr_U := mem_U (i := 1207) (by decide +kernel) rfl
theorem ml_L_107 : (Cond.methodLink RL 107 yX11_errorPosition) ∈ cr_U := mem_U (i := 1209) (by decide +kernel) rfl
theorem im_X11_errorPosition : (Cond.instanceMethod yX11_errorPosition) ∈ cr_U := mem_U (i := 1210) (by decide +kernel) rfl
theorem se_X11_errorPosition : (Cond.selects RX11 yX11_errorPosition yX11_errorPosition) ∈ cr_U := mem_U (i := 1211) (by decide +kernel) rfl
theorem ml_L_110 : (Cond.methodLink RL 110 yX11_property) ∈ cr_U := mem_U (i := 367) (by decide +kernel) rfl
theorem im_X11_property : (Cond.instanceMethod yX11_property) ∈ cr_U := mem_U (i := 368) (by decide +kernel) rfl
theorem se_X11_property : (Cond.selects RX11 yX11_property yX11_property) ∈ cr_U := mem_U (i := 369) (by decide +kernel) rfl
theorem ml_L_117 : (Cond.methodLink RL 117 yX11_session) ∈ cr_U := mem_U (i := 460) (by decide +kernel) rfl
theorem im_X11_session : (Cond.instanceMethod yX11_session) ∈ cr_U := mem_U (i := 461) (by decide +kernel) rfl
theorem se_X11_session : (Cond.selects RX11 yX11_session yX11_session) ∈ cr_U := mem_U (i := 462) (by decide +kernel) rfl
theorem ml_L_114 : (Cond.methodLink RL 114 yX11_box) ∈ cr_U := mem_U (i := 1213) (by decide +kernel) rfl
theorem im_X11_box : (Cond.instanceMethod yX11_box) ∈ cr_U := mem_U (i := 1214) (by decide +kernel) rfl
theorem se_X11_box : (Cond.selects RX11 yX11_box yX11_box) ∈ cr_U := mem_U (i := 1215) (by decide +kernel) rfl
theorem ml_L_80 : (Cond.methodLink RL 80 yJ4_append_cf468) ∈ cr_U := mem_U (i := 774) (by decide +kernel) rfl
theorem im_J4_append_cf468 : (Cond.instanceMethod yJ4_append_cf468) ∈ cr_U := mem_U (i := 775) (by decide +kernel) rfl
theorem se_J4_append_cf468 : (Cond.selects RJ4 yJ4_append_cf468 yJ4_append_cf468) ∈ cr_U := mem_U (i := 776) (by decide +kernel) rfl
theorem ml_L_87 : (Cond.methodLink RL 87 yL_flags) ∈ cr_U := mem_U (i := 798) (by decide +kernel) rfl
theorem sm_L_flags : (Cond.static yL_flags) ∈ cr_U := mem_U (i := 799) (by decide +kernel) rfl
theorem cw_L_load : (Cond.code yL_load cL_load 12 (some .boolean)) ∈ cr_U := mem_U (i := 587) (by decide +kernel) rfl
theorem ml_L_120 : (Cond.methodLink RL 120 yX11_select) ∈ cr_U := mem_U (i := 1286) (by decide +kernel) rfl
theorem im_X11_select : (Cond.instanceMethod yX11_select) ∈ cr_U := mem_U (i := 1287) (by decide +kernel) rfl
theorem se_X11_select : (Cond.selects RX11 yX11_select yX11_select) ∈ cr_U := mem_U (i := 1288) (by decide +kernel) rfl
theorem cl_L_124 : (Cond.classLink RL 124 "java/lang/IllegalStateException") ∈ cr_U := mem_U (i := 1285) (by decide +kernel) rfl
theorem ca_IllegalStateException : (Cond.castable "java/lang/IllegalStateException" "java/lang/IllegalStateException") ∈ lw_tbl := List.mem_of_getElem? (i := 919) (by decide +kernel)
theorem kc_L_126 : (Cond.constant RL 126 (-2147483648)) ∈ cr_U := mem_U (i := 1336) (by decide +kernel) rfl
theorem cw_L_selected : (Cond.codeWith yL_selected cL_selected 5 (some .int) [(0, 7, 8, 124)]) ∈ cr_U := mem_U (i := 1284) (by decide +kernel) rfl
theorem ml_L_127 : (Cond.methodLink RL 127 yX11_noop) ∈ cr_U := mem_U (i := 1340) (by decide +kernel) rfl
theorem im_X11_noop : (Cond.instanceMethod yX11_noop) ∈ cr_U := mem_U (i := 1341) (by decide +kernel) rfl
theorem se_X11_noop : (Cond.selects RX11 yX11_noop yX11_noop) ∈ cr_U := mem_U (i := 1342) (by decide +kernel) rfl
theorem cw_L_nooped : (Cond.codeWith yL_nooped cL_nooped 3 (some .int) [(0, 5, 6, 124)]) ∈ cr_U := mem_U (i := 1339) (by decide +kernel) rfl
theorem ml_L_130 : (Cond.methodLink RL 130 yX11_startIdle) ∈ cr_U := mem_U (i := 1357) (by decide +kernel) rfl
theorem im_X11_startIdle : (Cond.instanceMethod yX11_startIdle) ∈ cr_U := mem_U (i := 1358) (by decide +kernel) rfl
theorem se_X11_startIdle : (Cond.selects RX11 yX11_startIdle yX11_startIdle) ∈ cr_U := mem_U (i := 1359) (by decide +kernel) rfl
theorem cw_L_started : (Cond.codeWith yL_started cL_started 3 (some .int) [(0, 5, 6, 124)]) ∈ cr_U := mem_U (i := 1356) (by decide +kernel) rfl
theorem ml_L_133 : (Cond.methodLink RL 133 yX11_stopIdle) ∈ cr_U := mem_U (i := 1364) (by decide +kernel) rfl
theorem im_X11_stopIdle : (Cond.instanceMethod yX11_stopIdle) ∈ cr_U := mem_U (i := 1365) (by decide +kernel) rfl
theorem se_X11_stopIdle : (Cond.selects RX11 yX11_stopIdle yX11_stopIdle) ∈ cr_U := mem_U (i := 1366) (by decide +kernel) rfl
theorem cw_L_stopped : (Cond.codeWith yL_stopped cL_stopped 3 (some .int) [(0, 5, 6, 124)]) ∈ cr_U := mem_U (i := 1363) (by decide +kernel) rfl
theorem ml_L_136 : (Cond.methodLink RL 136 yX11_fetch) ∈ cr_U := mem_U (i := 1372) (by decide +kernel) rfl
theorem im_X11_fetch : (Cond.instanceMethod yX11_fetch) ∈ cr_U := mem_U (i := 1373) (by decide +kernel) rfl
theorem se_X11_fetch : (Cond.selects RX11 yX11_fetch yX11_fetch) ∈ cr_U := mem_U (i := 1374) (by decide +kernel) rfl
theorem cw_L_fetched : (Cond.codeWith yL_fetched cL_fetched 6 (some .int) [(0, 9, 10, 124)]) ∈ cr_U := mem_U (i := 1371) (by decide +kernel) rfl
theorem ml_L_140 : (Cond.methodLink RL 140 yX11_store) ∈ cr_U := mem_U (i := 1388) (by decide +kernel) rfl
theorem im_X11_store : (Cond.instanceMethod yX11_store) ∈ cr_U := mem_U (i := 1389) (by decide +kernel) rfl
theorem se_X11_store : (Cond.selects RX11 yX11_store yX11_store) ∈ cr_U := mem_U (i := 1390) (by decide +kernel) rfl
theorem cw_L_stored : (Cond.codeWith yL_stored cL_stored 8 (some .int) [(0, 13, 14, 124)]) ∈ cr_U := mem_U (i := 1387) (by decide +kernel) rfl
theorem ml_L_144 : (Cond.methodLink RL 144 yX11_uidStore) ∈ cr_U := mem_U (i := 1405) (by decide +kernel) rfl
theorem im_X11_uidStore : (Cond.instanceMethod yX11_uidStore) ∈ cr_U := mem_U (i := 1406) (by decide +kernel) rfl
theorem se_X11_uidStore : (Cond.selects RX11 yX11_uidStore yX11_uidStore) ∈ cr_U := mem_U (i := 1407) (by decide +kernel) rfl
theorem cw_L_uidStored : (Cond.codeWith yL_uidStored cL_uidStored 7 (some .int) [(0, 11, 12, 124)]) ∈ cr_U := mem_U (i := 1404) (by decide +kernel) rfl
theorem ml_L_147 : (Cond.methodLink RL 147 yX11_expunge) ∈ cr_U := mem_U (i := 1412) (by decide +kernel) rfl
theorem im_X11_expunge : (Cond.instanceMethod yX11_expunge) ∈ cr_U := mem_U (i := 1413) (by decide +kernel) rfl
theorem se_X11_expunge : (Cond.selects RX11 yX11_expunge yX11_expunge) ∈ cr_U := mem_U (i := 1414) (by decide +kernel) rfl
theorem cw_L_expunged : (Cond.codeWith yL_expunged cL_expunged 3 (some .int) [(0, 5, 6, 124)]) ∈ cr_U := mem_U (i := 1411) (by decide +kernel) rfl
theorem ml_L_150 : (Cond.methodLink RL 150 yX11_copy) ∈ cr_U := mem_U (i := 1428) (by decide +kernel) rfl
theorem im_X11_copy : (Cond.instanceMethod yX11_copy) ∈ cr_U := mem_U (i := 1429) (by decide +kernel) rfl
theorem se_X11_copy : (Cond.selects RX11 yX11_copy yX11_copy) ∈ cr_U := mem_U (i := 1430) (by decide +kernel) rfl
theorem cw_L_copied : (Cond.codeWith yL_copied cL_copied 6 (some .int) [(0, 9, 10, 124)]) ∈ cr_U := mem_U (i := 1427) (by decide +kernel) rfl
theorem ml_L_154 : (Cond.methodLink RL 154 yX11_move) ∈ cr_U := mem_U (i := 1449) (by decide +kernel) rfl
theorem im_X11_move : (Cond.instanceMethod yX11_move) ∈ cr_U := mem_U (i := 1450) (by decide +kernel) rfl
theorem se_X11_move : (Cond.selects RX11 yX11_move yX11_move) ∈ cr_U := mem_U (i := 1451) (by decide +kernel) rfl
theorem cw_L_moved : (Cond.codeWith yL_moved cL_moved 6 (some .int) [(0, 9, 10, 124)]) ∈ cr_U := mem_U (i := 1448) (by decide +kernel) rfl
theorem ml_L_157 : (Cond.methodLink RL 157 yX11_close) ∈ cr_U := mem_U (i := 1461) (by decide +kernel) rfl
theorem im_X11_close : (Cond.instanceMethod yX11_close) ∈ cr_U := mem_U (i := 1462) (by decide +kernel) rfl
theorem se_X11_close : (Cond.selects RX11 yX11_close yX11_close) ∈ cr_U := mem_U (i := 1463) (by decide +kernel) rfl
theorem cw_L_closed : (Cond.codeWith yL_closed cL_closed 3 (some .int) [(0, 5, 6, 124)]) ∈ cr_U := mem_U (i := 1460) (by decide +kernel) rfl
theorem ml_L_160 : (Cond.methodLink RL 160 yX11_deliver) ∈ cr_U := mem_U (i := 1469) (by decide +kernel) rfl
theorem im_X11_deliver : (Cond.instanceMethod yX11_deliver) ∈ cr_U := mem_U (i := 1470) (by decide +kernel) rfl
theorem se_X11_deliver : (Cond.selects RX11 yX11_deliver yX11_deliver) ∈ cr_U := mem_U (i := 1471) (by decide +kernel) rfl
theorem cw_L_delivered : (Cond.codeWith yL_delivered cL_delivered 5 (some .int) [(0, 7, 8, 124)]) ∈ cr_U := mem_U (i := 1468) (by decide +kernel) rfl
theorem kl_L_170 : (Cond.constantLong RL 170 31) ∈ cr_U := mem_U (i := 1252) (by decide +kernel) rfl
theorem ml_L_172 : (Cond.methodLink RL 172 yX11_message) ∈ cr_U := mem_U (i := 1253) (by decide +kernel) rfl
theorem im_X11_message : (Cond.instanceMethod yX11_message) ∈ cr_U := mem_U (i := 1254) (by decide +kernel) rfl
theorem se_X11_message : (Cond.selects RX11 yX11_message yX11_message) ∈ cr_U := mem_U (i := 1255) (by decide +kernel) rfl
theorem cw_L_boxOf : (Cond.code yL_boxOf cL_boxOf 5 (some .long)) ∈ cr_U := mem_U (i := 1251) (by decide +kernel) rfl
theorem kl_L_178 : (Cond.constantLong RL 178 1000003) ∈ cr_U := mem_U (i := 1248) (by decide +kernel) rfl
theorem ml_L_180 : (Cond.methodLink RL 180 yX11_account) ∈ cr_U := mem_U (i := 1274) (by decide +kernel) rfl
theorem im_X11_account : (Cond.instanceMethod yX11_account) ∈ cr_U := mem_U (i := 1275) (by decide +kernel) rfl
theorem se_X11_account : (Cond.selects RX11 yX11_account yX11_account) ∈ cr_U := mem_U (i := 1276) (by decide +kernel) rfl
theorem ml_L_175 : (Cond.methodLink RL 175 yX11_entry) ∈ cr_U := mem_U (i := 1262) (by decide +kernel) rfl
theorem im_X11_entry : (Cond.instanceMethod yX11_entry) ∈ cr_U := mem_U (i := 1263) (by decide +kernel) rfl
theorem se_X11_entry : (Cond.selects RX11 yX11_entry yX11_entry) ∈ cr_U := mem_U (i := 1264) (by decide +kernel) rfl
theorem cw_L_viewOf : (Cond.code yL_viewOf cL_viewOf 5 (some .long)) ∈ cr_U := mem_U (i := 1261) (by decide +kernel) rfl
theorem ml_L_187 : (Cond.methodLink RL 187 yL_viewOf) ∈ cr_U := mem_U (i := 1259) (by decide +kernel) rfl
theorem sm_L_viewOf : (Cond.static yL_viewOf) ∈ cr_U := mem_U (i := 1260) (by decide +kernel) rfl
theorem ml_L_183 : (Cond.methodLink RL 183 yL_boxOf) ∈ cr_U := mem_U (i := 1249) (by decide +kernel) rfl
theorem sm_L_boxOf : (Cond.static yL_boxOf) ∈ cr_U := mem_U (i := 1250) (by decide +kernel) rfl
theorem cw_L_all : (Cond.code yL_all cL_all 4 (some .long)) ∈ cr_U := mem_U (i := 1247) (by decide +kernel) rfl
theorem ml_L_190 : (Cond.methodLink RL 190 yL_selected) ∈ cr_U := mem_U (i := 1282) (by decide +kernel) rfl
theorem sm_L_selected : (Cond.static yL_selected) ∈ cr_U := mem_U (i := 1283) (by decide +kernel) rfl
theorem ml_L_194 : (Cond.methodLink RL 194 yL_nooped) ∈ cr_U := mem_U (i := 1337) (by decide +kernel) rfl
theorem sm_L_nooped : (Cond.static yL_nooped) ∈ cr_U := mem_U (i := 1338) (by decide +kernel) rfl
theorem ml_L_198 : (Cond.methodLink RL 198 yL_started) ∈ cr_U := mem_U (i := 1354) (by decide +kernel) rfl
theorem sm_L_started : (Cond.static yL_started) ∈ cr_U := mem_U (i := 1355) (by decide +kernel) rfl
theorem ml_L_201 : (Cond.methodLink RL 201 yL_stopped) ∈ cr_U := mem_U (i := 1361) (by decide +kernel) rfl
theorem sm_L_stopped : (Cond.static yL_stopped) ∈ cr_U := mem_U (i := 1362) (by decide +kernel) rfl
theorem ml_L_204 : (Cond.methodLink RL 204 yL_fetched) ∈ cr_U := mem_U (i := 1369) (by decide +kernel) rfl
theorem sm_L_fetched : (Cond.static yL_fetched) ∈ cr_U := mem_U (i := 1370) (by decide +kernel) rfl
theorem ml_L_208 : (Cond.methodLink RL 208 yL_stored) ∈ cr_U := mem_U (i := 1385) (by decide +kernel) rfl
theorem sm_L_stored : (Cond.static yL_stored) ∈ cr_U := mem_U (i := 1386) (by decide +kernel) rfl
theorem ml_L_212 : (Cond.methodLink RL 212 yL_uidStored) ∈ cr_U := mem_U (i := 1402) (by decide +kernel) rfl
theorem sm_L_uidStored : (Cond.static yL_uidStored) ∈ cr_U := mem_U (i := 1403) (by decide +kernel) rfl
theorem ml_L_216 : (Cond.methodLink RL 216 yL_expunged) ∈ cr_U := mem_U (i := 1409) (by decide +kernel) rfl
theorem sm_L_expunged : (Cond.static yL_expunged) ∈ cr_U := mem_U (i := 1410) (by decide +kernel) rfl
theorem ml_L_219 : (Cond.methodLink RL 219 yL_copied) ∈ cr_U := mem_U (i := 1425) (by decide +kernel) rfl
theorem sm_L_copied : (Cond.static yL_copied) ∈ cr_U := mem_U (i := 1426) (by decide +kernel) rfl
theorem ml_L_223 : (Cond.methodLink RL 223 yL_moved) ∈ cr_U := mem_U (i := 1446) (by decide +kernel) rfl
theorem sm_L_moved : (Cond.static yL_moved) ∈ cr_U := mem_U (i := 1447) (by decide +kernel) rfl
theorem ml_L_226 : (Cond.methodLink RL 226 yL_closed) ∈ cr_U := mem_U (i := 1458) (by decide +kernel) rfl
theorem sm_L_closed : (Cond.static yL_closed) ∈ cr_U := mem_U (i := 1459) (by decide +kernel) rfl
theorem ml_L_229 : (Cond.methodLink RL 229 yL_delivered) ∈ cr_U := mem_U (i := 1466) (by decide +kernel) rfl
theorem sm_L_delivered : (Cond.static yL_delivered) ∈ cr_U := mem_U (i := 1467) (by decide +kernel) rfl
theorem cw_L_act : (Cond.code yL_act cL_act 9 (some .int)) ∈ cr_U := mem_U (i := 1281) (by decide +kernel) rfl
theorem ao_9 : (Cond.arrayOver (.array .int)) ∈ lw_tbl := List.mem_of_getElem? (i := 1479) (by decide +kernel)
theorem cl_L_233 : (Cond.classLink RL 233 (FieldType.array .int).toString) ∈ cr_U := mem_U (i := 1478) (by decide +kernel) rfl
theorem cw_L_views : (Cond.code yL_views cL_views 5 (some (.array (.array .int)))) ∈ cr_U := mem_U (i := 1477) (by decide +kernel) rfl
theorem cw_L_without : (Cond.code yL_without cL_without 4 (some (.array .int))) ∈ cr_U := mem_U (i := 1485) (by decide +kernel) rfl
theorem cw_L_longer : (Cond.code yL_longer cL_longer 4 (some (.array .int))) ∈ cr_U := mem_U (i := 1488) (by decide +kernel) rfl
theorem ml_L_235 : (Cond.methodLink RL 235 yX11_notice) ∈ cr_U := mem_U (i := 559) (by decide +kernel) rfl
theorem im_X11_notice : (Cond.instanceMethod yX11_notice) ∈ cr_U := mem_U (i := 560) (by decide +kernel) rfl
theorem se_X11_notice : (Cond.selects RX11 yX11_notice yX11_notice) ∈ cr_U := mem_U (i := 561) (by decide +kernel) rfl
theorem ml_L_238 : (Cond.methodLink RL 238 yL_without) ∈ cr_U := mem_U (i := 1483) (by decide +kernel) rfl
theorem sm_L_without : (Cond.static yL_without) ∈ cr_U := mem_U (i := 1484) (by decide +kernel) rfl
theorem ml_L_242 : (Cond.methodLink RL 242 yL_longer) ∈ cr_U := mem_U (i := 1486) (by decide +kernel) rfl
theorem sm_L_longer : (Cond.static yL_longer) ∈ cr_U := mem_U (i := 1487) (by decide +kernel) rfl
theorem cw_L_replays : (Cond.code yL_replays cL_replays 8 (some .boolean)) ∈ cr_U := mem_U (i := 1482) (by decide +kernel) rfl
theorem ml_L_254 : (Cond.methodLink RL 254 yX11_firstUnseen) ∈ cr_U := mem_U (i := 1511) (by decide +kernel) rfl
theorem im_X11_firstUnseen : (Cond.instanceMethod yX11_firstUnseen) ∈ cr_U := mem_U (i := 1512) (by decide +kernel) rfl
theorem se_X11_firstUnseen : (Cond.selects RX11 yX11_firstUnseen yX11_firstUnseen) ∈ cr_U := mem_U (i := 1513) (by decide +kernel) rfl
theorem ml_L_257 : (Cond.methodLink RL 257 yX11_largest) ∈ cr_U := mem_U (i := 1519) (by decide +kernel) rfl
theorem im_X11_largest : (Cond.instanceMethod yX11_largest) ∈ cr_U := mem_U (i := 1520) (by decide +kernel) rfl
theorem se_X11_largest : (Cond.selects RX11 yX11_largest yX11_largest) ∈ cr_U := mem_U (i := 1521) (by decide +kernel) rfl
theorem ml_L_260 : (Cond.methodLink RL 260 yX11_pending) ∈ cr_U := mem_U (i := 1527) (by decide +kernel) rfl
theorem im_X11_pending : (Cond.instanceMethod yX11_pending) ∈ cr_U := mem_U (i := 1528) (by decide +kernel) rfl
theorem se_X11_pending : (Cond.selects RX11 yX11_pending yX11_pending) ∈ cr_U := mem_U (i := 1529) (by decide +kernel) rfl
theorem ml_L_263 : (Cond.methodLink RL 263 yX11_isCurrent) ∈ cr_U := mem_U (i := 544) (by decide +kernel) rfl
theorem im_X11_isCurrent : (Cond.instanceMethod yX11_isCurrent) ∈ cr_U := mem_U (i := 545) (by decide +kernel) rfl
theorem se_X11_isCurrent : (Cond.selects RX11 yX11_isCurrent yX11_isCurrent) ∈ cr_U := mem_U (i := 546) (by decide +kernel) rfl
theorem ml_L_267 : (Cond.methodLink RL 267 yX11_stale) ∈ cr_U := mem_U (i := 1531) (by decide +kernel) rfl
theorem im_X11_stale : (Cond.instanceMethod yX11_stale) ∈ cr_U := mem_U (i := 1532) (by decide +kernel) rfl
theorem se_X11_stale : (Cond.selects RX11 yX11_stale yX11_stale) ∈ cr_U := mem_U (i := 1533) (by decide +kernel) rfl
theorem ml_L_248 : (Cond.methodLink RL 248 yX11_numberOf) ∈ cr_U := mem_U (i := 1496) (by decide +kernel) rfl
theorem im_X11_numberOf : (Cond.instanceMethod yX11_numberOf) ∈ cr_U := mem_U (i := 1497) (by decide +kernel) rfl
theorem se_X11_numberOf : (Cond.selects RX11 yX11_numberOf yX11_numberOf) ∈ cr_U := mem_U (i := 1498) (by decide +kernel) rfl
theorem ml_L_245 : (Cond.methodLink RL 245 yX11_indexOf) ∈ cr_U := mem_U (i := 1492) (by decide +kernel) rfl
theorem im_X11_indexOf : (Cond.instanceMethod yX11_indexOf) ∈ cr_U := mem_U (i := 1493) (by decide +kernel) rfl
theorem se_X11_indexOf : (Cond.selects RX11 yX11_indexOf yX11_indexOf) ∈ cr_U := mem_U (i := 1494) (by decide +kernel) rfl
theorem ml_L_251 : (Cond.methodLink RL 251 yX11_numberThen) ∈ cr_U := mem_U (i := 1505) (by decide +kernel) rfl
theorem im_X11_numberThen : (Cond.instanceMethod yX11_numberThen) ∈ cr_U := mem_U (i := 1506) (by decide +kernel) rfl
theorem se_X11_numberThen : (Cond.selects RX11 yX11_numberThen yX11_numberThen) ∈ cr_U := mem_U (i := 1507) (by decide +kernel) rfl
theorem cw_L_session : (Cond.code yL_session cL_session 12 (some .boolean)) ∈ cr_U := mem_U (i := 1491) (by decide +kernel) rfl
theorem ml_L_270 : (Cond.methodLink RL 270 yX11_init) ∈ cr_U := mem_U (i := 60) (by decide +kernel) rfl
theorem im_X11_init : (Cond.instanceMethod yX11_init) ∈ cr_U := mem_U (i := 61) (by decide +kernel) rfl
theorem ml_L_271 : (Cond.methodLink RL 271 yL_load) ∈ cr_U := mem_U (i := 585) (by decide +kernel) rfl
theorem sm_L_load : (Cond.static yL_load) ∈ cr_U := mem_U (i := 586) (by decide +kernel) rfl
theorem ml_L_274 : (Cond.methodLink RL 274 yL_views) ∈ cr_U := mem_U (i := 1475) (by decide +kernel) rfl
theorem sm_L_views : (Cond.static yL_views) ∈ cr_U := mem_U (i := 1476) (by decide +kernel) rfl
theorem ml_L_278 : (Cond.methodLink RL 278 yL_all) ∈ cr_U := mem_U (i := 1245) (by decide +kernel) rfl
theorem sm_L_all : (Cond.static yL_all) ∈ cr_U := mem_U (i := 1246) (by decide +kernel) rfl
theorem ml_L_282 : (Cond.methodLink RL 282 yL_act) ∈ cr_U := mem_U (i := 1279) (by decide +kernel) rfl
theorem sm_L_act : (Cond.static yL_act) ∈ cr_U := mem_U (i := 1280) (by decide +kernel) rfl
theorem ml_L_286 : (Cond.methodLink RL 286 yL_replays) ∈ cr_U := mem_U (i := 1480) (by decide +kernel) rfl
theorem sm_L_replays : (Cond.static yL_replays) ∈ cr_U := mem_U (i := 1481) (by decide +kernel) rfl
theorem ml_L_290 : (Cond.methodLink RL 290 yL_session) ∈ cr_U := mem_U (i := 1489) (by decide +kernel) rfl
theorem sm_L_session : (Cond.static yL_session) ∈ cr_U := mem_U (i := 1490) (by decide +kernel) rfl
theorem cl_L_21 : (Cond.classLink RL 21 RX11) ∈ cr_U := mem_U (i := 58) (by decide +kernel) rfl
theorem ins_X11 : (Cond.instantiable RX11 13) ∈ cr_U := mem_U (i := 59) (by decide +kernel) rfl
theorem dL_draw_0 : decode cL_draw 0 = .ok (.iload_n 1, 1) := by decide +kernel
theorem dL_draw_1 : decode cL_draw 1 = .ok (.aload_n 0, 1) := by decide +kernel
theorem dL_draw_2 : decode cL_draw 2 = .ok (.arraylength, 1) := by decide +kernel
theorem dL_draw_3 : decode cL_draw 3 = .ok (.if_icmp .ge 9, 3) := by decide +kernel
theorem dL_draw_6 : decode cL_draw 6 = .ok (.aload_n 0, 1) := by decide +kernel
theorem dL_draw_7 : decode cL_draw 7 = .ok (.iload_n 1, 1) := by decide +kernel
theorem dL_draw_8 : decode cL_draw 8 = .ok (.iaload, 1) := by decide +kernel
theorem dL_draw_9 : decode cL_draw 9 = .ok (.goto 4, 3) := by decide +kernel
theorem dL_draw_12 : decode cL_draw 12 = .ok (.iconst 0, 1) := by decide +kernel
theorem dL_draw_13 : decode cL_draw 13 = .ok (.ldc 9, 2) := by decide +kernel
theorem dL_draw_15 : decode cL_draw 15 = .ok (.iand, 1) := by decide +kernel
theorem dL_draw_16 : decode cL_draw 16 = .ok (.iload_n 2, 1) := by decide +kernel
theorem dL_draw_17 : decode cL_draw 17 = .ok (.irem, 1) := by decide +kernel
theorem dL_draw_18 : decode cL_draw 18 = .ok (.ireturn, 1) := by decide +kernel
def mi_L_draw : MI := (RL, yL_draw, cL_draw, 3, some .int, [], { frames := 1, cells := 0, slots := 0, locals := 12 })
theorem ok_L_draw : mOK mi_L_draw 3 := ⟨rfl, cw_L_draw, ini_L, ⟨rfl, by decide⟩, by decide, by decide, rfl⟩
theorem v_L_draw (a0 : Nat) (a1 : Int32) (a2 : Int32) (M : Mem) : V mi_L_draw 0 [(0, .ref a0), (1, .int a1), (2, .int a2)] [] M 0 0 (f_L_draw a0 a1 a2 M) (eI M) := by
  unfold f_L_draw
  refine V_iload_n dL_draw_0 rfl 1 rfl ?_
  refine V_aload_n dL_draw_1 rfl 0 rfl ?_
  refine V_sL dL_draw_2 rfl (fun x1 => ?_)
  refine V_icmp_ge (q := 12) (q2 := 6) dL_draw_3 (by decide) rfl ?_ ?_
  · refine V_iconst (x := 0) dL_draw_12 rfl rfl ?_
    refine V_ldc (x := 2147483647) kc_L_9 dL_draw_13 rfl ?_
    refine V_iand dL_draw_15 rfl ?_
    refine V_iload_n dL_draw_16 rfl 2 rfl ?_
    refine V_dv fun hy => ?_
    refine V_irem dL_draw_17 rfl hy ?_
    exact V_iret dL_draw_18 rfl rfl ⟨(Nat.le_of_ble_eq_true rfl), (Nat.le_of_ble_eq_true rfl)⟩
  · refine V_aload_n dL_draw_6 rfl 0 rfl ?_
    refine V_iload_n dL_draw_7 rfl 1 rfl ?_
    refine V_sC dL_draw_8 rfl (fun x2 => ?_)
    refine V_goto (q := 13) dL_draw_9 (by decide) ?_
    refine V_ldc (x := 2147483647) kc_L_9 dL_draw_13 rfl ?_
    refine V_iand dL_draw_15 rfl ?_
    refine V_iload_n dL_draw_16 rfl 2 rfl ?_
    refine V_dv fun hy => ?_
    refine V_irem dL_draw_17 rfl hy ?_
    exact V_iret dL_draw_18 rfl rfl ⟨(Nat.le_of_ble_eq_true rfl), (Nat.le_of_ble_eq_true rfl)⟩
theorem k_L_draw (a0 : Nat) (a1 : Int32) (a2 : Int32) (M : Mem) : K mi_L_draw [.ref a0, .int a1, .int a2] M (f_L_draw a0 a1 a2 M) (eI M) := K_of_V ok_L_draw (Nat.le_of_ble_eq_true rfl) (v_L_draw a0 a1 a2 M)
theorem dL_four_0 : decode cL_four 0 = .ok (.iconst 0, 1) := by decide +kernel
theorem dL_four_1 : decode cL_four 1 = .ok (.istore_n 2, 1) := by decide +kernel
theorem dL_four_2 : decode cL_four 2 = .ok (.iconst 0, 1) := by decide +kernel
theorem dL_four_3 : decode cL_four 3 = .ok (.istore_n 3, 1) := by decide +kernel
theorem dL_four_4 : decode cL_four 4 = .ok (.iload_n 3, 1) := by decide +kernel
theorem dL_four_5 : decode cL_four 5 = .ok (.iconst 4, 1) := by decide +kernel
theorem dL_four_6 : decode cL_four 6 = .ok (.if_icmp .ge 36, 3) := by decide +kernel
theorem dL_four_9 : decode cL_four 9 = .ok (.iload_n 2, 1) := by decide +kernel
theorem dL_four_10 : decode cL_four 10 = .ok (.bipush 8, 2) := by decide +kernel
theorem dL_four_12 : decode cL_four 12 = .ok (.ishl, 1) := by decide +kernel
theorem dL_four_13 : decode cL_four 13 = .ok (.iload_n 1, 1) := by decide +kernel
theorem dL_four_14 : decode cL_four 14 = .ok (.iload_n 3, 1) := by decide +kernel
theorem dL_four_15 : decode cL_four 15 = .ok (.iadd, 1) := by decide +kernel
theorem dL_four_16 : decode cL_four 16 = .ok (.aload_n 0, 1) := by decide +kernel
theorem dL_four_17 : decode cL_four 17 = .ok (.invokevirtual 10, 3) := by decide +kernel
theorem dL_four_20 : decode cL_four 20 = .ok (.if_icmp .ge 13, 3) := by decide +kernel
theorem dL_four_23 : decode cL_four 23 = .ok (.aload_n 0, 1) := by decide +kernel
theorem dL_four_24 : decode cL_four 24 = .ok (.iload_n 1, 1) := by decide +kernel
theorem dL_four_25 : decode cL_four 25 = .ok (.iload_n 3, 1) := by decide +kernel
theorem dL_four_26 : decode cL_four 26 = .ok (.iadd, 1) := by decide +kernel
theorem dL_four_27 : decode cL_four 27 = .ok (.invokevirtual 16, 3) := by decide +kernel
theorem dL_four_30 : decode cL_four 30 = .ok (.goto 4, 3) := by decide +kernel
theorem dL_four_33 : decode cL_four 33 = .ok (.iconst 0, 1) := by decide +kernel
theorem dL_four_34 : decode cL_four 34 = .ok (.ior, 1) := by decide +kernel
theorem dL_four_35 : decode cL_four 35 = .ok (.istore_n 2, 1) := by decide +kernel
theorem dL_four_36 : decode cL_four 36 = .ok (.iinc 3 1, 3) := by decide +kernel
theorem dL_four_39 : decode cL_four 39 = .ok (.goto (-35), 3) := by decide +kernel
theorem dL_four_42 : decode cL_four 42 = .ok (.iload_n 2, 1) := by decide +kernel
theorem dL_four_43 : decode cL_four 43 = .ok (.ireturn, 1) := by decide +kernel
def mi_L_four : MI := (RL, yL_four, cL_four, 4, some .int, [], { frames := 6, cells := 0, slots := 0, locals := 182 })
theorem ok_L_four : mOK mi_L_four 2 := ⟨rfl, cw_L_four, ini_L, ⟨rfl, by decide⟩, by decide, by decide, rfl⟩
theorem v_L_four_34 (rc4 : Nat → Int32 → Int32 → Int32 → Mem → Option Int32) (h4 : ∀ (l0 : Nat) (l1 : Int32) (l2 : Int32) (l3 : Int32) (M : Mem), V mi_L_four 4 [(0, .ref l0), (1, .int l1), (2, .int l2), (3, .int l3)] [] M 0 0 (rc4 l0 l1 l2 l3 M) (eI M)) (l0 : Nat) (l1 : Int32) (l3 : Int32) (s0 : Int32) (s1 : Int32) (M : Mem) : V mi_L_four 34 [(0, .ref l0), (1, .int l1), (3, .int l3)] [.int s1, .int s0] M 0 0 (f_L_four_34 rc4 l0 l1 l3 s0 s1 M) (eI M) := by
  unfold f_L_four_34
  refine V_ior dL_four_34 rfl ?_
  refine V_istore_n (L' := [(0, .ref l0), (1, .int l1), (2, .int (s0 ||| s1)), (3, .int l3)]) dL_four_35 rfl (by decide) rfl ?_
  refine V_iinc (y := (l3 + 1)) (L' := [(0, .ref l0), (1, .int l1), (2, .int (s0 ||| s1)), (3, .int (l3 + 1))]) dL_four_36 rfl 3 rfl rfl (by decide) rfl ?_
  refine V_goto (q := 4) dL_four_39 (by decide) ?_
  exact h4 l0 l1 (s0 ||| s1) (l3 + 1) M
theorem v_L_four_4 : ∀ (fu : Nat) (l0 : Nat) (l1 : Int32) (l2 : Int32) (l3 : Int32) (M : Mem), V mi_L_four 4 [(0, .ref l0), (1, .int l1), (2, .int l2), (3, .int l3)] [] M 0 0 (f_L_four_4 fu l0 l1 l2 l3 M) (eI M) := by
  intro fu
  induction fu with
  | zero => intros; exact V_none
  | succ fu ih =>
    intro l0 l1 l2 l3 M
    show V mi_L_four 4 [(0, .ref l0), (1, .int l1), (2, .int l2), (3, .int l3)] [] M 0 0 (f_L_four_4 (fu + 1) l0 l1 l2 l3 M) (eI M)
    unfold f_L_four_4
    refine V_iload_n dL_four_4 rfl 3 rfl ?_
    refine V_iconst (x := 4) dL_four_5 rfl rfl ?_
    refine V_icmp_ge (q := 42) (q2 := 9) dL_four_6 (by decide) rfl ?_ ?_
    · refine V_iload_n dL_four_42 rfl 2 rfl ?_
      exact V_iret dL_four_43 rfl rfl ⟨(Nat.le_of_ble_eq_true rfl), (Nat.le_of_ble_eq_true rfl)⟩
    · refine V_iload_n dL_four_9 rfl 2 rfl ?_
      refine V_bipush (x := 8) dL_four_10 rfl rfl ?_
      refine V_ishl dL_four_12 rfl ?_
      refine V_iload_n dL_four_13 rfl 1 rfl ?_
      refine V_iload_n dL_four_14 rfl 3 rfl ?_
      refine V_iadd dL_four_15 rfl ?_
      refine V_aload_n dL_four_16 rfl 0 rfl ?_
      refine V_cGeI (CRun.V (C := RJ0) (As := []) (k_J0_length_8abf5 l0 M) (fun _ h => RC.str (o_J0_length_8abf5 h)) ok_J0_length_8abf5 im_J0_length_8abf5 (selOK.of se_J0_length_8abf5) ml_L_10 ⟨⟨(Nat.le_of_ble_eq_true rfl), (Nat.le_of_ble_eq_true rfl)⟩, (Nat.le_of_ble_eq_true rfl), (Nat.le_of_ble_eq_true rfl)⟩ dL_four_17 rfl rfl (Nat.le_of_ble_eq_true rfl)) rfl rfl rfl (fun x1 => ?_)
      refine V_icmp_ge (q := 33) (q2 := 23) dL_four_20 (by decide) rfl ?_ ?_
      · refine V_iconst (x := 0) dL_four_33 rfl rfl ?_
        exact V_sub [0, 1, 3] rfl (v_L_four_34 (f_L_four_4 fu) ih l0 l1 l3 (l2 <<< (8 &&& 31)) 0 M)
      · refine V_aload_n dL_four_23 rfl 0 rfl ?_
        refine V_iload_n dL_four_24 rfl 1 rfl ?_
        refine V_iload_n dL_four_25 rfl 3 rfl ?_
        refine V_iadd dL_four_26 rfl ?_
        refine V_cGeI (CRun.V (C := RJ0) (As := [.int (l1 + l3)]) (k_J0_charAt_5068e l0 (l1 + l3) M) (fun _ h => RC.str (o_J0_charAt_5068e h)) ok_J0_charAt_5068e im_J0_charAt_5068e (selOK.of se_J0_charAt_5068e) ml_L_16 ⟨⟨(Nat.le_of_ble_eq_true rfl), (Nat.le_of_ble_eq_true rfl)⟩, (Nat.le_of_ble_eq_true rfl), (Nat.le_of_ble_eq_true rfl)⟩ dL_four_27 rfl rfl (Nat.le_of_ble_eq_true rfl)) rfl rfl rfl (fun x2 => ?_)
        refine V_goto (q := 34) dL_four_30 (by decide) ?_
        exact V_sub [0, 1, 3] rfl (v_L_four_34 (f_L_four_4 fu) ih l0 l1 l3 (l2 <<< (8 &&& 31)) x2 M)
theorem v_L_four (a0 : Nat) (a1 : Int32) (M : Mem) : V mi_L_four 0 [(0, .ref a0), (1, .int a1)] [] M 0 0 (f_L_four a0 a1 M) (eI M) := by
  unfold f_L_four
  refine V_iconst (x := 0) dL_four_0 rfl rfl ?_
  refine V_istore_n (L' := [(0, .ref a0), (1, .int a1), (2, .int 0)]) dL_four_1 rfl (by decide) rfl ?_
  refine V_iconst (x := 0) dL_four_2 rfl rfl ?_
  refine V_istore_n (L' := [(0, .ref a0), (1, .int a1), (2, .int 0), (3, .int 0)]) dL_four_3 rfl (by decide) rfl ?_
  exact v_L_four_4 FU a0 a1 0 0 M
theorem k_L_four (a0 : Nat) (a1 : Int32) (M : Mem) : K mi_L_four [.ref a0, .int a1] M (f_L_four a0 a1 M) (eI M) := K_of_V ok_L_four (Nat.le_of_ble_eq_true rfl) (v_L_four a0 a1 M)
theorem dL_feed_0 : decode cL_feed 0 = .ok (.aload_n 0, 1) := by decide +kernel
theorem dL_feed_1 : decode cL_feed 1 = .ok (.iconst 0, 1) := by decide +kernel
theorem dL_feed_2 : decode cL_feed 2 = .ok (.invokevirtual 20, 3) := by decide +kernel
theorem dL_feed_5 : decode cL_feed 5 = .ok (.iconst 0, 1) := by decide +kernel
theorem dL_feed_6 : decode cL_feed 6 = .ok (.istore_n 2, 1) := by decide +kernel
theorem dL_feed_7 : decode cL_feed 7 = .ok (.iconst 0, 1) := by decide +kernel
theorem dL_feed_8 : decode cL_feed 8 = .ok (.istore_n 3, 1) := by decide +kernel
theorem dL_feed_9 : decode cL_feed 9 = .ok (.iload_n 3, 1) := by decide +kernel
theorem dL_feed_10 : decode cL_feed 10 = .ok (.aload_n 1, 1) := by decide +kernel
theorem dL_feed_11 : decode cL_feed 11 = .ok (.invokevirtual 10, 3) := by decide +kernel
theorem dL_feed_14 : decode cL_feed 14 = .ok (.if_icmp .lt 7, 3) := by decide +kernel
theorem dL_feed_17 : decode cL_feed 17 = .ok (.iload_n 3, 1) := by decide +kernel
theorem dL_feed_18 : decode cL_feed 18 = .ok (.ifCond .ne 50, 3) := by decide +kernel
theorem dL_feed_21 : decode cL_feed 21 = .ok (.aload_n 0, 1) := by decide +kernel
theorem dL_feed_22 : decode cL_feed 22 = .ok (.aload_n 1, 1) := by decide +kernel
theorem dL_feed_23 : decode cL_feed 23 = .ok (.iload_n 3, 1) := by decide +kernel
theorem dL_feed_24 : decode cL_feed 24 = .ok (.invokestatic 26, 3) := by decide +kernel
theorem dL_feed_27 : decode cL_feed 27 = .ok (.aload_n 1, 1) := by decide +kernel
theorem dL_feed_28 : decode cL_feed 28 = .ok (.iload_n 3, 1) := by decide +kernel
theorem dL_feed_29 : decode cL_feed 29 = .ok (.iconst 4, 1) := by decide +kernel
theorem dL_feed_30 : decode cL_feed 30 = .ok (.iadd, 1) := by decide +kernel
theorem dL_feed_31 : decode cL_feed 31 = .ok (.invokestatic 26, 3) := by decide +kernel
theorem dL_feed_34 : decode cL_feed 34 = .ok (.aload_n 1, 1) := by decide +kernel
theorem dL_feed_35 : decode cL_feed 35 = .ok (.iload_n 3, 1) := by decide +kernel
theorem dL_feed_36 : decode cL_feed 36 = .ok (.bipush 8, 2) := by decide +kernel
theorem dL_feed_38 : decode cL_feed 38 = .ok (.iadd, 1) := by decide +kernel
theorem dL_feed_39 : decode cL_feed 39 = .ok (.invokestatic 26, 3) := by decide +kernel
theorem dL_feed_42 : decode cL_feed 42 = .ok (.aload_n 1, 1) := by decide +kernel
theorem dL_feed_43 : decode cL_feed 43 = .ok (.iload_n 3, 1) := by decide +kernel
theorem dL_feed_44 : decode cL_feed 44 = .ok (.bipush 12, 2) := by decide +kernel
theorem dL_feed_46 : decode cL_feed 46 = .ok (.iadd, 1) := by decide +kernel
theorem dL_feed_47 : decode cL_feed 47 = .ok (.invokestatic 26, 3) := by decide +kernel
theorem dL_feed_50 : decode cL_feed 50 = .ok (.aload_n 1, 1) := by decide +kernel
theorem dL_feed_51 : decode cL_feed 51 = .ok (.iload_n 3, 1) := by decide +kernel
theorem dL_feed_52 : decode cL_feed 52 = .ok (.bipush 16, 2) := by decide +kernel
theorem dL_feed_54 : decode cL_feed 54 = .ok (.iadd, 1) := by decide +kernel
theorem dL_feed_55 : decode cL_feed 55 = .ok (.invokestatic 26, 3) := by decide +kernel
theorem dL_feed_58 : decode cL_feed 58 = .ok (.invokevirtual 32, 3) := by decide +kernel
theorem dL_feed_61 : decode cL_feed 61 = .ok (.istore_n 2, 1) := by decide +kernel
theorem dL_feed_62 : decode cL_feed 62 = .ok (.iinc 3 20, 3) := by decide +kernel
theorem dL_feed_65 : decode cL_feed 65 = .ok (.goto (-56), 3) := by decide +kernel
theorem dL_feed_68 : decode cL_feed 68 = .ok (.aload_n 0, 1) := by decide +kernel
theorem dL_feed_69 : decode cL_feed 69 = .ok (.iload_n 2, 1) := by decide +kernel
theorem dL_feed_70 : decode cL_feed 70 = .ok (.aload_n 1, 1) := by decide +kernel
theorem dL_feed_71 : decode cL_feed 71 = .ok (.invokevirtual 10, 3) := by decide +kernel
theorem dL_feed_74 : decode cL_feed 74 = .ok (.invokestatic 36, 3) := by decide +kernel
theorem dL_feed_77 : decode cL_feed 77 = .ok (.invokevirtual 20, 3) := by decide +kernel
theorem dL_feed_80 : decode cL_feed 80 = .ok (.return_, 1) := by decide +kernel
def mi_L_feed : MI := (RL, yL_feed, cL_feed, 4, none, [], { frames := 9, cells := 32, slots := 192, locals := 205 })
theorem ok_L_feed : mOK mi_L_feed 2 := ⟨rfl, cw_L_feed, ini_L, ⟨rfl, by decide⟩, by decide, by decide, rfl⟩
theorem v_L_feed_21 (fo : Nat) (rc9 : Nat → Nat → Int32 → Int32 → Mem → Option ((Unit ⊕ String) × Mem)) (h9 : ∀ (l0 : Nat) (l1 : Nat) (l2 : Int32) (l3 : Int32) (M : Mem) (k n : Nat) (_ : kb 31 186 1 6 fo k n), V mi_L_feed 9 [(0, .ref l0), (1, .ref l1), (2, .int l2), (3, .int l3)] [] M k n (rc9 l0 l1 l2 l3 M) tV) (l0 : Nat) (l1 : Nat) (l3 : Int32) (M : Mem) (k n : Nat) (hb : kb 31 186 1 6 (fo + 1) k n) : V mi_L_feed 21 [(0, .ref l0), (1, .ref l1), (3, .int l3)] [] M (k + 0) (n + 0) (f_L_feed_21 rc9 l0 l1 l3 M) tV := by
  unfold f_L_feed_21
  refine V_aload_n dL_feed_21 rfl 0 rfl ?_
  refine V_aload_n dL_feed_22 rfl 1 rfl ?_
  refine V_iload_n dL_feed_23 rfl 2 rfl ?_
  refine V_cSeI (As := [.ref l1, .int l3]) (k_L_four l1 l3 M) ok_L_four sm_L_four ml_L_26 ⟨⟨(Nat.le_of_ble_eq_true rfl), (Nat.le_of_ble_eq_true rfl)⟩, kb_c0 hb (Nat.le_of_ble_eq_true rfl) (Nat.le_of_ble_eq_true rfl), kb_s0 hb (Nat.le_of_ble_eq_true rfl) (Nat.le_of_ble_eq_true rfl)⟩ dL_feed_24 rfl rfl rfl (Nat.le_of_ble_eq_true rfl) rfl rfl (fun x4 => ?_)
  refine V_aload_n dL_feed_27 rfl 1 rfl ?_
  refine V_iload_n dL_feed_28 rfl 2 rfl ?_
  refine V_iconst (x := 4) dL_feed_29 rfl rfl ?_
  refine V_iadd dL_feed_30 rfl ?_
  refine V_cSeI (As := [.ref l1, .int (l3 + 4)]) (k_L_four l1 (l3 + 4) M) ok_L_four sm_L_four ml_L_26 ⟨⟨(Nat.le_of_ble_eq_true rfl), (Nat.le_of_ble_eq_true rfl)⟩, kb_c0 hb (Nat.le_of_ble_eq_true rfl) (Nat.le_of_ble_eq_true rfl), kb_s0 hb (Nat.le_of_ble_eq_true rfl) (Nat.le_of_ble_eq_true rfl)⟩ dL_feed_31 rfl rfl rfl (Nat.le_of_ble_eq_true rfl) rfl rfl (fun x5 => ?_)
  refine V_aload_n dL_feed_34 rfl 1 rfl ?_
  refine V_iload_n dL_feed_35 rfl 2 rfl ?_
  refine V_bipush (x := 8) dL_feed_36 rfl rfl ?_
  refine V_iadd dL_feed_38 rfl ?_
  refine V_cSeI (As := [.ref l1, .int (l3 + 8)]) (k_L_four l1 (l3 + 8) M) ok_L_four sm_L_four ml_L_26 ⟨⟨(Nat.le_of_ble_eq_true rfl), (Nat.le_of_ble_eq_true rfl)⟩, kb_c0 hb (Nat.le_of_ble_eq_true rfl) (Nat.le_of_ble_eq_true rfl), kb_s0 hb (Nat.le_of_ble_eq_true rfl) (Nat.le_of_ble_eq_true rfl)⟩ dL_feed_39 rfl rfl rfl (Nat.le_of_ble_eq_true rfl) rfl rfl (fun x6 => ?_)
  refine V_aload_n dL_feed_42 rfl 1 rfl ?_
  refine V_iload_n dL_feed_43 rfl 2 rfl ?_
  refine V_bipush (x := 12) dL_feed_44 rfl rfl ?_
  refine V_iadd dL_feed_46 rfl ?_
  refine V_cSeI (As := [.ref l1, .int (l3 + 12)]) (k_L_four l1 (l3 + 12) M) ok_L_four sm_L_four ml_L_26 ⟨⟨(Nat.le_of_ble_eq_true rfl), (Nat.le_of_ble_eq_true rfl)⟩, kb_c0 hb (Nat.le_of_ble_eq_true rfl) (Nat.le_of_ble_eq_true rfl), kb_s0 hb (Nat.le_of_ble_eq_true rfl) (Nat.le_of_ble_eq_true rfl)⟩ dL_feed_47 rfl rfl rfl (Nat.le_of_ble_eq_true rfl) rfl rfl (fun x7 => ?_)
  refine V_aload_n dL_feed_50 rfl 1 rfl ?_
  refine V_iload_n dL_feed_51 rfl 2 rfl ?_
  refine V_bipush (x := 16) dL_feed_52 rfl rfl ?_
  refine V_iadd dL_feed_54 rfl ?_
  refine V_cSeI (As := [.ref l1, .int (l3 + 16)]) (k_L_four l1 (l3 + 16) M) ok_L_four sm_L_four ml_L_26 ⟨⟨(Nat.le_of_ble_eq_true rfl), (Nat.le_of_ble_eq_true rfl)⟩, kb_c0 hb (Nat.le_of_ble_eq_true rfl) (Nat.le_of_ble_eq_true rfl), kb_s0 hb (Nat.le_of_ble_eq_true rfl) (Nat.le_of_ble_eq_true rfl)⟩ dL_feed_55 rfl rfl rfl (Nat.le_of_ble_eq_true rfl) rfl rfl (fun x8 => ?_)
  refine V_cVtI (As := [.int x4, .int x5, .int x6, .int x7, .int x8]) (k_X11_append l0 x4 x5 x6 x7 x8 M) rfl (fun _ _ => rfl) (fun _ h => o_X11_append h) ok_X11_append im_X11_append se_X11_append rfl (ci := 10) rfl ml_L_32 ⟨⟨(Nat.le_of_ble_eq_true rfl), (Nat.le_of_ble_eq_true rfl)⟩, kb_c0 hb (Nat.le_of_ble_eq_true rfl) (Nat.le_of_ble_eq_true rfl), kb_s0 hb (Nat.le_of_ble_eq_true rfl) (Nat.le_of_ble_eq_true rfl)⟩ dL_feed_58 rfl rfl rfl (Nat.le_of_ble_eq_true rfl) rfl rfl (fun x9 M10 => ?_)
  refine V_istore_n (L' := [(0, .ref l0), (1, .ref l1), (2, .int x9), (3, .int l3)]) dL_feed_61 rfl (by decide) rfl ?_
  refine V_iinc (y := (l3 + 20)) (L' := [(0, .ref l0), (1, .ref l1), (2, .int x9), (3, .int (l3 + 20))]) dL_feed_62 rfl 3 rfl rfl (by decide) rfl ?_
  refine V_goto (q := 9) dL_feed_65 (by decide) ?_
  exact h9 l0 l1 x9 (l3 + 20) M10 _ _ (kb_next hb (Nat.le_of_ble_eq_true rfl) (Nat.le_of_ble_eq_true rfl))
theorem v_L_feed_68 (l0 : Nat) (l1 : Nat) (l2 : Int32) (M : Mem) : V mi_L_feed 68 [(0, .ref l0), (1, .ref l1), (2, .int l2)] [] M 31 186 (f_L_feed_68 l0 l1 l2 M) tV := by
  unfold f_L_feed_68
  refine V_aload_n dL_feed_68 rfl 0 rfl ?_
  refine V_iload_n dL_feed_69 rfl 2 rfl ?_
  refine V_aload_n dL_feed_70 rfl 1 rfl ?_
  refine V_cGeI (CRun.V (C := RJ0) (As := []) (k_J0_length_8abf5 l1 M) (fun _ h => RC.str (o_J0_length_8abf5 h)) ok_J0_length_8abf5 im_J0_length_8abf5 (selOK.of se_J0_length_8abf5) ml_L_10 ⟨⟨(Nat.le_of_ble_eq_true rfl), (Nat.le_of_ble_eq_true rfl)⟩, (Nat.le_of_ble_eq_true rfl), (Nat.le_of_ble_eq_true rfl)⟩ dL_feed_71 rfl rfl (Nat.le_of_ble_eq_true rfl)) rfl rfl rfl (fun x11 => ?_)
  refine V_cSeI (As := [.int l2, .int x11]) (k_J9_min_7cf53 l2 x11 M) ok_J9_min_7cf53 sm_J9_min_7cf53 ml_L_36 ⟨⟨(Nat.le_of_ble_eq_true rfl), (Nat.le_of_ble_eq_true rfl)⟩, (Nat.le_of_ble_eq_true rfl), (Nat.le_of_ble_eq_true rfl)⟩ dL_feed_74 rfl rfl rfl (Nat.le_of_ble_eq_true rfl) rfl rfl (fun x12 => ?_)
  refine V_cVtV (As := [.int x12]) (k_X11_truncate l0 x12 M) rfl (fun _ _ => rfl) (fun _ h => o_X11_truncate h) ok_X11_truncate im_X11_truncate se_X11_truncate rfl (ci := 10) rfl ml_L_20 ⟨⟨(Nat.le_of_ble_eq_true rfl), (Nat.le_of_ble_eq_true rfl)⟩, (Nat.le_of_ble_eq_true rfl), (Nat.le_of_ble_eq_true rfl)⟩ dL_feed_77 rfl rfl rfl (Nat.le_of_ble_eq_true rfl) rfl rfl (fun M14 => ?_)
  exact V_vret dL_feed_80 rfl rfl ⟨(Nat.le_of_ble_eq_true rfl), (Nat.le_of_ble_eq_true rfl)⟩
theorem v_L_feed_9 : ∀ (fu : Nat) (l0 : Nat) (l1 : Nat) (l2 : Int32) (l3 : Int32) (M : Mem) (k n : Nat) (_ : kb 31 186 1 6 fu k n), V mi_L_feed 9 [(0, .ref l0), (1, .ref l1), (2, .int l2), (3, .int l3)] [] M k n (f_L_feed_9 fu l0 l1 l2 l3 M) tV := by
  intro fu
  induction fu with
  | zero => intros; exact V_none
  | succ fu ih =>
    intro l0 l1 l2 l3 M k n hb
    show V mi_L_feed 9 [(0, .ref l0), (1, .ref l1), (2, .int l2), (3, .int l3)] [] M k n (f_L_feed_9 (fu + 1) l0 l1 l2 l3 M) tV
    unfold f_L_feed_9
    refine V_iload_n dL_feed_9 rfl 3 rfl ?_
    refine V_aload_n dL_feed_10 rfl 1 rfl ?_
    refine V_cGeI (CRun.V (C := RJ0) (As := []) (k_J0_length_8abf5 l1 M) (fun _ h => RC.str (o_J0_length_8abf5 h)) ok_J0_length_8abf5 im_J0_length_8abf5 (selOK.of se_J0_length_8abf5) ml_L_10 ⟨⟨(Nat.le_of_ble_eq_true rfl), (Nat.le_of_ble_eq_true rfl)⟩, kb_c0 hb (Nat.le_of_ble_eq_true rfl) (Nat.le_of_ble_eq_true rfl), kb_s0 hb (Nat.le_of_ble_eq_true rfl) (Nat.le_of_ble_eq_true rfl)⟩ dL_feed_11 rfl rfl (Nat.le_of_ble_eq_true rfl)) rfl rfl rfl (fun x3 => ?_)
    refine V_icmp_lt (q := 21) (q2 := 17) dL_feed_14 (by decide) rfl ?_ ?_
    · exact V_sub [0, 1, 3] rfl (v_L_feed_21 fu (f_L_feed_9 fu) ih l0 l1 l3 M k n hb)
    · refine V_iload_n dL_feed_17 rfl 3 rfl ?_
      refine V_if_ne (q := 68) (q2 := 21) dL_feed_18 (by decide) rfl ?_ ?_
      · exact V_sub [0, 1, 2] rfl (V_w (kb_ck0 hb (Nat.le_of_ble_eq_true rfl)) (kb_sk0 hb (Nat.le_of_ble_eq_true rfl)) (v_L_feed_68 l0 l1 l2 M))
      · exact V_sub [0, 1, 3] rfl (v_L_feed_21 fu (f_L_feed_9 fu) ih l0 l1 l3 M k n hb)
theorem v_L_feed (a0 : Nat) (a1 : Nat) (M : Mem) : V mi_L_feed 0 [(0, .ref a0), (1, .ref a1)] [] M 0 0 (f_L_feed a0 a1 M) tV := by
  unfold f_L_feed
  refine V_aload_n dL_feed_0 rfl 0 rfl ?_
  refine V_iconst (x := 0) dL_feed_1 rfl rfl ?_
  refine V_cVtV (As := [.int 0]) (k_X11_truncate a0 0 M) rfl (fun _ _ => rfl) (fun _ h => o_X11_truncate h) ok_X11_truncate im_X11_truncate se_X11_truncate rfl (ci := 10) rfl ml_L_20 ⟨⟨(Nat.le_of_ble_eq_true rfl), (Nat.le_of_ble_eq_true rfl)⟩, (Nat.le_of_ble_eq_true rfl), (Nat.le_of_ble_eq_true rfl)⟩ dL_feed_2 rfl rfl rfl (Nat.le_of_ble_eq_true rfl) rfl rfl (fun M2 => ?_)
  refine V_iconst (x := 0) dL_feed_5 rfl rfl ?_
  refine V_istore_n (L' := [(0, .ref a0), (1, .ref a1), (2, .int 0)]) dL_feed_6 rfl (by decide) rfl ?_
  refine V_iconst (x := 0) dL_feed_7 rfl rfl ?_
  refine V_istore_n (L' := [(0, .ref a0), (1, .ref a1), (2, .int 0), (3, .int 0)]) dL_feed_8 rfl (by decide) rfl ?_
  exact v_L_feed_9 30 a0 a1 0 0 M2 1 6 ⟨(Nat.le_of_ble_eq_true rfl), (Nat.le_of_ble_eq_true rfl)⟩
theorem k_L_feed (a0 : Nat) (a1 : Nat) (M : Mem) : K mi_L_feed [.ref a0, .ref a1] M (f_L_feed a0 a1 M) tV := K_of_V ok_L_feed (Nat.le_of_ble_eq_true rfl) (v_L_feed a0 a1 M)
theorem dL_flags_0 : decode cL_flags 0 = .ok (.iconst 5, 1) := by decide +kernel
theorem dL_flags_1 : decode cL_flags 1 = .ok (.anewarray 11, 3) := by decide +kernel
theorem dL_flags_4 : decode cL_flags 4 = .ok (.dup, 1) := by decide +kernel
theorem dL_flags_5 : decode cL_flags 5 = .ok (.iconst 0, 1) := by decide +kernel
theorem dL_flags_6 : decode cL_flags 6 = .ok (.ldc 42, 2) := by decide +kernel
theorem dL_flags_8 : decode cL_flags 8 = .ok (.aastore, 1) := by decide +kernel
theorem dL_flags_9 : decode cL_flags 9 = .ok (.dup, 1) := by decide +kernel
theorem dL_flags_10 : decode cL_flags 10 = .ok (.iconst 1, 1) := by decide +kernel
theorem dL_flags_11 : decode cL_flags 11 = .ok (.ldc 44, 2) := by decide +kernel
theorem dL_flags_13 : decode cL_flags 13 = .ok (.aastore, 1) := by decide +kernel
theorem dL_flags_14 : decode cL_flags 14 = .ok (.dup, 1) := by decide +kernel
theorem dL_flags_15 : decode cL_flags 15 = .ok (.iconst 2, 1) := by decide +kernel
theorem dL_flags_16 : decode cL_flags 16 = .ok (.ldc 46, 2) := by decide +kernel
theorem dL_flags_18 : decode cL_flags 18 = .ok (.aastore, 1) := by decide +kernel
theorem dL_flags_19 : decode cL_flags 19 = .ok (.dup, 1) := by decide +kernel
theorem dL_flags_20 : decode cL_flags 20 = .ok (.iconst 3, 1) := by decide +kernel
theorem dL_flags_21 : decode cL_flags 21 = .ok (.ldc 48, 2) := by decide +kernel
theorem dL_flags_23 : decode cL_flags 23 = .ok (.aastore, 1) := by decide +kernel
theorem dL_flags_24 : decode cL_flags 24 = .ok (.dup, 1) := by decide +kernel
theorem dL_flags_25 : decode cL_flags 25 = .ok (.iconst 4, 1) := by decide +kernel
theorem dL_flags_26 : decode cL_flags 26 = .ok (.ldc 50, 2) := by decide +kernel
theorem dL_flags_28 : decode cL_flags 28 = .ok (.aastore, 1) := by decide +kernel
theorem dL_flags_29 : decode cL_flags 29 = .ok (.astore_n 1, 1) := by decide +kernel
theorem dL_flags_30 : decode cL_flags 30 = .ok (.new 52, 3) := by decide +kernel
theorem dL_flags_33 : decode cL_flags 33 = .ok (.dup, 1) := by decide +kernel
theorem dL_flags_34 : decode cL_flags 34 = .ok (.invokespecial 54, 3) := by decide +kernel
theorem dL_flags_37 : decode cL_flags 37 = .ok (.astore_n 2, 1) := by decide +kernel
theorem dL_flags_38 : decode cL_flags 38 = .ok (.iconst 0, 1) := by decide +kernel
theorem dL_flags_39 : decode cL_flags 39 = .ok (.istore_n 3, 1) := by decide +kernel
theorem dL_flags_40 : decode cL_flags 40 = .ok (.iload_n 3, 1) := by decide +kernel
theorem dL_flags_41 : decode cL_flags 41 = .ok (.iconst 5, 1) := by decide +kernel
theorem dL_flags_42 : decode cL_flags 42 = .ok (.if_icmp .ge 31, 3) := by decide +kernel
theorem dL_flags_45 : decode cL_flags 45 = .ok (.aload_n 2, 1) := by decide +kernel
theorem dL_flags_46 : decode cL_flags 46 = .ok (.iload_n 0, 1) := by decide +kernel
theorem dL_flags_47 : decode cL_flags 47 = .ok (.iload_n 3, 1) := by decide +kernel
theorem dL_flags_48 : decode cL_flags 48 = .ok (.ishr, 1) := by decide +kernel
theorem dL_flags_49 : decode cL_flags 49 = .ok (.iconst 1, 1) := by decide +kernel
theorem dL_flags_50 : decode cL_flags 50 = .ok (.iand, 1) := by decide +kernel
theorem dL_flags_51 : decode cL_flags 51 = .ok (.iconst 1, 1) := by decide +kernel
theorem dL_flags_52 : decode cL_flags 52 = .ok (.if_icmp .ne 9, 3) := by decide +kernel
theorem dL_flags_55 : decode cL_flags 55 = .ok (.aload_n 1, 1) := by decide +kernel
theorem dL_flags_56 : decode cL_flags 56 = .ok (.iload_n 3, 1) := by decide +kernel
theorem dL_flags_57 : decode cL_flags 57 = .ok (.aaload, 1) := by decide +kernel
theorem dL_flags_58 : decode cL_flags 58 = .ok (.goto 5, 3) := by decide +kernel
theorem dL_flags_61 : decode cL_flags 61 = .ok (.ldc 55, 2) := by decide +kernel
theorem dL_flags_63 : decode cL_flags 63 = .ok (.invokevirtual 57, 3) := by decide +kernel
theorem dL_flags_66 : decode cL_flags 66 = .ok (.pop, 1) := by decide +kernel
theorem dL_flags_67 : decode cL_flags 67 = .ok (.iinc 3 1, 3) := by decide +kernel
theorem dL_flags_70 : decode cL_flags 70 = .ok (.goto (-30), 3) := by decide +kernel
theorem dL_flags_73 : decode cL_flags 73 = .ok (.aload_n 2, 1) := by decide +kernel
theorem dL_flags_74 : decode cL_flags 74 = .ok (.invokevirtual 60, 3) := by decide +kernel
theorem dL_flags_77 : decode cL_flags 77 = .ok (.areturn, 1) := by decide +kernel
def mi_L_flags : MI := (RL, yL_flags, cL_flags, 4, some (.object "java/lang/String"), [], { frames := 7, cells := 11, slots := 8205, locals := 171 })
theorem ok_L_flags : mOK mi_L_flags 1 := ⟨rfl, cw_L_flags, ini_L, ⟨rfl, by decide⟩, by decide, by decide, rfl⟩
theorem v_L_flags_73 (l2 : Nat) (M : Mem) : V mi_L_flags 73 [(2, .ref l2)] [] M 9 7177 (f_L_flags_73 l2 M) wR := by
  unfold f_L_flags_73
  refine V_aload_n dL_flags_73 rfl 0 rfl ?_
  refine V_cGwR (CRun.V (C := RJ4) (As := []) (k_J4_toString_0e30d l2 M) (fun _ h => RC.obj (ci := 12) (T := TJ4) (N := 4) rfl (o_J4_toString_0e30d h)) ok_J4_toString_0e30d im_J4_toString_0e30d (selOK.of se_J4_toString_0e30d) ml_L_60 ⟨⟨(Nat.le_of_ble_eq_true rfl), (Nat.le_of_ble_eq_true rfl)⟩, (Nat.le_of_ble_eq_true rfl), (Nat.le_of_ble_eq_true rfl)⟩ dL_flags_74 rfl rfl (Nat.le_of_ble_eq_true rfl)) rfl rfl rfl (fun x10 M11 => ?_)
  exact V_aret (v := some x10) dL_flags_77 rfl (Or.inl ⟨_, rfl⟩) rfl ⟨(Nat.le_of_ble_eq_true rfl), (Nat.le_of_ble_eq_true rfl)⟩
theorem v_L_flags_63 (fo : Nat) (rc40 : Int32 → Nat → Nat → Int32 → Mem → Option (Nat × Mem)) (h40 : ∀ (l0 : Int32) (l1 : Nat) (l2 : Nat) (l3 : Int32) (M : Mem) (k n : Nat) (_ : kb 9 7177 1 1024 fo k n), V mi_L_flags 40 [(0, .int l0), (1, .ref l1), (2, .ref l2), (3, .int l3)] [] M k n (rc40 l0 l1 l2 l3 M) wR) (l0 : Int32) (l1 : Nat) (l2 : Nat) (l3 : Int32) (s0 : Nat) (s1 : Option Nat) (M : Mem) (k n : Nat) (hb : kb 9 7177 1 1024 (fo + 1) k n) : V mi_L_flags 63 [(0, .int l0), (1, .ref l1), (2, .ref l2), (3, .int l3)] [va_rf s1, .ref s0] M (k + 0) (n + 0) (f_L_flags_63 rc40 l0 l1 l2 l3 s0 s1 M) wR := by
  unfold f_L_flags_63
  refine V_nn (fun r12 hqr12 => ?_)
  subst hqr12
  refine V_cGwR (CRun.V (C := RJ4) (As := [.ref r12]) (k_J4_append_15ec4 s0 r12 M) (fun _ h => RC.obj (ci := 12) (T := TJ4) (N := 4) rfl (o_J4_append_15ec4 h)) ok_J4_append_15ec4 im_J4_append_15ec4 (selOK.of se_J4_append_15ec4) ml_L_57 ⟨⟨(Nat.le_of_ble_eq_true rfl), (Nat.le_of_ble_eq_true rfl)⟩, kb_c0 hb (Nat.le_of_ble_eq_true rfl) (Nat.le_of_ble_eq_true rfl), kb_s0 hb (Nat.le_of_ble_eq_true rfl) (Nat.le_of_ble_eq_true rfl)⟩ dL_flags_63 rfl rfl (Nat.le_of_ble_eq_true rfl)) rfl rfl rfl (fun x13 M14 => ?_)
  refine V_pop dL_flags_66 rfl rfl ?_
  refine V_iinc (y := (l3 + 1)) (L' := [(0, .int l0), (1, .ref l1), (2, .ref l2), (3, .int (l3 + 1))]) dL_flags_67 rfl 3 rfl rfl (by decide) rfl ?_
  refine V_goto (q := 40) dL_flags_70 (by decide) ?_
  exact h40 l0 l1 l2 (l3 + 1) M14 _ _ (kb_next hb (Nat.le_of_ble_eq_true rfl) (Nat.le_of_ble_eq_true rfl))
theorem v_L_flags_40 : ∀ (fu : Nat) (l0 : Int32) (l1 : Nat) (l2 : Nat) (l3 : Int32) (M : Mem) (k n : Nat) (_ : kb 9 7177 1 1024 fu k n), V mi_L_flags 40 [(0, .int l0), (1, .ref l1), (2, .ref l2), (3, .int l3)] [] M k n (f_L_flags_40 fu l0 l1 l2 l3 M) wR := by
  intro fu
  induction fu with
  | zero => intros; exact V_none
  | succ fu ih =>
    intro l0 l1 l2 l3 M k n hb
    show V mi_L_flags 40 [(0, .int l0), (1, .ref l1), (2, .ref l2), (3, .int l3)] [] M k n (f_L_flags_40 (fu + 1) l0 l1 l2 l3 M) wR
    unfold f_L_flags_40
    refine V_iload_n dL_flags_40 rfl 3 rfl ?_
    refine V_iconst (x := 5) dL_flags_41 rfl rfl ?_
    refine V_icmp_ge (q := 73) (q2 := 45) dL_flags_42 (by decide) rfl ?_ ?_
    · exact V_sub [2] rfl (V_w (kb_ck0 hb (Nat.le_of_ble_eq_true rfl)) (kb_sk0 hb (Nat.le_of_ble_eq_true rfl)) (v_L_flags_73 l2 M))
    · refine V_aload_n dL_flags_45 rfl 2 rfl ?_
      refine V_iload_n dL_flags_46 rfl 0 rfl ?_
      refine V_iload_n dL_flags_47 rfl 3 rfl ?_
      refine V_ishr dL_flags_48 rfl ?_
      refine V_iconst (x := 1) dL_flags_49 rfl rfl ?_
      refine V_iand dL_flags_50 rfl ?_
      refine V_iconst (x := 1) dL_flags_51 rfl rfl ?_
      refine V_icmp_ne (q := 61) (q2 := 55) dL_flags_52 (by decide) rfl ?_ ?_
      · refine V_ldcs (i := 10) (by decide) rfl rfl dL_flags_61 rfl ?_
        exact v_L_flags_63 fu (f_L_flags_40 fu) ih l0 l1 l2 l3 l2 (some 53) M k n hb
      · refine V_aload_n dL_flags_55 rfl 1 rfl ?_
        refine V_iload_n dL_flags_56 rfl 3 rfl ?_
        refine V_aaload dL_flags_57 rfl rfl (fun x15 => ?_)
        refine V_goto (q := 63) dL_flags_58 (by decide) ?_
        exact v_L_flags_63 fu (f_L_flags_40 fu) ih l0 l1 l2 l3 l2 x15 M k n hb
theorem v_L_flags (a0 : Int32) (M : Mem) : V mi_L_flags 0 [(0, .int a0)] [] M 0 0 (f_L_flags a0 M) wR := by
  unfold f_L_flags
  refine V_iconst (x := 5) dL_flags_0 rfl rfl ?_
  refine V_anewarray dL_flags_1 rfl (t := 10) (N := 5) rfl cl_L_11 ao_10 (by decide) rfl (Nat.le_of_ble_eq_true rfl) ⟨(Nat.le_of_ble_eq_true rfl), (Nat.le_of_ble_eq_true rfl)⟩ (fun r1 => ?_)
  refine V_dup dL_flags_4 rfl rfl ?_
  refine V_iconst (x := 0) dL_flags_5 rfl rfl ?_
  refine V_ldcs (i := 5) (by decide) rfl rfl dL_flags_6 rfl ?_
  refine V_aastoreS dL_flags_8 rfl (fun M2 => ?_)
  refine V_dup dL_flags_9 rfl rfl ?_
  refine V_iconst (x := 1) dL_flags_10 rfl rfl ?_
  refine V_ldcs (i := 6) (by decide) rfl rfl dL_flags_11 rfl ?_
  refine V_aastoreS dL_flags_13 rfl (fun M3 => ?_)
  refine V_dup dL_flags_14 rfl rfl ?_
  refine V_iconst (x := 2) dL_flags_15 rfl rfl ?_
  refine V_ldcs (i := 7) (by decide) rfl rfl dL_flags_16 rfl ?_
  refine V_aastoreS dL_flags_18 rfl (fun M4 => ?_)
  refine V_dup dL_flags_19 rfl rfl ?_
  refine V_iconst (x := 3) dL_flags_20 rfl rfl ?_
  refine V_ldcs (i := 8) (by decide) rfl rfl dL_flags_21 rfl ?_
  refine V_aastoreS dL_flags_23 rfl (fun M5 => ?_)
  refine V_dup dL_flags_24 rfl rfl ?_
  refine V_iconst (x := 4) dL_flags_25 rfl rfl ?_
  refine V_ldcs (i := 9) (by decide) rfl rfl dL_flags_26 rfl ?_
  refine V_aastoreS dL_flags_28 rfl (fun M6 => ?_)
  refine V_astore_n (L' := [(0, .int a0), (1, .ref r1)]) dL_flags_29 rfl (by decide) rfl ?_
  refine V_new dL_flags_30 rfl (ci := 12) (T := TJ4) (N := 4) (fs := [.null, .int 0, .int 0, .int 0]) (ty := tyJ4) rfl cl_L_52 ins_J4 ini_J4 tyJ4_ok (fun _ j hj => match j, hj with | 0, _ => rfl | 1, _ => rfl | 2, _ => rfl | 3, _ => rfl | j + 4, h => absurd h (by omega)) ⟨(Nat.le_of_ble_eq_true rfl), (Nat.le_of_ble_eq_true rfl)⟩ (fun r7 => ?_)
  refine V_dup dL_flags_33 rfl rfl ?_
  refine V_cIwV (As := []) (k_J4_init_da8c8 r7 (mnew M6 (.inr (12, [.null, .int 0, .int 0, .int 0])))) ok_J4_init_da8c8 im_J4_init_da8c8 ml_L_54 ⟨⟨(Nat.le_of_ble_eq_true rfl), (Nat.le_of_ble_eq_true rfl)⟩, (Nat.le_of_ble_eq_true rfl), (Nat.le_of_ble_eq_true rfl)⟩ rfl rfl dL_flags_34 rfl rfl rfl (Nat.le_of_ble_eq_true rfl) rfl rfl (fun M9 => ?_)
  refine V_astore_n (L' := [(0, .int a0), (1, .ref r1), (2, .ref r7)]) dL_flags_37 rfl (by decide) rfl ?_
  refine V_iconst (x := 0) dL_flags_38 rfl rfl ?_
  refine V_istore_n (L' := [(0, .int a0), (1, .ref r1), (2, .ref r7), (3, .int 0)]) dL_flags_39 rfl (by decide) rfl ?_
  exact v_L_flags_40 6 a0 r1 r7 0 M9 3 1033 ⟨(Nat.le_of_ble_eq_true rfl), (Nat.le_of_ble_eq_true rfl)⟩
theorem k_L_flags (a0 : Int32) (M : Mem) : K mi_L_flags [.int a0] M (f_L_flags a0 M) wR := K_of_V ok_L_flags (Nat.le_of_ble_eq_true rfl) (v_L_flags a0 M)
theorem dL_load_0 : decode cL_load 0 = .ok (.iconst 1, 1) := by decide +kernel
theorem dL_load_1 : decode cL_load 1 = .ok (.aload_n 1, 1) := by decide +kernel
theorem dL_load_2 : decode cL_load 2 = .ok (.iconst 0, 1) := by decide +kernel
theorem dL_load_3 : decode cL_load 3 = .ok (.iconst 3, 1) := by decide +kernel
theorem dL_load_4 : decode cL_load 4 = .ok (.invokestatic 64, 3) := by decide +kernel
theorem dL_load_7 : decode cL_load 7 = .ok (.iadd, 1) := by decide +kernel
theorem dL_load_8 : decode cL_load 8 = .ok (.istore_n 2, 1) := by decide +kernel
theorem dL_load_9 : decode cL_load 9 = .ok (.iconst 1, 1) := by decide +kernel
theorem dL_load_10 : decode cL_load 10 = .ok (.aload_n 1, 1) := by decide +kernel
theorem dL_load_11 : decode cL_load 11 = .ok (.iconst 1, 1) := by decide +kernel
theorem dL_load_12 : decode cL_load 12 = .ok (.iconst 4, 1) := by decide +kernel
theorem dL_load_13 : decode cL_load 13 = .ok (.invokestatic 64, 3) := by decide +kernel
theorem dL_load_16 : decode cL_load 16 = .ok (.iadd, 1) := by decide +kernel
theorem dL_load_17 : decode cL_load 17 = .ok (.istore_n 3, 1) := by decide +kernel
theorem dL_load_18 : decode cL_load 18 = .ok (.aload_n 1, 1) := by decide +kernel
theorem dL_load_19 : decode cL_load 19 = .ok (.iconst 2, 1) := by decide +kernel
theorem dL_load_20 : decode cL_load 20 = .ok (.bipush 9, 2) := by decide +kernel
theorem dL_load_22 : decode cL_load 22 = .ok (.invokestatic 64, 3) := by decide +kernel
theorem dL_load_25 : decode cL_load 25 = .ok (.istore 4, 2) := by decide +kernel
theorem dL_load_27 : decode cL_load 27 = .ok (.bipush 6, 2) := by decide +kernel
theorem dL_load_29 : decode cL_load 29 = .ok (.aload_n 1, 1) := by decide +kernel
theorem dL_load_30 : decode cL_load 30 = .ok (.iconst 3, 1) := by decide +kernel
theorem dL_load_31 : decode cL_load 31 = .ok (.bipush 25, 2) := by decide +kernel
theorem dL_load_33 : decode cL_load 33 = .ok (.invokestatic 64, 3) := by decide +kernel
theorem dL_load_36 : decode cL_load 36 = .ok (.iadd, 1) := by decide +kernel
theorem dL_load_37 : decode cL_load 37 = .ok (.istore 5, 2) := by decide +kernel
theorem dL_load_39 : decode cL_load 39 = .ok (.new 52, 3) := by decide +kernel
theorem dL_load_42 : decode cL_load 42 = .ok (.dup, 1) := by decide +kernel
theorem dL_load_43 : decode cL_load 43 = .ok (.ldc 68, 2) := by decide +kernel
theorem dL_load_45 : decode cL_load 45 = .ok (.invokespecial 70, 3) := by decide +kernel
theorem dL_load_48 : decode cL_load 48 = .ok (.iload 5, 2) := by decide +kernel
theorem dL_load_50 : decode cL_load 50 = .ok (.invokevirtual 73, 3) := by decide +kernel
theorem dL_load_53 : decode cL_load 53 = .ok (.ldc 76, 2) := by decide +kernel
theorem dL_load_55 : decode cL_load 55 = .ok (.invokevirtual 57, 3) := by decide +kernel
theorem dL_load_58 : decode cL_load 58 = .ok (.astore 6, 2) := by decide +kernel
theorem dL_load_60 : decode cL_load 60 = .ok (.iconst 0, 1) := by decide +kernel
theorem dL_load_61 : decode cL_load 61 = .ok (.istore 7, 2) := by decide +kernel
theorem dL_load_63 : decode cL_load 63 = .ok (.iload 7, 2) := by decide +kernel
theorem dL_load_65 : decode cL_load 65 = .ok (.iload_n 2, 1) := by decide +kernel
theorem dL_load_66 : decode cL_load 66 = .ok (.if_icmp .ge 31, 3) := by decide +kernel
theorem dL_load_69 : decode cL_load 69 = .ok (.aload 6, 2) := by decide +kernel
theorem dL_load_71 : decode cL_load 71 = .ok (.ldc 78, 2) := by decide +kernel
theorem dL_load_73 : decode cL_load 73 = .ok (.invokevirtual 57, 3) := by decide +kernel
theorem dL_load_76 : decode cL_load 76 = .ok (.bipush 97, 2) := by decide +kernel
theorem dL_load_78 : decode cL_load 78 = .ok (.iload 7, 2) := by decide +kernel
theorem dL_load_80 : decode cL_load 80 = .ok (.iadd, 1) := by decide +kernel
theorem dL_load_81 : decode cL_load 81 = .ok (.i2c, 1) := by decide +kernel
theorem dL_load_82 : decode cL_load 82 = .ok (.invokevirtual 80, 3) := by decide +kernel
theorem dL_load_85 : decode cL_load 85 = .ok (.ldc 76, 2) := by decide +kernel
theorem dL_load_87 : decode cL_load 87 = .ok (.invokevirtual 57, 3) := by decide +kernel
theorem dL_load_90 : decode cL_load 90 = .ok (.pop, 1) := by decide +kernel
theorem dL_load_91 : decode cL_load 91 = .ok (.iinc 7 1, 3) := by decide +kernel
theorem dL_load_94 : decode cL_load 94 = .ok (.goto (-31), 3) := by decide +kernel
theorem dL_load_97 : decode cL_load 97 = .ok (.iconst 3, 1) := by decide +kernel
theorem dL_load_98 : decode cL_load 98 = .ok (.newarray .int, 2) := by decide +kernel
theorem dL_load_100 : decode cL_load 100 = .ok (.astore 7, 2) := by decide +kernel
theorem dL_load_102 : decode cL_load 102 = .ok (.iconst 0, 1) := by decide +kernel
theorem dL_load_103 : decode cL_load 103 = .ok (.istore 8, 2) := by decide +kernel
theorem dL_load_105 : decode cL_load 105 = .ok (.iconst 0, 1) := by decide +kernel
theorem dL_load_106 : decode cL_load 106 = .ok (.istore 9, 2) := by decide +kernel
theorem dL_load_108 : decode cL_load 108 = .ok (.iload 9, 2) := by decide +kernel
theorem dL_load_110 : decode cL_load 110 = .ok (.iload 4, 2) := by decide +kernel
theorem dL_load_112 : decode cL_load 112 = .ok (.if_icmp .ge 107, 3) := by decide +kernel
theorem dL_load_115 : decode cL_load 115 = .ok (.aload_n 1, 1) := by decide +kernel
theorem dL_load_116 : decode cL_load 116 = .ok (.bipush 10, 2) := by decide +kernel
theorem dL_load_118 : decode cL_load 118 = .ok (.iload 9, 2) := by decide +kernel
theorem dL_load_120 : decode cL_load 120 = .ok (.iadd, 1) := by decide +kernel
theorem dL_load_121 : decode cL_load 121 = .ok (.iload_n 2, 1) := by decide +kernel
theorem dL_load_122 : decode cL_load 122 = .ok (.invokestatic 64, 3) := by decide +kernel
theorem dL_load_125 : decode cL_load 125 = .ok (.istore 10, 2) := by decide +kernel
theorem dL_load_127 : decode cL_load 127 = .ok (.aload 7, 2) := by decide +kernel
theorem dL_load_129 : decode cL_load 129 = .ok (.iload 10, 2) := by decide +kernel
theorem dL_load_131 : decode cL_load 131 = .ok (.iaload, 1) := by decide +kernel
theorem dL_load_132 : decode cL_load 132 = .ok (.iload 5, 2) := by decide +kernel
theorem dL_load_134 : decode cL_load 134 = .ok (.if_icmp .ne 6, 3) := by decide +kernel
theorem dL_load_137 : decode cL_load 137 = .ok (.goto 76, 3) := by decide +kernel
theorem dL_load_140 : decode cL_load 140 = .ok (.aload 7, 2) := by decide +kernel
theorem dL_load_142 : decode cL_load 142 = .ok (.iload 10, 2) := by decide +kernel
theorem dL_load_144 : decode cL_load 144 = .ok (.dup2, 1) := by decide +kernel
theorem dL_load_145 : decode cL_load 145 = .ok (.iaload, 1) := by decide +kernel
theorem dL_load_146 : decode cL_load 146 = .ok (.iconst 1, 1) := by decide +kernel
theorem dL_load_147 : decode cL_load 147 = .ok (.iadd, 1) := by decide +kernel
theorem dL_load_148 : decode cL_load 148 = .ok (.iastore, 1) := by decide +kernel
theorem dL_load_149 : decode cL_load 149 = .ok (.iinc 8 1, 3) := by decide +kernel
theorem dL_load_152 : decode cL_load 152 = .ok (.aload 6, 2) := by decide +kernel
theorem dL_load_154 : decode cL_load 154 = .ok (.ldc 83, 2) := by decide +kernel
theorem dL_load_156 : decode cL_load 156 = .ok (.invokevirtual 57, 3) := by decide +kernel
theorem dL_load_159 : decode cL_load 159 = .ok (.bipush 97, 2) := by decide +kernel
theorem dL_load_161 : decode cL_load 161 = .ok (.iload 10, 2) := by decide +kernel
theorem dL_load_163 : decode cL_load 163 = .ok (.iadd, 1) := by decide +kernel
theorem dL_load_164 : decode cL_load 164 = .ok (.i2c, 1) := by decide +kernel
theorem dL_load_165 : decode cL_load 165 = .ok (.invokevirtual 80, 3) := by decide +kernel
theorem dL_load_168 : decode cL_load 168 = .ok (.ldc 85, 2) := by decide +kernel
theorem dL_load_170 : decode cL_load 170 = .ok (.invokevirtual 57, 3) := by decide +kernel
theorem dL_load_173 : decode cL_load 173 = .ok (.iconst 1, 1) := by decide +kernel
theorem dL_load_174 : decode cL_load 174 = .ok (.aload_n 1, 1) := by decide +kernel
theorem dL_load_175 : decode cL_load 175 = .ok (.bipush 20, 2) := by decide +kernel
theorem dL_load_177 : decode cL_load 177 = .ok (.iload 9, 2) := by decide +kernel
theorem dL_load_179 : decode cL_load 179 = .ok (.iadd, 1) := by decide +kernel
theorem dL_load_180 : decode cL_load 180 = .ok (.sipush 500, 3) := by decide +kernel
theorem dL_load_183 : decode cL_load 183 = .ok (.invokestatic 64, 3) := by decide +kernel
theorem dL_load_186 : decode cL_load 186 = .ok (.iadd, 1) := by decide +kernel
theorem dL_load_187 : decode cL_load 187 = .ok (.invokevirtual 73, 3) := by decide +kernel
theorem dL_load_190 : decode cL_load 190 = .ok (.aload_n 1, 1) := by decide +kernel
theorem dL_load_191 : decode cL_load 191 = .ok (.bipush 30, 2) := by decide +kernel
theorem dL_load_193 : decode cL_load 193 = .ok (.iload 9, 2) := by decide +kernel
theorem dL_load_195 : decode cL_load 195 = .ok (.iadd, 1) := by decide +kernel
theorem dL_load_196 : decode cL_load 196 = .ok (.bipush 32, 2) := by decide +kernel
theorem dL_load_198 : decode cL_load 198 = .ok (.invokestatic 64, 3) := by decide +kernel
theorem dL_load_201 : decode cL_load 201 = .ok (.invokestatic 87, 3) := by decide +kernel
theorem dL_load_204 : decode cL_load 204 = .ok (.invokevirtual 57, 3) := by decide +kernel
theorem dL_load_207 : decode cL_load 207 = .ok (.ldc 76, 2) := by decide +kernel
theorem dL_load_209 : decode cL_load 209 = .ok (.invokevirtual 57, 3) := by decide +kernel
theorem dL_load_212 : decode cL_load 212 = .ok (.pop, 1) := by decide +kernel
theorem dL_load_213 : decode cL_load 213 = .ok (.iinc 9 1, 3) := by decide +kernel
theorem dL_load_216 : decode cL_load 216 = .ok (.goto (-108), 3) := by decide +kernel
theorem dL_load_219 : decode cL_load 219 = .ok (.iconst 0, 1) := by decide +kernel
theorem dL_load_220 : decode cL_load 220 = .ok (.istore 9, 2) := by decide +kernel
theorem dL_load_222 : decode cL_load 222 = .ok (.iload 9, 2) := by decide +kernel
theorem dL_load_224 : decode cL_load 224 = .ok (.iload_n 3, 1) := by decide +kernel
theorem dL_load_225 : decode cL_load 225 = .ok (.if_icmp .ge 87, 3) := by decide +kernel
theorem dL_load_228 : decode cL_load 228 = .ok (.aload 6, 2) := by decide +kernel
theorem dL_load_230 : decode cL_load 230 = .ok (.ldc 91, 2) := by decide +kernel
theorem dL_load_232 : decode cL_load 232 = .ok (.invokevirtual 57, 3) := by decide +kernel
theorem dL_load_235 : decode cL_load 235 = .ok (.bipush 97, 2) := by decide +kernel
theorem dL_load_237 : decode cL_load 237 = .ok (.iload 9, 2) := by decide +kernel
theorem dL_load_239 : decode cL_load 239 = .ok (.iadd, 1) := by decide +kernel
theorem dL_load_240 : decode cL_load 240 = .ok (.i2c, 1) := by decide +kernel
theorem dL_load_241 : decode cL_load 241 = .ok (.invokevirtual 80, 3) := by decide +kernel
theorem dL_load_244 : decode cL_load 244 = .ok (.pop, 1) := by decide +kernel
theorem dL_load_245 : decode cL_load 245 = .ok (.aload_n 1, 1) := by decide +kernel
theorem dL_load_246 : decode cL_load 246 = .ok (.iconst 4, 1) := by decide +kernel
theorem dL_load_247 : decode cL_load 247 = .ok (.iload 9, 2) := by decide +kernel
theorem dL_load_249 : decode cL_load 249 = .ok (.iadd, 1) := by decide +kernel
theorem dL_load_250 : decode cL_load 250 = .ok (.bipush 6, 2) := by decide +kernel
theorem dL_load_252 : decode cL_load 252 = .ok (.invokestatic 64, 3) := by decide +kernel
theorem dL_load_255 : decode cL_load 255 = .ok (.istore 10, 2) := by decide +kernel
theorem dL_load_257 : decode cL_load 257 = .ok (.iload 10, 2) := by decide +kernel
theorem dL_load_259 : decode cL_load 259 = .ok (.ifCond .le 39, 3) := by decide +kernel
theorem dL_load_262 : decode cL_load 262 = .ok (.aload 6, 2) := by decide +kernel
theorem dL_load_264 : decode cL_load 264 = .ok (.iload 10, 2) := by decide +kernel
theorem dL_load_266 : decode cL_load 266 = .ok (.iconst 1, 1) := by decide +kernel
theorem dL_load_267 : decode cL_load 267 = .ok (.if_icmp .ne 8, 3) := by decide +kernel
theorem dL_load_270 : decode cL_load 270 = .ok (.ldc 93, 2) := by decide +kernel
theorem dL_load_272 : decode cL_load 272 = .ok (.goto 5, 3) := by decide +kernel
theorem dL_load_275 : decode cL_load 275 = .ok (.ldc 95, 2) := by decide +kernel
theorem dL_load_277 : decode cL_load 277 = .ok (.invokevirtual 57, 3) := by decide +kernel
theorem dL_load_280 : decode cL_load 280 = .ok (.bipush 97, 2) := by decide +kernel
theorem dL_load_282 : decode cL_load 282 = .ok (.aload_n 1, 1) := by decide +kernel
theorem dL_load_283 : decode cL_load 283 = .ok (.bipush 40, 2) := by decide +kernel
theorem dL_load_285 : decode cL_load 285 = .ok (.iload 9, 2) := by decide +kernel
theorem dL_load_287 : decode cL_load 287 = .ok (.iadd, 1) := by decide +kernel
theorem dL_load_288 : decode cL_load 288 = .ok (.iload_n 2, 1) := by decide +kernel
theorem dL_load_289 : decode cL_load 289 = .ok (.invokestatic 64, 3) := by decide +kernel
theorem dL_load_292 : decode cL_load 292 = .ok (.iadd, 1) := by decide +kernel
theorem dL_load_293 : decode cL_load 293 = .ok (.i2c, 1) := by decide +kernel
theorem dL_load_294 : decode cL_load 294 = .ok (.invokevirtual 80, 3) := by decide +kernel
theorem dL_load_297 : decode cL_load 297 = .ok (.pop, 1) := by decide +kernel
theorem dL_load_298 : decode cL_load 298 = .ok (.aload 6, 2) := by decide +kernel
theorem dL_load_300 : decode cL_load 300 = .ok (.ldc 76, 2) := by decide +kernel
theorem dL_load_302 : decode cL_load 302 = .ok (.invokevirtual 57, 3) := by decide +kernel
theorem dL_load_305 : decode cL_load 305 = .ok (.pop, 1) := by decide +kernel
theorem dL_load_306 : decode cL_load 306 = .ok (.iinc 9 1, 3) := by decide +kernel
theorem dL_load_309 : decode cL_load 309 = .ok (.goto (-87), 3) := by decide +kernel
theorem dL_load_312 : decode cL_load 312 = .ok (.aload_n 0, 1) := by decide +kernel
theorem dL_load_313 : decode cL_load 313 = .ok (.aload 6, 2) := by decide +kernel
theorem dL_load_315 : decode cL_load 315 = .ok (.invokevirtual 60, 3) := by decide +kernel
theorem dL_load_318 : decode cL_load 318 = .ok (.invokestatic 97, 3) := by decide +kernel
theorem dL_load_321 : decode cL_load 321 = .ok (.aload_n 0, 1) := by decide +kernel
theorem dL_load_322 : decode cL_load 322 = .ok (.invokevirtual 101, 3) := by decide +kernel
theorem dL_load_325 : decode cL_load 325 = .ok (.iload 8, 2) := by decide +kernel
theorem dL_load_327 : decode cL_load 327 = .ok (.if_icmp .ne 64, 3) := by decide +kernel
theorem dL_load_330 : decode cL_load 330 = .ok (.aload_n 0, 1) := by decide +kernel
theorem dL_load_331 : decode cL_load 331 = .ok (.invokevirtual 104, 3) := by decide +kernel
theorem dL_load_334 : decode cL_load 334 = .ok (.ifCond .ne 57, 3) := by decide +kernel
theorem dL_load_337 : decode cL_load 337 = .ok (.aload_n 0, 1) := by decide +kernel
theorem dL_load_338 : decode cL_load 338 = .ok (.invokevirtual 107, 3) := by decide +kernel
theorem dL_load_341 : decode cL_load 341 = .ok (.iconst (-1), 1) := by decide +kernel
theorem dL_load_342 : decode cL_load 342 = .ok (.if_icmp .ne 49, 3) := by decide +kernel
theorem dL_load_345 : decode cL_load 345 = .ok (.aload_n 0, 1) := by decide +kernel
theorem dL_load_346 : decode cL_load 346 = .ok (.iconst 0, 1) := by decide +kernel
theorem dL_load_347 : decode cL_load 347 = .ok (.invokevirtual 110, 3) := by decide +kernel
theorem dL_load_350 : decode cL_load 350 = .ok (.iload_n 2, 1) := by decide +kernel
theorem dL_load_351 : decode cL_load 351 = .ok (.if_icmp .ne 40, 3) := by decide +kernel
theorem dL_load_354 : decode cL_load 354 = .ok (.aload_n 0, 1) := by decide +kernel
theorem dL_load_355 : decode cL_load 355 = .ok (.iconst 1, 1) := by decide +kernel
theorem dL_load_356 : decode cL_load 356 = .ok (.invokevirtual 110, 3) := by decide +kernel
theorem dL_load_359 : decode cL_load 359 = .ok (.iload_n 3, 1) := by decide +kernel
theorem dL_load_360 : decode cL_load 360 = .ok (.if_icmp .ne 31, 3) := by decide +kernel
theorem dL_load_363 : decode cL_load 363 = .ok (.aload_n 0, 1) := by decide +kernel
theorem dL_load_364 : decode cL_load 364 = .ok (.iconst 2, 1) := by decide +kernel
theorem dL_load_365 : decode cL_load 365 = .ok (.invokevirtual 110, 3) := by decide +kernel
theorem dL_load_368 : decode cL_load 368 = .ok (.iload 5, 2) := by decide +kernel
theorem dL_load_370 : decode cL_load 370 = .ok (.if_icmp .ne 21, 3) := by decide +kernel
theorem dL_load_373 : decode cL_load 373 = .ok (.aload_n 0, 1) := by decide +kernel
theorem dL_load_374 : decode cL_load 374 = .ok (.iconst 3, 1) := by decide +kernel
theorem dL_load_375 : decode cL_load 375 = .ok (.invokevirtual 110, 3) := by decide +kernel
theorem dL_load_378 : decode cL_load 378 = .ok (.iload 8, 2) := by decide +kernel
theorem dL_load_380 : decode cL_load 380 = .ok (.if_icmp .ne 11, 3) := by decide +kernel
theorem dL_load_383 : decode cL_load 383 = .ok (.aload_n 0, 1) := by decide +kernel
theorem dL_load_384 : decode cL_load 384 = .ok (.iconst 4, 1) := by decide +kernel
theorem dL_load_385 : decode cL_load 385 = .ok (.invokevirtual 110, 3) := by decide +kernel
theorem dL_load_388 : decode cL_load 388 = .ok (.ifCond .eq 5, 3) := by decide +kernel
theorem dL_load_391 : decode cL_load 391 = .ok (.iconst 0, 1) := by decide +kernel
theorem dL_load_392 : decode cL_load 392 = .ok (.ireturn, 1) := by decide +kernel
theorem dL_load_393 : decode cL_load 393 = .ok (.iconst 0, 1) := by decide +kernel
theorem dL_load_394 : decode cL_load 394 = .ok (.istore 9, 2) := by decide +kernel
theorem dL_load_396 : decode cL_load 396 = .ok (.iload 9, 2) := by decide +kernel
theorem dL_load_398 : decode cL_load 398 = .ok (.iload_n 2, 1) := by decide +kernel
theorem dL_load_399 : decode cL_load 399 = .ok (.if_icmp .ge 43, 3) := by decide +kernel
theorem dL_load_402 : decode cL_load 402 = .ok (.aload_n 0, 1) := by decide +kernel
theorem dL_load_403 : decode cL_load 403 = .ok (.iload 9, 2) := by decide +kernel
theorem dL_load_405 : decode cL_load 405 = .ok (.iconst 0, 1) := by decide +kernel
theorem dL_load_406 : decode cL_load 406 = .ok (.invokevirtual 114, 3) := by decide +kernel
theorem dL_load_409 : decode cL_load 409 = .ok (.aload 7, 2) := by decide +kernel
theorem dL_load_411 : decode cL_load 411 = .ok (.iload 9, 2) := by decide +kernel
theorem dL_load_413 : decode cL_load 413 = .ok (.iaload, 1) := by decide +kernel
theorem dL_load_414 : decode cL_load 414 = .ok (.if_icmp .ne 20, 3) := by decide +kernel
theorem dL_load_417 : decode cL_load 417 = .ok (.aload_n 0, 1) := by decide +kernel
theorem dL_load_418 : decode cL_load 418 = .ok (.iload 9, 2) := by decide +kernel
theorem dL_load_420 : decode cL_load 420 = .ok (.iconst 1, 1) := by decide +kernel
theorem dL_load_421 : decode cL_load 421 = .ok (.invokevirtual 114, 3) := by decide +kernel
theorem dL_load_424 : decode cL_load 424 = .ok (.aload 7, 2) := by decide +kernel
theorem dL_load_426 : decode cL_load 426 = .ok (.iload 9, 2) := by decide +kernel
theorem dL_load_428 : decode cL_load 428 = .ok (.iaload, 1) := by decide +kernel
theorem dL_load_429 : decode cL_load 429 = .ok (.iconst 1, 1) := by decide +kernel
theorem dL_load_430 : decode cL_load 430 = .ok (.iadd, 1) := by decide +kernel
theorem dL_load_431 : decode cL_load 431 = .ok (.if_icmp .eq 5, 3) := by decide +kernel
theorem dL_load_434 : decode cL_load 434 = .ok (.iconst 0, 1) := by decide +kernel
theorem dL_load_435 : decode cL_load 435 = .ok (.ireturn, 1) := by decide +kernel
theorem dL_load_436 : decode cL_load 436 = .ok (.iinc 9 1, 3) := by decide +kernel
theorem dL_load_439 : decode cL_load 439 = .ok (.goto (-43), 3) := by decide +kernel
theorem dL_load_442 : decode cL_load 442 = .ok (.iconst 0, 1) := by decide +kernel
theorem dL_load_443 : decode cL_load 443 = .ok (.istore 9, 2) := by decide +kernel
theorem dL_load_445 : decode cL_load 445 = .ok (.iload 9, 2) := by decide +kernel
theorem dL_load_447 : decode cL_load 447 = .ok (.iload_n 3, 1) := by decide +kernel
theorem dL_load_448 : decode cL_load 448 = .ok (.if_icmp .ge 111, 3) := by decide +kernel
theorem dL_load_451 : decode cL_load 451 = .ok (.aload_n 1, 1) := by decide +kernel
theorem dL_load_452 : decode cL_load 452 = .ok (.iconst 4, 1) := by decide +kernel
theorem dL_load_453 : decode cL_load 453 = .ok (.iload 9, 2) := by decide +kernel
theorem dL_load_455 : decode cL_load 455 = .ok (.iadd, 1) := by decide +kernel
theorem dL_load_456 : decode cL_load 456 = .ok (.bipush 6, 2) := by decide +kernel
theorem dL_load_458 : decode cL_load 458 = .ok (.invokestatic 64, 3) := by decide +kernel
theorem dL_load_461 : decode cL_load 461 = .ok (.istore 10, 2) := by decide +kernel
theorem dL_load_463 : decode cL_load 463 = .ok (.iload 10, 2) := by decide +kernel
theorem dL_load_465 : decode cL_load 465 = .ok (.ifCond .ne 7, 3) := by decide +kernel
theorem dL_load_468 : decode cL_load 468 = .ok (.iconst (-1), 1) := by decide +kernel
theorem dL_load_469 : decode cL_load 469 = .ok (.goto 13, 3) := by decide +kernel
theorem dL_load_472 : decode cL_load 472 = .ok (.aload_n 1, 1) := by decide +kernel
theorem dL_load_473 : decode cL_load 473 = .ok (.bipush 40, 2) := by decide +kernel
theorem dL_load_475 : decode cL_load 475 = .ok (.iload 9, 2) := by decide +kernel
theorem dL_load_477 : decode cL_load 477 = .ok (.iadd, 1) := by decide +kernel
theorem dL_load_478 : decode cL_load 478 = .ok (.iload_n 2, 1) := by decide +kernel
theorem dL_load_479 : decode cL_load 479 = .ok (.invokestatic 64, 3) := by decide +kernel
theorem dL_load_482 : decode cL_load 482 = .ok (.istore 11, 2) := by decide +kernel
theorem dL_load_484 : decode cL_load 484 = .ok (.aload_n 0, 1) := by decide +kernel
theorem dL_load_485 : decode cL_load 485 = .ok (.iload 9, 2) := by decide +kernel
theorem dL_load_487 : decode cL_load 487 = .ok (.iconst 0, 1) := by decide +kernel
theorem dL_load_488 : decode cL_load 488 = .ok (.invokevirtual 117, 3) := by decide +kernel
theorem dL_load_491 : decode cL_load 491 = .ok (.iload 11, 2) := by decide +kernel
theorem dL_load_493 : decode cL_load 493 = .ok (.if_icmp .ne 58, 3) := by decide +kernel
theorem dL_load_496 : decode cL_load 496 = .ok (.aload_n 0, 1) := by decide +kernel
theorem dL_load_497 : decode cL_load 497 = .ok (.iload 9, 2) := by decide +kernel
theorem dL_load_499 : decode cL_load 499 = .ok (.iconst 1, 1) := by decide +kernel
theorem dL_load_500 : decode cL_load 500 = .ok (.invokevirtual 117, 3) := by decide +kernel
theorem dL_load_503 : decode cL_load 503 = .ok (.iload 10, 2) := by decide +kernel
theorem dL_load_505 : decode cL_load 505 = .ok (.iconst 1, 1) := by decide +kernel
theorem dL_load_506 : decode cL_load 506 = .ok (.if_icmp .ne 7, 3) := by decide +kernel
theorem dL_load_509 : decode cL_load 509 = .ok (.iconst 1, 1) := by decide +kernel
theorem dL_load_510 : decode cL_load 510 = .ok (.goto 4, 3) := by decide +kernel
theorem dL_load_513 : decode cL_load 513 = .ok (.iconst 0, 1) := by decide +kernel
theorem dL_load_514 : decode cL_load 514 = .ok (.if_icmp .ne 37, 3) := by decide +kernel
theorem dL_load_517 : decode cL_load 517 = .ok (.aload_n 0, 1) := by decide +kernel
theorem dL_load_518 : decode cL_load 518 = .ok (.iload 9, 2) := by decide +kernel
theorem dL_load_520 : decode cL_load 520 = .ok (.iconst 2, 1) := by decide +kernel
theorem dL_load_521 : decode cL_load 521 = .ok (.invokevirtual 117, 3) := by decide +kernel
theorem dL_load_524 : decode cL_load 524 = .ok (.ifCond .ne 27, 3) := by decide +kernel
theorem dL_load_527 : decode cL_load 527 = .ok (.aload_n 0, 1) := by decide +kernel
theorem dL_load_528 : decode cL_load 528 = .ok (.iload 9, 2) := by decide +kernel
theorem dL_load_530 : decode cL_load 530 = .ok (.iconst 3, 1) := by decide +kernel
theorem dL_load_531 : decode cL_load 531 = .ok (.invokevirtual 117, 3) := by decide +kernel
theorem dL_load_534 : decode cL_load 534 = .ok (.iload 11, 2) := by decide +kernel
theorem dL_load_536 : decode cL_load 536 = .ok (.ifCond .ge 7, 3) := by decide +kernel
theorem dL_load_539 : decode cL_load 539 = .ok (.iconst 0, 1) := by decide +kernel
theorem dL_load_540 : decode cL_load 540 = .ok (.goto 8, 3) := by decide +kernel
theorem dL_load_543 : decode cL_load 543 = .ok (.aload 7, 2) := by decide +kernel
theorem dL_load_545 : decode cL_load 545 = .ok (.iload 11, 2) := by decide +kernel
theorem dL_load_547 : decode cL_load 547 = .ok (.iaload, 1) := by decide +kernel
theorem dL_load_548 : decode cL_load 548 = .ok (.if_icmp .eq 5, 3) := by decide +kernel
theorem dL_load_551 : decode cL_load 551 = .ok (.iconst 0, 1) := by decide +kernel
theorem dL_load_552 : decode cL_load 552 = .ok (.ireturn, 1) := by decide +kernel
theorem dL_load_553 : decode cL_load 553 = .ok (.iinc 9 1, 3) := by decide +kernel
theorem dL_load_556 : decode cL_load 556 = .ok (.goto (-111), 3) := by decide +kernel
theorem dL_load_559 : decode cL_load 559 = .ok (.iconst 1, 1) := by decide +kernel
theorem dL_load_560 : decode cL_load 560 = .ok (.ireturn, 1) := by decide +kernel
def mi_L_load : MI := (RL, yL_load, cL_load, 12, some .boolean, [], { frames := 11, cells := 291, slots := 172718, locals := 255 })
theorem ok_L_load : mOK mi_L_load 2 := ⟨rfl, cw_L_load, ini_L, ⟨rfl, by decide⟩, by decide, by decide, rfl⟩
theorem v_L_load_548 (fo : Nat) (rc445 : Nat → Nat → Int32 → Int32 → Nat → Int32 → Mem → Option ((Bool ⊕ String) × Mem)) (h445 : ∀ (l0 : Nat) (l1 : Nat) (l2 : Int32) (l3 : Int32) (l7 : Nat) (l9 : Int32) (M : Mem) (k n : Nat) (_ : kb 291 172718 8 48 fo k n), V mi_L_load 445 [(0, .ref l0), (1, .ref l1), (2, .int l2), (3, .int l3), (7, .ref l7), (9, .int l9)] [] M k n (rc445 l0 l1 l2 l3 l7 l9 M) tZ) (l0 : Nat) (l1 : Nat) (l2 : Int32) (l3 : Int32) (l7 : Nat) (l9 : Int32) (s0 : Int32) (s1 : Int32) (M : Mem) (k n : Nat) (hb : kb 291 172718 8 48 (fo + 1) k n) : V mi_L_load 548 [(0, .ref l0), (1, .ref l1), (2, .int l2), (3, .int l3), (7, .ref l7), (9, .int l9)] [.int s1, .int s0] M (k + 8) (n + 48) (f_L_load_548 rc445 l0 l1 l2 l3 l7 l9 s0 s1 M) tZ := by
  unfold f_L_load_548
  refine V_icmp_eq (q := 553) (q2 := 551) dL_load_548 (by decide) rfl ?_ ?_
  · refine V_iinc (y := (l9 + 1)) (L' := [(0, .ref l0), (1, .ref l1), (2, .int l2), (3, .int l3), (7, .ref l7), (9, .int (l9 + 1))]) dL_load_553 rfl 5 rfl rfl (by decide) rfl ?_
    refine V_goto (q := 445) dL_load_556 (by decide) ?_
    exact h445 l0 l1 l2 l3 l7 (l9 + 1) M _ _ (kb_next hb (Nat.le_of_ble_eq_true rfl) (Nat.le_of_ble_eq_true rfl))
  · refine V_iconst (x := 0) dL_load_551 rfl rfl ?_
    exact V_zret (v := false) dL_load_552 rfl rfl ⟨kb_ck hb (Nat.le_of_ble_eq_true rfl) (Nat.le_of_ble_eq_true rfl), kb_sk hb (Nat.le_of_ble_eq_true rfl) (Nat.le_of_ble_eq_true rfl)⟩
theorem v_L_load_514 (fo : Nat) (rc445 : Nat → Nat → Int32 → Int32 → Nat → Int32 → Mem → Option ((Bool ⊕ String) × Mem)) (h445 : ∀ (l0 : Nat) (l1 : Nat) (l2 : Int32) (l3 : Int32) (l7 : Nat) (l9 : Int32) (M : Mem) (k n : Nat) (_ : kb 291 172718 8 48 fo k n), V mi_L_load 445 [(0, .ref l0), (1, .ref l1), (2, .int l2), (3, .int l3), (7, .ref l7), (9, .int l9)] [] M k n (rc445 l0 l1 l2 l3 l7 l9 M) tZ) (l0 : Nat) (l1 : Nat) (l2 : Int32) (l3 : Int32) (l7 : Nat) (l9 : Int32) (l11 : Int32) (s0 : Int32) (s1 : Bool) (M : Mem) (k n : Nat) (hb : kb 291 172718 8 48 (fo + 1) k n) : V mi_L_load 514 [(0, .ref l0), (1, .ref l1), (2, .int l2), (3, .int l3), (7, .ref l7), (9, .int l9), (11, .int l11)] [.int (b2i s1), .int s0] M (k + 4) (n + 24) (f_L_load_514 rc445 l0 l1 l2 l3 l7 l9 l11 s0 s1 M) tZ := by
  unfold f_L_load_514
  refine V_icmp_ne (q := 551) (q2 := 517) dL_load_514 (by decide) rfl ?_ ?_
  · refine V_iconst (x := 0) dL_load_551 rfl rfl ?_
    exact V_zret (v := false) dL_load_552 rfl rfl ⟨kb_ck hb (Nat.le_of_ble_eq_true rfl) (Nat.le_of_ble_eq_true rfl), kb_sk hb (Nat.le_of_ble_eq_true rfl) (Nat.le_of_ble_eq_true rfl)⟩
  · refine V_aload_n dL_load_517 rfl 0 rfl ?_
    refine V_iload dL_load_518 rfl 5 rfl ?_
    refine V_iconst (x := 2) dL_load_520 rfl rfl ?_
    refine V_cVtI (As := [.int l9, .int 2]) (k_X11_session l0 l9 2 M) rfl (fun _ _ => rfl) (fun _ h => o_X11_session h) ok_X11_session im_X11_session se_X11_session rfl (ci := 10) rfl ml_L_117 ⟨⟨(Nat.le_of_ble_eq_true rfl), (Nat.le_of_ble_eq_true rfl)⟩, kb_c hb (Nat.le_of_ble_eq_true rfl) (Nat.le_of_ble_eq_true rfl), kb_s hb (Nat.le_of_ble_eq_true rfl) (Nat.le_of_ble_eq_true rfl)⟩ dL_load_521 rfl rfl rfl (Nat.le_of_ble_eq_true rfl) (Nat.add_assoc _ _ _) (Nat.add_assoc _ _ _) (fun x37 M38 => ?_)
    refine V_if_ne (q := 551) (q2 := 527) dL_load_524 (by decide) rfl ?_ ?_
    · refine V_iconst (x := 0) dL_load_551 rfl rfl ?_
      exact V_zret (v := false) dL_load_552 rfl rfl ⟨kb_ck hb (Nat.le_of_ble_eq_true rfl) (Nat.le_of_ble_eq_true rfl), kb_sk hb (Nat.le_of_ble_eq_true rfl) (Nat.le_of_ble_eq_true rfl)⟩
    · refine V_aload_n dL_load_527 rfl 0 rfl ?_
      refine V_iload dL_load_528 rfl 5 rfl ?_
      refine V_iconst (x := 3) dL_load_530 rfl rfl ?_
      refine V_cVtI (As := [.int l9, .int 3]) (k_X11_session l0 l9 3 M38) rfl (fun _ _ => rfl) (fun _ h => o_X11_session h) ok_X11_session im_X11_session se_X11_session rfl (ci := 10) rfl ml_L_117 ⟨⟨(Nat.le_of_ble_eq_true rfl), (Nat.le_of_ble_eq_true rfl)⟩, kb_c hb (Nat.le_of_ble_eq_true rfl) (Nat.le_of_ble_eq_true rfl), kb_s hb (Nat.le_of_ble_eq_true rfl) (Nat.le_of_ble_eq_true rfl)⟩ dL_load_531 rfl rfl rfl (Nat.le_of_ble_eq_true rfl) (Nat.add_assoc _ _ _) (Nat.add_assoc _ _ _) (fun x39 M40 => ?_)
      refine V_iload dL_load_534 rfl 6 rfl ?_
      refine V_if_ge (q := 543) (q2 := 539) dL_load_536 (by decide) rfl ?_ ?_
      · refine V_aload dL_load_543 rfl 4 rfl ?_
        refine V_iload dL_load_545 rfl 6 rfl ?_
        refine V_iaload dL_load_547 rfl (fun x41 => ?_)
        exact V_sub [0, 1, 2, 3, 4, 5] rfl (v_L_load_548 fo rc445 h445 l0 l1 l2 l3 l7 l9 x39 x41 M40 k n hb)
      · refine V_iconst (x := 0) dL_load_539 rfl rfl ?_
        refine V_goto (q := 548) dL_load_540 (by decide) ?_
        exact V_sub [0, 1, 2, 3, 4, 5] rfl (v_L_load_548 fo rc445 h445 l0 l1 l2 l3 l7 l9 x39 0 M40 k n hb)
theorem v_L_load_482 (fo : Nat) (rc445 : Nat → Nat → Int32 → Int32 → Nat → Int32 → Mem → Option ((Bool ⊕ String) × Mem)) (h445 : ∀ (l0 : Nat) (l1 : Nat) (l2 : Int32) (l3 : Int32) (l7 : Nat) (l9 : Int32) (M : Mem) (k n : Nat) (_ : kb 291 172718 8 48 fo k n), V mi_L_load 445 [(0, .ref l0), (1, .ref l1), (2, .int l2), (3, .int l3), (7, .ref l7), (9, .int l9)] [] M k n (rc445 l0 l1 l2 l3 l7 l9 M) tZ) (l0 : Nat) (l1 : Nat) (l2 : Int32) (l3 : Int32) (l7 : Nat) (l9 : Int32) (l10 : Int32) (s0 : Int32) (M : Mem) (k n : Nat) (hb : kb 291 172718 8 48 (fo + 1) k n) : V mi_L_load 482 [(0, .ref l0), (1, .ref l1), (2, .int l2), (3, .int l3), (7, .ref l7), (9, .int l9), (10, .int l10)] [.int s0] M (k + 0) (n + 0) (f_L_load_482 rc445 l0 l1 l2 l3 l7 l9 l10 s0 M) tZ := by
  unfold f_L_load_482
  refine V_istore (L' := [(0, .ref l0), (1, .ref l1), (2, .int l2), (3, .int l3), (7, .ref l7), (9, .int l9), (10, .int l10), (11, .int s0)]) dL_load_482 rfl (by decide) rfl ?_
  refine V_aload_n dL_load_484 rfl 0 rfl ?_
  refine V_iload dL_load_485 rfl 5 rfl ?_
  refine V_iconst (x := 0) dL_load_487 rfl rfl ?_
  refine V_cVtI (As := [.int l9, .int 0]) (k_X11_session l0 l9 0 M) rfl (fun _ _ => rfl) (fun _ h => o_X11_session h) ok_X11_session im_X11_session se_X11_session rfl (ci := 10) rfl ml_L_117 ⟨⟨(Nat.le_of_ble_eq_true rfl), (Nat.le_of_ble_eq_true rfl)⟩, kb_c0 hb (Nat.le_of_ble_eq_true rfl) (Nat.le_of_ble_eq_true rfl), kb_s0 hb (Nat.le_of_ble_eq_true rfl) (Nat.le_of_ble_eq_true rfl)⟩ dL_load_488 rfl rfl rfl (Nat.le_of_ble_eq_true rfl) rfl rfl (fun x33 M34 => ?_)
  refine V_iload dL_load_491 rfl 7 rfl ?_
  refine V_icmp_ne (q := 551) (q2 := 496) dL_load_493 (by decide) rfl ?_ ?_
  · refine V_iconst (x := 0) dL_load_551 rfl rfl ?_
    exact V_zret (v := false) dL_load_552 rfl rfl ⟨kb_ck hb (Nat.le_of_ble_eq_true rfl) (Nat.le_of_ble_eq_true rfl), kb_sk hb (Nat.le_of_ble_eq_true rfl) (Nat.le_of_ble_eq_true rfl)⟩
  · refine V_aload_n dL_load_496 rfl 0 rfl ?_
    refine V_iload dL_load_497 rfl 5 rfl ?_
    refine V_iconst (x := 1) dL_load_499 rfl rfl ?_
    refine V_cVtI (As := [.int l9, .int 1]) (k_X11_session l0 l9 1 M34) rfl (fun _ _ => rfl) (fun _ h => o_X11_session h) ok_X11_session im_X11_session se_X11_session rfl (ci := 10) rfl ml_L_117 ⟨⟨(Nat.le_of_ble_eq_true rfl), (Nat.le_of_ble_eq_true rfl)⟩, kb_c hb (Nat.le_of_ble_eq_true rfl) (Nat.le_of_ble_eq_true rfl), kb_s hb (Nat.le_of_ble_eq_true rfl) (Nat.le_of_ble_eq_true rfl)⟩ dL_load_500 rfl rfl rfl (Nat.le_of_ble_eq_true rfl) (Nat.add_assoc _ _ _) (Nat.add_assoc _ _ _) (fun x35 M36 => ?_)
    refine V_iload dL_load_503 rfl 6 rfl ?_
    refine V_iconst (x := 1) dL_load_505 rfl rfl ?_
    refine V_icmp_ne (q := 513) (q2 := 509) dL_load_506 (by decide) rfl ?_ ?_
    · refine V_iconst (x := 0) dL_load_513 rfl rfl ?_
      exact V_sub [0, 1, 2, 3, 4, 5, 7] rfl (v_L_load_514 fo rc445 h445 l0 l1 l2 l3 l7 l9 s0 x35 false M36 k n hb)
    · refine V_iconst (x := 1) dL_load_509 rfl rfl ?_
      refine V_goto (q := 514) dL_load_510 (by decide) ?_
      exact V_sub [0, 1, 2, 3, 4, 5, 7] rfl (v_L_load_514 fo rc445 h445 l0 l1 l2 l3 l7 l9 s0 x35 true M36 k n hb)
theorem v_L_load_445 : ∀ (fu : Nat) (l0 : Nat) (l1 : Nat) (l2 : Int32) (l3 : Int32) (l7 : Nat) (l9 : Int32) (M : Mem) (k n : Nat) (_ : kb 291 172718 8 48 fu k n), V mi_L_load 445 [(0, .ref l0), (1, .ref l1), (2, .int l2), (3, .int l3), (7, .ref l7), (9, .int l9)] [] M k n (f_L_load_445 fu l0 l1 l2 l3 l7 l9 M) tZ := by
  intro fu
  induction fu with
  | zero => intros; exact V_none
  | succ fu ih =>
    intro l0 l1 l2 l3 l7 l9 M k n hb
    show V mi_L_load 445 [(0, .ref l0), (1, .ref l1), (2, .int l2), (3, .int l3), (7, .ref l7), (9, .int l9)] [] M k n (f_L_load_445 (fu + 1) l0 l1 l2 l3 l7 l9 M) tZ
    unfold f_L_load_445
    refine V_iload dL_load_445 rfl 5 rfl ?_
    refine V_iload_n dL_load_447 rfl 3 rfl ?_
    refine V_icmp_ge (q := 559) (q2 := 451) dL_load_448 (by decide) rfl ?_ ?_
    · refine V_iconst (x := 1) dL_load_559 rfl rfl ?_
      exact V_zret (v := true) dL_load_560 rfl rfl ⟨kb_ck0 hb (Nat.le_of_ble_eq_true rfl), kb_sk0 hb (Nat.le_of_ble_eq_true rfl)⟩
    · refine V_aload_n dL_load_451 rfl 1 rfl ?_
      refine V_iconst (x := 4) dL_load_452 rfl rfl ?_
      refine V_iload dL_load_453 rfl 5 rfl ?_
      refine V_iadd dL_load_455 rfl ?_
      refine V_bipush (x := 6) dL_load_456 rfl rfl ?_
      refine V_cSeI (As := [.ref l1, .int (4 + l9), .int 6]) (k_L_draw l1 (4 + l9) 6 M) ok_L_draw sm_L_draw ml_L_64 ⟨⟨(Nat.le_of_ble_eq_true rfl), (Nat.le_of_ble_eq_true rfl)⟩, kb_c0 hb (Nat.le_of_ble_eq_true rfl) (Nat.le_of_ble_eq_true rfl), kb_s0 hb (Nat.le_of_ble_eq_true rfl) (Nat.le_of_ble_eq_true rfl)⟩ dL_load_458 rfl rfl rfl (Nat.le_of_ble_eq_true rfl) rfl rfl (fun x31 => ?_)
      refine V_istore (L' := [(0, .ref l0), (1, .ref l1), (2, .int l2), (3, .int l3), (7, .ref l7), (9, .int l9), (10, .int x31)]) dL_load_461 rfl (by decide) rfl ?_
      refine V_iload dL_load_463 rfl 6 rfl ?_
      refine V_if_ne (q := 472) (q2 := 468) dL_load_465 (by decide) rfl ?_ ?_
      · refine V_aload_n dL_load_472 rfl 1 rfl ?_
        refine V_bipush (x := 40) dL_load_473 rfl rfl ?_
        refine V_iload dL_load_475 rfl 5 rfl ?_
        refine V_iadd dL_load_477 rfl ?_
        refine V_iload_n dL_load_478 rfl 2 rfl ?_
        refine V_cSeI (As := [.ref l1, .int (40 + l9), .int l2]) (k_L_draw l1 (40 + l9) l2 M) ok_L_draw sm_L_draw ml_L_64 ⟨⟨(Nat.le_of_ble_eq_true rfl), (Nat.le_of_ble_eq_true rfl)⟩, kb_c0 hb (Nat.le_of_ble_eq_true rfl) (Nat.le_of_ble_eq_true rfl), kb_s0 hb (Nat.le_of_ble_eq_true rfl) (Nat.le_of_ble_eq_true rfl)⟩ dL_load_479 rfl rfl rfl (Nat.le_of_ble_eq_true rfl) rfl rfl (fun x32 => ?_)
        exact v_L_load_482 fu (f_L_load_445 fu) ih l0 l1 l2 l3 l7 l9 x31 x32 M k n hb
      · refine V_iconst (x := (-1)) dL_load_468 rfl rfl ?_
        refine V_goto (q := 482) dL_load_469 (by decide) ?_
        exact v_L_load_482 fu (f_L_load_445 fu) ih l0 l1 l2 l3 l7 l9 x31 (-1) M k n hb
theorem v_L_load_442 (l0 : Nat) (l1 : Nat) (l2 : Int32) (l3 : Int32) (l7 : Nat) (M : Mem) : V mi_L_load 442 [(0, .ref l0), (1, .ref l1), (2, .int l2), (3, .int l3), (7, .ref l7)] [] M 251 172478 (f_L_load_442 l0 l1 l2 l3 l7 M) tZ := by
  unfold f_L_load_442
  refine V_iconst (x := 0) dL_load_442 rfl rfl ?_
  refine V_istore (L' := [(0, .ref l0), (1, .ref l1), (2, .int l2), (3, .int l3), (7, .ref l7), (9, .int 0)]) dL_load_443 rfl (by decide) rfl ?_
  exact v_L_load_445 5 l0 l1 l2 l3 l7 0 M 251 172478 ⟨(Nat.le_of_ble_eq_true rfl), (Nat.le_of_ble_eq_true rfl)⟩
theorem v_L_load_396 : ∀ (fu : Nat) (l0 : Nat) (l1 : Nat) (l2 : Int32) (l3 : Int32) (l7 : Nat) (l9 : Int32) (M : Mem) (k n : Nat) (_ : kb 251 172478 4 24 fu k n), V mi_L_load 396 [(0, .ref l0), (1, .ref l1), (2, .int l2), (3, .int l3), (7, .ref l7), (9, .int l9)] [] M k n (f_L_load_396 fu l0 l1 l2 l3 l7 l9 M) tZ := by
  intro fu
  induction fu with
  | zero => intros; exact V_none
  | succ fu ih =>
    intro l0 l1 l2 l3 l7 l9 M k n hb
    show V mi_L_load 396 [(0, .ref l0), (1, .ref l1), (2, .int l2), (3, .int l3), (7, .ref l7), (9, .int l9)] [] M k n (f_L_load_396 (fu + 1) l0 l1 l2 l3 l7 l9 M) tZ
    unfold f_L_load_396
    refine V_iload dL_load_396 rfl 5 rfl ?_
    refine V_iload_n dL_load_398 rfl 2 rfl ?_
    refine V_icmp_ge (q := 442) (q2 := 402) dL_load_399 (by decide) rfl ?_ ?_
    · exact V_sub [0, 1, 2, 3, 4] rfl (V_w (kb_ck0 hb (Nat.le_of_ble_eq_true rfl)) (kb_sk0 hb (Nat.le_of_ble_eq_true rfl)) (v_L_load_442 l0 l1 l2 l3 l7 M))
    · refine V_aload_n dL_load_402 rfl 0 rfl ?_
      refine V_iload dL_load_403 rfl 5 rfl ?_
      refine V_iconst (x := 0) dL_load_405 rfl rfl ?_
      refine V_cVtI (As := [.int l9, .int 0]) (k_X11_box l0 l9 0 M) rfl (fun _ _ => rfl) (fun _ h => o_X11_box h) ok_X11_box im_X11_box se_X11_box rfl (ci := 10) rfl ml_L_114 ⟨⟨(Nat.le_of_ble_eq_true rfl), (Nat.le_of_ble_eq_true rfl)⟩, kb_c0 hb (Nat.le_of_ble_eq_true rfl) (Nat.le_of_ble_eq_true rfl), kb_s0 hb (Nat.le_of_ble_eq_true rfl) (Nat.le_of_ble_eq_true rfl)⟩ dL_load_406 rfl rfl rfl (Nat.le_of_ble_eq_true rfl) rfl rfl (fun x42 M43 => ?_)
      refine V_aload dL_load_409 rfl 4 rfl ?_
      refine V_iload dL_load_411 rfl 5 rfl ?_
      refine V_iaload dL_load_413 rfl (fun x44 => ?_)
      refine V_icmp_ne (q := 434) (q2 := 417) dL_load_414 (by decide) rfl ?_ ?_
      · refine V_iconst (x := 0) dL_load_434 rfl rfl ?_
        exact V_zret (v := false) dL_load_435 rfl rfl ⟨kb_ck hb (Nat.le_of_ble_eq_true rfl) (Nat.le_of_ble_eq_true rfl), kb_sk hb (Nat.le_of_ble_eq_true rfl) (Nat.le_of_ble_eq_true rfl)⟩
      · refine V_aload_n dL_load_417 rfl 0 rfl ?_
        refine V_iload dL_load_418 rfl 5 rfl ?_
        refine V_iconst (x := 1) dL_load_420 rfl rfl ?_
        refine V_cVtI (As := [.int l9, .int 1]) (k_X11_box l0 l9 1 M43) rfl (fun _ _ => rfl) (fun _ h => o_X11_box h) ok_X11_box im_X11_box se_X11_box rfl (ci := 10) rfl ml_L_114 ⟨⟨(Nat.le_of_ble_eq_true rfl), (Nat.le_of_ble_eq_true rfl)⟩, kb_c hb (Nat.le_of_ble_eq_true rfl) (Nat.le_of_ble_eq_true rfl), kb_s hb (Nat.le_of_ble_eq_true rfl) (Nat.le_of_ble_eq_true rfl)⟩ dL_load_421 rfl rfl rfl (Nat.le_of_ble_eq_true rfl) (Nat.add_assoc _ _ _) (Nat.add_assoc _ _ _) (fun x45 M46 => ?_)
        refine V_aload dL_load_424 rfl 4 rfl ?_
        refine V_iload dL_load_426 rfl 5 rfl ?_
        refine V_iaload dL_load_428 rfl (fun x47 => ?_)
        refine V_iconst (x := 1) dL_load_429 rfl rfl ?_
        refine V_iadd dL_load_430 rfl ?_
        refine V_icmp_eq (q := 436) (q2 := 434) dL_load_431 (by decide) rfl ?_ ?_
        · refine V_iinc (y := (l9 + 1)) (L' := [(0, .ref l0), (1, .ref l1), (2, .int l2), (3, .int l3), (7, .ref l7), (9, .int (l9 + 1))]) dL_load_436 rfl 5 rfl rfl (by decide) rfl ?_
          refine V_goto (q := 396) dL_load_439 (by decide) ?_
          exact ih l0 l1 l2 l3 l7 (l9 + 1) M46 _ _ (kb_next hb (Nat.le_of_ble_eq_true rfl) (Nat.le_of_ble_eq_true rfl))
        · refine V_iconst (x := 0) dL_load_434 rfl rfl ?_
          exact V_zret (v := false) dL_load_435 rfl rfl ⟨kb_ck hb (Nat.le_of_ble_eq_true rfl) (Nat.le_of_ble_eq_true rfl), kb_sk hb (Nat.le_of_ble_eq_true rfl) (Nat.le_of_ble_eq_true rfl)⟩
theorem v_L_load_312 (l0 : Nat) (l1 : Nat) (l2 : Int32) (l3 : Int32) (l5 : Int32) (l6 : Nat) (l7 : Nat) (l8 : Int32) (M : Mem) : V mi_L_load 312 [(0, .ref l0), (1, .ref l1), (2, .int l2), (3, .int l3), (5, .int l5), (6, .ref l6), (7, .ref l7), (8, .int l8)] [] M 196 171132 (f_L_load_312 l0 l1 l2 l3 l5 l6 l7 l8 M) tZ := by
  unfold f_L_load_312
  refine V_aload_n dL_load_312 rfl 0 rfl ?_
  refine V_aload dL_load_313 rfl 5 rfl ?_
  refine V_cGwR (CRun.V (C := RJ4) (As := []) (k_J4_toString_0e30d l6 M) (fun _ h => RC.obj (ci := 12) (T := TJ4) (N := 4) rfl (o_J4_toString_0e30d h)) ok_J4_toString_0e30d im_J4_toString_0e30d (selOK.of se_J4_toString_0e30d) ml_L_60 ⟨⟨(Nat.le_of_ble_eq_true rfl), (Nat.le_of_ble_eq_true rfl)⟩, (Nat.le_of_ble_eq_true rfl), (Nat.le_of_ble_eq_true rfl)⟩ dL_load_315 rfl rfl (Nat.le_of_ble_eq_true rfl)) rfl rfl rfl (fun x13 M14 => ?_)
  refine V_cStV (As := [.ref l0, .ref x13]) (k_L_feed l0 x13 M14) rfl (fun _ _ => rfl) ok_L_feed sm_L_feed ml_L_97 ⟨⟨(Nat.le_of_ble_eq_true rfl), (Nat.le_of_ble_eq_true rfl)⟩, (Nat.le_of_ble_eq_true rfl), (Nat.le_of_ble_eq_true rfl)⟩ dL_load_318 rfl rfl rfl (Nat.le_of_ble_eq_true rfl) rfl rfl (fun M16 => ?_)
  refine V_aload_n dL_load_321 rfl 0 rfl ?_
  refine V_cVwI (As := []) (k_X11_load l0 M16) (fun _ h => o_X11_load h) ok_X11_load im_X11_load se_X11_load rfl (ci := 10) rfl ml_L_101 ⟨⟨(Nat.le_of_ble_eq_true rfl), (Nat.le_of_ble_eq_true rfl)⟩, (Nat.le_of_ble_eq_true rfl), (Nat.le_of_ble_eq_true rfl)⟩ dL_load_322 rfl rfl rfl (Nat.le_of_ble_eq_true rfl) rfl rfl (fun x17 M18 => ?_)
  refine V_iload dL_load_325 rfl 7 rfl ?_
  refine V_icmp_ne (q := 391) (q2 := 330) dL_load_327 (by decide) rfl ?_ ?_
  · refine V_iconst (x := 0) dL_load_391 rfl rfl ?_
    exact V_zret (v := false) dL_load_392 rfl rfl ⟨(Nat.le_of_ble_eq_true rfl), (Nat.le_of_ble_eq_true rfl)⟩
  · refine V_aload_n dL_load_330 rfl 0 rfl ?_
    refine V_cVeI (As := []) (k_X11_errorCode l0 M18) (fun _ h => o_X11_errorCode h) ok_X11_errorCode im_X11_errorCode se_X11_errorCode rfl (ci := 10) rfl ml_L_104 ⟨⟨(Nat.le_of_ble_eq_true rfl), (Nat.le_of_ble_eq_true rfl)⟩, (Nat.le_of_ble_eq_true rfl), (Nat.le_of_ble_eq_true rfl)⟩ dL_load_331 rfl rfl rfl (Nat.le_of_ble_eq_true rfl) rfl rfl (fun x19 => ?_)
    refine V_if_ne (q := 391) (q2 := 337) dL_load_334 (by decide) rfl ?_ ?_
    · refine V_iconst (x := 0) dL_load_391 rfl rfl ?_
      exact V_zret (v := false) dL_load_392 rfl rfl ⟨(Nat.le_of_ble_eq_true rfl), (Nat.le_of_ble_eq_true rfl)⟩
    · refine V_aload_n dL_load_337 rfl 0 rfl ?_
      refine V_cVeI (As := []) (k_X11_errorPosition l0 M18) (fun _ h => o_X11_errorPosition h) ok_X11_errorPosition im_X11_errorPosition se_X11_errorPosition rfl (ci := 10) rfl ml_L_107 ⟨⟨(Nat.le_of_ble_eq_true rfl), (Nat.le_of_ble_eq_true rfl)⟩, (Nat.le_of_ble_eq_true rfl), (Nat.le_of_ble_eq_true rfl)⟩ dL_load_338 rfl rfl rfl (Nat.le_of_ble_eq_true rfl) rfl rfl (fun x20 => ?_)
      refine V_iconst (x := (-1)) dL_load_341 rfl rfl ?_
      refine V_icmp_ne (q := 391) (q2 := 345) dL_load_342 (by decide) rfl ?_ ?_
      · refine V_iconst (x := 0) dL_load_391 rfl rfl ?_
        exact V_zret (v := false) dL_load_392 rfl rfl ⟨(Nat.le_of_ble_eq_true rfl), (Nat.le_of_ble_eq_true rfl)⟩
      · refine V_aload_n dL_load_345 rfl 0 rfl ?_
        refine V_iconst (x := 0) dL_load_346 rfl rfl ?_
        refine V_cVtI (As := [.int 0]) (k_X11_property l0 0 M18) rfl (fun _ _ => rfl) (fun _ h => o_X11_property h) ok_X11_property im_X11_property se_X11_property rfl (ci := 10) rfl ml_L_110 ⟨⟨(Nat.le_of_ble_eq_true rfl), (Nat.le_of_ble_eq_true rfl)⟩, (Nat.le_of_ble_eq_true rfl), (Nat.le_of_ble_eq_true rfl)⟩ dL_load_347 rfl rfl rfl (Nat.le_of_ble_eq_true rfl) rfl rfl (fun x21 M22 => ?_)
        refine V_iload_n dL_load_350 rfl 2 rfl ?_
        refine V_icmp_ne (q := 391) (q2 := 354) dL_load_351 (by decide) rfl ?_ ?_
        · refine V_iconst (x := 0) dL_load_391 rfl rfl ?_
          exact V_zret (v := false) dL_load_392 rfl rfl ⟨(Nat.le_of_ble_eq_true rfl), (Nat.le_of_ble_eq_true rfl)⟩
        · refine V_aload_n dL_load_354 rfl 0 rfl ?_
          refine V_iconst (x := 1) dL_load_355 rfl rfl ?_
          refine V_cVtI (As := [.int 1]) (k_X11_property l0 1 M22) rfl (fun _ _ => rfl) (fun _ h => o_X11_property h) ok_X11_property im_X11_property se_X11_property rfl (ci := 10) rfl ml_L_110 ⟨⟨(Nat.le_of_ble_eq_true rfl), (Nat.le_of_ble_eq_true rfl)⟩, (Nat.le_of_ble_eq_true rfl), (Nat.le_of_ble_eq_true rfl)⟩ dL_load_356 rfl rfl rfl (Nat.le_of_ble_eq_true rfl) rfl rfl (fun x23 M24 => ?_)
          refine V_iload_n dL_load_359 rfl 3 rfl ?_
          refine V_icmp_ne (q := 391) (q2 := 363) dL_load_360 (by decide) rfl ?_ ?_
          · refine V_iconst (x := 0) dL_load_391 rfl rfl ?_
            exact V_zret (v := false) dL_load_392 rfl rfl ⟨(Nat.le_of_ble_eq_true rfl), (Nat.le_of_ble_eq_true rfl)⟩
          · refine V_aload_n dL_load_363 rfl 0 rfl ?_
            refine V_iconst (x := 2) dL_load_364 rfl rfl ?_
            refine V_cVtI (As := [.int 2]) (k_X11_property l0 2 M24) rfl (fun _ _ => rfl) (fun _ h => o_X11_property h) ok_X11_property im_X11_property se_X11_property rfl (ci := 10) rfl ml_L_110 ⟨⟨(Nat.le_of_ble_eq_true rfl), (Nat.le_of_ble_eq_true rfl)⟩, (Nat.le_of_ble_eq_true rfl), (Nat.le_of_ble_eq_true rfl)⟩ dL_load_365 rfl rfl rfl (Nat.le_of_ble_eq_true rfl) rfl rfl (fun x25 M26 => ?_)
            refine V_iload dL_load_368 rfl 4 rfl ?_
            refine V_icmp_ne (q := 391) (q2 := 373) dL_load_370 (by decide) rfl ?_ ?_
            · refine V_iconst (x := 0) dL_load_391 rfl rfl ?_
              exact V_zret (v := false) dL_load_392 rfl rfl ⟨(Nat.le_of_ble_eq_true rfl), (Nat.le_of_ble_eq_true rfl)⟩
            · refine V_aload_n dL_load_373 rfl 0 rfl ?_
              refine V_iconst (x := 3) dL_load_374 rfl rfl ?_
              refine V_cVtI (As := [.int 3]) (k_X11_property l0 3 M26) rfl (fun _ _ => rfl) (fun _ h => o_X11_property h) ok_X11_property im_X11_property se_X11_property rfl (ci := 10) rfl ml_L_110 ⟨⟨(Nat.le_of_ble_eq_true rfl), (Nat.le_of_ble_eq_true rfl)⟩, (Nat.le_of_ble_eq_true rfl), (Nat.le_of_ble_eq_true rfl)⟩ dL_load_375 rfl rfl rfl (Nat.le_of_ble_eq_true rfl) rfl rfl (fun x27 M28 => ?_)
              refine V_iload dL_load_378 rfl 7 rfl ?_
              refine V_icmp_ne (q := 391) (q2 := 383) dL_load_380 (by decide) rfl ?_ ?_
              · refine V_iconst (x := 0) dL_load_391 rfl rfl ?_
                exact V_zret (v := false) dL_load_392 rfl rfl ⟨(Nat.le_of_ble_eq_true rfl), (Nat.le_of_ble_eq_true rfl)⟩
              · refine V_aload_n dL_load_383 rfl 0 rfl ?_
                refine V_iconst (x := 4) dL_load_384 rfl rfl ?_
                refine V_cVtI (As := [.int 4]) (k_X11_property l0 4 M28) rfl (fun _ _ => rfl) (fun _ h => o_X11_property h) ok_X11_property im_X11_property se_X11_property rfl (ci := 10) rfl ml_L_110 ⟨⟨(Nat.le_of_ble_eq_true rfl), (Nat.le_of_ble_eq_true rfl)⟩, (Nat.le_of_ble_eq_true rfl), (Nat.le_of_ble_eq_true rfl)⟩ dL_load_385 rfl rfl rfl (Nat.le_of_ble_eq_true rfl) rfl rfl (fun x29 M30 => ?_)
                refine V_if_eq (q := 393) (q2 := 391) dL_load_388 (by decide) rfl ?_ ?_
                · refine V_iconst (x := 0) dL_load_393 rfl rfl ?_
                  refine V_istore (L' := [(0, .ref l0), (1, .ref l1), (2, .int l2), (3, .int l3), (5, .int l5), (6, .ref l6), (7, .ref l7), (8, .int l8), (9, .int 0)]) dL_load_394 rfl (by decide) rfl ?_
                  exact V_sub [0, 1, 2, 3, 6, 8] rfl (v_L_load_396 4 l0 l1 l2 l3 l7 0 M30 235 172382 ⟨(Nat.le_of_ble_eq_true rfl), (Nat.le_of_ble_eq_true rfl)⟩)
                · refine V_iconst (x := 0) dL_load_391 rfl rfl ?_
                  exact V_zret (v := false) dL_load_392 rfl rfl ⟨(Nat.le_of_ble_eq_true rfl), (Nat.le_of_ble_eq_true rfl)⟩
theorem v_L_load_298 (fo : Nat) (rc222 : Nat → Nat → Int32 → Int32 → Int32 → Nat → Nat → Int32 → Int32 → Mem → Option ((Bool ⊕ String) × Mem)) (h222 : ∀ (l0 : Nat) (l1 : Nat) (l2 : Int32) (l3 : Int32) (l5 : Int32) (l6 : Nat) (l7 : Nat) (l8 : Int32) (l9 : Int32) (M : Mem) (k n : Nat) (_ : kb 196 171132 5 5120 fo k n), V mi_L_load 222 [(0, .ref l0), (1, .ref l1), (2, .int l2), (3, .int l3), (5, .int l5), (6, .ref l6), (7, .ref l7), (8, .int l8), (9, .int l9)] [] M k n (rc222 l0 l1 l2 l3 l5 l6 l7 l8 l9 M) tZ) (l0 : Nat) (l1 : Nat) (l2 : Int32) (l3 : Int32) (l5 : Int32) (l6 : Nat) (l7 : Nat) (l8 : Int32) (l9 : Int32) (M : Mem) (k n : Nat) (hb : kb 196 171132 5 5120 (fo + 1) k n) : V mi_L_load 298 [(0, .ref l0), (1, .ref l1), (2, .int l2), (3, .int l3), (5, .int l5), (6, .ref l6), (7, .ref l7), (8, .int l8), (9, .int l9)] [] M (k + 4) (n + 4096) (f_L_load_298 rc222 l0 l1 l2 l3 l5 l6 l7 l8 l9 M) tZ := by
  unfold f_L_load_298
  refine V_aload dL_load_298 rfl 5 rfl ?_
  refine V_ldcs (i := 1) (by decide) rfl rfl dL_load_300 rfl ?_
  refine V_cGwR (CRun.V (C := RJ4) (As := [.ref 44]) (k_J4_append_15ec4 l6 44 M) (fun _ h => RC.obj (ci := 12) (T := TJ4) (N := 4) rfl (o_J4_append_15ec4 h)) ok_J4_append_15ec4 im_J4_append_15ec4 (selOK.of se_J4_append_15ec4) ml_L_57 ⟨⟨(Nat.le_of_ble_eq_true rfl), (Nat.le_of_ble_eq_true rfl)⟩, kb_c hb (Nat.le_of_ble_eq_true rfl) (Nat.le_of_ble_eq_true rfl), kb_s hb (Nat.le_of_ble_eq_true rfl) (Nat.le_of_ble_eq_true rfl)⟩ dL_load_302 rfl rfl (Nat.le_of_ble_eq_true rfl)) rfl (Nat.add_assoc _ _ _) (Nat.add_assoc _ _ _) (fun x53 M54 => ?_)
  refine V_pop dL_load_305 rfl rfl ?_
  refine V_iinc (y := (l9 + 1)) (L' := [(0, .ref l0), (1, .ref l1), (2, .int l2), (3, .int l3), (5, .int l5), (6, .ref l6), (7, .ref l7), (8, .int l8), (9, .int (l9 + 1))]) dL_load_306 rfl 8 rfl rfl (by decide) rfl ?_
  refine V_goto (q := 222) dL_load_309 (by decide) ?_
  exact h222 l0 l1 l2 l3 l5 l6 l7 l8 (l9 + 1) M54 _ _ (kb_next hb (Nat.le_of_ble_eq_true rfl) (Nat.le_of_ble_eq_true rfl))
theorem v_L_load_277 (fo : Nat) (rc222 : Nat → Nat → Int32 → Int32 → Int32 → Nat → Nat → Int32 → Int32 → Mem → Option ((Bool ⊕ String) × Mem)) (h222 : ∀ (l0 : Nat) (l1 : Nat) (l2 : Int32) (l3 : Int32) (l5 : Int32) (l6 : Nat) (l7 : Nat) (l8 : Int32) (l9 : Int32) (M : Mem) (k n : Nat) (_ : kb 196 171132 5 5120 fo k n), V mi_L_load 222 [(0, .ref l0), (1, .ref l1), (2, .int l2), (3, .int l3), (5, .int l5), (6, .ref l6), (7, .ref l7), (8, .int l8), (9, .int l9)] [] M k n (rc222 l0 l1 l2 l3 l5 l6 l7 l8 l9 M) tZ) (l0 : Nat) (l1 : Nat) (l2 : Int32) (l3 : Int32) (l5 : Int32) (l6 : Nat) (l7 : Nat) (l8 : Int32) (l9 : Int32) (s0 : Nat) (s1 : Nat) (M : Mem) (k n : Nat) (hb : kb 196 171132 5 5120 (fo + 1) k n) : V mi_L_load 277 [(0, .ref l0), (1, .ref l1), (2, .int l2), (3, .int l3), (5, .int l5), (6, .ref l6), (7, .ref l7), (8, .int l8), (9, .int l9)] [.ref s1, .ref s0] M (k + 2) (n + 2048) (f_L_load_277 rc222 l0 l1 l2 l3 l5 l6 l7 l8 l9 s0 s1 M) tZ := by
  unfold f_L_load_277
  refine V_cGwR (CRun.V (C := RJ4) (As := [.ref s1]) (k_J4_append_15ec4 s0 s1 M) (fun _ h => RC.obj (ci := 12) (T := TJ4) (N := 4) rfl (o_J4_append_15ec4 h)) ok_J4_append_15ec4 im_J4_append_15ec4 (selOK.of se_J4_append_15ec4) ml_L_57 ⟨⟨(Nat.le_of_ble_eq_true rfl), (Nat.le_of_ble_eq_true rfl)⟩, kb_c hb (Nat.le_of_ble_eq_true rfl) (Nat.le_of_ble_eq_true rfl), kb_s hb (Nat.le_of_ble_eq_true rfl) (Nat.le_of_ble_eq_true rfl)⟩ dL_load_277 rfl rfl (Nat.le_of_ble_eq_true rfl)) rfl (Nat.add_assoc _ _ _) (Nat.add_assoc _ _ _) (fun x55 M56 => ?_)
  refine V_bipush (x := 97) dL_load_280 rfl rfl ?_
  refine V_aload_n dL_load_282 rfl 1 rfl ?_
  refine V_bipush (x := 40) dL_load_283 rfl rfl ?_
  refine V_iload dL_load_285 rfl 8 rfl ?_
  refine V_iadd dL_load_287 rfl ?_
  refine V_iload_n dL_load_288 rfl 2 rfl ?_
  refine V_cSeI (As := [.ref l1, .int (40 + l9), .int l2]) (k_L_draw l1 (40 + l9) l2 M56) ok_L_draw sm_L_draw ml_L_64 ⟨⟨(Nat.le_of_ble_eq_true rfl), (Nat.le_of_ble_eq_true rfl)⟩, kb_c hb (Nat.le_of_ble_eq_true rfl) (Nat.le_of_ble_eq_true rfl), kb_s hb (Nat.le_of_ble_eq_true rfl) (Nat.le_of_ble_eq_true rfl)⟩ dL_load_289 rfl rfl rfl (Nat.le_of_ble_eq_true rfl) (Nat.add_assoc _ _ _) (Nat.add_assoc _ _ _) (fun x57 => ?_)
  refine V_iadd dL_load_292 rfl ?_
  refine V_i2c rfl dL_load_293 rfl ?_
  refine V_cGwR (CRun.V (C := RJ4) (As := [.int (((97 + x57).toUInt32 % 65536).toInt32)]) (k_J4_append_cf468 x55 (((97 + x57).toUInt32 % 65536).toInt32) M56) (fun _ h => RC.obj (ci := 12) (T := TJ4) (N := 4) rfl (o_J4_append_cf468 h)) ok_J4_append_cf468 im_J4_append_cf468 (selOK.of se_J4_append_cf468) ml_L_80 ⟨⟨(Nat.le_of_ble_eq_true rfl), (Nat.le_of_ble_eq_true rfl)⟩, kb_c hb (Nat.le_of_ble_eq_true rfl) (Nat.le_of_ble_eq_true rfl), kb_s hb (Nat.le_of_ble_eq_true rfl) (Nat.le_of_ble_eq_true rfl)⟩ dL_load_294 rfl rfl (Nat.le_of_ble_eq_true rfl)) rfl (Nat.add_assoc _ _ _) (Nat.add_assoc _ _ _) (fun x58 M59 => ?_)
  refine V_pop dL_load_297 rfl rfl ?_
  exact v_L_load_298 fo rc222 h222 l0 l1 l2 l3 l5 l6 l7 l8 l9 M59 k n hb
theorem v_L_load_222 : ∀ (fu : Nat) (l0 : Nat) (l1 : Nat) (l2 : Int32) (l3 : Int32) (l5 : Int32) (l6 : Nat) (l7 : Nat) (l8 : Int32) (l9 : Int32) (M : Mem) (k n : Nat) (_ : kb 196 171132 5 5120 fu k n), V mi_L_load 222 [(0, .ref l0), (1, .ref l1), (2, .int l2), (3, .int l3), (5, .int l5), (6, .ref l6), (7, .ref l7), (8, .int l8), (9, .int l9)] [] M k n (f_L_load_222 fu l0 l1 l2 l3 l5 l6 l7 l8 l9 M) tZ := by
  intro fu
  induction fu with
  | zero => intros; exact V_none
  | succ fu ih =>
    intro l0 l1 l2 l3 l5 l6 l7 l8 l9 M k n hb
    show V mi_L_load 222 [(0, .ref l0), (1, .ref l1), (2, .int l2), (3, .int l3), (5, .int l5), (6, .ref l6), (7, .ref l7), (8, .int l8), (9, .int l9)] [] M k n (f_L_load_222 (fu + 1) l0 l1 l2 l3 l5 l6 l7 l8 l9 M) tZ
    unfold f_L_load_222
    refine V_iload dL_load_222 rfl 8 rfl ?_
    refine V_iload_n dL_load_224 rfl 3 rfl ?_
    refine V_icmp_ge (q := 312) (q2 := 228) dL_load_225 (by decide) rfl ?_ ?_
    · exact V_sub [0, 1, 2, 3, 4, 5, 6, 7] rfl (V_w (kb_ck0 hb (Nat.le_of_ble_eq_true rfl)) (kb_sk0 hb (Nat.le_of_ble_eq_true rfl)) (v_L_load_312 l0 l1 l2 l3 l5 l6 l7 l8 M))
    · refine V_aload dL_load_228 rfl 5 rfl ?_
      refine V_ldcs (i := 11) (by decide) rfl rfl dL_load_230 rfl ?_
      refine V_cGwR (CRun.V (C := RJ4) (As := [.ref 54]) (k_J4_append_15ec4 l6 54 M) (fun _ h => RC.obj (ci := 12) (T := TJ4) (N := 4) rfl (o_J4_append_15ec4 h)) ok_J4_append_15ec4 im_J4_append_15ec4 (selOK.of se_J4_append_15ec4) ml_L_57 ⟨⟨(Nat.le_of_ble_eq_true rfl), (Nat.le_of_ble_eq_true rfl)⟩, kb_c0 hb (Nat.le_of_ble_eq_true rfl) (Nat.le_of_ble_eq_true rfl), kb_s0 hb (Nat.le_of_ble_eq_true rfl) (Nat.le_of_ble_eq_true rfl)⟩ dL_load_232 rfl rfl (Nat.le_of_ble_eq_true rfl)) rfl rfl rfl (fun x48 M49 => ?_)
      refine V_bipush (x := 97) dL_load_235 rfl rfl ?_
      refine V_iload dL_load_237 rfl 8 rfl ?_
      refine V_iadd dL_load_239 rfl ?_
      refine V_i2c rfl dL_load_240 rfl ?_
      refine V_cGwR (CRun.V (C := RJ4) (As := [.int (((97 + l9).toUInt32 % 65536).toInt32)]) (k_J4_append_cf468 x48 (((97 + l9).toUInt32 % 65536).toInt32) M49) (fun _ h => RC.obj (ci := 12) (T := TJ4) (N := 4) rfl (o_J4_append_cf468 h)) ok_J4_append_cf468 im_J4_append_cf468 (selOK.of se_J4_append_cf468) ml_L_80 ⟨⟨(Nat.le_of_ble_eq_true rfl), (Nat.le_of_ble_eq_true rfl)⟩, kb_c hb (Nat.le_of_ble_eq_true rfl) (Nat.le_of_ble_eq_true rfl), kb_s hb (Nat.le_of_ble_eq_true rfl) (Nat.le_of_ble_eq_true rfl)⟩ dL_load_241 rfl rfl (Nat.le_of_ble_eq_true rfl)) rfl (Nat.add_assoc _ _ _) (Nat.add_assoc _ _ _) (fun x50 M51 => ?_)
      refine V_pop dL_load_244 rfl rfl ?_
      refine V_aload_n dL_load_245 rfl 1 rfl ?_
      refine V_iconst (x := 4) dL_load_246 rfl rfl ?_
      refine V_iload dL_load_247 rfl 8 rfl ?_
      refine V_iadd dL_load_249 rfl ?_
      refine V_bipush (x := 6) dL_load_250 rfl rfl ?_
      refine V_cSeI (As := [.ref l1, .int (4 + l9), .int 6]) (k_L_draw l1 (4 + l9) 6 M51) ok_L_draw sm_L_draw ml_L_64 ⟨⟨(Nat.le_of_ble_eq_true rfl), (Nat.le_of_ble_eq_true rfl)⟩, kb_c hb (Nat.le_of_ble_eq_true rfl) (Nat.le_of_ble_eq_true rfl), kb_s hb (Nat.le_of_ble_eq_true rfl) (Nat.le_of_ble_eq_true rfl)⟩ dL_load_252 rfl rfl rfl (Nat.le_of_ble_eq_true rfl) (Nat.add_assoc _ _ _) (Nat.add_assoc _ _ _) (fun x52 => ?_)
      refine V_istore (L' := [(0, .ref l0), (1, .ref l1), (2, .int l2), (3, .int l3), (5, .int l5), (6, .ref l6), (7, .ref l7), (8, .int l8), (9, .int l9), (10, .int x52)]) dL_load_255 rfl (by decide) rfl ?_
      refine V_iload dL_load_257 rfl 9 rfl ?_
      refine V_if_le (q := 298) (q2 := 262) dL_load_259 (by decide) rfl ?_ ?_
      · exact V_sub [0, 1, 2, 3, 4, 5, 6, 7, 8] rfl (V_w (Nat.add_le_add_left (Nat.le_of_ble_eq_true rfl) _) (Nat.add_le_add_left (Nat.le_of_ble_eq_true rfl) _) (v_L_load_298 fu (f_L_load_222 fu) ih l0 l1 l2 l3 l5 l6 l7 l8 l9 M51 k n hb))
      · refine V_aload dL_load_262 rfl 5 rfl ?_
        refine V_iload dL_load_264 rfl 9 rfl ?_
        refine V_iconst (x := 1) dL_load_266 rfl rfl ?_
        refine V_icmp_ne (q := 275) (q2 := 270) dL_load_267 (by decide) rfl ?_ ?_
        · refine V_ldcs (i := 13) (by decide) rfl rfl dL_load_275 rfl ?_
          exact V_sub [0, 1, 2, 3, 4, 5, 6, 7, 8] rfl (v_L_load_277 fu (f_L_load_222 fu) ih l0 l1 l2 l3 l5 l6 l7 l8 l9 l6 56 M51 k n hb)
        · refine V_ldcs (i := 12) (by decide) rfl rfl dL_load_270 rfl ?_
          refine V_goto (q := 277) dL_load_272 (by decide) ?_
          exact V_sub [0, 1, 2, 3, 4, 5, 6, 7, 8] rfl (v_L_load_277 fu (f_L_load_222 fu) ih l0 l1 l2 l3 l5 l6 l7 l8 l9 l6 55 M51 k n hb)
theorem v_L_load_219 (l0 : Nat) (l1 : Nat) (l2 : Int32) (l3 : Int32) (l5 : Int32) (l6 : Nat) (l7 : Nat) (l8 : Int32) (M : Mem) : V mi_L_load 219 [(0, .ref l0), (1, .ref l1), (2, .int l2), (3, .int l3), (5, .int l5), (6, .ref l6), (7, .ref l7), (8, .int l8)] [] M 171 145532 (f_L_load_219 l0 l1 l2 l3 l5 l6 l7 l8 M) tZ := by
  unfold f_L_load_219
  refine V_iconst (x := 0) dL_load_219 rfl rfl ?_
  refine V_istore (L' := [(0, .ref l0), (1, .ref l1), (2, .int l2), (3, .int l3), (5, .int l5), (6, .ref l6), (7, .ref l7), (8, .int l8), (9, .int 0)]) dL_load_220 rfl (by decide) rfl ?_
  exact v_L_load_222 5 l0 l1 l2 l3 l5 l6 l7 l8 0 M 171 145532 ⟨(Nat.le_of_ble_eq_true rfl), (Nat.le_of_ble_eq_true rfl)⟩
theorem v_L_load_213 (fo : Nat) (rc108 : Nat → Nat → Int32 → Int32 → Int32 → Int32 → Nat → Nat → Int32 → Int32 → Mem → Option ((Bool ⊕ String) × Mem)) (h108 : ∀ (l0 : Nat) (l1 : Nat) (l2 : Int32) (l3 : Int32) (l4 : Int32) (l5 : Int32) (l6 : Nat) (l7 : Nat) (l8 : Int32) (l9 : Int32) (M : Mem) (k n : Nat) (_ : kb 171 145532 17 14349 fo k n), V mi_L_load 108 [(0, .ref l0), (1, .ref l1), (2, .int l2), (3, .int l3), (4, .int l4), (5, .int l5), (6, .ref l6), (7, .ref l7), (8, .int l8), (9, .int l9)] [] M k n (rc108 l0 l1 l2 l3 l4 l5 l6 l7 l8 l9 M) tZ) (l0 : Nat) (l1 : Nat) (l2 : Int32) (l3 : Int32) (l4 : Int32) (l5 : Int32) (l6 : Nat) (l7 : Nat) (l8 : Int32) (l9 : Int32) (M : Mem) (k n : Nat) (hb : kb 171 145532 17 14349 (fo + 1) k n) : V mi_L_load 213 [(0, .ref l0), (1, .ref l1), (2, .int l2), (3, .int l3), (4, .int l4), (5, .int l5), (6, .ref l6), (7, .ref l7), (8, .int l8), (9, .int l9)] [] M (k + 17) (n + 14349) (f_L_load_213 rc108 l0 l1 l2 l3 l4 l5 l6 l7 l8 l9 M) tZ := by
  unfold f_L_load_213
  refine V_iinc (y := (l9 + 1)) (L' := [(0, .ref l0), (1, .ref l1), (2, .int l2), (3, .int l3), (4, .int l4), (5, .int l5), (6, .ref l6), (7, .ref l7), (8, .int l8), (9, .int (l9 + 1))]) dL_load_213 rfl 9 rfl rfl (by decide) rfl ?_
  refine V_goto (q := 108) dL_load_216 (by decide) ?_
  exact h108 l0 l1 l2 l3 l4 l5 l6 l7 l8 (l9 + 1) M _ _ (kb_next hb (Nat.le_of_ble_eq_true rfl) (Nat.le_of_ble_eq_true rfl))
theorem v_L_load_108 : ∀ (fu : Nat) (l0 : Nat) (l1 : Nat) (l2 : Int32) (l3 : Int32) (l4 : Int32) (l5 : Int32) (l6 : Nat) (l7 : Nat) (l8 : Int32) (l9 : Int32) (M : Mem) (k n : Nat) (_ : kb 171 145532 17 14349 fu k n), V mi_L_load 108 [(0, .ref l0), (1, .ref l1), (2, .int l2), (3, .int l3), (4, .int l4), (5, .int l5), (6, .ref l6), (7, .ref l7), (8, .int l8), (9, .int l9)] [] M k n (f_L_load_108 fu l0 l1 l2 l3 l4 l5 l6 l7 l8 l9 M) tZ := by
  intro fu
  induction fu with
  | zero => intros; exact V_none
  | succ fu ih =>
    intro l0 l1 l2 l3 l4 l5 l6 l7 l8 l9 M k n hb
    show V mi_L_load 108 [(0, .ref l0), (1, .ref l1), (2, .int l2), (3, .int l3), (4, .int l4), (5, .int l5), (6, .ref l6), (7, .ref l7), (8, .int l8), (9, .int l9)] [] M k n (f_L_load_108 (fu + 1) l0 l1 l2 l3 l4 l5 l6 l7 l8 l9 M) tZ
    unfold f_L_load_108
    refine V_iload dL_load_108 rfl 9 rfl ?_
    refine V_iload dL_load_110 rfl 4 rfl ?_
    refine V_icmp_ge (q := 219) (q2 := 115) dL_load_112 (by decide) rfl ?_ ?_
    · exact V_sub [0, 1, 2, 3, 5, 6, 7, 8] rfl (V_w (kb_ck0 hb (Nat.le_of_ble_eq_true rfl)) (kb_sk0 hb (Nat.le_of_ble_eq_true rfl)) (v_L_load_219 l0 l1 l2 l3 l5 l6 l7 l8 M))
    · refine V_aload_n dL_load_115 rfl 1 rfl ?_
      refine V_bipush (x := 10) dL_load_116 rfl rfl ?_
      refine V_iload dL_load_118 rfl 9 rfl ?_
      refine V_iadd dL_load_120 rfl ?_
      refine V_iload_n dL_load_121 rfl 2 rfl ?_
      refine V_cSeI (As := [.ref l1, .int (10 + l9), .int l2]) (k_L_draw l1 (10 + l9) l2 M) ok_L_draw sm_L_draw ml_L_64 ⟨⟨(Nat.le_of_ble_eq_true rfl), (Nat.le_of_ble_eq_true rfl)⟩, kb_c0 hb (Nat.le_of_ble_eq_true rfl) (Nat.le_of_ble_eq_true rfl), kb_s0 hb (Nat.le_of_ble_eq_true rfl) (Nat.le_of_ble_eq_true rfl)⟩ dL_load_122 rfl rfl rfl (Nat.le_of_ble_eq_true rfl) rfl rfl (fun x60 => ?_)
      refine V_istore (L' := [(0, .ref l0), (1, .ref l1), (2, .int l2), (3, .int l3), (4, .int l4), (5, .int l5), (6, .ref l6), (7, .ref l7), (8, .int l8), (9, .int l9), (10, .int x60)]) dL_load_125 rfl (by decide) rfl ?_
      refine V_aload dL_load_127 rfl 7 rfl ?_
      refine V_iload dL_load_129 rfl 10 rfl ?_
      refine V_iaload dL_load_131 rfl (fun x61 => ?_)
      refine V_iload dL_load_132 rfl 5 rfl ?_
      refine V_icmp_ne (q := 140) (q2 := 137) dL_load_134 (by decide) rfl ?_ ?_
      · refine V_aload dL_load_140 rfl 7 rfl ?_
        refine V_iload dL_load_142 rfl 10 rfl ?_
        refine V_dup2 dL_load_144 rfl rfl rfl ?_
        refine V_iaload dL_load_145 rfl (fun x62 => ?_)
        refine V_iconst (x := 1) dL_load_146 rfl rfl ?_
        refine V_iadd dL_load_147 rfl ?_
        refine V_iastore dL_load_148 rfl (fun M63 => ?_)
        refine V_iinc (y := (l8 + 1)) (L' := [(0, .ref l0), (1, .ref l1), (2, .int l2), (3, .int l3), (4, .int l4), (5, .int l5), (6, .ref l6), (7, .ref l7), (8, .int (l8 + 1)), (9, .int l9), (10, .int x60)]) dL_load_149 rfl 8 rfl rfl (by decide) rfl ?_
        refine V_aload dL_load_152 rfl 6 rfl ?_
        refine V_ldcs (i := 3) (by decide) rfl rfl dL_load_154 rfl ?_
        refine V_cGwR (CRun.V (C := RJ4) (As := [.ref 46]) (k_J4_append_15ec4 l6 46 M63) (fun _ h => RC.obj (ci := 12) (T := TJ4) (N := 4) rfl (o_J4_append_15ec4 h)) ok_J4_append_15ec4 im_J4_append_15ec4 (selOK.of se_J4_append_15ec4) ml_L_57 ⟨⟨(Nat.le_of_ble_eq_true rfl), (Nat.le_of_ble_eq_true rfl)⟩, kb_c0 hb (Nat.le_of_ble_eq_true rfl) (Nat.le_of_ble_eq_true rfl), kb_s0 hb (Nat.le_of_ble_eq_true rfl) (Nat.le_of_ble_eq_true rfl)⟩ dL_load_156 rfl rfl (Nat.le_of_ble_eq_true rfl)) rfl rfl rfl (fun x64 M65 => ?_)
        refine V_bipush (x := 97) dL_load_159 rfl rfl ?_
        refine V_iload dL_load_161 rfl 10 rfl ?_
        refine V_iadd dL_load_163 rfl ?_
        refine V_i2c rfl dL_load_164 rfl ?_
        refine V_cGwR (CRun.V (C := RJ4) (As := [.int (((97 + x60).toUInt32 % 65536).toInt32)]) (k_J4_append_cf468 x64 (((97 + x60).toUInt32 % 65536).toInt32) M65) (fun _ h => RC.obj (ci := 12) (T := TJ4) (N := 4) rfl (o_J4_append_cf468 h)) ok_J4_append_cf468 im_J4_append_cf468 (selOK.of se_J4_append_cf468) ml_L_80 ⟨⟨(Nat.le_of_ble_eq_true rfl), (Nat.le_of_ble_eq_true rfl)⟩, kb_c hb (Nat.le_of_ble_eq_true rfl) (Nat.le_of_ble_eq_true rfl), kb_s hb (Nat.le_of_ble_eq_true rfl) (Nat.le_of_ble_eq_true rfl)⟩ dL_load_165 rfl rfl (Nat.le_of_ble_eq_true rfl)) rfl (Nat.add_assoc _ _ _) (Nat.add_assoc _ _ _) (fun x66 M67 => ?_)
        refine V_ldcs (i := 4) (by decide) rfl rfl dL_load_168 rfl ?_
        refine V_cGwR (CRun.V (C := RJ4) (As := [.ref 47]) (k_J4_append_15ec4 x66 47 M67) (fun _ h => RC.obj (ci := 12) (T := TJ4) (N := 4) rfl (o_J4_append_15ec4 h)) ok_J4_append_15ec4 im_J4_append_15ec4 (selOK.of se_J4_append_15ec4) ml_L_57 ⟨⟨(Nat.le_of_ble_eq_true rfl), (Nat.le_of_ble_eq_true rfl)⟩, kb_c hb (Nat.le_of_ble_eq_true rfl) (Nat.le_of_ble_eq_true rfl), kb_s hb (Nat.le_of_ble_eq_true rfl) (Nat.le_of_ble_eq_true rfl)⟩ dL_load_170 rfl rfl (Nat.le_of_ble_eq_true rfl)) rfl (Nat.add_assoc _ _ _) (Nat.add_assoc _ _ _) (fun x68 M69 => ?_)
        refine V_iconst (x := 1) dL_load_173 rfl rfl ?_
        refine V_aload_n dL_load_174 rfl 1 rfl ?_
        refine V_bipush (x := 20) dL_load_175 rfl rfl ?_
        refine V_iload dL_load_177 rfl 9 rfl ?_
        refine V_iadd dL_load_179 rfl ?_
        refine V_sipush (x := 500) dL_load_180 rfl rfl ?_
        refine V_cSeI (As := [.ref l1, .int (20 + l9), .int 500]) (k_L_draw l1 (20 + l9) 500 M69) ok_L_draw sm_L_draw ml_L_64 ⟨⟨(Nat.le_of_ble_eq_true rfl), (Nat.le_of_ble_eq_true rfl)⟩, kb_c hb (Nat.le_of_ble_eq_true rfl) (Nat.le_of_ble_eq_true rfl), kb_s hb (Nat.le_of_ble_eq_true rfl) (Nat.le_of_ble_eq_true rfl)⟩ dL_load_183 rfl rfl rfl (Nat.le_of_ble_eq_true rfl) (Nat.add_assoc _ _ _) (Nat.add_assoc _ _ _) (fun x70 => ?_)
        refine V_iadd dL_load_186 rfl ?_
        refine V_cGwR (CRun.V (C := RJ4) (As := [.int (1 + x70)]) (k_J4_append_bf812 x68 (1 + x70) M69) (fun _ h => RC.obj (ci := 12) (T := TJ4) (N := 4) rfl (o_J4_append_bf812 h)) ok_J4_append_bf812 im_J4_append_bf812 (selOK.of se_J4_append_bf812) ml_L_73 ⟨⟨(Nat.le_of_ble_eq_true rfl), (Nat.le_of_ble_eq_true rfl)⟩, kb_c hb (Nat.le_of_ble_eq_true rfl) (Nat.le_of_ble_eq_true rfl), kb_s hb (Nat.le_of_ble_eq_true rfl) (Nat.le_of_ble_eq_true rfl)⟩ dL_load_187 rfl rfl (Nat.le_of_ble_eq_true rfl)) rfl (Nat.add_assoc _ _ _) (Nat.add_assoc _ _ _) (fun x71 M72 => ?_)
        refine V_aload_n dL_load_190 rfl 1 rfl ?_
        refine V_bipush (x := 30) dL_load_191 rfl rfl ?_
        refine V_iload dL_load_193 rfl 9 rfl ?_
        refine V_iadd dL_load_195 rfl ?_
        refine V_bipush (x := 32) dL_load_196 rfl rfl ?_
        refine V_cSeI (As := [.ref l1, .int (30 + l9), .int 32]) (k_L_draw l1 (30 + l9) 32 M72) ok_L_draw sm_L_draw ml_L_64 ⟨⟨(Nat.le_of_ble_eq_true rfl), (Nat.le_of_ble_eq_true rfl)⟩, kb_c hb (Nat.le_of_ble_eq_true rfl) (Nat.le_of_ble_eq_true rfl), kb_s hb (Nat.le_of_ble_eq_true rfl) (Nat.le_of_ble_eq_true rfl)⟩ dL_load_198 rfl rfl rfl (Nat.le_of_ble_eq_true rfl) (Nat.add_assoc _ _ _) (Nat.add_assoc _ _ _) (fun x73 => ?_)
        refine V_cSwR (As := [.int x73]) (k_L_flags x73 M72) ok_L_flags sm_L_flags ml_L_87 ⟨⟨(Nat.le_of_ble_eq_true rfl), (Nat.le_of_ble_eq_true rfl)⟩, kb_c hb (Nat.le_of_ble_eq_true rfl) (Nat.le_of_ble_eq_true rfl), kb_s hb (Nat.le_of_ble_eq_true rfl) (Nat.le_of_ble_eq_true rfl)⟩ dL_load_201 rfl rfl rfl (Nat.le_of_ble_eq_true rfl) (Nat.add_assoc _ _ _) (Nat.add_assoc _ _ _) (fun x74 M75 => ?_)
        refine V_cGwR (CRun.V (C := RJ4) (As := [.ref x74]) (k_J4_append_15ec4 x71 x74 M75) (fun _ h => RC.obj (ci := 12) (T := TJ4) (N := 4) rfl (o_J4_append_15ec4 h)) ok_J4_append_15ec4 im_J4_append_15ec4 (selOK.of se_J4_append_15ec4) ml_L_57 ⟨⟨(Nat.le_of_ble_eq_true rfl), (Nat.le_of_ble_eq_true rfl)⟩, kb_c hb (Nat.le_of_ble_eq_true rfl) (Nat.le_of_ble_eq_true rfl), kb_s hb (Nat.le_of_ble_eq_true rfl) (Nat.le_of_ble_eq_true rfl)⟩ dL_load_204 rfl rfl (Nat.le_of_ble_eq_true rfl)) rfl (Nat.add_assoc _ _ _) (Nat.add_assoc _ _ _) (fun x76 M77 => ?_)
        refine V_ldcs (i := 1) (by decide) rfl rfl dL_load_207 rfl ?_
        refine V_cGwR (CRun.V (C := RJ4) (As := [.ref 44]) (k_J4_append_15ec4 x76 44 M77) (fun _ h => RC.obj (ci := 12) (T := TJ4) (N := 4) rfl (o_J4_append_15ec4 h)) ok_J4_append_15ec4 im_J4_append_15ec4 (selOK.of se_J4_append_15ec4) ml_L_57 ⟨⟨(Nat.le_of_ble_eq_true rfl), (Nat.le_of_ble_eq_true rfl)⟩, kb_c hb (Nat.le_of_ble_eq_true rfl) (Nat.le_of_ble_eq_true rfl), kb_s hb (Nat.le_of_ble_eq_true rfl) (Nat.le_of_ble_eq_true rfl)⟩ dL_load_209 rfl rfl (Nat.le_of_ble_eq_true rfl)) rfl (Nat.add_assoc _ _ _) (Nat.add_assoc _ _ _) (fun x78 M79 => ?_)
        refine V_pop dL_load_212 rfl rfl ?_
        exact V_sub [0, 1, 2, 3, 4, 5, 6, 7, 8, 9] rfl (v_L_load_213 fu (f_L_load_108 fu) ih l0 l1 l2 l3 l4 l5 l6 l7 (l8 + 1) l9 M79 k n hb)
      · refine V_goto (q := 213) dL_load_137 (by decide) ?_
        exact V_sub [0, 1, 2, 3, 4, 5, 6, 7, 8, 9] rfl (V_w (Nat.le_add_right _ _) (Nat.le_add_right _ _) (v_L_load_213 fu (f_L_load_108 fu) ih l0 l1 l2 l3 l4 l5 l6 l7 l8 l9 M k n hb))
theorem v_L_load_97 (l0 : Nat) (l1 : Nat) (l2 : Int32) (l3 : Int32) (l4 : Int32) (l5 : Int32) (l6 : Nat) (M : Mem) : V mi_L_load 97 [(0, .ref l0), (1, .ref l1), (2, .int l2), (3, .int l3), (4, .int l4), (5, .int l5), (6, .ref l6)] [] M 17 16388 (f_L_load_97 l0 l1 l2 l3 l4 l5 l6 M) tZ := by
  unfold f_L_load_97
  refine V_iconst (x := 3) dL_load_97 rfl rfl ?_
  refine V_newarray dL_load_98 rfl (t := 0) (N := 3) (x := (3, .inl (fun _ => 0))) rfl ar_0 (by decide) rfl (Nat.le_of_ble_eq_true rfl) (fun _ _ => rfl) (fun _ _ h => h) ⟨(Nat.le_of_ble_eq_true rfl), (Nat.le_of_ble_eq_true rfl)⟩ (fun r12 => ?_)
  refine V_astore (L' := [(0, .ref l0), (1, .ref l1), (2, .int l2), (3, .int l3), (4, .int l4), (5, .int l5), (6, .ref l6), (7, .ref r12)]) dL_load_100 rfl (by decide) rfl ?_
  refine V_iconst (x := 0) dL_load_102 rfl rfl ?_
  refine V_istore (L' := [(0, .ref l0), (1, .ref l1), (2, .int l2), (3, .int l3), (4, .int l4), (5, .int l5), (6, .ref l6), (7, .ref r12), (8, .int 0)]) dL_load_103 rfl (by decide) rfl ?_
  refine V_iconst (x := 0) dL_load_105 rfl rfl ?_
  refine V_istore (L' := [(0, .ref l0), (1, .ref l1), (2, .int l2), (3, .int l3), (4, .int l4), (5, .int l5), (6, .ref l6), (7, .ref r12), (8, .int 0), (9, .int 0)]) dL_load_106 rfl (by decide) rfl ?_
  exact v_L_load_108 9 l0 l1 l2 l3 l4 l5 l6 r12 0 0 (mnew M (.inl (0, (3, .inl (fun _ => 0))))) 18 16391 ⟨(Nat.le_of_ble_eq_true rfl), (Nat.le_of_ble_eq_true rfl)⟩
theorem v_L_load_63 : ∀ (fu : Nat) (l0 : Nat) (l1 : Nat) (l2 : Int32) (l3 : Int32) (l4 : Int32) (l5 : Int32) (l6 : Nat) (l7 : Int32) (M : Mem) (k n : Nat) (_ : kb 17 16388 3 3072 fu k n), V mi_L_load 63 [(0, .ref l0), (1, .ref l1), (2, .int l2), (3, .int l3), (4, .int l4), (5, .int l5), (6, .ref l6), (7, .int l7)] [] M k n (f_L_load_63 fu l0 l1 l2 l3 l4 l5 l6 l7 M) tZ := by
  intro fu
  induction fu with
  | zero => intros; exact V_none
  | succ fu ih =>
    intro l0 l1 l2 l3 l4 l5 l6 l7 M k n hb
    show V mi_L_load 63 [(0, .ref l0), (1, .ref l1), (2, .int l2), (3, .int l3), (4, .int l4), (5, .int l5), (6, .ref l6), (7, .int l7)] [] M k n (f_L_load_63 (fu + 1) l0 l1 l2 l3 l4 l5 l6 l7 M) tZ
    unfold f_L_load_63
    refine V_iload dL_load_63 rfl 7 rfl ?_
    refine V_iload_n dL_load_65 rfl 2 rfl ?_
    refine V_icmp_ge (q := 97) (q2 := 69) dL_load_66 (by decide) rfl ?_ ?_
    · exact V_sub [0, 1, 2, 3, 4, 5, 6] rfl (V_w (kb_ck0 hb (Nat.le_of_ble_eq_true rfl)) (kb_sk0 hb (Nat.le_of_ble_eq_true rfl)) (v_L_load_97 l0 l1 l2 l3 l4 l5 l6 M))
    · refine V_aload dL_load_69 rfl 6 rfl ?_
      refine V_ldcs (i := 2) (by decide) rfl rfl dL_load_71 rfl ?_
      refine V_cGwR (CRun.V (C := RJ4) (As := [.ref 45]) (k_J4_append_15ec4 l6 45 M) (fun _ h => RC.obj (ci := 12) (T := TJ4) (N := 4) rfl (o_J4_append_15ec4 h)) ok_J4_append_15ec4 im_J4_append_15ec4 (selOK.of se_J4_append_15ec4) ml_L_57 ⟨⟨(Nat.le_of_ble_eq_true rfl), (Nat.le_of_ble_eq_true rfl)⟩, kb_c0 hb (Nat.le_of_ble_eq_true rfl) (Nat.le_of_ble_eq_true rfl), kb_s0 hb (Nat.le_of_ble_eq_true rfl) (Nat.le_of_ble_eq_true rfl)⟩ dL_load_73 rfl rfl (Nat.le_of_ble_eq_true rfl)) rfl rfl rfl (fun x80 M81 => ?_)
      refine V_bipush (x := 97) dL_load_76 rfl rfl ?_
      refine V_iload dL_load_78 rfl 7 rfl ?_
      refine V_iadd dL_load_80 rfl ?_
      refine V_i2c rfl dL_load_81 rfl ?_
      refine V_cGwR (CRun.V (C := RJ4) (As := [.int (((97 + l7).toUInt32 % 65536).toInt32)]) (k_J4_append_cf468 x80 (((97 + l7).toUInt32 % 65536).toInt32) M81) (fun _ h => RC.obj (ci := 12) (T := TJ4) (N := 4) rfl (o_J4_append_cf468 h)) ok_J4_append_cf468 im_J4_append_cf468 (selOK.of se_J4_append_cf468) ml_L_80 ⟨⟨(Nat.le_of_ble_eq_true rfl), (Nat.le_of_ble_eq_true rfl)⟩, kb_c hb (Nat.le_of_ble_eq_true rfl) (Nat.le_of_ble_eq_true rfl), kb_s hb (Nat.le_of_ble_eq_true rfl) (Nat.le_of_ble_eq_true rfl)⟩ dL_load_82 rfl rfl (Nat.le_of_ble_eq_true rfl)) rfl (Nat.add_assoc _ _ _) (Nat.add_assoc _ _ _) (fun x82 M83 => ?_)
      refine V_ldcs (i := 1) (by decide) rfl rfl dL_load_85 rfl ?_
      refine V_cGwR (CRun.V (C := RJ4) (As := [.ref 44]) (k_J4_append_15ec4 x82 44 M83) (fun _ h => RC.obj (ci := 12) (T := TJ4) (N := 4) rfl (o_J4_append_15ec4 h)) ok_J4_append_15ec4 im_J4_append_15ec4 (selOK.of se_J4_append_15ec4) ml_L_57 ⟨⟨(Nat.le_of_ble_eq_true rfl), (Nat.le_of_ble_eq_true rfl)⟩, kb_c hb (Nat.le_of_ble_eq_true rfl) (Nat.le_of_ble_eq_true rfl), kb_s hb (Nat.le_of_ble_eq_true rfl) (Nat.le_of_ble_eq_true rfl)⟩ dL_load_87 rfl rfl (Nat.le_of_ble_eq_true rfl)) rfl (Nat.add_assoc _ _ _) (Nat.add_assoc _ _ _) (fun x84 M85 => ?_)
      refine V_pop dL_load_90 rfl rfl ?_
      refine V_iinc (y := (l7 + 1)) (L' := [(0, .ref l0), (1, .ref l1), (2, .int l2), (3, .int l3), (4, .int l4), (5, .int l5), (6, .ref l6), (7, .int (l7 + 1))]) dL_load_91 rfl 7 rfl rfl (by decide) rfl ?_
      refine V_goto (q := 63) dL_load_94 (by decide) ?_
      exact ih l0 l1 l2 l3 l4 l5 l6 (l7 + 1) M85 _ _ (kb_next hb (Nat.le_of_ble_eq_true rfl) (Nat.le_of_ble_eq_true rfl))
theorem v_L_load (a0 : Nat) (a1 : Nat) (M : Mem) : V mi_L_load 0 [(0, .ref a0), (1, .ref a1)] [] M 0 0 (f_L_load a0 a1 M) tZ := by
  unfold f_L_load
  refine V_iconst (x := 1) dL_load_0 rfl rfl ?_
  refine V_aload_n dL_load_1 rfl 1 rfl ?_
  refine V_iconst (x := 0) dL_load_2 rfl rfl ?_
  refine V_iconst (x := 3) dL_load_3 rfl rfl ?_
  refine V_cSeI (As := [.ref a1, .int 0, .int 3]) (k_L_draw a1 0 3 M) ok_L_draw sm_L_draw ml_L_64 ⟨⟨(Nat.le_of_ble_eq_true rfl), (Nat.le_of_ble_eq_true rfl)⟩, (Nat.le_of_ble_eq_true rfl), (Nat.le_of_ble_eq_true rfl)⟩ dL_load_4 rfl rfl rfl (Nat.le_of_ble_eq_true rfl) rfl rfl (fun x1 => ?_)
  refine V_iadd dL_load_7 rfl ?_
  refine V_istore_n (L' := [(0, .ref a0), (1, .ref a1), (2, .int (1 + x1))]) dL_load_8 rfl (by decide) rfl ?_
  refine V_iconst (x := 1) dL_load_9 rfl rfl ?_
  refine V_aload_n dL_load_10 rfl 1 rfl ?_
  refine V_iconst (x := 1) dL_load_11 rfl rfl ?_
  refine V_iconst (x := 4) dL_load_12 rfl rfl ?_
  refine V_cSeI (As := [.ref a1, .int 1, .int 4]) (k_L_draw a1 1 4 M) ok_L_draw sm_L_draw ml_L_64 ⟨⟨(Nat.le_of_ble_eq_true rfl), (Nat.le_of_ble_eq_true rfl)⟩, (Nat.le_of_ble_eq_true rfl), (Nat.le_of_ble_eq_true rfl)⟩ dL_load_13 rfl rfl rfl (Nat.le_of_ble_eq_true rfl) rfl rfl (fun x2 => ?_)
  refine V_iadd dL_load_16 rfl ?_
  refine V_istore_n (L' := [(0, .ref a0), (1, .ref a1), (2, .int (1 + x1)), (3, .int (1 + x2))]) dL_load_17 rfl (by decide) rfl ?_
  refine V_aload_n dL_load_18 rfl 1 rfl ?_
  refine V_iconst (x := 2) dL_load_19 rfl rfl ?_
  refine V_bipush (x := 9) dL_load_20 rfl rfl ?_
  refine V_cSeI (As := [.ref a1, .int 2, .int 9]) (k_L_draw a1 2 9 M) ok_L_draw sm_L_draw ml_L_64 ⟨⟨(Nat.le_of_ble_eq_true rfl), (Nat.le_of_ble_eq_true rfl)⟩, (Nat.le_of_ble_eq_true rfl), (Nat.le_of_ble_eq_true rfl)⟩ dL_load_22 rfl rfl rfl (Nat.le_of_ble_eq_true rfl) rfl rfl (fun x3 => ?_)
  refine V_istore (L' := [(0, .ref a0), (1, .ref a1), (2, .int (1 + x1)), (3, .int (1 + x2)), (4, .int x3)]) dL_load_25 rfl (by decide) rfl ?_
  refine V_bipush (x := 6) dL_load_27 rfl rfl ?_
  refine V_aload_n dL_load_29 rfl 1 rfl ?_
  refine V_iconst (x := 3) dL_load_30 rfl rfl ?_
  refine V_bipush (x := 25) dL_load_31 rfl rfl ?_
  refine V_cSeI (As := [.ref a1, .int 3, .int 25]) (k_L_draw a1 3 25 M) ok_L_draw sm_L_draw ml_L_64 ⟨⟨(Nat.le_of_ble_eq_true rfl), (Nat.le_of_ble_eq_true rfl)⟩, (Nat.le_of_ble_eq_true rfl), (Nat.le_of_ble_eq_true rfl)⟩ dL_load_33 rfl rfl rfl (Nat.le_of_ble_eq_true rfl) rfl rfl (fun x4 => ?_)
  refine V_iadd dL_load_36 rfl ?_
  refine V_istore (L' := [(0, .ref a0), (1, .ref a1), (2, .int (1 + x1)), (3, .int (1 + x2)), (4, .int x3), (5, .int (6 + x4))]) dL_load_37 rfl (by decide) rfl ?_
  refine V_new dL_load_39 rfl (ci := 12) (T := TJ4) (N := 4) (fs := [.null, .int 0, .int 0, .int 0]) (ty := tyJ4) rfl cl_L_52 ins_J4 ini_J4 tyJ4_ok (fun _ j hj => match j, hj with | 0, _ => rfl | 1, _ => rfl | 2, _ => rfl | 3, _ => rfl | j + 4, h => absurd h (by omega)) ⟨(Nat.le_of_ble_eq_true rfl), (Nat.le_of_ble_eq_true rfl)⟩ (fun r5 => ?_)
  refine V_dup dL_load_42 rfl rfl ?_
  refine V_ldcs (i := 0) (by decide) rfl rfl dL_load_43 rfl ?_
  refine V_cIwV (As := [.ref 43]) (k_J4_init_a7421 r5 43 (mnew M (.inr (12, [.null, .int 0, .int 0, .int 0])))) ok_J4_init_a7421 im_J4_init_a7421 ml_L_70 ⟨⟨(Nat.le_of_ble_eq_true rfl), (Nat.le_of_ble_eq_true rfl)⟩, (Nat.le_of_ble_eq_true rfl), (Nat.le_of_ble_eq_true rfl)⟩ rfl rfl dL_load_45 rfl rfl rfl (Nat.le_of_ble_eq_true rfl) rfl rfl (fun M7 => ?_)
  refine V_iload dL_load_48 rfl 5 rfl ?_
  refine V_cGwR (CRun.V (C := RJ4) (As := [.int (6 + x4)]) (k_J4_append_bf812 r5 (6 + x4) M7) (fun _ h => RC.obj (ci := 12) (T := TJ4) (N := 4) rfl (o_J4_append_bf812 h)) ok_J4_append_bf812 im_J4_append_bf812 (selOK.of se_J4_append_bf812) ml_L_73 ⟨⟨(Nat.le_of_ble_eq_true rfl), (Nat.le_of_ble_eq_true rfl)⟩, (Nat.le_of_ble_eq_true rfl), (Nat.le_of_ble_eq_true rfl)⟩ dL_load_50 rfl rfl (Nat.le_of_ble_eq_true rfl)) rfl rfl rfl (fun x8 M9 => ?_)
  refine V_ldcs (i := 1) (by decide) rfl rfl dL_load_53 rfl ?_
  refine V_cGwR (CRun.V (C := RJ4) (As := [.ref 44]) (k_J4_append_15ec4 x8 44 M9) (fun _ h => RC.obj (ci := 12) (T := TJ4) (N := 4) rfl (o_J4_append_15ec4 h)) ok_J4_append_15ec4 im_J4_append_15ec4 (selOK.of se_J4_append_15ec4) ml_L_57 ⟨⟨(Nat.le_of_ble_eq_true rfl), (Nat.le_of_ble_eq_true rfl)⟩, (Nat.le_of_ble_eq_true rfl), (Nat.le_of_ble_eq_true rfl)⟩ dL_load_55 rfl rfl (Nat.le_of_ble_eq_true rfl)) rfl rfl rfl (fun x10 M11 => ?_)
  refine V_astore (L' := [(0, .ref a0), (1, .ref a1), (2, .int (1 + x1)), (3, .int (1 + x2)), (4, .int x3), (5, .int (6 + x4)), (6, .ref x10)]) dL_load_58 rfl (by decide) rfl ?_
  refine V_iconst (x := 0) dL_load_60 rfl rfl ?_
  refine V_istore (L' := [(0, .ref a0), (1, .ref a1), (2, .int (1 + x1)), (3, .int (1 + x2)), (4, .int x3), (5, .int (6 + x4)), (6, .ref x10), (7, .int 0)]) dL_load_61 rfl (by decide) rfl ?_
  exact v_L_load_63 4 a0 a1 (1 + x1) (1 + x2) x3 (6 + x4) x10 0 M11 5 4100 ⟨(Nat.le_of_ble_eq_true rfl), (Nat.le_of_ble_eq_true rfl)⟩
theorem k_L_load (a0 : Nat) (a1 : Nat) (M : Mem) : K mi_L_load [.ref a0, .ref a1] M (f_L_load a0 a1 M) tZ := K_of_V ok_L_load (Nat.le_of_ble_eq_true rfl) (v_L_load a0 a1 M)
theorem dL_selected_0 : decode cL_selected 0 = .ok (.aload_n 0, 1) := by decide +kernel
theorem dL_selected_1 : decode cL_selected 1 = .ok (.iload_n 1, 1) := by decide +kernel
theorem dL_selected_2 : decode cL_selected 2 = .ok (.iload_n 2, 1) := by decide +kernel
theorem dL_selected_3 : decode cL_selected 3 = .ok (.iload_n 3, 1) := by decide +kernel
theorem dL_selected_4 : decode cL_selected 4 = .ok (.invokevirtual 120, 3) := by decide +kernel
theorem dL_selected_7 : decode cL_selected 7 = .ok (.ireturn, 1) := by decide +kernel
theorem dL_selected_8 : decode cL_selected 8 = .ok (.astore 4, 2) := by decide +kernel
theorem dL_selected_10 : decode cL_selected 10 = .ok (.ldc 126, 2) := by decide +kernel
theorem dL_selected_12 : decode cL_selected 12 = .ok (.ireturn, 1) := by decide +kernel
def mi_L_selected : MI := (RL, yL_selected, cL_selected, 5, some .int, [(0, 7, 8, 124)], { frames := 10, cells := 3, slots := 18, locals := 178 })
theorem ok_L_selected : mOKW mi_L_selected 4 := ⟨rfl, cw_L_selected, ini_L, ⟨rfl, by decide⟩, by decide, by decide, rfl⟩
theorem ha_L_selected : hAll mi_L_selected 4 mi_L_selected.hh [("java/lang/IllegalStateException", (-2147483648))] [] := ⟨⟨⟨by decide, by decide⟩, by decide, cl_L_124, ca_IllegalStateException, ⟨126, 2, kc_L_126, dL_selected_10, dL_selected_12, Or.inl ⟨rfl, 4, by decide, dL_selected_8⟩⟩⟩, (fun p hp => nomatch hp), trivial⟩
theorem v_L_selected (a0 : Nat) (a1 : Int32) (a2 : Int32) (a3 : Bool) (M : Mem) : V mi_L_selected 0 [(0, .ref a0), (1, .int a1), (2, .int a2), (3, .int (b2i a3))] [] M 0 0 (f_L_selected a0 a1 a2 a3 M) wI := by
  unfold f_L_selected
  refine V_aload_n dL_selected_0 rfl 0 rfl ?_
  refine V_iload_n dL_selected_1 rfl 1 rfl ?_
  refine V_iload_n dL_selected_2 rfl 2 rfl ?_
  refine V_iload_n dL_selected_3 rfl 3 rfl ?_
  refine V_cVH (wv := fun r => some (.int r)) (hs := [("java/lang/IllegalStateException", (-2147483648))]) (As := [.int a1, .int a2, .int (b2i a3)]) (k_X11_select a0 a1 a2 a3 M) (fun _ h => o_X11_select h) ok_X11_select im_X11_select se_X11_select rfl (ci := 10) rfl ml_L_120 ⟨⟨(Nat.le_of_ble_eq_true rfl), (Nat.le_of_ble_eq_true rfl)⟩, (Nat.le_of_ble_eq_true rfl), (Nat.le_of_ble_eq_true rfl)⟩ dL_selected_4 rfl rfl rfl (Nat.le_of_ble_eq_true rfl) ha_L_selected rfl (fun _ _ => rfl) (fun _ _ => rfl) rfl rfl (fun x1 M2 => ?_)
  exact V_iret dL_selected_7 rfl rfl ⟨(Nat.le_of_ble_eq_true rfl), (Nat.le_of_ble_eq_true rfl)⟩
theorem k_L_selected (a0 : Nat) (a1 : Int32) (a2 : Int32) (a3 : Bool) (M : Mem) : K mi_L_selected [.ref a0, .int a1, .int a2, .int (b2i a3)] M (f_L_selected a0 a1 a2 a3 M) wI := K_of_VW ok_L_selected (Nat.le_of_ble_eq_true rfl) (v_L_selected a0 a1 a2 a3 M)
theorem dL_nooped_0 : decode cL_nooped 0 = .ok (.aload_n 0, 1) := by decide +kernel
theorem dL_nooped_1 : decode cL_nooped 1 = .ok (.iload_n 1, 1) := by decide +kernel
theorem dL_nooped_2 : decode cL_nooped 2 = .ok (.invokevirtual 127, 3) := by decide +kernel
theorem dL_nooped_5 : decode cL_nooped 5 = .ok (.ireturn, 1) := by decide +kernel
theorem dL_nooped_6 : decode cL_nooped 6 = .ok (.astore_n 2, 1) := by decide +kernel
theorem dL_nooped_7 : decode cL_nooped 7 = .ok (.ldc 126, 2) := by decide +kernel
theorem dL_nooped_9 : decode cL_nooped 9 = .ok (.ireturn, 1) := by decide +kernel
def mi_L_nooped : MI := (RL, yL_nooped, cL_nooped, 3, some .int, [(0, 5, 6, 124)], { frames := 10, cells := 2, slots := 12, locals := 198 })
theorem ok_L_nooped : mOKW mi_L_nooped 2 := ⟨rfl, cw_L_nooped, ini_L, ⟨rfl, by decide⟩, by decide, by decide, rfl⟩
theorem ha_L_nooped : hAll mi_L_nooped 2 mi_L_nooped.hh [("java/lang/IllegalStateException", (-2147483648))] [] := ⟨⟨⟨by decide, by decide⟩, by decide, cl_L_124, ca_IllegalStateException, ⟨126, 1, kc_L_126, dL_nooped_7, dL_nooped_9, Or.inr ⟨rfl, 2, by decide, dL_nooped_6⟩⟩⟩, (fun p hp => nomatch hp), trivial⟩
theorem v_L_nooped (a0 : Nat) (a1 : Int32) (M : Mem) : V mi_L_nooped 0 [(0, .ref a0), (1, .int a1)] [] M 0 0 (f_L_nooped a0 a1 M) wI := by
  unfold f_L_nooped
  refine V_aload_n dL_nooped_0 rfl 0 rfl ?_
  refine V_iload_n dL_nooped_1 rfl 1 rfl ?_
  refine V_cVH (wv := fun r => some (.int r)) (hs := [("java/lang/IllegalStateException", (-2147483648))]) (As := [.int a1]) (k_X11_noop a0 a1 M) (fun _ h => o_X11_noop h) ok_X11_noop im_X11_noop se_X11_noop rfl (ci := 10) rfl ml_L_127 ⟨⟨(Nat.le_of_ble_eq_true rfl), (Nat.le_of_ble_eq_true rfl)⟩, (Nat.le_of_ble_eq_true rfl), (Nat.le_of_ble_eq_true rfl)⟩ dL_nooped_2 rfl rfl rfl (Nat.le_of_ble_eq_true rfl) ha_L_nooped rfl (fun _ _ => rfl) (fun _ _ => rfl) rfl rfl (fun x1 M2 => ?_)
  exact V_iret dL_nooped_5 rfl rfl ⟨(Nat.le_of_ble_eq_true rfl), (Nat.le_of_ble_eq_true rfl)⟩
theorem k_L_nooped (a0 : Nat) (a1 : Int32) (M : Mem) : K mi_L_nooped [.ref a0, .int a1] M (f_L_nooped a0 a1 M) wI := K_of_VW ok_L_nooped (Nat.le_of_ble_eq_true rfl) (v_L_nooped a0 a1 M)
theorem dL_started_0 : decode cL_started 0 = .ok (.aload_n 0, 1) := by decide +kernel
theorem dL_started_1 : decode cL_started 1 = .ok (.iload_n 1, 1) := by decide +kernel
theorem dL_started_2 : decode cL_started 2 = .ok (.invokevirtual 130, 3) := by decide +kernel
theorem dL_started_5 : decode cL_started 5 = .ok (.ireturn, 1) := by decide +kernel
theorem dL_started_6 : decode cL_started 6 = .ok (.astore_n 2, 1) := by decide +kernel
theorem dL_started_7 : decode cL_started 7 = .ok (.ldc 126, 2) := by decide +kernel
theorem dL_started_9 : decode cL_started 9 = .ok (.ireturn, 1) := by decide +kernel
def mi_L_started : MI := (RL, yL_started, cL_started, 3, some .int, [(0, 5, 6, 124)], { frames := 10, cells := 2, slots := 12, locals := 198 })
theorem ok_L_started : mOKW mi_L_started 2 := ⟨rfl, cw_L_started, ini_L, ⟨rfl, by decide⟩, by decide, by decide, rfl⟩
theorem ha_L_started : hAll mi_L_started 2 mi_L_started.hh [("java/lang/IllegalStateException", (-2147483648))] [] := ⟨⟨⟨by decide, by decide⟩, by decide, cl_L_124, ca_IllegalStateException, ⟨126, 1, kc_L_126, dL_started_7, dL_started_9, Or.inr ⟨rfl, 2, by decide, dL_started_6⟩⟩⟩, (fun p hp => nomatch hp), trivial⟩
theorem v_L_started (a0 : Nat) (a1 : Int32) (M : Mem) : V mi_L_started 0 [(0, .ref a0), (1, .int a1)] [] M 0 0 (f_L_started a0 a1 M) wI := by
  unfold f_L_started
  refine V_aload_n dL_started_0 rfl 0 rfl ?_
  refine V_iload_n dL_started_1 rfl 1 rfl ?_
  refine V_cVH (wv := fun r => some (.int r)) (hs := [("java/lang/IllegalStateException", (-2147483648))]) (As := [.int a1]) (k_X11_startIdle a0 a1 M) (fun _ h => o_X11_startIdle h) ok_X11_startIdle im_X11_startIdle se_X11_startIdle rfl (ci := 10) rfl ml_L_130 ⟨⟨(Nat.le_of_ble_eq_true rfl), (Nat.le_of_ble_eq_true rfl)⟩, (Nat.le_of_ble_eq_true rfl), (Nat.le_of_ble_eq_true rfl)⟩ dL_started_2 rfl rfl rfl (Nat.le_of_ble_eq_true rfl) ha_L_started rfl (fun _ _ => rfl) (fun _ _ => rfl) rfl rfl (fun x1 M2 => ?_)
  exact V_iret dL_started_5 rfl rfl ⟨(Nat.le_of_ble_eq_true rfl), (Nat.le_of_ble_eq_true rfl)⟩
theorem k_L_started (a0 : Nat) (a1 : Int32) (M : Mem) : K mi_L_started [.ref a0, .int a1] M (f_L_started a0 a1 M) wI := K_of_VW ok_L_started (Nat.le_of_ble_eq_true rfl) (v_L_started a0 a1 M)
theorem dL_stopped_0 : decode cL_stopped 0 = .ok (.aload_n 0, 1) := by decide +kernel
theorem dL_stopped_1 : decode cL_stopped 1 = .ok (.iload_n 1, 1) := by decide +kernel
theorem dL_stopped_2 : decode cL_stopped 2 = .ok (.invokevirtual 133, 3) := by decide +kernel
theorem dL_stopped_5 : decode cL_stopped 5 = .ok (.ireturn, 1) := by decide +kernel
theorem dL_stopped_6 : decode cL_stopped 6 = .ok (.astore_n 2, 1) := by decide +kernel
theorem dL_stopped_7 : decode cL_stopped 7 = .ok (.ldc 126, 2) := by decide +kernel
theorem dL_stopped_9 : decode cL_stopped 9 = .ok (.ireturn, 1) := by decide +kernel
def mi_L_stopped : MI := (RL, yL_stopped, cL_stopped, 3, some .int, [(0, 5, 6, 124)], { frames := 10, cells := 2, slots := 12, locals := 198 })
theorem ok_L_stopped : mOKW mi_L_stopped 2 := ⟨rfl, cw_L_stopped, ini_L, ⟨rfl, by decide⟩, by decide, by decide, rfl⟩
theorem ha_L_stopped : hAll mi_L_stopped 2 mi_L_stopped.hh [("java/lang/IllegalStateException", (-2147483648))] [] := ⟨⟨⟨by decide, by decide⟩, by decide, cl_L_124, ca_IllegalStateException, ⟨126, 1, kc_L_126, dL_stopped_7, dL_stopped_9, Or.inr ⟨rfl, 2, by decide, dL_stopped_6⟩⟩⟩, (fun p hp => nomatch hp), trivial⟩
theorem v_L_stopped (a0 : Nat) (a1 : Int32) (M : Mem) : V mi_L_stopped 0 [(0, .ref a0), (1, .int a1)] [] M 0 0 (f_L_stopped a0 a1 M) wI := by
  unfold f_L_stopped
  refine V_aload_n dL_stopped_0 rfl 0 rfl ?_
  refine V_iload_n dL_stopped_1 rfl 1 rfl ?_
  refine V_cVH (wv := fun r => some (.int r)) (hs := [("java/lang/IllegalStateException", (-2147483648))]) (As := [.int a1]) (k_X11_stopIdle a0 a1 M) (fun _ h => o_X11_stopIdle h) ok_X11_stopIdle im_X11_stopIdle se_X11_stopIdle rfl (ci := 10) rfl ml_L_133 ⟨⟨(Nat.le_of_ble_eq_true rfl), (Nat.le_of_ble_eq_true rfl)⟩, (Nat.le_of_ble_eq_true rfl), (Nat.le_of_ble_eq_true rfl)⟩ dL_stopped_2 rfl rfl rfl (Nat.le_of_ble_eq_true rfl) ha_L_stopped rfl (fun _ _ => rfl) (fun _ _ => rfl) rfl rfl (fun x1 M2 => ?_)
  exact V_iret dL_stopped_5 rfl rfl ⟨(Nat.le_of_ble_eq_true rfl), (Nat.le_of_ble_eq_true rfl)⟩
theorem k_L_stopped (a0 : Nat) (a1 : Int32) (M : Mem) : K mi_L_stopped [.ref a0, .int a1] M (f_L_stopped a0 a1 M) wI := K_of_VW ok_L_stopped (Nat.le_of_ble_eq_true rfl) (v_L_stopped a0 a1 M)
theorem dL_fetched_0 : decode cL_fetched 0 = .ok (.aload_n 0, 1) := by decide +kernel
theorem dL_fetched_1 : decode cL_fetched 1 = .ok (.iload_n 1, 1) := by decide +kernel
theorem dL_fetched_2 : decode cL_fetched 2 = .ok (.iload_n 2, 1) := by decide +kernel
theorem dL_fetched_3 : decode cL_fetched 3 = .ok (.iload_n 3, 1) := by decide +kernel
theorem dL_fetched_4 : decode cL_fetched 4 = .ok (.iload 4, 2) := by decide +kernel
theorem dL_fetched_6 : decode cL_fetched 6 = .ok (.invokevirtual 136, 3) := by decide +kernel
theorem dL_fetched_9 : decode cL_fetched 9 = .ok (.ireturn, 1) := by decide +kernel
theorem dL_fetched_10 : decode cL_fetched 10 = .ok (.astore 5, 2) := by decide +kernel
theorem dL_fetched_12 : decode cL_fetched 12 = .ok (.ldc 126, 2) := by decide +kernel
theorem dL_fetched_14 : decode cL_fetched 14 = .ok (.ireturn, 1) := by decide +kernel
def mi_L_fetched : MI := (RL, yL_fetched, cL_fetched, 6, some .int, [(0, 9, 10, 124)], { frames := 10, cells := 5, slots := 30, locals := 205 })
theorem ok_L_fetched : mOKW mi_L_fetched 5 := ⟨rfl, cw_L_fetched, ini_L, ⟨rfl, by decide⟩, by decide, by decide, rfl⟩
theorem ha_L_fetched : hAll mi_L_fetched 6 mi_L_fetched.hh [("java/lang/IllegalStateException", (-2147483648))] [] := ⟨⟨⟨by decide, by decide⟩, by decide, cl_L_124, ca_IllegalStateException, ⟨126, 2, kc_L_126, dL_fetched_12, dL_fetched_14, Or.inl ⟨rfl, 5, by decide, dL_fetched_10⟩⟩⟩, (fun p hp => nomatch hp), trivial⟩
theorem v_L_fetched (a0 : Nat) (a1 : Int32) (a2 : Int32) (a3 : Int32) (a4 : Bool) (M : Mem) : V mi_L_fetched 0 [(0, .ref a0), (1, .int a1), (2, .int a2), (3, .int a3), (4, .int (b2i a4))] [] M 0 0 (f_L_fetched a0 a1 a2 a3 a4 M) wI := by
  unfold f_L_fetched
  refine V_aload_n dL_fetched_0 rfl 0 rfl ?_
  refine V_iload_n dL_fetched_1 rfl 1 rfl ?_
  refine V_iload_n dL_fetched_2 rfl 2 rfl ?_
  refine V_iload_n dL_fetched_3 rfl 3 rfl ?_
  refine V_iload dL_fetched_4 rfl 4 rfl ?_
  refine V_cVH (wv := fun r => some (.int r)) (hs := [("java/lang/IllegalStateException", (-2147483648))]) (As := [.int a1, .int a2, .int a3, .int (b2i a4)]) (k_X11_fetch a0 a1 a2 a3 a4 M) (fun _ h => o_X11_fetch h) ok_X11_fetch im_X11_fetch se_X11_fetch rfl (ci := 10) rfl ml_L_136 ⟨⟨(Nat.le_of_ble_eq_true rfl), (Nat.le_of_ble_eq_true rfl)⟩, (Nat.le_of_ble_eq_true rfl), (Nat.le_of_ble_eq_true rfl)⟩ dL_fetched_6 rfl rfl rfl (Nat.le_of_ble_eq_true rfl) ha_L_fetched rfl (fun _ _ => rfl) (fun _ _ => rfl) rfl rfl (fun x1 M2 => ?_)
  exact V_iret dL_fetched_9 rfl rfl ⟨(Nat.le_of_ble_eq_true rfl), (Nat.le_of_ble_eq_true rfl)⟩
theorem k_L_fetched (a0 : Nat) (a1 : Int32) (a2 : Int32) (a3 : Int32) (a4 : Bool) (M : Mem) : K mi_L_fetched [.ref a0, .int a1, .int a2, .int a3, .int (b2i a4)] M (f_L_fetched a0 a1 a2 a3 a4 M) wI := K_of_VW ok_L_fetched (Nat.le_of_ble_eq_true rfl) (v_L_fetched a0 a1 a2 a3 a4 M)
theorem dL_stored_0 : decode cL_stored 0 = .ok (.aload_n 0, 1) := by decide +kernel
theorem dL_stored_1 : decode cL_stored 1 = .ok (.iload_n 1, 1) := by decide +kernel
theorem dL_stored_2 : decode cL_stored 2 = .ok (.iload_n 2, 1) := by decide +kernel
theorem dL_stored_3 : decode cL_stored 3 = .ok (.iload_n 3, 1) := by decide +kernel
theorem dL_stored_4 : decode cL_stored 4 = .ok (.iload 4, 2) := by decide +kernel
theorem dL_stored_6 : decode cL_stored 6 = .ok (.iload 5, 2) := by decide +kernel
theorem dL_stored_8 : decode cL_stored 8 = .ok (.iload 6, 2) := by decide +kernel
theorem dL_stored_10 : decode cL_stored 10 = .ok (.invokevirtual 140, 3) := by decide +kernel
theorem dL_stored_13 : decode cL_stored 13 = .ok (.ireturn, 1) := by decide +kernel
theorem dL_stored_14 : decode cL_stored 14 = .ok (.astore 7, 2) := by decide +kernel
theorem dL_stored_16 : decode cL_stored 16 = .ok (.ldc 126, 2) := by decide +kernel
theorem dL_stored_18 : decode cL_stored 18 = .ok (.ireturn, 1) := by decide +kernel
def mi_L_stored : MI := (RL, yL_stored, cL_stored, 8, some .int, [(0, 13, 14, 124)], { frames := 11, cells := 7, slots := 42, locals := 207 })
theorem ok_L_stored : mOKW mi_L_stored 7 := ⟨rfl, cw_L_stored, ini_L, ⟨rfl, by decide⟩, by decide, by decide, rfl⟩
theorem ha_L_stored : hAll mi_L_stored 10 mi_L_stored.hh [("java/lang/IllegalStateException", (-2147483648))] [] := ⟨⟨⟨by decide, by decide⟩, by decide, cl_L_124, ca_IllegalStateException, ⟨126, 2, kc_L_126, dL_stored_16, dL_stored_18, Or.inl ⟨rfl, 7, by decide, dL_stored_14⟩⟩⟩, (fun p hp => nomatch hp), trivial⟩
theorem v_L_stored (a0 : Nat) (a1 : Int32) (a2 : Int32) (a3 : Int32) (a4 : Int32) (a5 : Int32) (a6 : Bool) (M : Mem) : V mi_L_stored 0 [(0, .ref a0), (1, .int a1), (2, .int a2), (3, .int a3), (4, .int a4), (5, .int a5), (6, .int (b2i a6))] [] M 0 0 (f_L_stored a0 a1 a2 a3 a4 a5 a6 M) wI := by
  unfold f_L_stored
  refine V_aload_n dL_stored_0 rfl 0 rfl ?_
  refine V_iload_n dL_stored_1 rfl 1 rfl ?_
  refine V_iload_n dL_stored_2 rfl 2 rfl ?_
  refine V_iload_n dL_stored_3 rfl 3 rfl ?_
  refine V_iload dL_stored_4 rfl 4 rfl ?_
  refine V_iload dL_stored_6 rfl 5 rfl ?_
  refine V_iload dL_stored_8 rfl 6 rfl ?_
  refine V_cVH (wv := fun r => some (.int r)) (hs := [("java/lang/IllegalStateException", (-2147483648))]) (As := [.int a1, .int a2, .int a3, .int a4, .int a5, .int (b2i a6)]) (k_X11_store a0 a1 a2 a3 a4 a5 a6 M) (fun _ h => o_X11_store h) ok_X11_store im_X11_store se_X11_store rfl (ci := 10) rfl ml_L_140 ⟨⟨(Nat.le_of_ble_eq_true rfl), (Nat.le_of_ble_eq_true rfl)⟩, (Nat.le_of_ble_eq_true rfl), (Nat.le_of_ble_eq_true rfl)⟩ dL_stored_10 rfl rfl rfl (Nat.le_of_ble_eq_true rfl) ha_L_stored rfl (fun _ _ => rfl) (fun _ _ => rfl) rfl rfl (fun x1 M2 => ?_)
  exact V_iret dL_stored_13 rfl rfl ⟨(Nat.le_of_ble_eq_true rfl), (Nat.le_of_ble_eq_true rfl)⟩
theorem k_L_stored (a0 : Nat) (a1 : Int32) (a2 : Int32) (a3 : Int32) (a4 : Int32) (a5 : Int32) (a6 : Bool) (M : Mem) : K mi_L_stored [.ref a0, .int a1, .int a2, .int a3, .int a4, .int a5, .int (b2i a6)] M (f_L_stored a0 a1 a2 a3 a4 a5 a6 M) wI := K_of_VW ok_L_stored (Nat.le_of_ble_eq_true rfl) (v_L_stored a0 a1 a2 a3 a4 a5 a6 M)
theorem dL_uidStored_0 : decode cL_uidStored 0 = .ok (.aload_n 0, 1) := by decide +kernel
theorem dL_uidStored_1 : decode cL_uidStored 1 = .ok (.iload_n 1, 1) := by decide +kernel
theorem dL_uidStored_2 : decode cL_uidStored 2 = .ok (.iload_n 2, 1) := by decide +kernel
theorem dL_uidStored_3 : decode cL_uidStored 3 = .ok (.iload_n 3, 1) := by decide +kernel
theorem dL_uidStored_4 : decode cL_uidStored 4 = .ok (.iload 4, 2) := by decide +kernel
theorem dL_uidStored_6 : decode cL_uidStored 6 = .ok (.iload 5, 2) := by decide +kernel
theorem dL_uidStored_8 : decode cL_uidStored 8 = .ok (.invokevirtual 144, 3) := by decide +kernel
theorem dL_uidStored_11 : decode cL_uidStored 11 = .ok (.ireturn, 1) := by decide +kernel
theorem dL_uidStored_12 : decode cL_uidStored 12 = .ok (.astore 6, 2) := by decide +kernel
theorem dL_uidStored_14 : decode cL_uidStored 14 = .ok (.ldc 126, 2) := by decide +kernel
theorem dL_uidStored_16 : decode cL_uidStored 16 = .ok (.ireturn, 1) := by decide +kernel
def mi_L_uidStored : MI := (RL, yL_uidStored, cL_uidStored, 7, some .int, [(0, 11, 12, 124)], { frames := 11, cells := 4, slots := 24, locals := 206 })
theorem ok_L_uidStored : mOKW mi_L_uidStored 6 := ⟨rfl, cw_L_uidStored, ini_L, ⟨rfl, by decide⟩, by decide, by decide, rfl⟩
theorem ha_L_uidStored : hAll mi_L_uidStored 8 mi_L_uidStored.hh [("java/lang/IllegalStateException", (-2147483648))] [] := ⟨⟨⟨by decide, by decide⟩, by decide, cl_L_124, ca_IllegalStateException, ⟨126, 2, kc_L_126, dL_uidStored_14, dL_uidStored_16, Or.inl ⟨rfl, 6, by decide, dL_uidStored_12⟩⟩⟩, (fun p hp => nomatch hp), trivial⟩
theorem v_L_uidStored (a0 : Nat) (a1 : Int32) (a2 : Int32) (a3 : Int32) (a4 : Int32) (a5 : Int32) (M : Mem) : V mi_L_uidStored 0 [(0, .ref a0), (1, .int a1), (2, .int a2), (3, .int a3), (4, .int a4), (5, .int a5)] [] M 0 0 (f_L_uidStored a0 a1 a2 a3 a4 a5 M) wI := by
  unfold f_L_uidStored
  refine V_aload_n dL_uidStored_0 rfl 0 rfl ?_
  refine V_iload_n dL_uidStored_1 rfl 1 rfl ?_
  refine V_iload_n dL_uidStored_2 rfl 2 rfl ?_
  refine V_iload_n dL_uidStored_3 rfl 3 rfl ?_
  refine V_iload dL_uidStored_4 rfl 4 rfl ?_
  refine V_iload dL_uidStored_6 rfl 5 rfl ?_
  refine V_cVH (wv := fun r => some (.int r)) (hs := [("java/lang/IllegalStateException", (-2147483648))]) (As := [.int a1, .int a2, .int a3, .int a4, .int a5]) (k_X11_uidStore a0 a1 a2 a3 a4 a5 M) (fun _ h => o_X11_uidStore h) ok_X11_uidStore im_X11_uidStore se_X11_uidStore rfl (ci := 10) rfl ml_L_144 ⟨⟨(Nat.le_of_ble_eq_true rfl), (Nat.le_of_ble_eq_true rfl)⟩, (Nat.le_of_ble_eq_true rfl), (Nat.le_of_ble_eq_true rfl)⟩ dL_uidStored_8 rfl rfl rfl (Nat.le_of_ble_eq_true rfl) ha_L_uidStored rfl (fun _ _ => rfl) (fun _ _ => rfl) rfl rfl (fun x1 M2 => ?_)
  exact V_iret dL_uidStored_11 rfl rfl ⟨(Nat.le_of_ble_eq_true rfl), (Nat.le_of_ble_eq_true rfl)⟩
theorem k_L_uidStored (a0 : Nat) (a1 : Int32) (a2 : Int32) (a3 : Int32) (a4 : Int32) (a5 : Int32) (M : Mem) : K mi_L_uidStored [.ref a0, .int a1, .int a2, .int a3, .int a4, .int a5] M (f_L_uidStored a0 a1 a2 a3 a4 a5 M) wI := K_of_VW ok_L_uidStored (Nat.le_of_ble_eq_true rfl) (v_L_uidStored a0 a1 a2 a3 a4 a5 M)
theorem dL_expunged_0 : decode cL_expunged 0 = .ok (.aload_n 0, 1) := by decide +kernel
theorem dL_expunged_1 : decode cL_expunged 1 = .ok (.iload_n 1, 1) := by decide +kernel
theorem dL_expunged_2 : decode cL_expunged 2 = .ok (.invokevirtual 147, 3) := by decide +kernel
theorem dL_expunged_5 : decode cL_expunged 5 = .ok (.ireturn, 1) := by decide +kernel
theorem dL_expunged_6 : decode cL_expunged 6 = .ok (.astore_n 2, 1) := by decide +kernel
theorem dL_expunged_7 : decode cL_expunged 7 = .ok (.ldc 126, 2) := by decide +kernel
theorem dL_expunged_9 : decode cL_expunged 9 = .ok (.ireturn, 1) := by decide +kernel
def mi_L_expunged : MI := (RL, yL_expunged, cL_expunged, 3, some .int, [(0, 5, 6, 124)], { frames := 11, cells := 3, slots := 18, locals := 200 })
theorem ok_L_expunged : mOKW mi_L_expunged 2 := ⟨rfl, cw_L_expunged, ini_L, ⟨rfl, by decide⟩, by decide, by decide, rfl⟩
theorem ha_L_expunged : hAll mi_L_expunged 2 mi_L_expunged.hh [("java/lang/IllegalStateException", (-2147483648))] [] := ⟨⟨⟨by decide, by decide⟩, by decide, cl_L_124, ca_IllegalStateException, ⟨126, 1, kc_L_126, dL_expunged_7, dL_expunged_9, Or.inr ⟨rfl, 2, by decide, dL_expunged_6⟩⟩⟩, (fun p hp => nomatch hp), trivial⟩
theorem v_L_expunged (a0 : Nat) (a1 : Int32) (M : Mem) : V mi_L_expunged 0 [(0, .ref a0), (1, .int a1)] [] M 0 0 (f_L_expunged a0 a1 M) wI := by
  unfold f_L_expunged
  refine V_aload_n dL_expunged_0 rfl 0 rfl ?_
  refine V_iload_n dL_expunged_1 rfl 1 rfl ?_
  refine V_cVH (wv := fun r => some (.int r)) (hs := [("java/lang/IllegalStateException", (-2147483648))]) (As := [.int a1]) (k_X11_expunge a0 a1 M) (fun _ h => o_X11_expunge h) ok_X11_expunge im_X11_expunge se_X11_expunge rfl (ci := 10) rfl ml_L_147 ⟨⟨(Nat.le_of_ble_eq_true rfl), (Nat.le_of_ble_eq_true rfl)⟩, (Nat.le_of_ble_eq_true rfl), (Nat.le_of_ble_eq_true rfl)⟩ dL_expunged_2 rfl rfl rfl (Nat.le_of_ble_eq_true rfl) ha_L_expunged rfl (fun _ _ => rfl) (fun _ _ => rfl) rfl rfl (fun x1 M2 => ?_)
  exact V_iret dL_expunged_5 rfl rfl ⟨(Nat.le_of_ble_eq_true rfl), (Nat.le_of_ble_eq_true rfl)⟩
theorem k_L_expunged (a0 : Nat) (a1 : Int32) (M : Mem) : K mi_L_expunged [.ref a0, .int a1] M (f_L_expunged a0 a1 M) wI := K_of_VW ok_L_expunged (Nat.le_of_ble_eq_true rfl) (v_L_expunged a0 a1 M)
theorem dL_copied_0 : decode cL_copied 0 = .ok (.aload_n 0, 1) := by decide +kernel
theorem dL_copied_1 : decode cL_copied 1 = .ok (.iload_n 1, 1) := by decide +kernel
theorem dL_copied_2 : decode cL_copied 2 = .ok (.iload_n 2, 1) := by decide +kernel
theorem dL_copied_3 : decode cL_copied 3 = .ok (.iload_n 3, 1) := by decide +kernel
theorem dL_copied_4 : decode cL_copied 4 = .ok (.iload 4, 2) := by decide +kernel
theorem dL_copied_6 : decode cL_copied 6 = .ok (.invokevirtual 150, 3) := by decide +kernel
theorem dL_copied_9 : decode cL_copied 9 = .ok (.ireturn, 1) := by decide +kernel
theorem dL_copied_10 : decode cL_copied 10 = .ok (.astore 5, 2) := by decide +kernel
theorem dL_copied_12 : decode cL_copied 12 = .ok (.ldc 126, 2) := by decide +kernel
theorem dL_copied_14 : decode cL_copied 14 = .ok (.ireturn, 1) := by decide +kernel
def mi_L_copied : MI := (RL, yL_copied, cL_copied, 6, some .int, [(0, 9, 10, 124)], { frames := 10, cells := 7, slots := 42, locals := 204 })
theorem ok_L_copied : mOKW mi_L_copied 5 := ⟨rfl, cw_L_copied, ini_L, ⟨rfl, by decide⟩, by decide, by decide, rfl⟩
theorem ha_L_copied : hAll mi_L_copied 6 mi_L_copied.hh [("java/lang/IllegalStateException", (-2147483648))] [] := ⟨⟨⟨by decide, by decide⟩, by decide, cl_L_124, ca_IllegalStateException, ⟨126, 2, kc_L_126, dL_copied_12, dL_copied_14, Or.inl ⟨rfl, 5, by decide, dL_copied_10⟩⟩⟩, (fun p hp => nomatch hp), trivial⟩
theorem v_L_copied (a0 : Nat) (a1 : Int32) (a2 : Int32) (a3 : Int32) (a4 : Int32) (M : Mem) : V mi_L_copied 0 [(0, .ref a0), (1, .int a1), (2, .int a2), (3, .int a3), (4, .int a4)] [] M 0 0 (f_L_copied a0 a1 a2 a3 a4 M) wI := by
  unfold f_L_copied
  refine V_aload_n dL_copied_0 rfl 0 rfl ?_
  refine V_iload_n dL_copied_1 rfl 1 rfl ?_
  refine V_iload_n dL_copied_2 rfl 2 rfl ?_
  refine V_iload_n dL_copied_3 rfl 3 rfl ?_
  refine V_iload dL_copied_4 rfl 4 rfl ?_
  refine V_cVH (wv := fun r => some (.int r)) (hs := [("java/lang/IllegalStateException", (-2147483648))]) (As := [.int a1, .int a2, .int a3, .int a4]) (k_X11_copy a0 a1 a2 a3 a4 M) (fun _ h => o_X11_copy h) ok_X11_copy im_X11_copy se_X11_copy rfl (ci := 10) rfl ml_L_150 ⟨⟨(Nat.le_of_ble_eq_true rfl), (Nat.le_of_ble_eq_true rfl)⟩, (Nat.le_of_ble_eq_true rfl), (Nat.le_of_ble_eq_true rfl)⟩ dL_copied_6 rfl rfl rfl (Nat.le_of_ble_eq_true rfl) ha_L_copied rfl (fun _ _ => rfl) (fun _ _ => rfl) rfl rfl (fun x1 M2 => ?_)
  exact V_iret dL_copied_9 rfl rfl ⟨(Nat.le_of_ble_eq_true rfl), (Nat.le_of_ble_eq_true rfl)⟩
theorem k_L_copied (a0 : Nat) (a1 : Int32) (a2 : Int32) (a3 : Int32) (a4 : Int32) (M : Mem) : K mi_L_copied [.ref a0, .int a1, .int a2, .int a3, .int a4] M (f_L_copied a0 a1 a2 a3 a4 M) wI := K_of_VW ok_L_copied (Nat.le_of_ble_eq_true rfl) (v_L_copied a0 a1 a2 a3 a4 M)
theorem dL_moved_0 : decode cL_moved 0 = .ok (.aload_n 0, 1) := by decide +kernel
theorem dL_moved_1 : decode cL_moved 1 = .ok (.iload_n 1, 1) := by decide +kernel
theorem dL_moved_2 : decode cL_moved 2 = .ok (.iload_n 2, 1) := by decide +kernel
theorem dL_moved_3 : decode cL_moved 3 = .ok (.iload_n 3, 1) := by decide +kernel
theorem dL_moved_4 : decode cL_moved 4 = .ok (.iload 4, 2) := by decide +kernel
theorem dL_moved_6 : decode cL_moved 6 = .ok (.invokevirtual 154, 3) := by decide +kernel
theorem dL_moved_9 : decode cL_moved 9 = .ok (.ireturn, 1) := by decide +kernel
theorem dL_moved_10 : decode cL_moved 10 = .ok (.astore 5, 2) := by decide +kernel
theorem dL_moved_12 : decode cL_moved 12 = .ok (.ldc 126, 2) := by decide +kernel
theorem dL_moved_14 : decode cL_moved 14 = .ok (.ireturn, 1) := by decide +kernel
def mi_L_moved : MI := (RL, yL_moved, cL_moved, 6, some .int, [(0, 9, 10, 124)], { frames := 11, cells := 8, slots := 48, locals := 204 })
theorem ok_L_moved : mOKW mi_L_moved 5 := ⟨rfl, cw_L_moved, ini_L, ⟨rfl, by decide⟩, by decide, by decide, rfl⟩
theorem ha_L_moved : hAll mi_L_moved 6 mi_L_moved.hh [("java/lang/IllegalStateException", (-2147483648))] [] := ⟨⟨⟨by decide, by decide⟩, by decide, cl_L_124, ca_IllegalStateException, ⟨126, 2, kc_L_126, dL_moved_12, dL_moved_14, Or.inl ⟨rfl, 5, by decide, dL_moved_10⟩⟩⟩, (fun p hp => nomatch hp), trivial⟩
theorem v_L_moved (a0 : Nat) (a1 : Int32) (a2 : Int32) (a3 : Int32) (a4 : Int32) (M : Mem) : V mi_L_moved 0 [(0, .ref a0), (1, .int a1), (2, .int a2), (3, .int a3), (4, .int a4)] [] M 0 0 (f_L_moved a0 a1 a2 a3 a4 M) wI := by
  unfold f_L_moved
  refine V_aload_n dL_moved_0 rfl 0 rfl ?_
  refine V_iload_n dL_moved_1 rfl 1 rfl ?_
  refine V_iload_n dL_moved_2 rfl 2 rfl ?_
  refine V_iload_n dL_moved_3 rfl 3 rfl ?_
  refine V_iload dL_moved_4 rfl 4 rfl ?_
  refine V_cVH (wv := fun r => some (.int r)) (hs := [("java/lang/IllegalStateException", (-2147483648))]) (As := [.int a1, .int a2, .int a3, .int a4]) (k_X11_move a0 a1 a2 a3 a4 M) (fun _ h => o_X11_move h) ok_X11_move im_X11_move se_X11_move rfl (ci := 10) rfl ml_L_154 ⟨⟨(Nat.le_of_ble_eq_true rfl), (Nat.le_of_ble_eq_true rfl)⟩, (Nat.le_of_ble_eq_true rfl), (Nat.le_of_ble_eq_true rfl)⟩ dL_moved_6 rfl rfl rfl (Nat.le_of_ble_eq_true rfl) ha_L_moved rfl (fun _ _ => rfl) (fun _ _ => rfl) rfl rfl (fun x1 M2 => ?_)
  exact V_iret dL_moved_9 rfl rfl ⟨(Nat.le_of_ble_eq_true rfl), (Nat.le_of_ble_eq_true rfl)⟩
theorem k_L_moved (a0 : Nat) (a1 : Int32) (a2 : Int32) (a3 : Int32) (a4 : Int32) (M : Mem) : K mi_L_moved [.ref a0, .int a1, .int a2, .int a3, .int a4] M (f_L_moved a0 a1 a2 a3 a4 M) wI := K_of_VW ok_L_moved (Nat.le_of_ble_eq_true rfl) (v_L_moved a0 a1 a2 a3 a4 M)
theorem dL_closed_0 : decode cL_closed 0 = .ok (.aload_n 0, 1) := by decide +kernel
theorem dL_closed_1 : decode cL_closed 1 = .ok (.iload_n 1, 1) := by decide +kernel
theorem dL_closed_2 : decode cL_closed 2 = .ok (.invokevirtual 157, 3) := by decide +kernel
theorem dL_closed_5 : decode cL_closed 5 = .ok (.ireturn, 1) := by decide +kernel
theorem dL_closed_6 : decode cL_closed 6 = .ok (.astore_n 2, 1) := by decide +kernel
theorem dL_closed_7 : decode cL_closed 7 = .ok (.ldc 126, 2) := by decide +kernel
theorem dL_closed_9 : decode cL_closed 9 = .ok (.ireturn, 1) := by decide +kernel
def mi_L_closed : MI := (RL, yL_closed, cL_closed, 3, some .int, [(0, 5, 6, 124)], { frames := 10, cells := 2, slots := 12, locals := 177 })
theorem ok_L_closed : mOKW mi_L_closed 2 := ⟨rfl, cw_L_closed, ini_L, ⟨rfl, by decide⟩, by decide, by decide, rfl⟩
theorem ha_L_closed : hAll mi_L_closed 2 mi_L_closed.hh [("java/lang/IllegalStateException", (-2147483648))] [] := ⟨⟨⟨by decide, by decide⟩, by decide, cl_L_124, ca_IllegalStateException, ⟨126, 1, kc_L_126, dL_closed_7, dL_closed_9, Or.inr ⟨rfl, 2, by decide, dL_closed_6⟩⟩⟩, (fun p hp => nomatch hp), trivial⟩
theorem v_L_closed (a0 : Nat) (a1 : Int32) (M : Mem) : V mi_L_closed 0 [(0, .ref a0), (1, .int a1)] [] M 0 0 (f_L_closed a0 a1 M) wI := by
  unfold f_L_closed
  refine V_aload_n dL_closed_0 rfl 0 rfl ?_
  refine V_iload_n dL_closed_1 rfl 1 rfl ?_
  refine V_cVH (wv := fun r => some (.int r)) (hs := [("java/lang/IllegalStateException", (-2147483648))]) (As := [.int a1]) (k_X11_close a0 a1 M) (fun _ h => o_X11_close h) ok_X11_close im_X11_close se_X11_close rfl (ci := 10) rfl ml_L_157 ⟨⟨(Nat.le_of_ble_eq_true rfl), (Nat.le_of_ble_eq_true rfl)⟩, (Nat.le_of_ble_eq_true rfl), (Nat.le_of_ble_eq_true rfl)⟩ dL_closed_2 rfl rfl rfl (Nat.le_of_ble_eq_true rfl) ha_L_closed rfl (fun _ _ => rfl) (fun _ _ => rfl) rfl rfl (fun x1 M2 => ?_)
  exact V_iret dL_closed_5 rfl rfl ⟨(Nat.le_of_ble_eq_true rfl), (Nat.le_of_ble_eq_true rfl)⟩
theorem k_L_closed (a0 : Nat) (a1 : Int32) (M : Mem) : K mi_L_closed [.ref a0, .int a1] M (f_L_closed a0 a1 M) wI := K_of_VW ok_L_closed (Nat.le_of_ble_eq_true rfl) (v_L_closed a0 a1 M)
theorem dL_delivered_0 : decode cL_delivered 0 = .ok (.aload_n 0, 1) := by decide +kernel
theorem dL_delivered_1 : decode cL_delivered 1 = .ok (.iload_n 1, 1) := by decide +kernel
theorem dL_delivered_2 : decode cL_delivered 2 = .ok (.iload_n 2, 1) := by decide +kernel
theorem dL_delivered_3 : decode cL_delivered 3 = .ok (.iload_n 3, 1) := by decide +kernel
theorem dL_delivered_4 : decode cL_delivered 4 = .ok (.invokevirtual 160, 3) := by decide +kernel
theorem dL_delivered_7 : decode cL_delivered 7 = .ok (.ireturn, 1) := by decide +kernel
theorem dL_delivered_8 : decode cL_delivered 8 = .ok (.astore 4, 2) := by decide +kernel
theorem dL_delivered_10 : decode cL_delivered 10 = .ok (.ldc 126, 2) := by decide +kernel
theorem dL_delivered_12 : decode cL_delivered 12 = .ok (.ireturn, 1) := by decide +kernel
def mi_L_delivered : MI := (RL, yL_delivered, cL_delivered, 5, some .int, [(0, 7, 8, 124)], { frames := 10, cells := 2, slots := 12, locals := 178 })
theorem ok_L_delivered : mOKW mi_L_delivered 4 := ⟨rfl, cw_L_delivered, ini_L, ⟨rfl, by decide⟩, by decide, by decide, rfl⟩
theorem ha_L_delivered : hAll mi_L_delivered 4 mi_L_delivered.hh [("java/lang/IllegalStateException", (-2147483648))] [] := ⟨⟨⟨by decide, by decide⟩, by decide, cl_L_124, ca_IllegalStateException, ⟨126, 2, kc_L_126, dL_delivered_10, dL_delivered_12, Or.inl ⟨rfl, 4, by decide, dL_delivered_8⟩⟩⟩, (fun p hp => nomatch hp), trivial⟩
theorem v_L_delivered (a0 : Nat) (a1 : Int32) (a2 : Int32) (a3 : Int32) (M : Mem) : V mi_L_delivered 0 [(0, .ref a0), (1, .int a1), (2, .int a2), (3, .int a3)] [] M 0 0 (f_L_delivered a0 a1 a2 a3 M) wI := by
  unfold f_L_delivered
  refine V_aload_n dL_delivered_0 rfl 0 rfl ?_
  refine V_iload_n dL_delivered_1 rfl 1 rfl ?_
  refine V_iload_n dL_delivered_2 rfl 2 rfl ?_
  refine V_iload_n dL_delivered_3 rfl 3 rfl ?_
  refine V_cVH (wv := fun r => some (.int r)) (hs := [("java/lang/IllegalStateException", (-2147483648))]) (As := [.int a1, .int a2, .int a3]) (k_X11_deliver a0 a1 a2 a3 M) (fun _ h => o_X11_deliver h) ok_X11_deliver im_X11_deliver se_X11_deliver rfl (ci := 10) rfl ml_L_160 ⟨⟨(Nat.le_of_ble_eq_true rfl), (Nat.le_of_ble_eq_true rfl)⟩, (Nat.le_of_ble_eq_true rfl), (Nat.le_of_ble_eq_true rfl)⟩ dL_delivered_4 rfl rfl rfl (Nat.le_of_ble_eq_true rfl) ha_L_delivered rfl (fun _ _ => rfl) (fun _ _ => rfl) rfl rfl (fun x1 M2 => ?_)
  exact V_iret dL_delivered_7 rfl rfl ⟨(Nat.le_of_ble_eq_true rfl), (Nat.le_of_ble_eq_true rfl)⟩
theorem k_L_delivered (a0 : Nat) (a1 : Int32) (a2 : Int32) (a3 : Int32) (M : Mem) : K mi_L_delivered [.ref a0, .int a1, .int a2, .int a3] M (f_L_delivered a0 a1 a2 a3 M) wI := K_of_VW ok_L_delivered (Nat.le_of_ble_eq_true rfl) (v_L_delivered a0 a1 a2 a3 M)
theorem dL_boxOf_0 : decode cL_boxOf 0 = .ok (.aload_n 0, 1) := by decide +kernel
theorem dL_boxOf_1 : decode cL_boxOf 1 = .ok (.iload_n 1, 1) := by decide +kernel
theorem dL_boxOf_2 : decode cL_boxOf 2 = .ok (.iconst 1, 1) := by decide +kernel
theorem dL_boxOf_3 : decode cL_boxOf 3 = .ok (.invokevirtual 114, 3) := by decide +kernel
theorem dL_boxOf_6 : decode cL_boxOf 6 = .ok (.i2l, 1) := by decide +kernel
theorem dL_boxOf_7 : decode cL_boxOf 7 = .ok (.lstore_n 2, 1) := by decide +kernel
theorem dL_boxOf_8 : decode cL_boxOf 8 = .ok (.iconst 0, 1) := by decide +kernel
theorem dL_boxOf_9 : decode cL_boxOf 9 = .ok (.istore 4, 2) := by decide +kernel
theorem dL_boxOf_11 : decode cL_boxOf 11 = .ok (.iload 4, 2) := by decide +kernel
theorem dL_boxOf_13 : decode cL_boxOf 13 = .ok (.aload_n 0, 1) := by decide +kernel
theorem dL_boxOf_14 : decode cL_boxOf 14 = .ok (.iload_n 1, 1) := by decide +kernel
theorem dL_boxOf_15 : decode cL_boxOf 15 = .ok (.iconst 0, 1) := by decide +kernel
theorem dL_boxOf_16 : decode cL_boxOf 16 = .ok (.invokevirtual 114, 3) := by decide +kernel
theorem dL_boxOf_19 : decode cL_boxOf 19 = .ok (.if_icmp .ge 53, 3) := by decide +kernel
theorem dL_boxOf_22 : decode cL_boxOf 22 = .ok (.ldc2_w 170, 3) := by decide +kernel
theorem dL_boxOf_25 : decode cL_boxOf 25 = .ok (.ldc2_w 170, 3) := by decide +kernel
theorem dL_boxOf_28 : decode cL_boxOf 28 = .ok (.ldc2_w 170, 3) := by decide +kernel
theorem dL_boxOf_31 : decode cL_boxOf 31 = .ok (.lload_n 2, 1) := by decide +kernel
theorem dL_boxOf_32 : decode cL_boxOf 32 = .ok (.lmul, 1) := by decide +kernel
theorem dL_boxOf_33 : decode cL_boxOf 33 = .ok (.aload_n 0, 1) := by decide +kernel
theorem dL_boxOf_34 : decode cL_boxOf 34 = .ok (.iload_n 1, 1) := by decide +kernel
theorem dL_boxOf_35 : decode cL_boxOf 35 = .ok (.iload 4, 2) := by decide +kernel
theorem dL_boxOf_37 : decode cL_boxOf 37 = .ok (.iconst 0, 1) := by decide +kernel
theorem dL_boxOf_38 : decode cL_boxOf 38 = .ok (.invokevirtual 172, 3) := by decide +kernel
theorem dL_boxOf_41 : decode cL_boxOf 41 = .ok (.i2l, 1) := by decide +kernel
theorem dL_boxOf_42 : decode cL_boxOf 42 = .ok (.ladd, 1) := by decide +kernel
theorem dL_boxOf_43 : decode cL_boxOf 43 = .ok (.lmul, 1) := by decide +kernel
theorem dL_boxOf_44 : decode cL_boxOf 44 = .ok (.aload_n 0, 1) := by decide +kernel
theorem dL_boxOf_45 : decode cL_boxOf 45 = .ok (.iload_n 1, 1) := by decide +kernel
theorem dL_boxOf_46 : decode cL_boxOf 46 = .ok (.iload 4, 2) := by decide +kernel
theorem dL_boxOf_48 : decode cL_boxOf 48 = .ok (.iconst 1, 1) := by decide +kernel
theorem dL_boxOf_49 : decode cL_boxOf 49 = .ok (.invokevirtual 172, 3) := by decide +kernel
theorem dL_boxOf_52 : decode cL_boxOf 52 = .ok (.i2l, 1) := by decide +kernel
theorem dL_boxOf_53 : decode cL_boxOf 53 = .ok (.ladd, 1) := by decide +kernel
theorem dL_boxOf_54 : decode cL_boxOf 54 = .ok (.lmul, 1) := by decide +kernel
theorem dL_boxOf_55 : decode cL_boxOf 55 = .ok (.aload_n 0, 1) := by decide +kernel
theorem dL_boxOf_56 : decode cL_boxOf 56 = .ok (.iload_n 1, 1) := by decide +kernel
theorem dL_boxOf_57 : decode cL_boxOf 57 = .ok (.iload 4, 2) := by decide +kernel
theorem dL_boxOf_59 : decode cL_boxOf 59 = .ok (.iconst 2, 1) := by decide +kernel
theorem dL_boxOf_60 : decode cL_boxOf 60 = .ok (.invokevirtual 172, 3) := by decide +kernel
theorem dL_boxOf_63 : decode cL_boxOf 63 = .ok (.i2l, 1) := by decide +kernel
theorem dL_boxOf_64 : decode cL_boxOf 64 = .ok (.ladd, 1) := by decide +kernel
theorem dL_boxOf_65 : decode cL_boxOf 65 = .ok (.lstore_n 2, 1) := by decide +kernel
theorem dL_boxOf_66 : decode cL_boxOf 66 = .ok (.iinc 4 1, 3) := by decide +kernel
theorem dL_boxOf_69 : decode cL_boxOf 69 = .ok (.goto (-58), 3) := by decide +kernel
theorem dL_boxOf_72 : decode cL_boxOf 72 = .ok (.lload_n 2, 1) := by decide +kernel
theorem dL_boxOf_73 : decode cL_boxOf 73 = .ok (.lreturn, 1) := by decide +kernel
def mi_L_boxOf : MI := (RL, yL_boxOf, cL_boxOf, 5, some .long, [], { frames := 10, cells := 250, slots := 1500, locals := 166 })
theorem ok_L_boxOf : mOK mi_L_boxOf 2 := ⟨rfl, cw_L_boxOf, ini_L, ⟨rfl, by decide⟩, by decide, by decide, rfl⟩
theorem v_L_boxOf_11 : ∀ (fu : Nat) (l0 : Nat) (l1 : Int32) (l2 : Int64) (l4 : Int32) (M : Mem) (k n : Nat) (_ : kb 250 1500 8 48 fu k n), V mi_L_boxOf 11 [(0, .ref l0), (1, .int l1), (2, .long l2), (4, .int l4)] [] M k n (f_L_boxOf_11 fu l0 l1 l2 l4 M) tJ := by
  intro fu
  induction fu with
  | zero => intros; exact V_none
  | succ fu ih =>
    intro l0 l1 l2 l4 M k n hb
    show V mi_L_boxOf 11 [(0, .ref l0), (1, .int l1), (2, .long l2), (4, .int l4)] [] M k n (f_L_boxOf_11 (fu + 1) l0 l1 l2 l4 M) tJ
    unfold f_L_boxOf_11
    refine V_iload dL_boxOf_11 rfl 3 rfl ?_
    refine V_aload_n dL_boxOf_13 rfl 0 rfl ?_
    refine V_iload_n dL_boxOf_14 rfl 1 rfl ?_
    refine V_iconst (x := 0) dL_boxOf_15 rfl rfl ?_
    refine V_cVtI (As := [.int l1, .int 0]) (k_X11_box l0 l1 0 M) rfl (fun _ _ => rfl) (fun _ h => o_X11_box h) ok_X11_box im_X11_box se_X11_box rfl (ci := 10) rfl ml_L_114 ⟨⟨(Nat.le_of_ble_eq_true rfl), (Nat.le_of_ble_eq_true rfl)⟩, kb_c0 hb (Nat.le_of_ble_eq_true rfl) (Nat.le_of_ble_eq_true rfl), kb_s0 hb (Nat.le_of_ble_eq_true rfl) (Nat.le_of_ble_eq_true rfl)⟩ dL_boxOf_16 rfl rfl rfl (Nat.le_of_ble_eq_true rfl) rfl rfl (fun x3 M4 => ?_)
    refine V_icmp_ge (q := 72) (q2 := 22) dL_boxOf_19 (by decide) rfl ?_ ?_
    · refine V_lload_n dL_boxOf_72 rfl 2 rfl ?_
      exact V_lret dL_boxOf_73 rfl rfl ⟨kb_ck hb (Nat.le_of_ble_eq_true rfl) (Nat.le_of_ble_eq_true rfl), kb_sk hb (Nat.le_of_ble_eq_true rfl) (Nat.le_of_ble_eq_true rfl)⟩
    · refine V_ldc2 (x := 31) kl_L_170 dL_boxOf_22 rfl ?_
      refine V_ldc2 (x := 31) kl_L_170 dL_boxOf_25 rfl ?_
      refine V_ldc2 (x := 31) kl_L_170 dL_boxOf_28 rfl ?_
      refine V_lload_n dL_boxOf_31 rfl 2 rfl ?_
      refine V_lmul dL_boxOf_32 rfl ?_
      refine V_aload_n dL_boxOf_33 rfl 0 rfl ?_
      refine V_iload_n dL_boxOf_34 rfl 1 rfl ?_
      refine V_iload dL_boxOf_35 rfl 3 rfl ?_
      refine V_iconst (x := 0) dL_boxOf_37 rfl rfl ?_
      refine V_cVtI (As := [.int l1, .int l4, .int 0]) (k_X11_message l0 l1 l4 0 M4) rfl (fun _ _ => rfl) (fun _ h => o_X11_message h) ok_X11_message im_X11_message se_X11_message rfl (ci := 10) rfl ml_L_172 ⟨⟨(Nat.le_of_ble_eq_true rfl), (Nat.le_of_ble_eq_true rfl)⟩, kb_c hb (Nat.le_of_ble_eq_true rfl) (Nat.le_of_ble_eq_true rfl), kb_s hb (Nat.le_of_ble_eq_true rfl) (Nat.le_of_ble_eq_true rfl)⟩ dL_boxOf_38 rfl rfl rfl (Nat.le_of_ble_eq_true rfl) (Nat.add_assoc _ _ _) (Nat.add_assoc _ _ _) (fun x5 M6 => ?_)
      refine V_i2l dL_boxOf_41 rfl ?_
      refine V_ladd dL_boxOf_42 rfl ?_
      refine V_lmul dL_boxOf_43 rfl ?_
      refine V_aload_n dL_boxOf_44 rfl 0 rfl ?_
      refine V_iload_n dL_boxOf_45 rfl 1 rfl ?_
      refine V_iload dL_boxOf_46 rfl 3 rfl ?_
      refine V_iconst (x := 1) dL_boxOf_48 rfl rfl ?_
      refine V_cVtI (As := [.int l1, .int l4, .int 1]) (k_X11_message l0 l1 l4 1 M6) rfl (fun _ _ => rfl) (fun _ h => o_X11_message h) ok_X11_message im_X11_message se_X11_message rfl (ci := 10) rfl ml_L_172 ⟨⟨(Nat.le_of_ble_eq_true rfl), (Nat.le_of_ble_eq_true rfl)⟩, kb_c hb (Nat.le_of_ble_eq_true rfl) (Nat.le_of_ble_eq_true rfl), kb_s hb (Nat.le_of_ble_eq_true rfl) (Nat.le_of_ble_eq_true rfl)⟩ dL_boxOf_49 rfl rfl rfl (Nat.le_of_ble_eq_true rfl) (Nat.add_assoc _ _ _) (Nat.add_assoc _ _ _) (fun x7 M8 => ?_)
      refine V_i2l dL_boxOf_52 rfl ?_
      refine V_ladd dL_boxOf_53 rfl ?_
      refine V_lmul dL_boxOf_54 rfl ?_
      refine V_aload_n dL_boxOf_55 rfl 0 rfl ?_
      refine V_iload_n dL_boxOf_56 rfl 1 rfl ?_
      refine V_iload dL_boxOf_57 rfl 3 rfl ?_
      refine V_iconst (x := 2) dL_boxOf_59 rfl rfl ?_
      refine V_cVtI (As := [.int l1, .int l4, .int 2]) (k_X11_message l0 l1 l4 2 M8) rfl (fun _ _ => rfl) (fun _ h => o_X11_message h) ok_X11_message im_X11_message se_X11_message rfl (ci := 10) rfl ml_L_172 ⟨⟨(Nat.le_of_ble_eq_true rfl), (Nat.le_of_ble_eq_true rfl)⟩, kb_c hb (Nat.le_of_ble_eq_true rfl) (Nat.le_of_ble_eq_true rfl), kb_s hb (Nat.le_of_ble_eq_true rfl) (Nat.le_of_ble_eq_true rfl)⟩ dL_boxOf_60 rfl rfl rfl (Nat.le_of_ble_eq_true rfl) (Nat.add_assoc _ _ _) (Nat.add_assoc _ _ _) (fun x9 M10 => ?_)
      refine V_i2l dL_boxOf_63 rfl ?_
      refine V_ladd dL_boxOf_64 rfl ?_
      refine V_lstore_n (L' := [(0, .ref l0), (1, .int l1), (2, .long ((31 * ((31 * ((31 * l2) + (Int32.toInt64 x5))) + (Int32.toInt64 x7))) + (Int32.toInt64 x9))), (4, .int l4)]) dL_boxOf_65 rfl (by decide) rfl ?_
      refine V_iinc (y := (l4 + 1)) (L' := [(0, .ref l0), (1, .int l1), (2, .long ((31 * ((31 * ((31 * l2) + (Int32.toInt64 x5))) + (Int32.toInt64 x7))) + (Int32.toInt64 x9))), (4, .int (l4 + 1))]) dL_boxOf_66 rfl 3 rfl rfl (by decide) rfl ?_
      refine V_goto (q := 11) dL_boxOf_69 (by decide) ?_
      exact ih l0 l1 ((31 * ((31 * ((31 * l2) + (Int32.toInt64 x5))) + (Int32.toInt64 x7))) + (Int32.toInt64 x9)) (l4 + 1) M10 _ _ (kb_next hb (Nat.le_of_ble_eq_true rfl) (Nat.le_of_ble_eq_true rfl))
theorem v_L_boxOf (a0 : Nat) (a1 : Int32) (M : Mem) : V mi_L_boxOf 0 [(0, .ref a0), (1, .int a1)] [] M 0 0 (f_L_boxOf a0 a1 M) tJ := by
  unfold f_L_boxOf
  refine V_aload_n dL_boxOf_0 rfl 0 rfl ?_
  refine V_iload_n dL_boxOf_1 rfl 1 rfl ?_
  refine V_iconst (x := 1) dL_boxOf_2 rfl rfl ?_
  refine V_cVtI (As := [.int a1, .int 1]) (k_X11_box a0 a1 1 M) rfl (fun _ _ => rfl) (fun _ h => o_X11_box h) ok_X11_box im_X11_box se_X11_box rfl (ci := 10) rfl ml_L_114 ⟨⟨(Nat.le_of_ble_eq_true rfl), (Nat.le_of_ble_eq_true rfl)⟩, (Nat.le_of_ble_eq_true rfl), (Nat.le_of_ble_eq_true rfl)⟩ dL_boxOf_3 rfl rfl rfl (Nat.le_of_ble_eq_true rfl) rfl rfl (fun x1 M2 => ?_)
  refine V_i2l dL_boxOf_6 rfl ?_
  refine V_lstore_n (L' := [(0, .ref a0), (1, .int a1), (2, .long (Int32.toInt64 x1))]) dL_boxOf_7 rfl (by decide) rfl ?_
  refine V_iconst (x := 0) dL_boxOf_8 rfl rfl ?_
  refine V_istore (L' := [(0, .ref a0), (1, .int a1), (2, .long (Int32.toInt64 x1)), (4, .int 0)]) dL_boxOf_9 rfl (by decide) rfl ?_
  exact v_L_boxOf_11 31 a0 a1 (Int32.toInt64 x1) 0 M2 2 12 ⟨(Nat.le_of_ble_eq_true rfl), (Nat.le_of_ble_eq_true rfl)⟩
theorem k_L_boxOf (a0 : Nat) (a1 : Int32) (M : Mem) : K mi_L_boxOf [.ref a0, .int a1] M (f_L_boxOf a0 a1 M) tJ := K_of_V ok_L_boxOf (Nat.le_of_ble_eq_true rfl) (v_L_boxOf a0 a1 M)
theorem dL_viewOf_0 : decode cL_viewOf 0 = .ok (.ldc2_w 170, 3) := by decide +kernel
theorem dL_viewOf_3 : decode cL_viewOf 3 = .ok (.ldc2_w 170, 3) := by decide +kernel
theorem dL_viewOf_6 : decode cL_viewOf 6 = .ok (.aload_n 0, 1) := by decide +kernel
theorem dL_viewOf_7 : decode cL_viewOf 7 = .ok (.iload_n 1, 1) := by decide +kernel
theorem dL_viewOf_8 : decode cL_viewOf 8 = .ok (.iconst 0, 1) := by decide +kernel
theorem dL_viewOf_9 : decode cL_viewOf 9 = .ok (.invokevirtual 117, 3) := by decide +kernel
theorem dL_viewOf_12 : decode cL_viewOf 12 = .ok (.i2l, 1) := by decide +kernel
theorem dL_viewOf_13 : decode cL_viewOf 13 = .ok (.lmul, 1) := by decide +kernel
theorem dL_viewOf_14 : decode cL_viewOf 14 = .ok (.aload_n 0, 1) := by decide +kernel
theorem dL_viewOf_15 : decode cL_viewOf 15 = .ok (.iload_n 1, 1) := by decide +kernel
theorem dL_viewOf_16 : decode cL_viewOf 16 = .ok (.iconst 1, 1) := by decide +kernel
theorem dL_viewOf_17 : decode cL_viewOf 17 = .ok (.invokevirtual 117, 3) := by decide +kernel
theorem dL_viewOf_20 : decode cL_viewOf 20 = .ok (.i2l, 1) := by decide +kernel
theorem dL_viewOf_21 : decode cL_viewOf 21 = .ok (.ladd, 1) := by decide +kernel
theorem dL_viewOf_22 : decode cL_viewOf 22 = .ok (.lmul, 1) := by decide +kernel
theorem dL_viewOf_23 : decode cL_viewOf 23 = .ok (.aload_n 0, 1) := by decide +kernel
theorem dL_viewOf_24 : decode cL_viewOf 24 = .ok (.iload_n 1, 1) := by decide +kernel
theorem dL_viewOf_25 : decode cL_viewOf 25 = .ok (.iconst 2, 1) := by decide +kernel
theorem dL_viewOf_26 : decode cL_viewOf 26 = .ok (.invokevirtual 117, 3) := by decide +kernel
theorem dL_viewOf_29 : decode cL_viewOf 29 = .ok (.i2l, 1) := by decide +kernel
theorem dL_viewOf_30 : decode cL_viewOf 30 = .ok (.ladd, 1) := by decide +kernel
theorem dL_viewOf_31 : decode cL_viewOf 31 = .ok (.lstore_n 2, 1) := by decide +kernel
theorem dL_viewOf_32 : decode cL_viewOf 32 = .ok (.iconst 1, 1) := by decide +kernel
theorem dL_viewOf_33 : decode cL_viewOf 33 = .ok (.istore 4, 2) := by decide +kernel
theorem dL_viewOf_35 : decode cL_viewOf 35 = .ok (.iload 4, 2) := by decide +kernel
theorem dL_viewOf_37 : decode cL_viewOf 37 = .ok (.aload_n 0, 1) := by decide +kernel
theorem dL_viewOf_38 : decode cL_viewOf 38 = .ok (.iload_n 1, 1) := by decide +kernel
theorem dL_viewOf_39 : decode cL_viewOf 39 = .ok (.iconst 3, 1) := by decide +kernel
theorem dL_viewOf_40 : decode cL_viewOf 40 = .ok (.invokevirtual 117, 3) := by decide +kernel
theorem dL_viewOf_43 : decode cL_viewOf 43 = .ok (.if_icmp .gt 39, 3) := by decide +kernel
theorem dL_viewOf_46 : decode cL_viewOf 46 = .ok (.ldc2_w 170, 3) := by decide +kernel
theorem dL_viewOf_49 : decode cL_viewOf 49 = .ok (.ldc2_w 170, 3) := by decide +kernel
theorem dL_viewOf_52 : decode cL_viewOf 52 = .ok (.lload_n 2, 1) := by decide +kernel
theorem dL_viewOf_53 : decode cL_viewOf 53 = .ok (.lmul, 1) := by decide +kernel
theorem dL_viewOf_54 : decode cL_viewOf 54 = .ok (.aload_n 0, 1) := by decide +kernel
theorem dL_viewOf_55 : decode cL_viewOf 55 = .ok (.iload_n 1, 1) := by decide +kernel
theorem dL_viewOf_56 : decode cL_viewOf 56 = .ok (.iload 4, 2) := by decide +kernel
theorem dL_viewOf_58 : decode cL_viewOf 58 = .ok (.iconst 0, 1) := by decide +kernel
theorem dL_viewOf_59 : decode cL_viewOf 59 = .ok (.invokevirtual 175, 3) := by decide +kernel
theorem dL_viewOf_62 : decode cL_viewOf 62 = .ok (.i2l, 1) := by decide +kernel
theorem dL_viewOf_63 : decode cL_viewOf 63 = .ok (.ladd, 1) := by decide +kernel
theorem dL_viewOf_64 : decode cL_viewOf 64 = .ok (.lmul, 1) := by decide +kernel
theorem dL_viewOf_65 : decode cL_viewOf 65 = .ok (.aload_n 0, 1) := by decide +kernel
theorem dL_viewOf_66 : decode cL_viewOf 66 = .ok (.iload_n 1, 1) := by decide +kernel
theorem dL_viewOf_67 : decode cL_viewOf 67 = .ok (.iload 4, 2) := by decide +kernel
theorem dL_viewOf_69 : decode cL_viewOf 69 = .ok (.iconst 1, 1) := by decide +kernel
theorem dL_viewOf_70 : decode cL_viewOf 70 = .ok (.invokevirtual 175, 3) := by decide +kernel
theorem dL_viewOf_73 : decode cL_viewOf 73 = .ok (.i2l, 1) := by decide +kernel
theorem dL_viewOf_74 : decode cL_viewOf 74 = .ok (.ladd, 1) := by decide +kernel
theorem dL_viewOf_75 : decode cL_viewOf 75 = .ok (.lstore_n 2, 1) := by decide +kernel
theorem dL_viewOf_76 : decode cL_viewOf 76 = .ok (.iinc 4 1, 3) := by decide +kernel
theorem dL_viewOf_79 : decode cL_viewOf 79 = .ok (.goto (-44), 3) := by decide +kernel
theorem dL_viewOf_82 : decode cL_viewOf 82 = .ok (.iconst 0, 1) := by decide +kernel
theorem dL_viewOf_83 : decode cL_viewOf 83 = .ok (.istore 4, 2) := by decide +kernel
theorem dL_viewOf_85 : decode cL_viewOf 85 = .ok (.iload 4, 2) := by decide +kernel
theorem dL_viewOf_87 : decode cL_viewOf 87 = .ok (.iconst 5, 1) := by decide +kernel
theorem dL_viewOf_88 : decode cL_viewOf 88 = .ok (.if_icmp .ge 24, 3) := by decide +kernel
theorem dL_viewOf_91 : decode cL_viewOf 91 = .ok (.ldc2_w 178, 3) := by decide +kernel
theorem dL_viewOf_94 : decode cL_viewOf 94 = .ok (.lload_n 2, 1) := by decide +kernel
theorem dL_viewOf_95 : decode cL_viewOf 95 = .ok (.lmul, 1) := by decide +kernel
theorem dL_viewOf_96 : decode cL_viewOf 96 = .ok (.aload_n 0, 1) := by decide +kernel
theorem dL_viewOf_97 : decode cL_viewOf 97 = .ok (.iload_n 1, 1) := by decide +kernel
theorem dL_viewOf_98 : decode cL_viewOf 98 = .ok (.iload 4, 2) := by decide +kernel
theorem dL_viewOf_100 : decode cL_viewOf 100 = .ok (.invokevirtual 180, 3) := by decide +kernel
theorem dL_viewOf_103 : decode cL_viewOf 103 = .ok (.i2l, 1) := by decide +kernel
theorem dL_viewOf_104 : decode cL_viewOf 104 = .ok (.ladd, 1) := by decide +kernel
theorem dL_viewOf_105 : decode cL_viewOf 105 = .ok (.lstore_n 2, 1) := by decide +kernel
theorem dL_viewOf_106 : decode cL_viewOf 106 = .ok (.iinc 4 1, 3) := by decide +kernel
theorem dL_viewOf_109 : decode cL_viewOf 109 = .ok (.goto (-24), 3) := by decide +kernel
theorem dL_viewOf_112 : decode cL_viewOf 112 = .ok (.lload_n 2, 1) := by decide +kernel
theorem dL_viewOf_113 : decode cL_viewOf 113 = .ok (.lreturn, 1) := by decide +kernel
def mi_L_viewOf : MI := (RL, yL_viewOf, cL_viewOf, 5, some .long, [], { frames := 10, cells := 506, slots := 3036, locals := 168 })
theorem ok_L_viewOf : mOK mi_L_viewOf 2 := ⟨rfl, cw_L_viewOf, ini_L, ⟨rfl, by decide⟩, by decide, by decide, rfl⟩
theorem v_L_viewOf_85 : ∀ (fu : Nat) (l0 : Nat) (l1 : Int32) (l2 : Int64) (l4 : Int32) (M : Mem) (k n : Nat) (_ : kb 506 3036 2 12 fu k n), V mi_L_viewOf 85 [(0, .ref l0), (1, .int l1), (2, .long l2), (4, .int l4)] [] M k n (f_L_viewOf_85 fu l0 l1 l2 l4 M) tJ := by
  intro fu
  induction fu with
  | zero => intros; exact V_none
  | succ fu ih =>
    intro l0 l1 l2 l4 M k n hb
    show V mi_L_viewOf 85 [(0, .ref l0), (1, .int l1), (2, .long l2), (4, .int l4)] [] M k n (f_L_viewOf_85 (fu + 1) l0 l1 l2 l4 M) tJ
    unfold f_L_viewOf_85
    refine V_iload dL_viewOf_85 rfl 3 rfl ?_
    refine V_iconst (x := 5) dL_viewOf_87 rfl rfl ?_
    refine V_icmp_ge (q := 112) (q2 := 91) dL_viewOf_88 (by decide) rfl ?_ ?_
    · refine V_lload_n dL_viewOf_112 rfl 2 rfl ?_
      exact V_lret dL_viewOf_113 rfl rfl ⟨kb_ck0 hb (Nat.le_of_ble_eq_true rfl), kb_sk0 hb (Nat.le_of_ble_eq_true rfl)⟩
    · refine V_ldc2 (x := 1000003) kl_L_178 dL_viewOf_91 rfl ?_
      refine V_lload_n dL_viewOf_94 rfl 2 rfl ?_
      refine V_lmul dL_viewOf_95 rfl ?_
      refine V_aload_n dL_viewOf_96 rfl 0 rfl ?_
      refine V_iload_n dL_viewOf_97 rfl 1 rfl ?_
      refine V_iload dL_viewOf_98 rfl 3 rfl ?_
      refine V_cVtI (As := [.int l1, .int l4]) (k_X11_account l0 l1 l4 M) rfl (fun _ _ => rfl) (fun _ h => o_X11_account h) ok_X11_account im_X11_account se_X11_account rfl (ci := 10) rfl ml_L_180 ⟨⟨(Nat.le_of_ble_eq_true rfl), (Nat.le_of_ble_eq_true rfl)⟩, kb_c0 hb (Nat.le_of_ble_eq_true rfl) (Nat.le_of_ble_eq_true rfl), kb_s0 hb (Nat.le_of_ble_eq_true rfl) (Nat.le_of_ble_eq_true rfl)⟩ dL_viewOf_100 rfl rfl rfl (Nat.le_of_ble_eq_true rfl) rfl rfl (fun x9 M10 => ?_)
      refine V_i2l dL_viewOf_103 rfl ?_
      refine V_ladd dL_viewOf_104 rfl ?_
      refine V_lstore_n (L' := [(0, .ref l0), (1, .int l1), (2, .long ((1000003 * l2) + (Int32.toInt64 x9))), (4, .int l4)]) dL_viewOf_105 rfl (by decide) rfl ?_
      refine V_iinc (y := (l4 + 1)) (L' := [(0, .ref l0), (1, .int l1), (2, .long ((1000003 * l2) + (Int32.toInt64 x9))), (4, .int (l4 + 1))]) dL_viewOf_106 rfl 3 rfl rfl (by decide) rfl ?_
      refine V_goto (q := 85) dL_viewOf_109 (by decide) ?_
      exact ih l0 l1 ((1000003 * l2) + (Int32.toInt64 x9)) (l4 + 1) M10 _ _ (kb_next hb (Nat.le_of_ble_eq_true rfl) (Nat.le_of_ble_eq_true rfl))
theorem v_L_viewOf_82 (l0 : Nat) (l1 : Int32) (l2 : Int64) (M : Mem) : V mi_L_viewOf 82 [(0, .ref l0), (1, .int l1), (2, .long l2)] [] M 494 2964 (f_L_viewOf_82 l0 l1 l2 M) tJ := by
  unfold f_L_viewOf_82
  refine V_iconst (x := 0) dL_viewOf_82 rfl rfl ?_
  refine V_istore (L' := [(0, .ref l0), (1, .int l1), (2, .long l2), (4, .int 0)]) dL_viewOf_83 rfl (by decide) rfl ?_
  exact v_L_viewOf_85 6 l0 l1 l2 0 M 494 2964 ⟨(Nat.le_of_ble_eq_true rfl), (Nat.le_of_ble_eq_true rfl)⟩
theorem v_L_viewOf_35 : ∀ (fu : Nat) (l0 : Nat) (l1 : Int32) (l2 : Int64) (l4 : Int32) (M : Mem) (k n : Nat) (_ : kb 494 2964 8 48 fu k n), V mi_L_viewOf 35 [(0, .ref l0), (1, .int l1), (2, .long l2), (4, .int l4)] [] M k n (f_L_viewOf_35 fu l0 l1 l2 l4 M) tJ := by
  intro fu
  induction fu with
  | zero => intros; exact V_none
  | succ fu ih =>
    intro l0 l1 l2 l4 M k n hb
    show V mi_L_viewOf 35 [(0, .ref l0), (1, .int l1), (2, .long l2), (4, .int l4)] [] M k n (f_L_viewOf_35 (fu + 1) l0 l1 l2 l4 M) tJ
    unfold f_L_viewOf_35
    refine V_iload dL_viewOf_35 rfl 3 rfl ?_
    refine V_aload_n dL_viewOf_37 rfl 0 rfl ?_
    refine V_iload_n dL_viewOf_38 rfl 1 rfl ?_
    refine V_iconst (x := 3) dL_viewOf_39 rfl rfl ?_
    refine V_cVtI (As := [.int l1, .int 3]) (k_X11_session l0 l1 3 M) rfl (fun _ _ => rfl) (fun _ h => o_X11_session h) ok_X11_session im_X11_session se_X11_session rfl (ci := 10) rfl ml_L_117 ⟨⟨(Nat.le_of_ble_eq_true rfl), (Nat.le_of_ble_eq_true rfl)⟩, kb_c0 hb (Nat.le_of_ble_eq_true rfl) (Nat.le_of_ble_eq_true rfl), kb_s0 hb (Nat.le_of_ble_eq_true rfl) (Nat.le_of_ble_eq_true rfl)⟩ dL_viewOf_40 rfl rfl rfl (Nat.le_of_ble_eq_true rfl) rfl rfl (fun x7 M8 => ?_)
    refine V_icmp_gt (q := 82) (q2 := 46) dL_viewOf_43 (by decide) rfl ?_ ?_
    · exact V_sub [0, 1, 2] rfl (V_w (kb_ck hb (Nat.le_of_ble_eq_true rfl) (Nat.le_of_ble_eq_true rfl)) (kb_sk hb (Nat.le_of_ble_eq_true rfl) (Nat.le_of_ble_eq_true rfl)) (v_L_viewOf_82 l0 l1 l2 M8))
    · refine V_ldc2 (x := 31) kl_L_170 dL_viewOf_46 rfl ?_
      refine V_ldc2 (x := 31) kl_L_170 dL_viewOf_49 rfl ?_
      refine V_lload_n dL_viewOf_52 rfl 2 rfl ?_
      refine V_lmul dL_viewOf_53 rfl ?_
      refine V_aload_n dL_viewOf_54 rfl 0 rfl ?_
      refine V_iload_n dL_viewOf_55 rfl 1 rfl ?_
      refine V_iload dL_viewOf_56 rfl 3 rfl ?_
      refine V_iconst (x := 0) dL_viewOf_58 rfl rfl ?_
      refine V_cVtI (As := [.int l1, .int l4, .int 0]) (k_X11_entry l0 l1 l4 0 M8) rfl (fun _ _ => rfl) (fun _ h => o_X11_entry h) ok_X11_entry im_X11_entry se_X11_entry rfl (ci := 10) rfl ml_L_175 ⟨⟨(Nat.le_of_ble_eq_true rfl), (Nat.le_of_ble_eq_true rfl)⟩, kb_c hb (Nat.le_of_ble_eq_true rfl) (Nat.le_of_ble_eq_true rfl), kb_s hb (Nat.le_of_ble_eq_true rfl) (Nat.le_of_ble_eq_true rfl)⟩ dL_viewOf_59 rfl rfl rfl (Nat.le_of_ble_eq_true rfl) (Nat.add_assoc _ _ _) (Nat.add_assoc _ _ _) (fun x11 M12 => ?_)
      refine V_i2l dL_viewOf_62 rfl ?_
      refine V_ladd dL_viewOf_63 rfl ?_
      refine V_lmul dL_viewOf_64 rfl ?_
      refine V_aload_n dL_viewOf_65 rfl 0 rfl ?_
      refine V_iload_n dL_viewOf_66 rfl 1 rfl ?_
      refine V_iload dL_viewOf_67 rfl 3 rfl ?_
      refine V_iconst (x := 1) dL_viewOf_69 rfl rfl ?_
      refine V_cVtI (As := [.int l1, .int l4, .int 1]) (k_X11_entry l0 l1 l4 1 M12) rfl (fun _ _ => rfl) (fun _ h => o_X11_entry h) ok_X11_entry im_X11_entry se_X11_entry rfl (ci := 10) rfl ml_L_175 ⟨⟨(Nat.le_of_ble_eq_true rfl), (Nat.le_of_ble_eq_true rfl)⟩, kb_c hb (Nat.le_of_ble_eq_true rfl) (Nat.le_of_ble_eq_true rfl), kb_s hb (Nat.le_of_ble_eq_true rfl) (Nat.le_of_ble_eq_true rfl)⟩ dL_viewOf_70 rfl rfl rfl (Nat.le_of_ble_eq_true rfl) (Nat.add_assoc _ _ _) (Nat.add_assoc _ _ _) (fun x13 M14 => ?_)
      refine V_i2l dL_viewOf_73 rfl ?_
      refine V_ladd dL_viewOf_74 rfl ?_
      refine V_lstore_n (L' := [(0, .ref l0), (1, .int l1), (2, .long ((31 * ((31 * l2) + (Int32.toInt64 x11))) + (Int32.toInt64 x13))), (4, .int l4)]) dL_viewOf_75 rfl (by decide) rfl ?_
      refine V_iinc (y := (l4 + 1)) (L' := [(0, .ref l0), (1, .int l1), (2, .long ((31 * ((31 * l2) + (Int32.toInt64 x11))) + (Int32.toInt64 x13))), (4, .int (l4 + 1))]) dL_viewOf_76 rfl 3 rfl rfl (by decide) rfl ?_
      refine V_goto (q := 35) dL_viewOf_79 (by decide) ?_
      exact ih l0 l1 ((31 * ((31 * l2) + (Int32.toInt64 x11))) + (Int32.toInt64 x13)) (l4 + 1) M14 _ _ (kb_next hb (Nat.le_of_ble_eq_true rfl) (Nat.le_of_ble_eq_true rfl))
theorem v_L_viewOf (a0 : Nat) (a1 : Int32) (M : Mem) : V mi_L_viewOf 0 [(0, .ref a0), (1, .int a1)] [] M 0 0 (f_L_viewOf a0 a1 M) tJ := by
  unfold f_L_viewOf
  refine V_ldc2 (x := 31) kl_L_170 dL_viewOf_0 rfl ?_
  refine V_ldc2 (x := 31) kl_L_170 dL_viewOf_3 rfl ?_
  refine V_aload_n dL_viewOf_6 rfl 0 rfl ?_
  refine V_iload_n dL_viewOf_7 rfl 1 rfl ?_
  refine V_iconst (x := 0) dL_viewOf_8 rfl rfl ?_
  refine V_cVtI (As := [.int a1, .int 0]) (k_X11_session a0 a1 0 M) rfl (fun _ _ => rfl) (fun _ h => o_X11_session h) ok_X11_session im_X11_session se_X11_session rfl (ci := 10) rfl ml_L_117 ⟨⟨(Nat.le_of_ble_eq_true rfl), (Nat.le_of_ble_eq_true rfl)⟩, (Nat.le_of_ble_eq_true rfl), (Nat.le_of_ble_eq_true rfl)⟩ dL_viewOf_9 rfl rfl rfl (Nat.le_of_ble_eq_true rfl) rfl rfl (fun x1 M2 => ?_)
  refine V_i2l dL_viewOf_12 rfl ?_
  refine V_lmul dL_viewOf_13 rfl ?_
  refine V_aload_n dL_viewOf_14 rfl 0 rfl ?_
  refine V_iload_n dL_viewOf_15 rfl 1 rfl ?_
  refine V_iconst (x := 1) dL_viewOf_16 rfl rfl ?_
  refine V_cVtI (As := [.int a1, .int 1]) (k_X11_session a0 a1 1 M2) rfl (fun _ _ => rfl) (fun _ h => o_X11_session h) ok_X11_session im_X11_session se_X11_session rfl (ci := 10) rfl ml_L_117 ⟨⟨(Nat.le_of_ble_eq_true rfl), (Nat.le_of_ble_eq_true rfl)⟩, (Nat.le_of_ble_eq_true rfl), (Nat.le_of_ble_eq_true rfl)⟩ dL_viewOf_17 rfl rfl rfl (Nat.le_of_ble_eq_true rfl) rfl rfl (fun x3 M4 => ?_)
  refine V_i2l dL_viewOf_20 rfl ?_
  refine V_ladd dL_viewOf_21 rfl ?_
  refine V_lmul dL_viewOf_22 rfl ?_
  refine V_aload_n dL_viewOf_23 rfl 0 rfl ?_
  refine V_iload_n dL_viewOf_24 rfl 1 rfl ?_
  refine V_iconst (x := 2) dL_viewOf_25 rfl rfl ?_
  refine V_cVtI (As := [.int a1, .int 2]) (k_X11_session a0 a1 2 M4) rfl (fun _ _ => rfl) (fun _ h => o_X11_session h) ok_X11_session im_X11_session se_X11_session rfl (ci := 10) rfl ml_L_117 ⟨⟨(Nat.le_of_ble_eq_true rfl), (Nat.le_of_ble_eq_true rfl)⟩, (Nat.le_of_ble_eq_true rfl), (Nat.le_of_ble_eq_true rfl)⟩ dL_viewOf_26 rfl rfl rfl (Nat.le_of_ble_eq_true rfl) rfl rfl (fun x5 M6 => ?_)
  refine V_i2l dL_viewOf_29 rfl ?_
  refine V_ladd dL_viewOf_30 rfl ?_
  refine V_lstore_n (L' := [(0, .ref a0), (1, .int a1), (2, .long ((31 * ((31 * (Int32.toInt64 x1)) + (Int32.toInt64 x3))) + (Int32.toInt64 x5)))]) dL_viewOf_31 rfl (by decide) rfl ?_
  refine V_iconst (x := 1) dL_viewOf_32 rfl rfl ?_
  refine V_istore (L' := [(0, .ref a0), (1, .int a1), (2, .long ((31 * ((31 * (Int32.toInt64 x1)) + (Int32.toInt64 x3))) + (Int32.toInt64 x5))), (4, .int 1)]) dL_viewOf_33 rfl (by decide) rfl ?_
  exact v_L_viewOf_35 61 a0 a1 ((31 * ((31 * (Int32.toInt64 x1)) + (Int32.toInt64 x3))) + (Int32.toInt64 x5)) 1 M6 6 36 ⟨(Nat.le_of_ble_eq_true rfl), (Nat.le_of_ble_eq_true rfl)⟩
theorem k_L_viewOf (a0 : Nat) (a1 : Int32) (M : Mem) : K mi_L_viewOf [.ref a0, .int a1] M (f_L_viewOf a0 a1 M) tJ := K_of_V ok_L_viewOf (Nat.le_of_ble_eq_true rfl) (v_L_viewOf a0 a1 M)
theorem dL_all_0 : decode cL_all 0 = .ok (.aload_n 0, 1) := by decide +kernel
theorem dL_all_1 : decode cL_all 1 = .ok (.iconst 2, 1) := by decide +kernel
theorem dL_all_2 : decode cL_all 2 = .ok (.invokevirtual 110, 3) := by decide +kernel
theorem dL_all_5 : decode cL_all 5 = .ok (.i2l, 1) := by decide +kernel
theorem dL_all_6 : decode cL_all 6 = .ok (.lstore_n 1, 1) := by decide +kernel
theorem dL_all_7 : decode cL_all 7 = .ok (.iconst 0, 1) := by decide +kernel
theorem dL_all_8 : decode cL_all 8 = .ok (.istore_n 3, 1) := by decide +kernel
theorem dL_all_9 : decode cL_all 9 = .ok (.iload_n 3, 1) := by decide +kernel
theorem dL_all_10 : decode cL_all 10 = .ok (.aload_n 0, 1) := by decide +kernel
theorem dL_all_11 : decode cL_all 11 = .ok (.iconst 0, 1) := by decide +kernel
theorem dL_all_12 : decode cL_all 12 = .ok (.invokevirtual 110, 3) := by decide +kernel
theorem dL_all_15 : decode cL_all 15 = .ok (.if_icmp .ge 21, 3) := by decide +kernel
theorem dL_all_18 : decode cL_all 18 = .ok (.ldc2_w 178, 3) := by decide +kernel
theorem dL_all_21 : decode cL_all 21 = .ok (.lload_n 1, 1) := by decide +kernel
theorem dL_all_22 : decode cL_all 22 = .ok (.lmul, 1) := by decide +kernel
theorem dL_all_23 : decode cL_all 23 = .ok (.aload_n 0, 1) := by decide +kernel
theorem dL_all_24 : decode cL_all 24 = .ok (.iload_n 3, 1) := by decide +kernel
theorem dL_all_25 : decode cL_all 25 = .ok (.invokestatic 183, 3) := by decide +kernel
theorem dL_all_28 : decode cL_all 28 = .ok (.ladd, 1) := by decide +kernel
theorem dL_all_29 : decode cL_all 29 = .ok (.lstore_n 1, 1) := by decide +kernel
theorem dL_all_30 : decode cL_all 30 = .ok (.iinc 3 1, 3) := by decide +kernel
theorem dL_all_33 : decode cL_all 33 = .ok (.goto (-24), 3) := by decide +kernel
theorem dL_all_36 : decode cL_all 36 = .ok (.iconst 0, 1) := by decide +kernel
theorem dL_all_37 : decode cL_all 37 = .ok (.istore_n 3, 1) := by decide +kernel
theorem dL_all_38 : decode cL_all 38 = .ok (.iload_n 3, 1) := by decide +kernel
theorem dL_all_39 : decode cL_all 39 = .ok (.aload_n 0, 1) := by decide +kernel
theorem dL_all_40 : decode cL_all 40 = .ok (.iconst 1, 1) := by decide +kernel
theorem dL_all_41 : decode cL_all 41 = .ok (.invokevirtual 110, 3) := by decide +kernel
theorem dL_all_44 : decode cL_all 44 = .ok (.if_icmp .ge 21, 3) := by decide +kernel
theorem dL_all_47 : decode cL_all 47 = .ok (.ldc2_w 178, 3) := by decide +kernel
theorem dL_all_50 : decode cL_all 50 = .ok (.lload_n 1, 1) := by decide +kernel
theorem dL_all_51 : decode cL_all 51 = .ok (.lmul, 1) := by decide +kernel
theorem dL_all_52 : decode cL_all 52 = .ok (.aload_n 0, 1) := by decide +kernel
theorem dL_all_53 : decode cL_all 53 = .ok (.iload_n 3, 1) := by decide +kernel
theorem dL_all_54 : decode cL_all 54 = .ok (.invokestatic 187, 3) := by decide +kernel
theorem dL_all_57 : decode cL_all 57 = .ok (.ladd, 1) := by decide +kernel
theorem dL_all_58 : decode cL_all 58 = .ok (.lstore_n 1, 1) := by decide +kernel
theorem dL_all_59 : decode cL_all 59 = .ok (.iinc 3 1, 3) := by decide +kernel
theorem dL_all_62 : decode cL_all 62 = .ok (.goto (-24), 3) := by decide +kernel
theorem dL_all_65 : decode cL_all 65 = .ok (.lload_n 1, 1) := by decide +kernel
theorem dL_all_66 : decode cL_all 66 = .ok (.lreturn, 1) := by decide +kernel
def mi_L_all : MI := (RL, yL_all, cL_all, 4, some .long, [], { frames := 11, cells := 3540, slots := 21240, locals := 192 })
theorem ok_L_all : mOK mi_L_all 1 := ⟨rfl, cw_L_all, ini_L, ⟨rfl, by decide⟩, by decide, by decide, rfl⟩
theorem v_L_all_38 : ∀ (fu : Nat) (l0 : Nat) (l1 : Int64) (l3 : Int32) (M : Mem) (k n : Nat) (_ : kb 3540 21240 507 3042 fu k n), V mi_L_all 38 [(0, .ref l0), (1, .long l1), (3, .int l3)] [] M k n (f_L_all_38 fu l0 l1 l3 M) tJ := by
  intro fu
  induction fu with
  | zero => intros; exact V_none
  | succ fu ih =>
    intro l0 l1 l3 M k n hb
    show V mi_L_all 38 [(0, .ref l0), (1, .long l1), (3, .int l3)] [] M k n (f_L_all_38 (fu + 1) l0 l1 l3 M) tJ
    unfold f_L_all_38
    refine V_iload_n dL_all_38 rfl 2 rfl ?_
    refine V_aload_n dL_all_39 rfl 0 rfl ?_
    refine V_iconst (x := 1) dL_all_40 rfl rfl ?_
    refine V_cVtI (As := [.int 1]) (k_X11_property l0 1 M) rfl (fun _ _ => rfl) (fun _ h => o_X11_property h) ok_X11_property im_X11_property se_X11_property rfl (ci := 10) rfl ml_L_110 ⟨⟨(Nat.le_of_ble_eq_true rfl), (Nat.le_of_ble_eq_true rfl)⟩, kb_c0 hb (Nat.le_of_ble_eq_true rfl) (Nat.le_of_ble_eq_true rfl), kb_s0 hb (Nat.le_of_ble_eq_true rfl) (Nat.le_of_ble_eq_true rfl)⟩ dL_all_41 rfl rfl rfl (Nat.le_of_ble_eq_true rfl) rfl rfl (fun x5 M6 => ?_)
    refine V_icmp_ge (q := 65) (q2 := 47) dL_all_44 (by decide) rfl ?_ ?_
    · refine V_lload_n dL_all_65 rfl 1 rfl ?_
      exact V_lret dL_all_66 rfl rfl ⟨kb_ck hb (Nat.le_of_ble_eq_true rfl) (Nat.le_of_ble_eq_true rfl), kb_sk hb (Nat.le_of_ble_eq_true rfl) (Nat.le_of_ble_eq_true rfl)⟩
    · refine V_ldc2 (x := 1000003) kl_L_178 dL_all_47 rfl ?_
      refine V_lload_n dL_all_50 rfl 1 rfl ?_
      refine V_lmul dL_all_51 rfl ?_
      refine V_aload_n dL_all_52 rfl 0 rfl ?_
      refine V_iload_n dL_all_53 rfl 2 rfl ?_
      refine V_cStJ (As := [.ref l0, .int l3]) (k_L_viewOf l0 l3 M6) rfl (fun _ _ => rfl) ok_L_viewOf sm_L_viewOf ml_L_187 ⟨⟨(Nat.le_of_ble_eq_true rfl), (Nat.le_of_ble_eq_true rfl)⟩, kb_c hb (Nat.le_of_ble_eq_true rfl) (Nat.le_of_ble_eq_true rfl), kb_s hb (Nat.le_of_ble_eq_true rfl) (Nat.le_of_ble_eq_true rfl)⟩ dL_all_54 rfl rfl rfl (Nat.le_of_ble_eq_true rfl) (Nat.add_assoc _ _ _) (Nat.add_assoc _ _ _) (fun x7 M8 => ?_)
      refine V_ladd dL_all_57 rfl ?_
      refine V_lstore_n (L' := [(0, .ref l0), (1, .long ((1000003 * l1) + x7)), (3, .int l3)]) dL_all_58 rfl (by decide) rfl ?_
      refine V_iinc (y := (l3 + 1)) (L' := [(0, .ref l0), (1, .long ((1000003 * l1) + x7)), (3, .int (l3 + 1))]) dL_all_59 rfl 2 rfl rfl (by decide) rfl ?_
      refine V_goto (q := 38) dL_all_62 (by decide) ?_
      exact ih l0 ((1000003 * l1) + x7) (l3 + 1) M8 _ _ (kb_next hb (Nat.le_of_ble_eq_true rfl) (Nat.le_of_ble_eq_true rfl))
theorem v_L_all_36 (l0 : Nat) (l1 : Int64) (M : Mem) : V mi_L_all 36 [(0, .ref l0), (1, .long l1)] [] M 1005 6030 (f_L_all_36 l0 l1 M) tJ := by
  unfold f_L_all_36
  refine V_iconst (x := 0) dL_all_36 rfl rfl ?_
  refine V_istore_n (L' := [(0, .ref l0), (1, .long l1), (3, .int 0)]) dL_all_37 rfl (by decide) rfl ?_
  exact v_L_all_38 5 l0 l1 0 M 1005 6030 ⟨(Nat.le_of_ble_eq_true rfl), (Nat.le_of_ble_eq_true rfl)⟩
theorem v_L_all_9 : ∀ (fu : Nat) (l0 : Nat) (l1 : Int64) (l3 : Int32) (M : Mem) (k n : Nat) (_ : kb 1005 6030 251 1506 fu k n), V mi_L_all 9 [(0, .ref l0), (1, .long l1), (3, .int l3)] [] M k n (f_L_all_9 fu l0 l1 l3 M) tJ := by
  intro fu
  induction fu with
  | zero => intros; exact V_none
  | succ fu ih =>
    intro l0 l1 l3 M k n hb
    show V mi_L_all 9 [(0, .ref l0), (1, .long l1), (3, .int l3)] [] M k n (f_L_all_9 (fu + 1) l0 l1 l3 M) tJ
    unfold f_L_all_9
    refine V_iload_n dL_all_9 rfl 2 rfl ?_
    refine V_aload_n dL_all_10 rfl 0 rfl ?_
    refine V_iconst (x := 0) dL_all_11 rfl rfl ?_
    refine V_cVtI (As := [.int 0]) (k_X11_property l0 0 M) rfl (fun _ _ => rfl) (fun _ h => o_X11_property h) ok_X11_property im_X11_property se_X11_property rfl (ci := 10) rfl ml_L_110 ⟨⟨(Nat.le_of_ble_eq_true rfl), (Nat.le_of_ble_eq_true rfl)⟩, kb_c0 hb (Nat.le_of_ble_eq_true rfl) (Nat.le_of_ble_eq_true rfl), kb_s0 hb (Nat.le_of_ble_eq_true rfl) (Nat.le_of_ble_eq_true rfl)⟩ dL_all_12 rfl rfl rfl (Nat.le_of_ble_eq_true rfl) rfl rfl (fun x3 M4 => ?_)
    refine V_icmp_ge (q := 36) (q2 := 18) dL_all_15 (by decide) rfl ?_ ?_
    · exact V_sub [0, 1] rfl (V_w (kb_ck hb (Nat.le_of_ble_eq_true rfl) (Nat.le_of_ble_eq_true rfl)) (kb_sk hb (Nat.le_of_ble_eq_true rfl) (Nat.le_of_ble_eq_true rfl)) (v_L_all_36 l0 l1 M4))
    · refine V_ldc2 (x := 1000003) kl_L_178 dL_all_18 rfl ?_
      refine V_lload_n dL_all_21 rfl 1 rfl ?_
      refine V_lmul dL_all_22 rfl ?_
      refine V_aload_n dL_all_23 rfl 0 rfl ?_
      refine V_iload_n dL_all_24 rfl 2 rfl ?_
      refine V_cStJ (As := [.ref l0, .int l3]) (k_L_boxOf l0 l3 M4) rfl (fun _ _ => rfl) ok_L_boxOf sm_L_boxOf ml_L_183 ⟨⟨(Nat.le_of_ble_eq_true rfl), (Nat.le_of_ble_eq_true rfl)⟩, kb_c hb (Nat.le_of_ble_eq_true rfl) (Nat.le_of_ble_eq_true rfl), kb_s hb (Nat.le_of_ble_eq_true rfl) (Nat.le_of_ble_eq_true rfl)⟩ dL_all_25 rfl rfl rfl (Nat.le_of_ble_eq_true rfl) (Nat.add_assoc _ _ _) (Nat.add_assoc _ _ _) (fun x9 M10 => ?_)
      refine V_ladd dL_all_28 rfl ?_
      refine V_lstore_n (L' := [(0, .ref l0), (1, .long ((1000003 * l1) + x9)), (3, .int l3)]) dL_all_29 rfl (by decide) rfl ?_
      refine V_iinc (y := (l3 + 1)) (L' := [(0, .ref l0), (1, .long ((1000003 * l1) + x9)), (3, .int (l3 + 1))]) dL_all_30 rfl 2 rfl rfl (by decide) rfl ?_
      refine V_goto (q := 9) dL_all_33 (by decide) ?_
      exact ih l0 ((1000003 * l1) + x9) (l3 + 1) M10 _ _ (kb_next hb (Nat.le_of_ble_eq_true rfl) (Nat.le_of_ble_eq_true rfl))
theorem v_L_all (a0 : Nat) (M : Mem) : V mi_L_all 0 [(0, .ref a0)] [] M 0 0 (f_L_all a0 M) tJ := by
  unfold f_L_all
  refine V_aload_n dL_all_0 rfl 0 rfl ?_
  refine V_iconst (x := 2) dL_all_1 rfl rfl ?_
  refine V_cVtI (As := [.int 2]) (k_X11_property a0 2 M) rfl (fun _ _ => rfl) (fun _ h => o_X11_property h) ok_X11_property im_X11_property se_X11_property rfl (ci := 10) rfl ml_L_110 ⟨⟨(Nat.le_of_ble_eq_true rfl), (Nat.le_of_ble_eq_true rfl)⟩, (Nat.le_of_ble_eq_true rfl), (Nat.le_of_ble_eq_true rfl)⟩ dL_all_2 rfl rfl rfl (Nat.le_of_ble_eq_true rfl) rfl rfl (fun x1 M2 => ?_)
  refine V_i2l dL_all_5 rfl ?_
  refine V_lstore_n (L' := [(0, .ref a0), (1, .long (Int32.toInt64 x1))]) dL_all_6 rfl (by decide) rfl ?_
  refine V_iconst (x := 0) dL_all_7 rfl rfl ?_
  refine V_istore_n (L' := [(0, .ref a0), (1, .long (Int32.toInt64 x1)), (3, .int 0)]) dL_all_8 rfl (by decide) rfl ?_
  exact v_L_all_9 4 a0 (Int32.toInt64 x1) 0 M2 1 6 ⟨(Nat.le_of_ble_eq_true rfl), (Nat.le_of_ble_eq_true rfl)⟩
theorem k_L_all (a0 : Nat) (M : Mem) : K mi_L_all [.ref a0] M (f_L_all a0 M) tJ := K_of_V ok_L_all (Nat.le_of_ble_eq_true rfl) (v_L_all a0 M)
theorem dL_act_0 : decode cL_act 0 = .ok (.aload_n 1, 1) := by decide +kernel
theorem dL_act_1 : decode cL_act 1 = .ok (.iload_n 2, 1) := by decide +kernel
theorem dL_act_2 : decode cL_act 2 = .ok (.aload_n 0, 1) := by decide +kernel
theorem dL_act_3 : decode cL_act 3 = .ok (.iconst 1, 1) := by decide +kernel
theorem dL_act_4 : decode cL_act 4 = .ok (.invokevirtual 110, 3) := by decide +kernel
theorem dL_act_7 : decode cL_act 7 = .ok (.invokestatic 64, 3) := by decide +kernel
theorem dL_act_10 : decode cL_act 10 = .ok (.istore_n 3, 1) := by decide +kernel
theorem dL_act_11 : decode cL_act 11 = .ok (.aload_n 1, 1) := by decide +kernel
theorem dL_act_12 : decode cL_act 12 = .ok (.iload_n 2, 1) := by decide +kernel
theorem dL_act_13 : decode cL_act 13 = .ok (.iconst 1, 1) := by decide +kernel
theorem dL_act_14 : decode cL_act 14 = .ok (.iadd, 1) := by decide +kernel
theorem dL_act_15 : decode cL_act 15 = .ok (.aload_n 0, 1) := by decide +kernel
theorem dL_act_16 : decode cL_act 16 = .ok (.iconst 0, 1) := by decide +kernel
theorem dL_act_17 : decode cL_act 17 = .ok (.invokevirtual 110, 3) := by decide +kernel
theorem dL_act_20 : decode cL_act 20 = .ok (.invokestatic 64, 3) := by decide +kernel
theorem dL_act_23 : decode cL_act 23 = .ok (.istore 4, 2) := by decide +kernel
theorem dL_act_25 : decode cL_act 25 = .ok (.aload_n 0, 1) := by decide +kernel
theorem dL_act_26 : decode cL_act 26 = .ok (.iload_n 3, 1) := by decide +kernel
theorem dL_act_27 : decode cL_act 27 = .ok (.iconst 3, 1) := by decide +kernel
theorem dL_act_28 : decode cL_act 28 = .ok (.invokevirtual 117, 3) := by decide +kernel
theorem dL_act_31 : decode cL_act 31 = .ok (.istore 5, 2) := by decide +kernel
theorem dL_act_33 : decode cL_act 33 = .ok (.iload 5, 2) := by decide +kernel
theorem dL_act_35 : decode cL_act 35 = .ok (.ifCond .ne 7, 3) := by decide +kernel
theorem dL_act_38 : decode cL_act 38 = .ok (.iconst 0, 1) := by decide +kernel
theorem dL_act_39 : decode cL_act 39 = .ok (.goto 14, 3) := by decide +kernel
theorem dL_act_42 : decode cL_act 42 = .ok (.iconst 1, 1) := by decide +kernel
theorem dL_act_43 : decode cL_act 43 = .ok (.aload_n 1, 1) := by decide +kernel
theorem dL_act_44 : decode cL_act 44 = .ok (.iload_n 2, 1) := by decide +kernel
theorem dL_act_45 : decode cL_act 45 = .ok (.iconst 2, 1) := by decide +kernel
theorem dL_act_46 : decode cL_act 46 = .ok (.iadd, 1) := by decide +kernel
theorem dL_act_47 : decode cL_act 47 = .ok (.iload 5, 2) := by decide +kernel
theorem dL_act_49 : decode cL_act 49 = .ok (.invokestatic 64, 3) := by decide +kernel
theorem dL_act_52 : decode cL_act 52 = .ok (.iadd, 1) := by decide +kernel
theorem dL_act_53 : decode cL_act 53 = .ok (.istore 6, 2) := by decide +kernel
theorem dL_act_55 : decode cL_act 55 = .ok (.iload 5, 2) := by decide +kernel
theorem dL_act_57 : decode cL_act 57 = .ok (.ifCond .ne 7, 3) := by decide +kernel
theorem dL_act_60 : decode cL_act 60 = .ok (.iconst 0, 1) := by decide +kernel
theorem dL_act_61 : decode cL_act 61 = .ok (.goto 20, 3) := by decide +kernel
theorem dL_act_64 : decode cL_act 64 = .ok (.iload 6, 2) := by decide +kernel
theorem dL_act_66 : decode cL_act 66 = .ok (.aload_n 1, 1) := by decide +kernel
theorem dL_act_67 : decode cL_act 67 = .ok (.iload_n 2, 1) := by decide +kernel
theorem dL_act_68 : decode cL_act 68 = .ok (.iconst 3, 1) := by decide +kernel
theorem dL_act_69 : decode cL_act 69 = .ok (.iadd, 1) := by decide +kernel
theorem dL_act_70 : decode cL_act 70 = .ok (.iload 5, 2) := by decide +kernel
theorem dL_act_72 : decode cL_act 72 = .ok (.iload 6, 2) := by decide +kernel
theorem dL_act_74 : decode cL_act 74 = .ok (.isub, 1) := by decide +kernel
theorem dL_act_75 : decode cL_act 75 = .ok (.iconst 1, 1) := by decide +kernel
theorem dL_act_76 : decode cL_act 76 = .ok (.iadd, 1) := by decide +kernel
theorem dL_act_77 : decode cL_act 77 = .ok (.invokestatic 64, 3) := by decide +kernel
theorem dL_act_80 : decode cL_act 80 = .ok (.iadd, 1) := by decide +kernel
theorem dL_act_81 : decode cL_act 81 = .ok (.istore 7, 2) := by decide +kernel
theorem dL_act_83 : decode cL_act 83 = .ok (.aload_n 1, 1) := by decide +kernel
theorem dL_act_84 : decode cL_act 84 = .ok (.iload_n 2, 1) := by decide +kernel
theorem dL_act_85 : decode cL_act 85 = .ok (.iconst 4, 1) := by decide +kernel
theorem dL_act_86 : decode cL_act 86 = .ok (.iadd, 1) := by decide +kernel
theorem dL_act_87 : decode cL_act 87 = .ok (.bipush 32, 2) := by decide +kernel
theorem dL_act_89 : decode cL_act 89 = .ok (.invokestatic 64, 3) := by decide +kernel
theorem dL_act_92 : decode cL_act 92 = .ok (.istore 8, 2) := by decide +kernel
theorem dL_act_94 : decode cL_act 94 = .ok (.aload_n 1, 1) := by decide +kernel
theorem dL_act_95 : decode cL_act 95 = .ok (.iload_n 2, 1) := by decide +kernel
theorem dL_act_96 : decode cL_act 96 = .ok (.iconst 5, 1) := by decide +kernel
theorem dL_act_97 : decode cL_act 97 = .ok (.iadd, 1) := by decide +kernel
theorem dL_act_98 : decode cL_act 98 = .ok (.bipush 16, 2) := by decide +kernel
theorem dL_act_100 : decode cL_act 100 = .ok (.invokestatic 64, 3) := by decide +kernel
theorem dL_act_103 : decode cL_act 103 = .ok (.tableswitch 252 0 13 #[69, 87, 93, 99, 99, 105, 137, 137, 175, 196, 196, 202, 224, 246], 69) := by decide +kernel
theorem dL_act_172 : decode cL_act 172 = .ok (.aload_n 0, 1) := by decide +kernel
theorem dL_act_173 : decode cL_act 173 = .ok (.iload_n 3, 1) := by decide +kernel
theorem dL_act_174 : decode cL_act 174 = .ok (.iload 4, 2) := by decide +kernel
theorem dL_act_176 : decode cL_act 176 = .ok (.iload 8, 2) := by decide +kernel
theorem dL_act_178 : decode cL_act 178 = .ok (.ifCond .ne 7, 3) := by decide +kernel
theorem dL_act_181 : decode cL_act 181 = .ok (.iconst 1, 1) := by decide +kernel
theorem dL_act_182 : decode cL_act 182 = .ok (.goto 4, 3) := by decide +kernel
theorem dL_act_185 : decode cL_act 185 = .ok (.iconst 0, 1) := by decide +kernel
theorem dL_act_186 : decode cL_act 186 = .ok (.invokestatic 190, 3) := by decide +kernel
theorem dL_act_189 : decode cL_act 189 = .ok (.ireturn, 1) := by decide +kernel
theorem dL_act_190 : decode cL_act 190 = .ok (.aload_n 0, 1) := by decide +kernel
theorem dL_act_191 : decode cL_act 191 = .ok (.iload_n 3, 1) := by decide +kernel
theorem dL_act_192 : decode cL_act 192 = .ok (.invokestatic 194, 3) := by decide +kernel
theorem dL_act_195 : decode cL_act 195 = .ok (.ireturn, 1) := by decide +kernel
theorem dL_act_196 : decode cL_act 196 = .ok (.aload_n 0, 1) := by decide +kernel
theorem dL_act_197 : decode cL_act 197 = .ok (.iload_n 3, 1) := by decide +kernel
theorem dL_act_198 : decode cL_act 198 = .ok (.invokestatic 198, 3) := by decide +kernel
theorem dL_act_201 : decode cL_act 201 = .ok (.ireturn, 1) := by decide +kernel
theorem dL_act_202 : decode cL_act 202 = .ok (.aload_n 0, 1) := by decide +kernel
theorem dL_act_203 : decode cL_act 203 = .ok (.iload_n 3, 1) := by decide +kernel
theorem dL_act_204 : decode cL_act 204 = .ok (.invokestatic 201, 3) := by decide +kernel
theorem dL_act_207 : decode cL_act 207 = .ok (.ireturn, 1) := by decide +kernel
theorem dL_act_208 : decode cL_act 208 = .ok (.iload 5, 2) := by decide +kernel
theorem dL_act_210 : decode cL_act 210 = .ok (.ifCond .ne 8, 3) := by decide +kernel
theorem dL_act_213 : decode cL_act 213 = .ok (.ldc 126, 2) := by decide +kernel
theorem dL_act_215 : decode cL_act 215 = .ok (.goto 24, 3) := by decide +kernel
theorem dL_act_218 : decode cL_act 218 = .ok (.aload_n 0, 1) := by decide +kernel
theorem dL_act_219 : decode cL_act 219 = .ok (.iload_n 3, 1) := by decide +kernel
theorem dL_act_220 : decode cL_act 220 = .ok (.iload 6, 2) := by decide +kernel
theorem dL_act_222 : decode cL_act 222 = .ok (.iload 7, 2) := by decide +kernel
theorem dL_act_224 : decode cL_act 224 = .ok (.iload 8, 2) := by decide +kernel
theorem dL_act_226 : decode cL_act 226 = .ok (.iconst 2, 1) := by decide +kernel
theorem dL_act_227 : decode cL_act 227 = .ok (.irem, 1) := by decide +kernel
theorem dL_act_228 : decode cL_act 228 = .ok (.ifCond .ne 7, 3) := by decide +kernel
theorem dL_act_231 : decode cL_act 231 = .ok (.iconst 1, 1) := by decide +kernel
theorem dL_act_232 : decode cL_act 232 = .ok (.goto 4, 3) := by decide +kernel
theorem dL_act_235 : decode cL_act 235 = .ok (.iconst 0, 1) := by decide +kernel
theorem dL_act_236 : decode cL_act 236 = .ok (.invokestatic 204, 3) := by decide +kernel
theorem dL_act_239 : decode cL_act 239 = .ok (.ireturn, 1) := by decide +kernel
theorem dL_act_240 : decode cL_act 240 = .ok (.iload 5, 2) := by decide +kernel
theorem dL_act_242 : decode cL_act 242 = .ok (.ifCond .ne 8, 3) := by decide +kernel
theorem dL_act_245 : decode cL_act 245 = .ok (.ldc 126, 2) := by decide +kernel
theorem dL_act_247 : decode cL_act 247 = .ok (.goto 30, 3) := by decide +kernel
theorem dL_act_250 : decode cL_act 250 = .ok (.aload_n 0, 1) := by decide +kernel
theorem dL_act_251 : decode cL_act 251 = .ok (.iload_n 3, 1) := by decide +kernel
theorem dL_act_252 : decode cL_act 252 = .ok (.iload 6, 2) := by decide +kernel
theorem dL_act_254 : decode cL_act 254 = .ok (.iload 7, 2) := by decide +kernel
theorem dL_act_256 : decode cL_act 256 = .ok (.iload 8, 2) := by decide +kernel
theorem dL_act_258 : decode cL_act 258 = .ok (.iconst 3, 1) := by decide +kernel
theorem dL_act_259 : decode cL_act 259 = .ok (.irem, 1) := by decide +kernel
theorem dL_act_260 : decode cL_act 260 = .ok (.iload 8, 2) := by decide +kernel
theorem dL_act_262 : decode cL_act 262 = .ok (.iload 8, 2) := by decide +kernel
theorem dL_act_264 : decode cL_act 264 = .ok (.bipush 20, 2) := by decide +kernel
theorem dL_act_266 : decode cL_act 266 = .ok (.if_icmp .le 7, 3) := by decide +kernel
theorem dL_act_269 : decode cL_act 269 = .ok (.iconst 1, 1) := by decide +kernel
theorem dL_act_270 : decode cL_act 270 = .ok (.goto 4, 3) := by decide +kernel
theorem dL_act_273 : decode cL_act 273 = .ok (.iconst 0, 1) := by decide +kernel
theorem dL_act_274 : decode cL_act 274 = .ok (.invokestatic 208, 3) := by decide +kernel
theorem dL_act_277 : decode cL_act 277 = .ok (.ireturn, 1) := by decide +kernel
theorem dL_act_278 : decode cL_act 278 = .ok (.aload_n 0, 1) := by decide +kernel
theorem dL_act_279 : decode cL_act 279 = .ok (.iload_n 3, 1) := by decide +kernel
theorem dL_act_280 : decode cL_act 280 = .ok (.iload 8, 2) := by decide +kernel
theorem dL_act_282 : decode cL_act 282 = .ok (.iconst 5, 1) := by decide +kernel
theorem dL_act_283 : decode cL_act 283 = .ok (.irem, 1) := by decide +kernel
theorem dL_act_284 : decode cL_act 284 = .ok (.iload 8, 2) := by decide +kernel
theorem dL_act_286 : decode cL_act 286 = .ok (.bipush 11, 2) := by decide +kernel
theorem dL_act_288 : decode cL_act 288 = .ok (.irem, 1) := by decide +kernel
theorem dL_act_289 : decode cL_act 289 = .ok (.iload 8, 2) := by decide +kernel
theorem dL_act_291 : decode cL_act 291 = .ok (.iconst 3, 1) := by decide +kernel
theorem dL_act_292 : decode cL_act 292 = .ok (.irem, 1) := by decide +kernel
theorem dL_act_293 : decode cL_act 293 = .ok (.iload 8, 2) := by decide +kernel
theorem dL_act_295 : decode cL_act 295 = .ok (.invokestatic 212, 3) := by decide +kernel
theorem dL_act_298 : decode cL_act 298 = .ok (.ireturn, 1) := by decide +kernel
theorem dL_act_299 : decode cL_act 299 = .ok (.aload_n 0, 1) := by decide +kernel
theorem dL_act_300 : decode cL_act 300 = .ok (.iload_n 3, 1) := by decide +kernel
theorem dL_act_301 : decode cL_act 301 = .ok (.invokestatic 216, 3) := by decide +kernel
theorem dL_act_304 : decode cL_act 304 = .ok (.ireturn, 1) := by decide +kernel
theorem dL_act_305 : decode cL_act 305 = .ok (.iload 5, 2) := by decide +kernel
theorem dL_act_307 : decode cL_act 307 = .ok (.ifCond .ne 8, 3) := by decide +kernel
theorem dL_act_310 : decode cL_act 310 = .ok (.ldc 126, 2) := by decide +kernel
theorem dL_act_312 : decode cL_act 312 = .ok (.goto 14, 3) := by decide +kernel
theorem dL_act_315 : decode cL_act 315 = .ok (.aload_n 0, 1) := by decide +kernel
theorem dL_act_316 : decode cL_act 316 = .ok (.iload_n 3, 1) := by decide +kernel
theorem dL_act_317 : decode cL_act 317 = .ok (.iload 6, 2) := by decide +kernel
theorem dL_act_319 : decode cL_act 319 = .ok (.iload 7, 2) := by decide +kernel
theorem dL_act_321 : decode cL_act 321 = .ok (.iload 4, 2) := by decide +kernel
theorem dL_act_323 : decode cL_act 323 = .ok (.invokestatic 219, 3) := by decide +kernel
theorem dL_act_326 : decode cL_act 326 = .ok (.ireturn, 1) := by decide +kernel
theorem dL_act_327 : decode cL_act 327 = .ok (.iload 5, 2) := by decide +kernel
theorem dL_act_329 : decode cL_act 329 = .ok (.ifCond .ne 8, 3) := by decide +kernel
theorem dL_act_332 : decode cL_act 332 = .ok (.ldc 126, 2) := by decide +kernel
theorem dL_act_334 : decode cL_act 334 = .ok (.goto 14, 3) := by decide +kernel
theorem dL_act_337 : decode cL_act 337 = .ok (.aload_n 0, 1) := by decide +kernel
theorem dL_act_338 : decode cL_act 338 = .ok (.iload_n 3, 1) := by decide +kernel
theorem dL_act_339 : decode cL_act 339 = .ok (.iload 6, 2) := by decide +kernel
theorem dL_act_341 : decode cL_act 341 = .ok (.iload 7, 2) := by decide +kernel
theorem dL_act_343 : decode cL_act 343 = .ok (.iload 4, 2) := by decide +kernel
theorem dL_act_345 : decode cL_act 345 = .ok (.invokestatic 223, 3) := by decide +kernel
theorem dL_act_348 : decode cL_act 348 = .ok (.ireturn, 1) := by decide +kernel
theorem dL_act_349 : decode cL_act 349 = .ok (.aload_n 0, 1) := by decide +kernel
theorem dL_act_350 : decode cL_act 350 = .ok (.iload_n 3, 1) := by decide +kernel
theorem dL_act_351 : decode cL_act 351 = .ok (.invokestatic 226, 3) := by decide +kernel
theorem dL_act_354 : decode cL_act 354 = .ok (.ireturn, 1) := by decide +kernel
theorem dL_act_355 : decode cL_act 355 = .ok (.aload_n 0, 1) := by decide +kernel
theorem dL_act_356 : decode cL_act 356 = .ok (.iload 4, 2) := by decide +kernel
theorem dL_act_358 : decode cL_act 358 = .ok (.iconst 1, 1) := by decide +kernel
theorem dL_act_359 : decode cL_act 359 = .ok (.iload 8, 2) := by decide +kernel
theorem dL_act_361 : decode cL_act 361 = .ok (.iadd, 1) := by decide +kernel
theorem dL_act_362 : decode cL_act 362 = .ok (.iload 8, 2) := by decide +kernel
theorem dL_act_364 : decode cL_act 364 = .ok (.invokestatic 229, 3) := by decide +kernel
theorem dL_act_367 : decode cL_act 367 = .ok (.ireturn, 1) := by decide +kernel
def mi_L_act : MI := (RL, yL_act, cL_act, 9, some .int, [], { frames := 12, cells := 12, slots := 72, locals := 234 })
theorem ok_L_act : mOK mi_L_act 3 := ⟨rfl, cw_L_act, ini_L, ⟨rfl, by decide⟩, by decide, by decide, rfl⟩
theorem v_L_act_186 (s0 : Nat) (s1 : Int32) (s2 : Int32) (s3 : Bool) (M : Mem) : V mi_L_act 186 [] [.int (b2i s3), .int s2, .int s1, .ref s0] M 4 24 (f_L_act_186 s0 s1 s2 s3 M) tI := by
  unfold f_L_act_186
  refine V_cSWI (As := [.ref s0, .int s1, .int s2, .int (b2i s3)]) (k_L_selected s0 s1 s2 s3 M) ok_L_selected sm_L_selected ml_L_190 ⟨⟨(Nat.le_of_ble_eq_true rfl), (Nat.le_of_ble_eq_true rfl)⟩, (Nat.le_of_ble_eq_true rfl), (Nat.le_of_ble_eq_true rfl)⟩ dL_act_186 rfl rfl rfl (Nat.le_of_ble_eq_true rfl) rfl rfl (fun x13 M14 => ?_)
  exact V_iret dL_act_189 rfl rfl ⟨(Nat.le_of_ble_eq_true rfl), (Nat.le_of_ble_eq_true rfl)⟩
theorem v_L_act_202 (l0 : Nat) (l3 : Int32) (M : Mem) : V mi_L_act 202 [(0, .ref l0), (3, .int l3)] [] M 4 24 (f_L_act_202 l0 l3 M) tI := by
  unfold f_L_act_202
  refine V_aload_n dL_act_202 rfl 0 rfl ?_
  refine V_iload_n dL_act_203 rfl 1 rfl ?_
  refine V_cSWI (As := [.ref l0, .int l3]) (k_L_stopped l0 l3 M) ok_L_stopped sm_L_stopped ml_L_201 ⟨⟨(Nat.le_of_ble_eq_true rfl), (Nat.le_of_ble_eq_true rfl)⟩, (Nat.le_of_ble_eq_true rfl), (Nat.le_of_ble_eq_true rfl)⟩ dL_act_204 rfl rfl rfl (Nat.le_of_ble_eq_true rfl) rfl rfl (fun x19 M20 => ?_)
  exact V_iret dL_act_207 rfl rfl ⟨(Nat.le_of_ble_eq_true rfl), (Nat.le_of_ble_eq_true rfl)⟩
theorem v_L_act_236 (s0 : Nat) (s1 : Int32) (s2 : Int32) (s3 : Int32) (s4 : Bool) (M : Mem) : V mi_L_act 236 [] [.int (b2i s4), .int s3, .int s2, .int s1, .ref s0] M 4 24 (f_L_act_236 s0 s1 s2 s3 s4 M) tI := by
  unfold f_L_act_236
  refine V_cSWI (As := [.ref s0, .int s1, .int s2, .int s3, .int (b2i s4)]) (k_L_fetched s0 s1 s2 s3 s4 M) ok_L_fetched sm_L_fetched ml_L_204 ⟨⟨(Nat.le_of_ble_eq_true rfl), (Nat.le_of_ble_eq_true rfl)⟩, (Nat.le_of_ble_eq_true rfl), (Nat.le_of_ble_eq_true rfl)⟩ dL_act_236 rfl rfl rfl (Nat.le_of_ble_eq_true rfl) rfl rfl (fun x21 M22 => ?_)
  exact V_iret dL_act_239 rfl rfl ⟨(Nat.le_of_ble_eq_true rfl), (Nat.le_of_ble_eq_true rfl)⟩
theorem v_L_act_274 (s0 : Nat) (s1 : Int32) (s2 : Int32) (s3 : Int32) (s4 : Int32) (s5 : Int32) (s6 : Bool) (M : Mem) : V mi_L_act 274 [] [.int (b2i s6), .int s5, .int s4, .int s3, .int s2, .int s1, .ref s0] M 4 24 (f_L_act_274 s0 s1 s2 s3 s4 s5 s6 M) tI := by
  unfold f_L_act_274
  refine V_cSWI (As := [.ref s0, .int s1, .int s2, .int s3, .int s4, .int s5, .int (b2i s6)]) (k_L_stored s0 s1 s2 s3 s4 s5 s6 M) ok_L_stored sm_L_stored ml_L_208 ⟨⟨(Nat.le_of_ble_eq_true rfl), (Nat.le_of_ble_eq_true rfl)⟩, (Nat.le_of_ble_eq_true rfl), (Nat.le_of_ble_eq_true rfl)⟩ dL_act_274 rfl rfl rfl (Nat.le_of_ble_eq_true rfl) rfl rfl (fun x23 M24 => ?_)
  exact V_iret dL_act_277 rfl rfl ⟨(Nat.le_of_ble_eq_true rfl), (Nat.le_of_ble_eq_true rfl)⟩
theorem v_L_act_240 (l0 : Nat) (l3 : Int32) (l5 : Int32) (l6 : Int32) (l7 : Int32) (l8 : Int32) (M : Mem) : V mi_L_act 240 [(0, .ref l0), (3, .int l3), (5, .int l5), (6, .int l6), (7, .int l7), (8, .int l8)] [] M 4 24 (f_L_act_240 l0 l3 l5 l6 l7 l8 M) tI := by
  unfold f_L_act_240
  refine V_iload dL_act_240 rfl 2 rfl ?_
  refine V_if_ne (q := 250) (q2 := 245) dL_act_242 (by decide) rfl ?_ ?_
  · refine V_aload_n dL_act_250 rfl 0 rfl ?_
    refine V_iload_n dL_act_251 rfl 1 rfl ?_
    refine V_iload dL_act_252 rfl 3 rfl ?_
    refine V_iload dL_act_254 rfl 4 rfl ?_
    refine V_iload dL_act_256 rfl 5 rfl ?_
    refine V_iconst (x := 3) dL_act_258 rfl rfl ?_
    refine V_irem dL_act_259 rfl (by decide) ?_
    refine V_iload dL_act_260 rfl 5 rfl ?_
    refine V_iload dL_act_262 rfl 5 rfl ?_
    refine V_bipush (x := 20) dL_act_264 rfl rfl ?_
    refine V_icmp_le (q := 273) (q2 := 269) dL_act_266 (by decide) rfl ?_ ?_
    · refine V_iconst (x := 0) dL_act_273 rfl rfl ?_
      exact V_sub [] rfl (v_L_act_274 l0 l3 l6 l7 (l8 - l8 / 3 * 3) l8 false M)
    · refine V_iconst (x := 1) dL_act_269 rfl rfl ?_
      refine V_goto (q := 274) dL_act_270 (by decide) ?_
      exact V_sub [] rfl (v_L_act_274 l0 l3 l6 l7 (l8 - l8 / 3 * 3) l8 true M)
  · refine V_ldc (x := (-2147483648)) kc_L_126 dL_act_245 rfl ?_
    refine V_goto (q := 277) dL_act_247 (by decide) ?_
    exact V_iret dL_act_277 rfl rfl ⟨(Nat.le_of_ble_eq_true rfl), (Nat.le_of_ble_eq_true rfl)⟩
theorem v_L_act_299 (l0 : Nat) (l3 : Int32) (M : Mem) : V mi_L_act 299 [(0, .ref l0), (3, .int l3)] [] M 4 24 (f_L_act_299 l0 l3 M) tI := by
  unfold f_L_act_299
  refine V_aload_n dL_act_299 rfl 0 rfl ?_
  refine V_iload_n dL_act_300 rfl 1 rfl ?_
  refine V_cSWI (As := [.ref l0, .int l3]) (k_L_expunged l0 l3 M) ok_L_expunged sm_L_expunged ml_L_216 ⟨⟨(Nat.le_of_ble_eq_true rfl), (Nat.le_of_ble_eq_true rfl)⟩, (Nat.le_of_ble_eq_true rfl), (Nat.le_of_ble_eq_true rfl)⟩ dL_act_301 rfl rfl rfl (Nat.le_of_ble_eq_true rfl) rfl rfl (fun x27 M28 => ?_)
  exact V_iret dL_act_304 rfl rfl ⟨(Nat.le_of_ble_eq_true rfl), (Nat.le_of_ble_eq_true rfl)⟩
theorem v_L_act_81 (l0 : Nat) (l1 : Nat) (l2 : Int32) (l3 : Int32) (l4 : Int32) (l5 : Int32) (l6 : Int32) (s0 : Int32) (M : Mem) : V mi_L_act 81 [(0, .ref l0), (1, .ref l1), (2, .int l2), (3, .int l3), (4, .int l4), (5, .int l5), (6, .int l6)] [.int s0] M 4 24 (f_L_act_81 l0 l1 l2 l3 l4 l5 l6 s0 M) tI := by
  unfold f_L_act_81
  refine V_istore (L' := [(0, .ref l0), (1, .ref l1), (2, .int l2), (3, .int l3), (4, .int l4), (5, .int l5), (6, .int l6), (7, .int s0)]) dL_act_81 rfl (by decide) rfl ?_
  refine V_aload_n dL_act_83 rfl 1 rfl ?_
  refine V_iload_n dL_act_84 rfl 2 rfl ?_
  refine V_iconst (x := 4) dL_act_85 rfl rfl ?_
  refine V_iadd dL_act_86 rfl ?_
  refine V_bipush (x := 32) dL_act_87 rfl rfl ?_
  refine V_cSeI (As := [.ref l1, .int (l2 + 4), .int 32]) (k_L_draw l1 (l2 + 4) 32 M) ok_L_draw sm_L_draw ml_L_64 ⟨⟨(Nat.le_of_ble_eq_true rfl), (Nat.le_of_ble_eq_true rfl)⟩, (Nat.le_of_ble_eq_true rfl), (Nat.le_of_ble_eq_true rfl)⟩ dL_act_89 rfl rfl rfl (Nat.le_of_ble_eq_true rfl) rfl rfl (fun x11 => ?_)
  refine V_istore (L' := [(0, .ref l0), (1, .ref l1), (2, .int l2), (3, .int l3), (4, .int l4), (5, .int l5), (6, .int l6), (7, .int s0), (8, .int x11)]) dL_act_92 rfl (by decide) rfl ?_
  refine V_aload_n dL_act_94 rfl 1 rfl ?_
  refine V_iload_n dL_act_95 rfl 2 rfl ?_
  refine V_iconst (x := 5) dL_act_96 rfl rfl ?_
  refine V_iadd dL_act_97 rfl ?_
  refine V_bipush (x := 16) dL_act_98 rfl rfl ?_
  refine V_cSeI (As := [.ref l1, .int (l2 + 5), .int 16]) (k_L_draw l1 (l2 + 5) 16 M) ok_L_draw sm_L_draw ml_L_64 ⟨⟨(Nat.le_of_ble_eq_true rfl), (Nat.le_of_ble_eq_true rfl)⟩, (Nat.le_of_ble_eq_true rfl), (Nat.le_of_ble_eq_true rfl)⟩ dL_act_100 rfl rfl rfl (Nat.le_of_ble_eq_true rfl) rfl rfl (fun x12 => ?_)
  refine V_if (fun ht103_0 => ?_) (fun ht103_0 => ?_)
  · refine V_tsIn ht103_0 dL_act_103 (by decide) (by decide) (off := 69) (q := 172) rfl (by decide) ?_
    refine V_aload_n dL_act_172 rfl 0 rfl ?_
    refine V_iload_n dL_act_173 rfl 3 rfl ?_
    refine V_iload dL_act_174 rfl 4 rfl ?_
    refine V_iload dL_act_176 rfl 8 rfl ?_
    refine V_if_ne (q := 185) (q2 := 181) dL_act_178 (by decide) rfl ?_ ?_
    · refine V_iconst (x := 0) dL_act_185 rfl rfl ?_
      exact V_sub [] rfl (v_L_act_186 l0 l3 l4 false M)
    · refine V_iconst (x := 1) dL_act_181 rfl rfl ?_
      refine V_goto (q := 186) dL_act_182 (by decide) ?_
      exact V_sub [] rfl (v_L_act_186 l0 l3 l4 true M)
  refine V_if (fun ht103_1 => ?_) (fun ht103_1 => ?_)
  · refine V_tsIn ht103_1 dL_act_103 (by decide) (by decide) (off := 87) (q := 190) rfl (by decide) ?_
    refine V_aload_n dL_act_190 rfl 0 rfl ?_
    refine V_iload_n dL_act_191 rfl 3 rfl ?_
    refine V_cSWI (As := [.ref l0, .int l3]) (k_L_nooped l0 l3 M) ok_L_nooped sm_L_nooped ml_L_194 ⟨⟨(Nat.le_of_ble_eq_true rfl), (Nat.le_of_ble_eq_true rfl)⟩, (Nat.le_of_ble_eq_true rfl), (Nat.le_of_ble_eq_true rfl)⟩ dL_act_192 rfl rfl rfl (Nat.le_of_ble_eq_true rfl) rfl rfl (fun x15 M16 => ?_)
    exact V_iret dL_act_195 rfl rfl ⟨(Nat.le_of_ble_eq_true rfl), (Nat.le_of_ble_eq_true rfl)⟩
  refine V_if (fun ht103_2 => ?_) (fun ht103_2 => ?_)
  · refine V_tsIn ht103_2 dL_act_103 (by decide) (by decide) (off := 93) (q := 196) rfl (by decide) ?_
    refine V_aload_n dL_act_196 rfl 0 rfl ?_
    refine V_iload_n dL_act_197 rfl 3 rfl ?_
    refine V_cSWI (As := [.ref l0, .int l3]) (k_L_started l0 l3 M) ok_L_started sm_L_started ml_L_198 ⟨⟨(Nat.le_of_ble_eq_true rfl), (Nat.le_of_ble_eq_true rfl)⟩, (Nat.le_of_ble_eq_true rfl), (Nat.le_of_ble_eq_true rfl)⟩ dL_act_198 rfl rfl rfl (Nat.le_of_ble_eq_true rfl) rfl rfl (fun x17 M18 => ?_)
    exact V_iret dL_act_201 rfl rfl ⟨(Nat.le_of_ble_eq_true rfl), (Nat.le_of_ble_eq_true rfl)⟩
  refine V_if (fun ht103_3 => ?_) (fun ht103_3 => ?_)
  · refine V_tsIn ht103_3 dL_act_103 (by decide) (by decide) (off := 99) (q := 202) rfl (by decide) ?_
    exact V_sub [0, 3] rfl (v_L_act_202 l0 l3 M)
  refine V_if (fun ht103_4 => ?_) (fun ht103_4 => ?_)
  · refine V_tsIn ht103_4 dL_act_103 (by decide) (by decide) (off := 99) (q := 202) rfl (by decide) ?_
    exact V_sub [0, 3] rfl (v_L_act_202 l0 l3 M)
  refine V_if (fun ht103_5 => ?_) (fun ht103_5 => ?_)
  · refine V_tsIn ht103_5 dL_act_103 (by decide) (by decide) (off := 105) (q := 208) rfl (by decide) ?_
    refine V_iload dL_act_208 rfl 5 rfl ?_
    refine V_if_ne (q := 218) (q2 := 213) dL_act_210 (by decide) rfl ?_ ?_
    · refine V_aload_n dL_act_218 rfl 0 rfl ?_
      refine V_iload_n dL_act_219 rfl 3 rfl ?_
      refine V_iload dL_act_220 rfl 6 rfl ?_
      refine V_iload dL_act_222 rfl 7 rfl ?_
      refine V_iload dL_act_224 rfl 8 rfl ?_
      refine V_iconst (x := 2) dL_act_226 rfl rfl ?_
      refine V_irem dL_act_227 rfl (by decide) ?_
      refine V_if_ne (q := 235) (q2 := 231) dL_act_228 (by decide) rfl ?_ ?_
      · refine V_iconst (x := 0) dL_act_235 rfl rfl ?_
        exact V_sub [] rfl (v_L_act_236 l0 l3 l6 s0 false M)
      · refine V_iconst (x := 1) dL_act_231 rfl rfl ?_
        refine V_goto (q := 236) dL_act_232 (by decide) ?_
        exact V_sub [] rfl (v_L_act_236 l0 l3 l6 s0 true M)
    · refine V_ldc (x := (-2147483648)) kc_L_126 dL_act_213 rfl ?_
      refine V_goto (q := 239) dL_act_215 (by decide) ?_
      exact V_iret dL_act_239 rfl rfl ⟨(Nat.le_of_ble_eq_true rfl), (Nat.le_of_ble_eq_true rfl)⟩
  refine V_if (fun ht103_6 => ?_) (fun ht103_6 => ?_)
  · refine V_tsIn ht103_6 dL_act_103 (by decide) (by decide) (off := 137) (q := 240) rfl (by decide) ?_
    exact V_sub [0, 3, 5, 6, 7, 8] rfl (v_L_act_240 l0 l3 l5 l6 s0 x11 M)
  refine V_if (fun ht103_7 => ?_) (fun ht103_7 => ?_)
  · refine V_tsIn ht103_7 dL_act_103 (by decide) (by decide) (off := 137) (q := 240) rfl (by decide) ?_
    exact V_sub [0, 3, 5, 6, 7, 8] rfl (v_L_act_240 l0 l3 l5 l6 s0 x11 M)
  refine V_if (fun ht103_8 => ?_) (fun ht103_8 => ?_)
  · refine V_tsIn ht103_8 dL_act_103 (by decide) (by decide) (off := 175) (q := 278) rfl (by decide) ?_
    refine V_aload_n dL_act_278 rfl 0 rfl ?_
    refine V_iload_n dL_act_279 rfl 3 rfl ?_
    refine V_iload dL_act_280 rfl 8 rfl ?_
    refine V_iconst (x := 5) dL_act_282 rfl rfl ?_
    refine V_irem dL_act_283 rfl (by decide) ?_
    refine V_iload dL_act_284 rfl 8 rfl ?_
    refine V_bipush (x := 11) dL_act_286 rfl rfl ?_
    refine V_irem dL_act_288 rfl (by decide) ?_
    refine V_iload dL_act_289 rfl 8 rfl ?_
    refine V_iconst (x := 3) dL_act_291 rfl rfl ?_
    refine V_irem dL_act_292 rfl (by decide) ?_
    refine V_iload dL_act_293 rfl 8 rfl ?_
    refine V_cSWI (As := [.ref l0, .int l3, .int (x11 - x11 / 5 * 5), .int (x11 - x11 / 11 * 11), .int (x11 - x11 / 3 * 3), .int x11]) (k_L_uidStored l0 l3 (x11 - x11 / 5 * 5) (x11 - x11 / 11 * 11) (x11 - x11 / 3 * 3) x11 M) ok_L_uidStored sm_L_uidStored ml_L_212 ⟨⟨(Nat.le_of_ble_eq_true rfl), (Nat.le_of_ble_eq_true rfl)⟩, (Nat.le_of_ble_eq_true rfl), (Nat.le_of_ble_eq_true rfl)⟩ dL_act_295 rfl rfl rfl (Nat.le_of_ble_eq_true rfl) rfl rfl (fun x25 M26 => ?_)
    exact V_iret dL_act_298 rfl rfl ⟨(Nat.le_of_ble_eq_true rfl), (Nat.le_of_ble_eq_true rfl)⟩
  refine V_if (fun ht103_9 => ?_) (fun ht103_9 => ?_)
  · refine V_tsIn ht103_9 dL_act_103 (by decide) (by decide) (off := 196) (q := 299) rfl (by decide) ?_
    exact V_sub [0, 3] rfl (v_L_act_299 l0 l3 M)
  refine V_if (fun ht103_10 => ?_) (fun ht103_10 => ?_)
  · refine V_tsIn ht103_10 dL_act_103 (by decide) (by decide) (off := 196) (q := 299) rfl (by decide) ?_
    exact V_sub [0, 3] rfl (v_L_act_299 l0 l3 M)
  refine V_if (fun ht103_11 => ?_) (fun ht103_11 => ?_)
  · refine V_tsIn ht103_11 dL_act_103 (by decide) (by decide) (off := 202) (q := 305) rfl (by decide) ?_
    refine V_iload dL_act_305 rfl 5 rfl ?_
    refine V_if_ne (q := 315) (q2 := 310) dL_act_307 (by decide) rfl ?_ ?_
    · refine V_aload_n dL_act_315 rfl 0 rfl ?_
      refine V_iload_n dL_act_316 rfl 3 rfl ?_
      refine V_iload dL_act_317 rfl 6 rfl ?_
      refine V_iload dL_act_319 rfl 7 rfl ?_
      refine V_iload dL_act_321 rfl 4 rfl ?_
      refine V_cSWI (As := [.ref l0, .int l3, .int l6, .int s0, .int l4]) (k_L_copied l0 l3 l6 s0 l4 M) ok_L_copied sm_L_copied ml_L_219 ⟨⟨(Nat.le_of_ble_eq_true rfl), (Nat.le_of_ble_eq_true rfl)⟩, (Nat.le_of_ble_eq_true rfl), (Nat.le_of_ble_eq_true rfl)⟩ dL_act_323 rfl rfl rfl (Nat.le_of_ble_eq_true rfl) rfl rfl (fun x29 M30 => ?_)
      exact V_iret dL_act_326 rfl rfl ⟨(Nat.le_of_ble_eq_true rfl), (Nat.le_of_ble_eq_true rfl)⟩
    · refine V_ldc (x := (-2147483648)) kc_L_126 dL_act_310 rfl ?_
      refine V_goto (q := 326) dL_act_312 (by decide) ?_
      exact V_iret dL_act_326 rfl rfl ⟨(Nat.le_of_ble_eq_true rfl), (Nat.le_of_ble_eq_true rfl)⟩
  refine V_if (fun ht103_12 => ?_) (fun ht103_12 => ?_)
  · refine V_tsIn ht103_12 dL_act_103 (by decide) (by decide) (off := 224) (q := 327) rfl (by decide) ?_
    refine V_iload dL_act_327 rfl 5 rfl ?_
    refine V_if_ne (q := 337) (q2 := 332) dL_act_329 (by decide) rfl ?_ ?_
    · refine V_aload_n dL_act_337 rfl 0 rfl ?_
      refine V_iload_n dL_act_338 rfl 3 rfl ?_
      refine V_iload dL_act_339 rfl 6 rfl ?_
      refine V_iload dL_act_341 rfl 7 rfl ?_
      refine V_iload dL_act_343 rfl 4 rfl ?_
      refine V_cSWI (As := [.ref l0, .int l3, .int l6, .int s0, .int l4]) (k_L_moved l0 l3 l6 s0 l4 M) ok_L_moved sm_L_moved ml_L_223 ⟨⟨(Nat.le_of_ble_eq_true rfl), (Nat.le_of_ble_eq_true rfl)⟩, (Nat.le_of_ble_eq_true rfl), (Nat.le_of_ble_eq_true rfl)⟩ dL_act_345 rfl rfl rfl (Nat.le_of_ble_eq_true rfl) rfl rfl (fun x31 M32 => ?_)
      exact V_iret dL_act_348 rfl rfl ⟨(Nat.le_of_ble_eq_true rfl), (Nat.le_of_ble_eq_true rfl)⟩
    · refine V_ldc (x := (-2147483648)) kc_L_126 dL_act_332 rfl ?_
      refine V_goto (q := 348) dL_act_334 (by decide) ?_
      exact V_iret dL_act_348 rfl rfl ⟨(Nat.le_of_ble_eq_true rfl), (Nat.le_of_ble_eq_true rfl)⟩
  refine V_if (fun ht103_13 => ?_) (fun ht103_13 => ?_)
  · refine V_tsIn ht103_13 dL_act_103 (by decide) (by decide) (off := 246) (q := 349) rfl (by decide) ?_
    refine V_aload_n dL_act_349 rfl 0 rfl ?_
    refine V_iload_n dL_act_350 rfl 3 rfl ?_
    refine V_cSWI (As := [.ref l0, .int l3]) (k_L_closed l0 l3 M) ok_L_closed sm_L_closed ml_L_226 ⟨⟨(Nat.le_of_ble_eq_true rfl), (Nat.le_of_ble_eq_true rfl)⟩, (Nat.le_of_ble_eq_true rfl), (Nat.le_of_ble_eq_true rfl)⟩ dL_act_351 rfl rfl rfl (Nat.le_of_ble_eq_true rfl) rfl rfl (fun x33 M34 => ?_)
    exact V_iret dL_act_354 rfl rfl ⟨(Nat.le_of_ble_eq_true rfl), (Nat.le_of_ble_eq_true rfl)⟩
  refine V_tsOut (q := 355) (ts_14 ht103_0 ht103_1 ht103_2 ht103_3 ht103_4 ht103_5 ht103_6 ht103_7 ht103_8 ht103_9 ht103_10 ht103_11 ht103_12 ht103_13) dL_act_103 (by decide) ?_
  refine V_aload_n dL_act_355 rfl 0 rfl ?_
  refine V_iload dL_act_356 rfl 4 rfl ?_
  refine V_iconst (x := 1) dL_act_358 rfl rfl ?_
  refine V_iload dL_act_359 rfl 8 rfl ?_
  refine V_iadd dL_act_361 rfl ?_
  refine V_iload dL_act_362 rfl 8 rfl ?_
  refine V_cSWI (As := [.ref l0, .int l4, .int (1 + x11), .int x11]) (k_L_delivered l0 l4 (1 + x11) x11 M) ok_L_delivered sm_L_delivered ml_L_229 ⟨⟨(Nat.le_of_ble_eq_true rfl), (Nat.le_of_ble_eq_true rfl)⟩, (Nat.le_of_ble_eq_true rfl), (Nat.le_of_ble_eq_true rfl)⟩ dL_act_364 rfl rfl rfl (Nat.le_of_ble_eq_true rfl) rfl rfl (fun x35 M36 => ?_)
  exact V_iret dL_act_367 rfl rfl ⟨(Nat.le_of_ble_eq_true rfl), (Nat.le_of_ble_eq_true rfl)⟩
theorem v_L_act_53 (l0 : Nat) (l1 : Nat) (l2 : Int32) (l3 : Int32) (l4 : Int32) (l5 : Int32) (s0 : Int32) (M : Mem) : V mi_L_act 53 [(0, .ref l0), (1, .ref l1), (2, .int l2), (3, .int l3), (4, .int l4), (5, .int l5)] [.int s0] M 4 24 (f_L_act_53 l0 l1 l2 l3 l4 l5 s0 M) tI := by
  unfold f_L_act_53
  refine V_istore (L' := [(0, .ref l0), (1, .ref l1), (2, .int l2), (3, .int l3), (4, .int l4), (5, .int l5), (6, .int s0)]) dL_act_53 rfl (by decide) rfl ?_
  refine V_iload dL_act_55 rfl 5 rfl ?_
  refine V_if_ne (q := 64) (q2 := 60) dL_act_57 (by decide) rfl ?_ ?_
  · refine V_iload dL_act_64 rfl 6 rfl ?_
    refine V_aload_n dL_act_66 rfl 1 rfl ?_
    refine V_iload_n dL_act_67 rfl 2 rfl ?_
    refine V_iconst (x := 3) dL_act_68 rfl rfl ?_
    refine V_iadd dL_act_69 rfl ?_
    refine V_iload dL_act_70 rfl 5 rfl ?_
    refine V_iload dL_act_72 rfl 6 rfl ?_
    refine V_isub dL_act_74 rfl ?_
    refine V_iconst (x := 1) dL_act_75 rfl rfl ?_
    refine V_iadd dL_act_76 rfl ?_
    refine V_cSeI (As := [.ref l1, .int (l2 + 3), .int ((l5 - s0) + 1)]) (k_L_draw l1 (l2 + 3) ((l5 - s0) + 1) M) ok_L_draw sm_L_draw ml_L_64 ⟨⟨(Nat.le_of_ble_eq_true rfl), (Nat.le_of_ble_eq_true rfl)⟩, (Nat.le_of_ble_eq_true rfl), (Nat.le_of_ble_eq_true rfl)⟩ dL_act_77 rfl rfl rfl (Nat.le_of_ble_eq_true rfl) rfl rfl (fun x10 => ?_)
    refine V_iadd dL_act_80 rfl ?_
    exact v_L_act_81 l0 l1 l2 l3 l4 l5 s0 (s0 + x10) M
  · refine V_iconst (x := 0) dL_act_60 rfl rfl ?_
    refine V_goto (q := 81) dL_act_61 (by decide) ?_
    exact v_L_act_81 l0 l1 l2 l3 l4 l5 s0 0 M
theorem v_L_act (a0 : Nat) (a1 : Nat) (a2 : Int32) (M : Mem) : V mi_L_act 0 [(0, .ref a0), (1, .ref a1), (2, .int a2)] [] M 0 0 (f_L_act a0 a1 a2 M) tI := by
  unfold f_L_act
  refine V_aload_n dL_act_0 rfl 1 rfl ?_
  refine V_iload_n dL_act_1 rfl 2 rfl ?_
  refine V_aload_n dL_act_2 rfl 0 rfl ?_
  refine V_iconst (x := 1) dL_act_3 rfl rfl ?_
  refine V_cVtI (As := [.int 1]) (k_X11_property a0 1 M) rfl (fun _ _ => rfl) (fun _ h => o_X11_property h) ok_X11_property im_X11_property se_X11_property rfl (ci := 10) rfl ml_L_110 ⟨⟨(Nat.le_of_ble_eq_true rfl), (Nat.le_of_ble_eq_true rfl)⟩, (Nat.le_of_ble_eq_true rfl), (Nat.le_of_ble_eq_true rfl)⟩ dL_act_4 rfl rfl rfl (Nat.le_of_ble_eq_true rfl) rfl rfl (fun x1 M2 => ?_)
  refine V_cSeI (As := [.ref a1, .int a2, .int x1]) (k_L_draw a1 a2 x1 M2) ok_L_draw sm_L_draw ml_L_64 ⟨⟨(Nat.le_of_ble_eq_true rfl), (Nat.le_of_ble_eq_true rfl)⟩, (Nat.le_of_ble_eq_true rfl), (Nat.le_of_ble_eq_true rfl)⟩ dL_act_7 rfl rfl rfl (Nat.le_of_ble_eq_true rfl) rfl rfl (fun x3 => ?_)
  refine V_istore_n (L' := [(0, .ref a0), (1, .ref a1), (2, .int a2), (3, .int x3)]) dL_act_10 rfl (by decide) rfl ?_
  refine V_aload_n dL_act_11 rfl 1 rfl ?_
  refine V_iload_n dL_act_12 rfl 2 rfl ?_
  refine V_iconst (x := 1) dL_act_13 rfl rfl ?_
  refine V_iadd dL_act_14 rfl ?_
  refine V_aload_n dL_act_15 rfl 0 rfl ?_
  refine V_iconst (x := 0) dL_act_16 rfl rfl ?_
  refine V_cVtI (As := [.int 0]) (k_X11_property a0 0 M2) rfl (fun _ _ => rfl) (fun _ h => o_X11_property h) ok_X11_property im_X11_property se_X11_property rfl (ci := 10) rfl ml_L_110 ⟨⟨(Nat.le_of_ble_eq_true rfl), (Nat.le_of_ble_eq_true rfl)⟩, (Nat.le_of_ble_eq_true rfl), (Nat.le_of_ble_eq_true rfl)⟩ dL_act_17 rfl rfl rfl (Nat.le_of_ble_eq_true rfl) rfl rfl (fun x4 M5 => ?_)
  refine V_cSeI (As := [.ref a1, .int (a2 + 1), .int x4]) (k_L_draw a1 (a2 + 1) x4 M5) ok_L_draw sm_L_draw ml_L_64 ⟨⟨(Nat.le_of_ble_eq_true rfl), (Nat.le_of_ble_eq_true rfl)⟩, (Nat.le_of_ble_eq_true rfl), (Nat.le_of_ble_eq_true rfl)⟩ dL_act_20 rfl rfl rfl (Nat.le_of_ble_eq_true rfl) rfl rfl (fun x6 => ?_)
  refine V_istore (L' := [(0, .ref a0), (1, .ref a1), (2, .int a2), (3, .int x3), (4, .int x6)]) dL_act_23 rfl (by decide) rfl ?_
  refine V_aload_n dL_act_25 rfl 0 rfl ?_
  refine V_iload_n dL_act_26 rfl 3 rfl ?_
  refine V_iconst (x := 3) dL_act_27 rfl rfl ?_
  refine V_cVtI (As := [.int x3, .int 3]) (k_X11_session a0 x3 3 M5) rfl (fun _ _ => rfl) (fun _ h => o_X11_session h) ok_X11_session im_X11_session se_X11_session rfl (ci := 10) rfl ml_L_117 ⟨⟨(Nat.le_of_ble_eq_true rfl), (Nat.le_of_ble_eq_true rfl)⟩, (Nat.le_of_ble_eq_true rfl), (Nat.le_of_ble_eq_true rfl)⟩ dL_act_28 rfl rfl rfl (Nat.le_of_ble_eq_true rfl) rfl rfl (fun x7 M8 => ?_)
  refine V_istore (L' := [(0, .ref a0), (1, .ref a1), (2, .int a2), (3, .int x3), (4, .int x6), (5, .int x7)]) dL_act_31 rfl (by decide) rfl ?_
  refine V_iload dL_act_33 rfl 5 rfl ?_
  refine V_if_ne (q := 42) (q2 := 38) dL_act_35 (by decide) rfl ?_ ?_
  · refine V_iconst (x := 1) dL_act_42 rfl rfl ?_
    refine V_aload_n dL_act_43 rfl 1 rfl ?_
    refine V_iload_n dL_act_44 rfl 2 rfl ?_
    refine V_iconst (x := 2) dL_act_45 rfl rfl ?_
    refine V_iadd dL_act_46 rfl ?_
    refine V_iload dL_act_47 rfl 5 rfl ?_
    refine V_cSeI (As := [.ref a1, .int (a2 + 2), .int x7]) (k_L_draw a1 (a2 + 2) x7 M8) ok_L_draw sm_L_draw ml_L_64 ⟨⟨(Nat.le_of_ble_eq_true rfl), (Nat.le_of_ble_eq_true rfl)⟩, (Nat.le_of_ble_eq_true rfl), (Nat.le_of_ble_eq_true rfl)⟩ dL_act_49 rfl rfl rfl (Nat.le_of_ble_eq_true rfl) rfl rfl (fun x9 => ?_)
    refine V_iadd dL_act_52 rfl ?_
    exact v_L_act_53 a0 a1 a2 x3 x6 x7 (1 + x9) M8
  · refine V_iconst (x := 0) dL_act_38 rfl rfl ?_
    refine V_goto (q := 53) dL_act_39 (by decide) ?_
    exact v_L_act_53 a0 a1 a2 x3 x6 x7 0 M8
theorem k_L_act (a0 : Nat) (a1 : Nat) (a2 : Int32) (M : Mem) : K mi_L_act [.ref a0, .ref a1, .int a2] M (f_L_act a0 a1 a2 M) tI := K_of_V ok_L_act (Nat.le_of_ble_eq_true rfl) (v_L_act a0 a1 a2 M)
theorem dL_views_0 : decode cL_views 0 = .ok (.aload_n 0, 1) := by decide +kernel
theorem dL_views_1 : decode cL_views 1 = .ok (.iconst 1, 1) := by decide +kernel
theorem dL_views_2 : decode cL_views 2 = .ok (.invokevirtual 110, 3) := by decide +kernel
theorem dL_views_5 : decode cL_views 5 = .ok (.anewarray 233, 3) := by decide +kernel
theorem dL_views_8 : decode cL_views 8 = .ok (.astore_n 2, 1) := by decide +kernel
theorem dL_views_9 : decode cL_views 9 = .ok (.iconst 0, 1) := by decide +kernel
theorem dL_views_10 : decode cL_views 10 = .ok (.istore_n 3, 1) := by decide +kernel
theorem dL_views_11 : decode cL_views 11 = .ok (.iload_n 3, 1) := by decide +kernel
theorem dL_views_12 : decode cL_views 12 = .ok (.aload_n 2, 1) := by decide +kernel
theorem dL_views_13 : decode cL_views 13 = .ok (.arraylength, 1) := by decide +kernel
theorem dL_views_14 : decode cL_views 14 = .ok (.if_icmp .ge 54, 3) := by decide +kernel
theorem dL_views_17 : decode cL_views 17 = .ok (.aload_n 2, 1) := by decide +kernel
theorem dL_views_18 : decode cL_views 18 = .ok (.iload_n 3, 1) := by decide +kernel
theorem dL_views_19 : decode cL_views 19 = .ok (.aload_n 0, 1) := by decide +kernel
theorem dL_views_20 : decode cL_views 20 = .ok (.iload_n 3, 1) := by decide +kernel
theorem dL_views_21 : decode cL_views 21 = .ok (.iconst 3, 1) := by decide +kernel
theorem dL_views_22 : decode cL_views 22 = .ok (.invokevirtual 117, 3) := by decide +kernel
theorem dL_views_25 : decode cL_views 25 = .ok (.newarray .int, 2) := by decide +kernel
theorem dL_views_27 : decode cL_views 27 = .ok (.aastore, 1) := by decide +kernel
theorem dL_views_28 : decode cL_views 28 = .ok (.iconst 0, 1) := by decide +kernel
theorem dL_views_29 : decode cL_views 29 = .ok (.istore 4, 2) := by decide +kernel
theorem dL_views_31 : decode cL_views 31 = .ok (.iload 4, 2) := by decide +kernel
theorem dL_views_33 : decode cL_views 33 = .ok (.aload_n 2, 1) := by decide +kernel
theorem dL_views_34 : decode cL_views 34 = .ok (.iload_n 3, 1) := by decide +kernel
theorem dL_views_35 : decode cL_views 35 = .ok (.aaload, 1) := by decide +kernel
theorem dL_views_36 : decode cL_views 36 = .ok (.arraylength, 1) := by decide +kernel
theorem dL_views_37 : decode cL_views 37 = .ok (.if_icmp .ge 25, 3) := by decide +kernel
theorem dL_views_40 : decode cL_views 40 = .ok (.aload_n 2, 1) := by decide +kernel
theorem dL_views_41 : decode cL_views 41 = .ok (.iload_n 3, 1) := by decide +kernel
theorem dL_views_42 : decode cL_views 42 = .ok (.aaload, 1) := by decide +kernel
theorem dL_views_43 : decode cL_views 43 = .ok (.iload 4, 2) := by decide +kernel
theorem dL_views_45 : decode cL_views 45 = .ok (.aload_n 0, 1) := by decide +kernel
theorem dL_views_46 : decode cL_views 46 = .ok (.iload_n 3, 1) := by decide +kernel
theorem dL_views_47 : decode cL_views 47 = .ok (.iload 4, 2) := by decide +kernel
theorem dL_views_49 : decode cL_views 49 = .ok (.iconst 1, 1) := by decide +kernel
theorem dL_views_50 : decode cL_views 50 = .ok (.iadd, 1) := by decide +kernel
theorem dL_views_51 : decode cL_views 51 = .ok (.iload_n 1, 1) := by decide +kernel
theorem dL_views_52 : decode cL_views 52 = .ok (.invokevirtual 175, 3) := by decide +kernel
theorem dL_views_55 : decode cL_views 55 = .ok (.iastore, 1) := by decide +kernel
theorem dL_views_56 : decode cL_views 56 = .ok (.iinc 4 1, 3) := by decide +kernel
theorem dL_views_59 : decode cL_views 59 = .ok (.goto (-28), 3) := by decide +kernel
theorem dL_views_62 : decode cL_views 62 = .ok (.iinc 3 1, 3) := by decide +kernel
theorem dL_views_65 : decode cL_views 65 = .ok (.goto (-54), 3) := by decide +kernel
theorem dL_views_68 : decode cL_views 68 = .ok (.aload_n 2, 1) := by decide +kernel
theorem dL_views_69 : decode cL_views 69 = .ok (.areturn, 1) := by decide +kernel
def mi_L_views : MI := (RL, yL_views, cL_views, 5, some (.array (.array .int)), [], { frames := 10, cells := 932, slots := 5884, locals := 168 })
theorem ok_L_views : mOK mi_L_views 2 := ⟨rfl, cw_L_views, ini_L, ⟨rfl, by decide⟩, by decide, by decide, rfl⟩
theorem v_L_views_62 (fo : Nat) (rc11 : Nat → Int32 → Nat → Int32 → Mem → Option ((Nat ⊕ String) × Mem)) (h11 : ∀ (l0 : Nat) (l1 : Int32) (l2 : Nat) (l3 : Int32) (M : Mem) (k n : Nat) (_ : kb 932 5884 186 1174 fo k n), V mi_L_views 11 [(0, .ref l0), (1, .int l1), (2, .ref l2), (3, .int l3)] [] M k n (rc11 l0 l1 l2 l3 M) tR) (l0 : Nat) (l1 : Int32) (l2 : Nat) (l3 : Int32) (M : Mem) (k n : Nat) (hb : kb 932 5884 186 1174 (fo + 1) k n) : V mi_L_views 62 [(0, .ref l0), (1, .int l1), (2, .ref l2), (3, .int l3)] [] M (k + 186) (n + 1174) (f_L_views_62 rc11 l0 l1 l2 l3 M) tR := by
  unfold f_L_views_62
  refine V_iinc (y := (l3 + 1)) (L' := [(0, .ref l0), (1, .int l1), (2, .ref l2), (3, .int (l3 + 1))]) dL_views_62 rfl 3 rfl rfl (by decide) rfl ?_
  refine V_goto (q := 11) dL_views_65 (by decide) ?_
  exact h11 l0 l1 l2 (l3 + 1) M _ _ (kb_next hb (Nat.le_of_ble_eq_true rfl) (Nat.le_of_ble_eq_true rfl))
theorem v_L_views_31 (fo k n : Nat) (hb : kb 932 5884 186 1174 (fo + 1) k n) (rc11 : Nat → Int32 → Nat → Int32 → Mem → Option ((Nat ⊕ String) × Mem)) (h11 : ∀ (l0 : Nat) (l1 : Int32) (l2 : Nat) (l3 : Int32) (M : Mem) (k n : Nat) (_ : kb 932 5884 186 1174 fo k n), V mi_L_views 11 [(0, .ref l0), (1, .int l1), (2, .ref l2), (3, .int l3)] [] M k n (rc11 l0 l1 l2 l3 M) tR) : ∀ (fu : Nat) (l0 : Nat) (l1 : Int32) (l2 : Nat) (l3 : Int32) (l4 : Int32) (M : Mem) (kk nn : Nat) (_ : kb (k + 186) (n + 1174) 3 18 fu kk nn), V mi_L_views 31 [(0, .ref l0), (1, .int l1), (2, .ref l2), (3, .int l3), (4, .int l4)] [] M kk nn (f_L_views_31 rc11 fu l0 l1 l2 l3 l4 M) tR := by
  intro fu
  induction fu with
  | zero => intros; exact V_none
  | succ fu ih =>
    intro l0 l1 l2 l3 l4 M kk nn hb2
    show V mi_L_views 31 [(0, .ref l0), (1, .int l1), (2, .ref l2), (3, .int l3), (4, .int l4)] [] M kk nn (f_L_views_31  rc11 (fu + 1) l0 l1 l2 l3 l4 M) tR
    unfold f_L_views_31
    refine V_iload dL_views_31 rfl 4 rfl ?_
    refine V_aload_n dL_views_33 rfl 2 rfl ?_
    refine V_iload_n dL_views_34 rfl 3 rfl ?_
    refine V_aaloadA dL_views_35 rfl (fun x9 => ?_)
    refine V_nn (fun r11 hqr11 => ?_)
    subst hqr11
    refine V_arraylength dL_views_36 rfl (fun x10 => ?_)
    refine V_icmp_ge (q := 62) (q2 := 40) dL_views_37 (by decide) rfl ?_ ?_
    · exact V_sub [0, 1, 2, 3] rfl (V_w (kb_ck0 hb2 (Nat.add_le_add_left (Nat.le_of_ble_eq_true rfl) _)) (kb_sk0 hb2 (Nat.add_le_add_left (Nat.le_of_ble_eq_true rfl) _)) (v_L_views_62 fo rc11 h11 l0 l1 l2 l3 M k n hb))
    · refine V_aload_n dL_views_40 rfl 2 rfl ?_
      refine V_iload_n dL_views_41 rfl 3 rfl ?_
      refine V_aaloadA dL_views_42 rfl (fun x12 => ?_)
      refine V_iload dL_views_43 rfl 4 rfl ?_
      refine V_aload_n dL_views_45 rfl 0 rfl ?_
      refine V_iload_n dL_views_46 rfl 3 rfl ?_
      refine V_iload dL_views_47 rfl 4 rfl ?_
      refine V_iconst (x := 1) dL_views_49 rfl rfl ?_
      refine V_iadd dL_views_50 rfl ?_
      refine V_iload_n dL_views_51 rfl 1 rfl ?_
      refine V_cVtI (As := [.int l3, .int (l4 + 1), .int l1]) (k_X11_entry l0 l3 (l4 + 1) l1 M) rfl (fun _ _ => rfl) (fun _ h => o_X11_entry h) ok_X11_entry im_X11_entry se_X11_entry rfl (ci := 10) rfl ml_L_175 ⟨⟨(Nat.le_of_ble_eq_true rfl), (Nat.le_of_ble_eq_true rfl)⟩, kb2_c0 hb hb2 (Nat.le_of_ble_eq_true rfl) (Nat.le_of_ble_eq_true rfl) (Nat.le_of_ble_eq_true rfl), kb2_s0 hb hb2 (Nat.le_of_ble_eq_true rfl) (Nat.le_of_ble_eq_true rfl) (Nat.le_of_ble_eq_true rfl)⟩ dL_views_52 rfl rfl rfl (by rcases (x12 : Option Nat) with _ | _ <;> exact Nat.le_of_ble_eq_true rfl) rfl rfl (fun x13 M14 => ?_)
      refine V_nn (fun r16 hqr16 => ?_)
      subst hqr16
      refine V_iastore dL_views_55 rfl (fun M15 => ?_)
      refine V_iinc (y := (l4 + 1)) (L' := [(0, .ref l0), (1, .int l1), (2, .ref l2), (3, .int l3), (4, .int (l4 + 1))]) dL_views_56 rfl 4 rfl rfl (by decide) rfl ?_
      refine V_goto (q := 31) dL_views_59 (by decide) ?_
      exact ih l0 l1 l2 l3 (l4 + 1) M15 _ _ (kb_next hb2 (Nat.le_of_ble_eq_true rfl) (Nat.le_of_ble_eq_true rfl))
theorem v_L_views_11 : ∀ (fu : Nat) (l0 : Nat) (l1 : Int32) (l2 : Nat) (l3 : Int32) (M : Mem) (k n : Nat) (_ : kb 932 5884 186 1174 fu k n), V mi_L_views 11 [(0, .ref l0), (1, .int l1), (2, .ref l2), (3, .int l3)] [] M k n (f_L_views_11 fu l0 l1 l2 l3 M) tR := by
  intro fu
  induction fu with
  | zero => intros; exact V_none
  | succ fu ih =>
    intro l0 l1 l2 l3 M k n hb
    show V mi_L_views 11 [(0, .ref l0), (1, .int l1), (2, .ref l2), (3, .int l3)] [] M k n (f_L_views_11 (fu + 1) l0 l1 l2 l3 M) tR
    unfold f_L_views_11
    refine V_iload_n dL_views_11 rfl 3 rfl ?_
    refine V_aload_n dL_views_12 rfl 2 rfl ?_
    refine V_arraylength dL_views_13 rfl (fun x4 => ?_)
    refine V_icmp_ge (q := 68) (q2 := 17) dL_views_14 (by decide) rfl ?_ ?_
    · refine V_aload_n dL_views_68 rfl 2 rfl ?_
      exact V_aret (v := some l2) dL_views_69 rfl (Or.inr ⟨_, rfl⟩) rfl ⟨kb_ck0 hb (Nat.le_of_ble_eq_true rfl), kb_sk0 hb (Nat.le_of_ble_eq_true rfl)⟩
    · refine V_aload_n dL_views_17 rfl 2 rfl ?_
      refine V_iload_n dL_views_18 rfl 3 rfl ?_
      refine V_aload_n dL_views_19 rfl 0 rfl ?_
      refine V_iload_n dL_views_20 rfl 3 rfl ?_
      refine V_iconst (x := 3) dL_views_21 rfl rfl ?_
      refine V_cVtI (As := [.int l3, .int 3]) (k_X11_session l0 l3 3 M) rfl (fun _ _ => rfl) (fun _ h => o_X11_session h) ok_X11_session im_X11_session se_X11_session rfl (ci := 10) rfl ml_L_117 ⟨⟨(Nat.le_of_ble_eq_true rfl), (Nat.le_of_ble_eq_true rfl)⟩, kb_c0 hb (Nat.le_of_ble_eq_true rfl) (Nat.le_of_ble_eq_true rfl), kb_s0 hb (Nat.le_of_ble_eq_true rfl) (Nat.le_of_ble_eq_true rfl)⟩ dL_views_22 rfl rfl rfl (Nat.le_of_ble_eq_true rfl) rfl rfl (fun x5 M6 => ?_)
      refine V_newarrayD dL_views_25 rfl (t := 0) (N := 64) (x := fun m => (m, .inl (fun _ => 0))) rfl ar_0 (Nat.le_of_ble_eq_true rfl) (fun _ _ _ => rfl) (fun _ _ h => h) ⟨kb_c hb (Nat.le_of_ble_eq_true rfl) (Nat.le_of_ble_eq_true rfl), kb_s hb (Nat.le_of_ble_eq_true rfl) (Nat.le_of_ble_eq_true rfl)⟩ (fun r7 => ?_)
      refine V_aastoreA ao_9 dL_views_27 rfl (fun M8 => ?_)
      refine V_iconst (x := 0) dL_views_28 rfl rfl ?_
      refine V_istore (L' := [(0, .ref l0), (1, .int l1), (2, .ref l2), (3, .int l3), (4, .int 0)]) dL_views_29 rfl (by decide) rfl ?_
      exact v_L_views_31 fu k n hb (f_L_views_11 fu) ih 61 l0 l1 l2 l3 0 M8 (k + 3) (n + 76) (kb_in (Nat.le_of_ble_eq_true rfl) (Nat.le_of_ble_eq_true rfl))
theorem v_L_views (a0 : Nat) (a1 : Int32) (M : Mem) : V mi_L_views 0 [(0, .ref a0), (1, .int a1)] [] M 0 0 (f_L_views a0 a1 M) tR := by
  unfold f_L_views
  refine V_aload_n dL_views_0 rfl 0 rfl ?_
  refine V_iconst (x := 1) dL_views_1 rfl rfl ?_
  refine V_cVtI (As := [.int 1]) (k_X11_property a0 1 M) rfl (fun _ _ => rfl) (fun _ h => o_X11_property h) ok_X11_property im_X11_property se_X11_property rfl (ci := 10) rfl ml_L_110 ⟨⟨(Nat.le_of_ble_eq_true rfl), (Nat.le_of_ble_eq_true rfl)⟩, (Nat.le_of_ble_eq_true rfl), (Nat.le_of_ble_eq_true rfl)⟩ dL_views_2 rfl rfl rfl (Nat.le_of_ble_eq_true rfl) rfl rfl (fun x1 M2 => ?_)
  refine V_anewarrayA (N := 8) dL_views_5 rfl cl_L_233 ao_9 (Nat.le_of_ble_eq_true rfl) ⟨(Nat.le_of_ble_eq_true rfl), (Nat.le_of_ble_eq_true rfl)⟩ (fun r3 => ?_)
  refine V_astore_n (L' := [(0, .ref a0), (1, .int a1), (2, .ref r3)]) dL_views_8 rfl (by decide) rfl ?_
  refine V_iconst (x := 0) dL_views_9 rfl rfl ?_
  refine V_istore_n (L' := [(0, .ref a0), (1, .int a1), (2, .ref r3), (3, .int 0)]) dL_views_10 rfl (by decide) rfl ?_
  exact v_L_views_11 5 a0 a1 r3 0 (mnew M2 (.inl (9, (x1.toNatClampNeg, .inr (.inr (.inr (.inr (fun _ => none)))))))) 2 14 ⟨(Nat.le_of_ble_eq_true rfl), (Nat.le_of_ble_eq_true rfl)⟩
theorem k_L_views (a0 : Nat) (a1 : Int32) (M : Mem) : K mi_L_views [.ref a0, .int a1] M (f_L_views a0 a1 M) tR := K_of_V ok_L_views (Nat.le_of_ble_eq_true rfl) (v_L_views a0 a1 M)
theorem dL_without_0 : decode cL_without 0 = .ok (.aload_n 0, 1) := by decide +kernel
theorem dL_without_1 : decode cL_without 1 = .ok (.arraylength, 1) := by decide +kernel
theorem dL_without_2 : decode cL_without 2 = .ok (.iconst 1, 1) := by decide +kernel
theorem dL_without_3 : decode cL_without 3 = .ok (.isub, 1) := by decide +kernel
theorem dL_without_4 : decode cL_without 4 = .ok (.newarray .int, 2) := by decide +kernel
theorem dL_without_6 : decode cL_without 6 = .ok (.astore_n 2, 1) := by decide +kernel
theorem dL_without_7 : decode cL_without 7 = .ok (.iconst 0, 1) := by decide +kernel
theorem dL_without_8 : decode cL_without 8 = .ok (.istore_n 3, 1) := by decide +kernel
theorem dL_without_9 : decode cL_without 9 = .ok (.iload_n 3, 1) := by decide +kernel
theorem dL_without_10 : decode cL_without 10 = .ok (.aload_n 2, 1) := by decide +kernel
theorem dL_without_11 : decode cL_without 11 = .ok (.arraylength, 1) := by decide +kernel
theorem dL_without_12 : decode cL_without 12 = .ok (.if_icmp .ge 26, 3) := by decide +kernel
theorem dL_without_15 : decode cL_without 15 = .ok (.aload_n 2, 1) := by decide +kernel
theorem dL_without_16 : decode cL_without 16 = .ok (.iload_n 3, 1) := by decide +kernel
theorem dL_without_17 : decode cL_without 17 = .ok (.aload_n 0, 1) := by decide +kernel
theorem dL_without_18 : decode cL_without 18 = .ok (.iload_n 3, 1) := by decide +kernel
theorem dL_without_19 : decode cL_without 19 = .ok (.iload_n 1, 1) := by decide +kernel
theorem dL_without_20 : decode cL_without 20 = .ok (.if_icmp .ge 7, 3) := by decide +kernel
theorem dL_without_23 : decode cL_without 23 = .ok (.iload_n 3, 1) := by decide +kernel
theorem dL_without_24 : decode cL_without 24 = .ok (.goto 6, 3) := by decide +kernel
theorem dL_without_27 : decode cL_without 27 = .ok (.iload_n 3, 1) := by decide +kernel
theorem dL_without_28 : decode cL_without 28 = .ok (.iconst 1, 1) := by decide +kernel
theorem dL_without_29 : decode cL_without 29 = .ok (.iadd, 1) := by decide +kernel
theorem dL_without_30 : decode cL_without 30 = .ok (.iaload, 1) := by decide +kernel
theorem dL_without_31 : decode cL_without 31 = .ok (.iastore, 1) := by decide +kernel
theorem dL_without_32 : decode cL_without 32 = .ok (.iinc 3 1, 3) := by decide +kernel
theorem dL_without_35 : decode cL_without 35 = .ok (.goto (-26), 3) := by decide +kernel
theorem dL_without_38 : decode cL_without 38 = .ok (.aload_n 2, 1) := by decide +kernel
theorem dL_without_39 : decode cL_without 39 = .ok (.areturn, 1) := by decide +kernel
def mi_L_without : MI := (RL, yL_without, cL_without, 4, some (.array .int), [], { frames := 1, cells := 1, slots := 64, locals := 12 })
theorem ok_L_without : mOK mi_L_without 2 := ⟨rfl, cw_L_without, ini_L, ⟨rfl, by decide⟩, by decide, by decide, rfl⟩
theorem v_L_without_30 (rc9 : Nat → Int32 → Nat → Int32 → Mem → Option (Nat × Mem)) (h9 : ∀ (l0 : Nat) (l1 : Int32) (l2 : Nat) (l3 : Int32) (M : Mem), V mi_L_without 9 [(0, .ref l0), (1, .int l1), (2, .ref l2), (3, .int l3)] [] M 1 64 (rc9 l0 l1 l2 l3 M) wR) (l0 : Nat) (l1 : Int32) (l2 : Nat) (l3 : Int32) (s0 : Nat) (s1 : Int32) (s2 : Nat) (s3 : Int32) (M : Mem) : V mi_L_without 30 [(0, .ref l0), (1, .int l1), (2, .ref l2), (3, .int l3)] [.int s3, .ref s2, .int s1, .ref s0] M 1 64 (f_L_without_30 rc9 l0 l1 l2 l3 s0 s1 s2 s3 M) wR := by
  unfold f_L_without_30
  refine V_iaload dL_without_30 rfl (fun x4 => ?_)
  refine V_iastore dL_without_31 rfl (fun M5 => ?_)
  refine V_iinc (y := (l3 + 1)) (L' := [(0, .ref l0), (1, .int l1), (2, .ref l2), (3, .int (l3 + 1))]) dL_without_32 rfl 3 rfl rfl (by decide) rfl ?_
  refine V_goto (q := 9) dL_without_35 (by decide) ?_
  exact h9 l0 l1 l2 (l3 + 1) M5
theorem v_L_without_9 : ∀ (fu : Nat) (l0 : Nat) (l1 : Int32) (l2 : Nat) (l3 : Int32) (M : Mem), V mi_L_without 9 [(0, .ref l0), (1, .int l1), (2, .ref l2), (3, .int l3)] [] M 1 64 (f_L_without_9 fu l0 l1 l2 l3 M) wR := by
  intro fu
  induction fu with
  | zero => intros; exact V_none
  | succ fu ih =>
    intro l0 l1 l2 l3 M
    show V mi_L_without 9 [(0, .ref l0), (1, .int l1), (2, .ref l2), (3, .int l3)] [] M 1 64 (f_L_without_9 (fu + 1) l0 l1 l2 l3 M) wR
    unfold f_L_without_9
    refine V_iload_n dL_without_9 rfl 3 rfl ?_
    refine V_aload_n dL_without_10 rfl 2 rfl ?_
    refine V_arraylength dL_without_11 rfl (fun x3 => ?_)
    refine V_icmp_ge (q := 38) (q2 := 15) dL_without_12 (by decide) rfl ?_ ?_
    · refine V_aload_n dL_without_38 rfl 2 rfl ?_
      exact V_aret (v := some l2) dL_without_39 rfl (Or.inr ⟨_, rfl⟩) rfl ⟨(Nat.le_of_ble_eq_true rfl), (Nat.le_of_ble_eq_true rfl)⟩
    · refine V_aload_n dL_without_15 rfl 2 rfl ?_
      refine V_iload_n dL_without_16 rfl 3 rfl ?_
      refine V_aload_n dL_without_17 rfl 0 rfl ?_
      refine V_iload_n dL_without_18 rfl 3 rfl ?_
      refine V_iload_n dL_without_19 rfl 1 rfl ?_
      refine V_icmp_ge (q := 27) (q2 := 23) dL_without_20 (by decide) rfl ?_ ?_
      · refine V_iload_n dL_without_27 rfl 3 rfl ?_
        refine V_iconst (x := 1) dL_without_28 rfl rfl ?_
        refine V_iadd dL_without_29 rfl ?_
        exact v_L_without_30 (f_L_without_9 fu) ih l0 l1 l2 l3 l2 l3 l0 (l3 + 1) M
      · refine V_iload_n dL_without_23 rfl 3 rfl ?_
        refine V_goto (q := 30) dL_without_24 (by decide) ?_
        exact v_L_without_30 (f_L_without_9 fu) ih l0 l1 l2 l3 l2 l3 l0 l3 M
theorem v_L_without (a0 : Nat) (a1 : Int32) (M : Mem) : V mi_L_without 0 [(0, .ref a0), (1, .int a1)] [] M 0 0 (f_L_without a0 a1 M) wR := by
  unfold f_L_without
  refine V_aload_n dL_without_0 rfl 0 rfl ?_
  refine V_arraylength dL_without_1 rfl (fun x1 => ?_)
  refine V_iconst (x := 1) dL_without_2 rfl rfl ?_
  refine V_isub dL_without_3 rfl ?_
  refine V_newarrayD dL_without_4 rfl (t := 0) (N := 64) (x := fun m => (m, .inl (fun _ => 0))) rfl ar_0 (Nat.le_of_ble_eq_true rfl) (fun _ _ _ => rfl) (fun _ _ h => h) ⟨(Nat.le_of_ble_eq_true rfl), (Nat.le_of_ble_eq_true rfl)⟩ (fun r2 => ?_)
  refine V_astore_n (L' := [(0, .ref a0), (1, .int a1), (2, .ref r2)]) dL_without_6 rfl (by decide) rfl ?_
  refine V_iconst (x := 0) dL_without_7 rfl rfl ?_
  refine V_istore_n (L' := [(0, .ref a0), (1, .int a1), (2, .ref r2), (3, .int 0)]) dL_without_8 rfl (by decide) rfl ?_
  exact v_L_without_9 FU a0 a1 r2 0 (mnew M (.inl (0, ((x1 - 1).toNatClampNeg, .inl (fun _ => 0)))))
theorem k_L_without (a0 : Nat) (a1 : Int32) (M : Mem) : K mi_L_without [.ref a0, .int a1] M (f_L_without a0 a1 M) wR := K_of_V ok_L_without (Nat.le_of_ble_eq_true rfl) (v_L_without a0 a1 M)
theorem dL_longer_0 : decode cL_longer 0 = .ok (.iload_n 1, 1) := by decide +kernel
theorem dL_longer_1 : decode cL_longer 1 = .ok (.newarray .int, 2) := by decide +kernel
theorem dL_longer_3 : decode cL_longer 3 = .ok (.astore_n 2, 1) := by decide +kernel
theorem dL_longer_4 : decode cL_longer 4 = .ok (.iconst 0, 1) := by decide +kernel
theorem dL_longer_5 : decode cL_longer 5 = .ok (.istore_n 3, 1) := by decide +kernel
theorem dL_longer_6 : decode cL_longer 6 = .ok (.iload_n 3, 1) := by decide +kernel
theorem dL_longer_7 : decode cL_longer 7 = .ok (.iload_n 1, 1) := by decide +kernel
theorem dL_longer_8 : decode cL_longer 8 = .ok (.if_icmp .ge 25, 3) := by decide +kernel
theorem dL_longer_11 : decode cL_longer 11 = .ok (.aload_n 2, 1) := by decide +kernel
theorem dL_longer_12 : decode cL_longer 12 = .ok (.iload_n 3, 1) := by decide +kernel
theorem dL_longer_13 : decode cL_longer 13 = .ok (.iload_n 3, 1) := by decide +kernel
theorem dL_longer_14 : decode cL_longer 14 = .ok (.aload_n 0, 1) := by decide +kernel
theorem dL_longer_15 : decode cL_longer 15 = .ok (.arraylength, 1) := by decide +kernel
theorem dL_longer_16 : decode cL_longer 16 = .ok (.if_icmp .ge 9, 3) := by decide +kernel
theorem dL_longer_19 : decode cL_longer 19 = .ok (.aload_n 0, 1) := by decide +kernel
theorem dL_longer_20 : decode cL_longer 20 = .ok (.iload_n 3, 1) := by decide +kernel
theorem dL_longer_21 : decode cL_longer 21 = .ok (.iaload, 1) := by decide +kernel
theorem dL_longer_22 : decode cL_longer 22 = .ok (.goto 4, 3) := by decide +kernel
theorem dL_longer_25 : decode cL_longer 25 = .ok (.iconst (-1), 1) := by decide +kernel
theorem dL_longer_26 : decode cL_longer 26 = .ok (.iastore, 1) := by decide +kernel
theorem dL_longer_27 : decode cL_longer 27 = .ok (.iinc 3 1, 3) := by decide +kernel
theorem dL_longer_30 : decode cL_longer 30 = .ok (.goto (-24), 3) := by decide +kernel
theorem dL_longer_33 : decode cL_longer 33 = .ok (.aload_n 2, 1) := by decide +kernel
theorem dL_longer_34 : decode cL_longer 34 = .ok (.areturn, 1) := by decide +kernel
def mi_L_longer : MI := (RL, yL_longer, cL_longer, 4, some (.array .int), [], { frames := 1, cells := 1, slots := 64, locals := 12 })
theorem ok_L_longer : mOK mi_L_longer 2 := ⟨rfl, cw_L_longer, ini_L, ⟨rfl, by decide⟩, by decide, by decide, rfl⟩
theorem v_L_longer_26 (rc6 : Nat → Int32 → Nat → Int32 → Mem → Option (Nat × Mem)) (h6 : ∀ (l0 : Nat) (l1 : Int32) (l2 : Nat) (l3 : Int32) (M : Mem), V mi_L_longer 6 [(0, .ref l0), (1, .int l1), (2, .ref l2), (3, .int l3)] [] M 1 64 (rc6 l0 l1 l2 l3 M) wR) (l0 : Nat) (l1 : Int32) (l2 : Nat) (l3 : Int32) (s0 : Nat) (s1 : Int32) (s2 : Int32) (M : Mem) : V mi_L_longer 26 [(0, .ref l0), (1, .int l1), (2, .ref l2), (3, .int l3)] [.int s2, .int s1, .ref s0] M 1 64 (f_L_longer_26 rc6 l0 l1 l2 l3 s0 s1 s2 M) wR := by
  unfold f_L_longer_26
  refine V_iastore dL_longer_26 rfl (fun M3 => ?_)
  refine V_iinc (y := (l3 + 1)) (L' := [(0, .ref l0), (1, .int l1), (2, .ref l2), (3, .int (l3 + 1))]) dL_longer_27 rfl 3 rfl rfl (by decide) rfl ?_
  refine V_goto (q := 6) dL_longer_30 (by decide) ?_
  exact h6 l0 l1 l2 (l3 + 1) M3
theorem v_L_longer_6 : ∀ (fu : Nat) (l0 : Nat) (l1 : Int32) (l2 : Nat) (l3 : Int32) (M : Mem), V mi_L_longer 6 [(0, .ref l0), (1, .int l1), (2, .ref l2), (3, .int l3)] [] M 1 64 (f_L_longer_6 fu l0 l1 l2 l3 M) wR := by
  intro fu
  induction fu with
  | zero => intros; exact V_none
  | succ fu ih =>
    intro l0 l1 l2 l3 M
    show V mi_L_longer 6 [(0, .ref l0), (1, .int l1), (2, .ref l2), (3, .int l3)] [] M 1 64 (f_L_longer_6 (fu + 1) l0 l1 l2 l3 M) wR
    unfold f_L_longer_6
    refine V_iload_n dL_longer_6 rfl 3 rfl ?_
    refine V_iload_n dL_longer_7 rfl 1 rfl ?_
    refine V_icmp_ge (q := 33) (q2 := 11) dL_longer_8 (by decide) rfl ?_ ?_
    · refine V_aload_n dL_longer_33 rfl 2 rfl ?_
      exact V_aret (v := some l2) dL_longer_34 rfl (Or.inr ⟨_, rfl⟩) rfl ⟨(Nat.le_of_ble_eq_true rfl), (Nat.le_of_ble_eq_true rfl)⟩
    · refine V_aload_n dL_longer_11 rfl 2 rfl ?_
      refine V_iload_n dL_longer_12 rfl 3 rfl ?_
      refine V_iload_n dL_longer_13 rfl 3 rfl ?_
      refine V_aload_n dL_longer_14 rfl 0 rfl ?_
      refine V_arraylength dL_longer_15 rfl (fun x2 => ?_)
      refine V_icmp_ge (q := 25) (q2 := 19) dL_longer_16 (by decide) rfl ?_ ?_
      · refine V_iconst (x := (-1)) dL_longer_25 rfl rfl ?_
        exact v_L_longer_26 (f_L_longer_6 fu) ih l0 l1 l2 l3 l2 l3 (-1) M
      · refine V_aload_n dL_longer_19 rfl 0 rfl ?_
        refine V_iload_n dL_longer_20 rfl 3 rfl ?_
        refine V_iaload dL_longer_21 rfl (fun x4 => ?_)
        refine V_goto (q := 26) dL_longer_22 (by decide) ?_
        exact v_L_longer_26 (f_L_longer_6 fu) ih l0 l1 l2 l3 l2 l3 x4 M
theorem v_L_longer (a0 : Nat) (a1 : Int32) (M : Mem) : V mi_L_longer 0 [(0, .ref a0), (1, .int a1)] [] M 0 0 (f_L_longer a0 a1 M) wR := by
  unfold f_L_longer
  refine V_iload_n dL_longer_0 rfl 1 rfl ?_
  refine V_newarrayD dL_longer_1 rfl (t := 0) (N := 64) (x := fun m => (m, .inl (fun _ => 0))) rfl ar_0 (Nat.le_of_ble_eq_true rfl) (fun _ _ _ => rfl) (fun _ _ h => h) ⟨(Nat.le_of_ble_eq_true rfl), (Nat.le_of_ble_eq_true rfl)⟩ (fun r1 => ?_)
  refine V_astore_n (L' := [(0, .ref a0), (1, .int a1), (2, .ref r1)]) dL_longer_3 rfl (by decide) rfl ?_
  refine V_iconst (x := 0) dL_longer_4 rfl rfl ?_
  refine V_istore_n (L' := [(0, .ref a0), (1, .int a1), (2, .ref r1), (3, .int 0)]) dL_longer_5 rfl (by decide) rfl ?_
  exact v_L_longer_6 FU a0 a1 r1 0 (mnew M (.inl (0, (a1.toNatClampNeg, .inl (fun _ => 0)))))
theorem k_L_longer (a0 : Nat) (a1 : Int32) (M : Mem) : K mi_L_longer [.ref a0, .int a1] M (f_L_longer a0 a1 M) wR := K_of_V ok_L_longer (Nat.le_of_ble_eq_true rfl) (v_L_longer a0 a1 M)
theorem dL_replays_0 : decode cL_replays 0 = .ok (.iconst 0, 1) := by decide +kernel
theorem dL_replays_1 : decode cL_replays 1 = .ok (.istore 5, 2) := by decide +kernel
theorem dL_replays_3 : decode cL_replays 3 = .ok (.iload 5, 2) := by decide +kernel
theorem dL_replays_5 : decode cL_replays 5 = .ok (.aload_n 0, 1) := by decide +kernel
theorem dL_replays_6 : decode cL_replays 6 = .ok (.iconst 4, 1) := by decide +kernel
theorem dL_replays_7 : decode cL_replays 7 = .ok (.invokevirtual 110, 3) := by decide +kernel
theorem dL_replays_10 : decode cL_replays 10 = .ok (.if_icmp .ge 150, 3) := by decide +kernel
theorem dL_replays_13 : decode cL_replays 13 = .ok (.aload_n 0, 1) := by decide +kernel
theorem dL_replays_14 : decode cL_replays 14 = .ok (.iload 5, 2) := by decide +kernel
theorem dL_replays_16 : decode cL_replays 16 = .ok (.iconst 0, 1) := by decide +kernel
theorem dL_replays_17 : decode cL_replays 17 = .ok (.invokevirtual 235, 3) := by decide +kernel
theorem dL_replays_20 : decode cL_replays 20 = .ok (.istore 6, 2) := by decide +kernel
theorem dL_replays_22 : decode cL_replays 22 = .ok (.aload_n 0, 1) := by decide +kernel
theorem dL_replays_23 : decode cL_replays 23 = .ok (.iload 5, 2) := by decide +kernel
theorem dL_replays_25 : decode cL_replays 25 = .ok (.iconst 2, 1) := by decide +kernel
theorem dL_replays_26 : decode cL_replays 26 = .ok (.invokevirtual 235, 3) := by decide +kernel
theorem dL_replays_29 : decode cL_replays 29 = .ok (.istore 7, 2) := by decide +kernel
theorem dL_replays_31 : decode cL_replays 31 = .ok (.aload_n 0, 1) := by decide +kernel
theorem dL_replays_32 : decode cL_replays 32 = .ok (.iload 5, 2) := by decide +kernel
theorem dL_replays_34 : decode cL_replays 34 = .ok (.iconst 1, 1) := by decide +kernel
theorem dL_replays_35 : decode cL_replays 35 = .ok (.invokevirtual 235, 3) := by decide +kernel
theorem dL_replays_38 : decode cL_replays 38 = .ok (.lookupswitch 78 #[(0, 26), (1, 59)], 26) := by decide +kernel
theorem dL_replays_64 : decode cL_replays 64 = .ok (.aload_n 1, 1) := by decide +kernel
theorem dL_replays_65 : decode cL_replays 65 = .ok (.iload 6, 2) := by decide +kernel
theorem dL_replays_67 : decode cL_replays 67 = .ok (.aload_n 1, 1) := by decide +kernel
theorem dL_replays_68 : decode cL_replays 68 = .ok (.iload 6, 2) := by decide +kernel
theorem dL_replays_70 : decode cL_replays 70 = .ok (.aaload, 1) := by decide +kernel
theorem dL_replays_71 : decode cL_replays 71 = .ok (.iload 7, 2) := by decide +kernel
theorem dL_replays_73 : decode cL_replays 73 = .ok (.iconst 1, 1) := by decide +kernel
theorem dL_replays_74 : decode cL_replays 74 = .ok (.isub, 1) := by decide +kernel
theorem dL_replays_75 : decode cL_replays 75 = .ok (.invokestatic 238, 3) := by decide +kernel
theorem dL_replays_78 : decode cL_replays 78 = .ok (.aastore, 1) := by decide +kernel
theorem dL_replays_79 : decode cL_replays 79 = .ok (.aload_n 2, 1) := by decide +kernel
theorem dL_replays_80 : decode cL_replays 80 = .ok (.iload 6, 2) := by decide +kernel
theorem dL_replays_82 : decode cL_replays 82 = .ok (.aload_n 2, 1) := by decide +kernel
theorem dL_replays_83 : decode cL_replays 83 = .ok (.iload 6, 2) := by decide +kernel
theorem dL_replays_85 : decode cL_replays 85 = .ok (.aaload, 1) := by decide +kernel
theorem dL_replays_86 : decode cL_replays 86 = .ok (.iload 7, 2) := by decide +kernel
theorem dL_replays_88 : decode cL_replays 88 = .ok (.iconst 1, 1) := by decide +kernel
theorem dL_replays_89 : decode cL_replays 89 = .ok (.isub, 1) := by decide +kernel
theorem dL_replays_90 : decode cL_replays 90 = .ok (.invokestatic 238, 3) := by decide +kernel
theorem dL_replays_93 : decode cL_replays 93 = .ok (.aastore, 1) := by decide +kernel
theorem dL_replays_94 : decode cL_replays 94 = .ok (.goto 60, 3) := by decide +kernel
theorem dL_replays_97 : decode cL_replays 97 = .ok (.aload_n 2, 1) := by decide +kernel
theorem dL_replays_98 : decode cL_replays 98 = .ok (.iload 6, 2) := by decide +kernel
theorem dL_replays_100 : decode cL_replays 100 = .ok (.aaload, 1) := by decide +kernel
theorem dL_replays_101 : decode cL_replays 101 = .ok (.iload 7, 2) := by decide +kernel
theorem dL_replays_103 : decode cL_replays 103 = .ok (.iconst 1, 1) := by decide +kernel
theorem dL_replays_104 : decode cL_replays 104 = .ok (.isub, 1) := by decide +kernel
theorem dL_replays_105 : decode cL_replays 105 = .ok (.aload_n 0, 1) := by decide +kernel
theorem dL_replays_106 : decode cL_replays 106 = .ok (.iload 5, 2) := by decide +kernel
theorem dL_replays_108 : decode cL_replays 108 = .ok (.iconst 3, 1) := by decide +kernel
theorem dL_replays_109 : decode cL_replays 109 = .ok (.invokevirtual 235, 3) := by decide +kernel
theorem dL_replays_112 : decode cL_replays 112 = .ok (.iastore, 1) := by decide +kernel
theorem dL_replays_113 : decode cL_replays 113 = .ok (.goto 41, 3) := by decide +kernel
theorem dL_replays_116 : decode cL_replays 116 = .ok (.iload 7, 2) := by decide +kernel
theorem dL_replays_118 : decode cL_replays 118 = .ok (.aload_n 1, 1) := by decide +kernel
theorem dL_replays_119 : decode cL_replays 119 = .ok (.iload 6, 2) := by decide +kernel
theorem dL_replays_121 : decode cL_replays 121 = .ok (.aaload, 1) := by decide +kernel
theorem dL_replays_122 : decode cL_replays 122 = .ok (.arraylength, 1) := by decide +kernel
theorem dL_replays_123 : decode cL_replays 123 = .ok (.if_icmp .gt 5, 3) := by decide +kernel
theorem dL_replays_126 : decode cL_replays 126 = .ok (.iconst 0, 1) := by decide +kernel
theorem dL_replays_127 : decode cL_replays 127 = .ok (.ireturn, 1) := by decide +kernel
theorem dL_replays_128 : decode cL_replays 128 = .ok (.aload_n 1, 1) := by decide +kernel
theorem dL_replays_129 : decode cL_replays 129 = .ok (.iload 6, 2) := by decide +kernel
theorem dL_replays_131 : decode cL_replays 131 = .ok (.aload_n 1, 1) := by decide +kernel
theorem dL_replays_132 : decode cL_replays 132 = .ok (.iload 6, 2) := by decide +kernel
theorem dL_replays_134 : decode cL_replays 134 = .ok (.aaload, 1) := by decide +kernel
theorem dL_replays_135 : decode cL_replays 135 = .ok (.iload 7, 2) := by decide +kernel
theorem dL_replays_137 : decode cL_replays 137 = .ok (.invokestatic 242, 3) := by decide +kernel
theorem dL_replays_140 : decode cL_replays 140 = .ok (.aastore, 1) := by decide +kernel
theorem dL_replays_141 : decode cL_replays 141 = .ok (.aload_n 2, 1) := by decide +kernel
theorem dL_replays_142 : decode cL_replays 142 = .ok (.iload 6, 2) := by decide +kernel
theorem dL_replays_144 : decode cL_replays 144 = .ok (.aload_n 2, 1) := by decide +kernel
theorem dL_replays_145 : decode cL_replays 145 = .ok (.iload 6, 2) := by decide +kernel
theorem dL_replays_147 : decode cL_replays 147 = .ok (.aaload, 1) := by decide +kernel
theorem dL_replays_148 : decode cL_replays 148 = .ok (.iload 7, 2) := by decide +kernel
theorem dL_replays_150 : decode cL_replays 150 = .ok (.invokestatic 242, 3) := by decide +kernel
theorem dL_replays_153 : decode cL_replays 153 = .ok (.aastore, 1) := by decide +kernel
theorem dL_replays_154 : decode cL_replays 154 = .ok (.iinc 5 1, 3) := by decide +kernel
theorem dL_replays_157 : decode cL_replays 157 = .ok (.goto (-154), 3) := by decide +kernel
theorem dL_replays_160 : decode cL_replays 160 = .ok (.iconst 0, 1) := by decide +kernel
theorem dL_replays_161 : decode cL_replays 161 = .ok (.istore 5, 2) := by decide +kernel
theorem dL_replays_163 : decode cL_replays 163 = .ok (.iload 5, 2) := by decide +kernel
theorem dL_replays_165 : decode cL_replays 165 = .ok (.aload_n 0, 1) := by decide +kernel
theorem dL_replays_166 : decode cL_replays 166 = .ok (.iconst 1, 1) := by decide +kernel
theorem dL_replays_167 : decode cL_replays 167 = .ok (.invokevirtual 110, 3) := by decide +kernel
theorem dL_replays_170 : decode cL_replays 170 = .ok (.if_icmp .ge 125, 3) := by decide +kernel
theorem dL_replays_173 : decode cL_replays 173 = .ok (.iload 5, 2) := by decide +kernel
theorem dL_replays_175 : decode cL_replays 175 = .ok (.iload_n 3, 1) := by decide +kernel
theorem dL_replays_176 : decode cL_replays 176 = .ok (.if_icmp .ne 6, 3) := by decide +kernel
theorem dL_replays_179 : decode cL_replays 179 = .ok (.goto 110, 3) := by decide +kernel
theorem dL_replays_182 : decode cL_replays 182 = .ok (.aload_n 0, 1) := by decide +kernel
theorem dL_replays_183 : decode cL_replays 183 = .ok (.iload 5, 2) := by decide +kernel
theorem dL_replays_185 : decode cL_replays 185 = .ok (.iconst 3, 1) := by decide +kernel
theorem dL_replays_186 : decode cL_replays 186 = .ok (.invokevirtual 117, 3) := by decide +kernel
theorem dL_replays_189 : decode cL_replays 189 = .ok (.aload_n 1, 1) := by decide +kernel
theorem dL_replays_190 : decode cL_replays 190 = .ok (.iload 5, 2) := by decide +kernel
theorem dL_replays_192 : decode cL_replays 192 = .ok (.aaload, 1) := by decide +kernel
theorem dL_replays_193 : decode cL_replays 193 = .ok (.arraylength, 1) := by decide +kernel
theorem dL_replays_194 : decode cL_replays 194 = .ok (.if_icmp .eq 5, 3) := by decide +kernel
theorem dL_replays_197 : decode cL_replays 197 = .ok (.iconst 0, 1) := by decide +kernel
theorem dL_replays_198 : decode cL_replays 198 = .ok (.ireturn, 1) := by decide +kernel
theorem dL_replays_199 : decode cL_replays 199 = .ok (.iconst 0, 1) := by decide +kernel
theorem dL_replays_200 : decode cL_replays 200 = .ok (.istore 6, 2) := by decide +kernel
theorem dL_replays_202 : decode cL_replays 202 = .ok (.iload 6, 2) := by decide +kernel
theorem dL_replays_204 : decode cL_replays 204 = .ok (.aload_n 1, 1) := by decide +kernel
theorem dL_replays_205 : decode cL_replays 205 = .ok (.iload 5, 2) := by decide +kernel
theorem dL_replays_207 : decode cL_replays 207 = .ok (.aaload, 1) := by decide +kernel
theorem dL_replays_208 : decode cL_replays 208 = .ok (.arraylength, 1) := by decide +kernel
theorem dL_replays_209 : decode cL_replays 209 = .ok (.if_icmp .ge 80, 3) := by decide +kernel
theorem dL_replays_212 : decode cL_replays 212 = .ok (.aload_n 1, 1) := by decide +kernel
theorem dL_replays_213 : decode cL_replays 213 = .ok (.iload 5, 2) := by decide +kernel
theorem dL_replays_215 : decode cL_replays 215 = .ok (.aaload, 1) := by decide +kernel
theorem dL_replays_216 : decode cL_replays 216 = .ok (.iload 6, 2) := by decide +kernel
theorem dL_replays_218 : decode cL_replays 218 = .ok (.iaload, 1) := by decide +kernel
theorem dL_replays_219 : decode cL_replays 219 = .ok (.ifCond .lt 26, 3) := by decide +kernel
theorem dL_replays_222 : decode cL_replays 222 = .ok (.aload_n 0, 1) := by decide +kernel
theorem dL_replays_223 : decode cL_replays 223 = .ok (.iload 5, 2) := by decide +kernel
theorem dL_replays_225 : decode cL_replays 225 = .ok (.iload 6, 2) := by decide +kernel
theorem dL_replays_227 : decode cL_replays 227 = .ok (.iconst 1, 1) := by decide +kernel
theorem dL_replays_228 : decode cL_replays 228 = .ok (.iadd, 1) := by decide +kernel
theorem dL_replays_229 : decode cL_replays 229 = .ok (.iconst 0, 1) := by decide +kernel
theorem dL_replays_230 : decode cL_replays 230 = .ok (.invokevirtual 175, 3) := by decide +kernel
theorem dL_replays_233 : decode cL_replays 233 = .ok (.aload_n 1, 1) := by decide +kernel
theorem dL_replays_234 : decode cL_replays 234 = .ok (.iload 5, 2) := by decide +kernel
theorem dL_replays_236 : decode cL_replays 236 = .ok (.aaload, 1) := by decide +kernel
theorem dL_replays_237 : decode cL_replays 237 = .ok (.iload 6, 2) := by decide +kernel
theorem dL_replays_239 : decode cL_replays 239 = .ok (.iaload, 1) := by decide +kernel
theorem dL_replays_240 : decode cL_replays 240 = .ok (.if_icmp .eq 5, 3) := by decide +kernel
theorem dL_replays_243 : decode cL_replays 243 = .ok (.iconst 0, 1) := by decide +kernel
theorem dL_replays_244 : decode cL_replays 244 = .ok (.ireturn, 1) := by decide +kernel
theorem dL_replays_245 : decode cL_replays 245 = .ok (.iload 4, 2) := by decide +kernel
theorem dL_replays_247 : decode cL_replays 247 = .ok (.ifCond .ne 36, 3) := by decide +kernel
theorem dL_replays_250 : decode cL_replays 250 = .ok (.aload_n 2, 1) := by decide +kernel
theorem dL_replays_251 : decode cL_replays 251 = .ok (.iload 5, 2) := by decide +kernel
theorem dL_replays_253 : decode cL_replays 253 = .ok (.aaload, 1) := by decide +kernel
theorem dL_replays_254 : decode cL_replays 254 = .ok (.iload 6, 2) := by decide +kernel
theorem dL_replays_256 : decode cL_replays 256 = .ok (.iaload, 1) := by decide +kernel
theorem dL_replays_257 : decode cL_replays 257 = .ok (.ifCond .lt 26, 3) := by decide +kernel
theorem dL_replays_260 : decode cL_replays 260 = .ok (.aload_n 0, 1) := by decide +kernel
theorem dL_replays_261 : decode cL_replays 261 = .ok (.iload 5, 2) := by decide +kernel
theorem dL_replays_263 : decode cL_replays 263 = .ok (.iload 6, 2) := by decide +kernel
theorem dL_replays_265 : decode cL_replays 265 = .ok (.iconst 1, 1) := by decide +kernel
theorem dL_replays_266 : decode cL_replays 266 = .ok (.iadd, 1) := by decide +kernel
theorem dL_replays_267 : decode cL_replays 267 = .ok (.iconst 1, 1) := by decide +kernel
theorem dL_replays_268 : decode cL_replays 268 = .ok (.invokevirtual 175, 3) := by decide +kernel
theorem dL_replays_271 : decode cL_replays 271 = .ok (.aload_n 2, 1) := by decide +kernel
theorem dL_replays_272 : decode cL_replays 272 = .ok (.iload 5, 2) := by decide +kernel
theorem dL_replays_274 : decode cL_replays 274 = .ok (.aaload, 1) := by decide +kernel
theorem dL_replays_275 : decode cL_replays 275 = .ok (.iload 6, 2) := by decide +kernel
theorem dL_replays_277 : decode cL_replays 277 = .ok (.iaload, 1) := by decide +kernel
theorem dL_replays_278 : decode cL_replays 278 = .ok (.if_icmp .eq 5, 3) := by decide +kernel
theorem dL_replays_281 : decode cL_replays 281 = .ok (.iconst 0, 1) := by decide +kernel
theorem dL_replays_282 : decode cL_replays 282 = .ok (.ireturn, 1) := by decide +kernel
theorem dL_replays_283 : decode cL_replays 283 = .ok (.iinc 6 1, 3) := by decide +kernel
theorem dL_replays_286 : decode cL_replays 286 = .ok (.goto (-84), 3) := by decide +kernel
theorem dL_replays_289 : decode cL_replays 289 = .ok (.iinc 5 1, 3) := by decide +kernel
theorem dL_replays_292 : decode cL_replays 292 = .ok (.goto (-129), 3) := by decide +kernel
theorem dL_replays_295 : decode cL_replays 295 = .ok (.iconst 1, 1) := by decide +kernel
theorem dL_replays_296 : decode cL_replays 296 = .ok (.ireturn, 1) := by decide +kernel
def mi_L_replays : MI := (RL, yL_replays, cL_replays, 8, some .boolean, [], { frames := 10, cells := 3321, slots := 48462, locals := 168 })
theorem ok_L_replays : mOK mi_L_replays 5 := ⟨rfl, cw_L_replays, ini_L, ⟨rfl, by decide⟩, by decide, by decide, rfl⟩
theorem v_L_replays_289 (fo : Nat) (rc163 : Nat → Nat → Nat → Int32 → Bool → Int32 → Mem → Option ((Bool ⊕ String) × Mem)) (h163 : ∀ (l0 : Nat) (l1 : Nat) (l2 : Nat) (l3 : Int32) (l4 : Bool) (l5 : Int32) (M : Mem) (k n : Nat) (_ : kb 3321 48462 369 2214 fo k n), V mi_L_replays 163 [(0, .ref l0), (1, .ref l1), (2, .ref l2), (3, .int l3), (4, .int (b2i l4)), (5, .int l5)] [] M k n (rc163 l0 l1 l2 l3 l4 l5 M) tZ) (l0 : Nat) (l1 : Nat) (l2 : Nat) (l3 : Int32) (l4 : Bool) (l5 : Int32) (M : Mem) (k n : Nat) (hb : kb 3321 48462 369 2214 (fo + 1) k n) : V mi_L_replays 289 [(0, .ref l0), (1, .ref l1), (2, .ref l2), (3, .int l3), (4, .int (b2i l4)), (5, .int l5)] [] M (k + 369) (n + 2214) (f_L_replays_289 rc163 l0 l1 l2 l3 l4 l5 M) tZ := by
  unfold f_L_replays_289
  refine V_iinc (y := (l5 + 1)) (L' := [(0, .ref l0), (1, .ref l1), (2, .ref l2), (3, .int l3), (4, .int (b2i l4)), (5, .int (l5 + 1))]) dL_replays_289 rfl 5 rfl rfl (by decide) rfl ?_
  refine V_goto (q := 163) dL_replays_292 (by decide) ?_
  exact h163 l0 l1 l2 l3 l4 (l5 + 1) M _ _ (kb_next hb (Nat.le_of_ble_eq_true rfl) (Nat.le_of_ble_eq_true rfl))
theorem v_L_replays_283 (fo k n : Nat) (hb : kb 3321 48462 369 2214 (fo + 1) k n) (fo2 : Nat) (rc163 : Nat → Nat → Nat → Int32 → Bool → Int32 → Mem → Option ((Bool ⊕ String) × Mem)) (rc202 : Nat → Nat → Nat → Int32 → Bool → Int32 → Int32 → Mem → Option ((Bool ⊕ String) × Mem)) (h163 : ∀ (l0 : Nat) (l1 : Nat) (l2 : Nat) (l3 : Int32) (l4 : Bool) (l5 : Int32) (M : Mem) (k n : Nat) (_ : kb 3321 48462 369 2214 fo k n), V mi_L_replays 163 [(0, .ref l0), (1, .ref l1), (2, .ref l2), (3, .int l3), (4, .int (b2i l4)), (5, .int l5)] [] M k n (rc163 l0 l1 l2 l3 l4 l5 M) tZ) (h202 : ∀ (l0 : Nat) (l1 : Nat) (l2 : Nat) (l3 : Int32) (l4 : Bool) (l5 : Int32) (l6 : Int32) (M : Mem) (kk nn : Nat) (_ : kb (k + 369) (n + 2214) 6 36 fo2 kk nn), V mi_L_replays 202 [(0, .ref l0), (1, .ref l1), (2, .ref l2), (3, .int l3), (4, .int (b2i l4)), (5, .int l5), (6, .int l6)] [] M kk nn (rc202 l0 l1 l2 l3 l4 l5 l6 M) tZ) (l0 : Nat) (l1 : Nat) (l2 : Nat) (l3 : Int32) (l4 : Bool) (l5 : Int32) (l6 : Int32) (M : Mem) (kk nn : Nat) (hb2 : kb (k + 369) (n + 2214) 6 36 (fo2 + 1) kk nn) : V mi_L_replays 283 [(0, .ref l0), (1, .ref l1), (2, .ref l2), (3, .int l3), (4, .int (b2i l4)), (5, .int l5), (6, .int l6)] [] M (kk + 6) (nn + 36) (f_L_replays_283 rc163 rc202 l0 l1 l2 l3 l4 l5 l6 M) tZ := by
  unfold f_L_replays_283
  refine V_iinc (y := (l6 + 1)) (L' := [(0, .ref l0), (1, .ref l1), (2, .ref l2), (3, .int l3), (4, .int (b2i l4)), (5, .int l5), (6, .int (l6 + 1))]) dL_replays_283 rfl 6 rfl rfl (by decide) rfl ?_
  refine V_goto (q := 202) dL_replays_286 (by decide) ?_
  exact h202 l0 l1 l2 l3 l4 l5 (l6 + 1) M _ _ (kb_next hb2 (Nat.le_of_ble_eq_true rfl) (Nat.le_of_ble_eq_true rfl))
theorem v_L_replays_245 (fo k n : Nat) (hb : kb 3321 48462 369 2214 (fo + 1) k n) (fo2 : Nat) (rc163 : Nat → Nat → Nat → Int32 → Bool → Int32 → Mem → Option ((Bool ⊕ String) × Mem)) (rc202 : Nat → Nat → Nat → Int32 → Bool → Int32 → Int32 → Mem → Option ((Bool ⊕ String) × Mem)) (h163 : ∀ (l0 : Nat) (l1 : Nat) (l2 : Nat) (l3 : Int32) (l4 : Bool) (l5 : Int32) (M : Mem) (k n : Nat) (_ : kb 3321 48462 369 2214 fo k n), V mi_L_replays 163 [(0, .ref l0), (1, .ref l1), (2, .ref l2), (3, .int l3), (4, .int (b2i l4)), (5, .int l5)] [] M k n (rc163 l0 l1 l2 l3 l4 l5 M) tZ) (h202 : ∀ (l0 : Nat) (l1 : Nat) (l2 : Nat) (l3 : Int32) (l4 : Bool) (l5 : Int32) (l6 : Int32) (M : Mem) (kk nn : Nat) (_ : kb (k + 369) (n + 2214) 6 36 fo2 kk nn), V mi_L_replays 202 [(0, .ref l0), (1, .ref l1), (2, .ref l2), (3, .int l3), (4, .int (b2i l4)), (5, .int l5), (6, .int l6)] [] M kk nn (rc202 l0 l1 l2 l3 l4 l5 l6 M) tZ) (l0 : Nat) (l1 : Nat) (l2 : Nat) (l3 : Int32) (l4 : Bool) (l5 : Int32) (l6 : Int32) (M : Mem) (kk nn : Nat) (hb2 : kb (k + 369) (n + 2214) 6 36 (fo2 + 1) kk nn) : V mi_L_replays 245 [(0, .ref l0), (1, .ref l1), (2, .ref l2), (3, .int l3), (4, .int (b2i l4)), (5, .int l5), (6, .int l6)] [] M (kk + 3) (nn + 18) (f_L_replays_245 rc163 rc202 l0 l1 l2 l3 l4 l5 l6 M) tZ := by
  unfold f_L_replays_245
  refine V_iload dL_replays_245 rfl 4 rfl ?_
  refine V_ifz_ne (q := 283) (q2 := 250) dL_replays_247 (by decide) rfl ?_ ?_
  · exact (V_w (Nat.add_le_add_left (Nat.le_of_ble_eq_true rfl) _) (Nat.add_le_add_left (Nat.le_of_ble_eq_true rfl) _) (v_L_replays_283 fo k n hb fo2 rc163 rc202 h163 h202 l0 l1 l2 l3 l4 l5 l6 M kk nn hb2))
  · refine V_aload_n dL_replays_250 rfl 2 rfl ?_
    refine V_iload dL_replays_251 rfl 5 rfl ?_
    refine V_aaloadA dL_replays_253 rfl (fun x16 => ?_)
    refine V_iload dL_replays_254 rfl 6 rfl ?_
    refine V_nn (fun r18 hqr18 => ?_)
    subst hqr18
    refine V_iaload dL_replays_256 rfl (fun x17 => ?_)
    refine V_if_lt (q := 283) (q2 := 260) dL_replays_257 (by decide) rfl ?_ ?_
    · exact (V_w (Nat.add_le_add_left (Nat.le_of_ble_eq_true rfl) _) (Nat.add_le_add_left (Nat.le_of_ble_eq_true rfl) _) (v_L_replays_283 fo k n hb fo2 rc163 rc202 h163 h202 l0 l1 l2 l3 l4 l5 l6 M kk nn hb2))
    · refine V_aload_n dL_replays_260 rfl 0 rfl ?_
      refine V_iload dL_replays_261 rfl 5 rfl ?_
      refine V_iload dL_replays_263 rfl 6 rfl ?_
      refine V_iconst (x := 1) dL_replays_265 rfl rfl ?_
      refine V_iadd dL_replays_266 rfl ?_
      refine V_iconst (x := 1) dL_replays_267 rfl rfl ?_
      refine V_cVtI (As := [.int l5, .int (l6 + 1), .int 1]) (k_X11_entry l0 l5 (l6 + 1) 1 M) rfl (fun _ _ => rfl) (fun _ h => o_X11_entry h) ok_X11_entry im_X11_entry se_X11_entry rfl (ci := 10) rfl ml_L_175 ⟨⟨(Nat.le_of_ble_eq_true rfl), (Nat.le_of_ble_eq_true rfl)⟩, kb2_c hb hb2 (Nat.le_of_ble_eq_true rfl) (Nat.le_of_ble_eq_true rfl) (Nat.le_of_ble_eq_true rfl), kb2_s hb hb2 (Nat.le_of_ble_eq_true rfl) (Nat.le_of_ble_eq_true rfl) (Nat.le_of_ble_eq_true rfl)⟩ dL_replays_268 rfl rfl rfl (Nat.le_of_ble_eq_true rfl) (Nat.add_assoc _ _ _) (Nat.add_assoc _ _ _) (fun x19 M20 => ?_)
      refine V_aload_n dL_replays_271 rfl 2 rfl ?_
      refine V_iload dL_replays_272 rfl 5 rfl ?_
      refine V_aaloadA dL_replays_274 rfl (fun x21 => ?_)
      refine V_iload dL_replays_275 rfl 6 rfl ?_
      refine V_nn (fun r23 hqr23 => ?_)
      subst hqr23
      refine V_iaload dL_replays_277 rfl (fun x22 => ?_)
      refine V_icmp_eq (q := 283) (q2 := 281) dL_replays_278 (by decide) rfl ?_ ?_
      · exact v_L_replays_283 fo k n hb fo2 rc163 rc202 h163 h202 l0 l1 l2 l3 l4 l5 l6 M20 kk nn hb2
      · refine V_iconst (x := 0) dL_replays_281 rfl rfl ?_
        exact V_zret (v := false) dL_replays_282 rfl rfl ⟨kb2_ck hb hb2 (Nat.le_of_ble_eq_true rfl) (Nat.le_of_ble_eq_true rfl) (Nat.le_of_ble_eq_true rfl), kb2_sk hb hb2 (Nat.le_of_ble_eq_true rfl) (Nat.le_of_ble_eq_true rfl) (Nat.le_of_ble_eq_true rfl)⟩
theorem v_L_replays_202 (fo k n : Nat) (hb : kb 3321 48462 369 2214 (fo + 1) k n) (rc163 : Nat → Nat → Nat → Int32 → Bool → Int32 → Mem → Option ((Bool ⊕ String) × Mem)) (h163 : ∀ (l0 : Nat) (l1 : Nat) (l2 : Nat) (l3 : Int32) (l4 : Bool) (l5 : Int32) (M : Mem) (k n : Nat) (_ : kb 3321 48462 369 2214 fo k n), V mi_L_replays 163 [(0, .ref l0), (1, .ref l1), (2, .ref l2), (3, .int l3), (4, .int (b2i l4)), (5, .int l5)] [] M k n (rc163 l0 l1 l2 l3 l4 l5 M) tZ) : ∀ (fu : Nat) (l0 : Nat) (l1 : Nat) (l2 : Nat) (l3 : Int32) (l4 : Bool) (l5 : Int32) (l6 : Int32) (M : Mem) (kk nn : Nat) (_ : kb (k + 369) (n + 2214) 6 36 fu kk nn), V mi_L_replays 202 [(0, .ref l0), (1, .ref l1), (2, .ref l2), (3, .int l3), (4, .int (b2i l4)), (5, .int l5), (6, .int l6)] [] M kk nn (f_L_replays_202 rc163 fu l0 l1 l2 l3 l4 l5 l6 M) tZ := by
  intro fu
  induction fu with
  | zero => intros; exact V_none
  | succ fu ih =>
    intro l0 l1 l2 l3 l4 l5 l6 M kk nn hb2
    show V mi_L_replays 202 [(0, .ref l0), (1, .ref l1), (2, .ref l2), (3, .int l3), (4, .int (b2i l4)), (5, .int l5), (6, .int l6)] [] M kk nn (f_L_replays_202  rc163 (fu + 1) l0 l1 l2 l3 l4 l5 l6 M) tZ
    unfold f_L_replays_202
    refine V_iload dL_replays_202 rfl 6 rfl ?_
    refine V_aload_n dL_replays_204 rfl 1 rfl ?_
    refine V_iload dL_replays_205 rfl 5 rfl ?_
    refine V_aaloadA dL_replays_207 rfl (fun x10 => ?_)
    refine V_nn (fun r12 hqr12 => ?_)
    subst hqr12
    refine V_arraylength dL_replays_208 rfl (fun x11 => ?_)
    refine V_icmp_ge (q := 289) (q2 := 212) dL_replays_209 (by decide) rfl ?_ ?_
    · exact V_sub [0, 1, 2, 3, 4, 5] rfl (V_w (kb_ck0 hb2 (Nat.add_le_add_left (Nat.le_of_ble_eq_true rfl) _)) (kb_sk0 hb2 (Nat.add_le_add_left (Nat.le_of_ble_eq_true rfl) _)) (v_L_replays_289 fo rc163 h163 l0 l1 l2 l3 l4 l5 M k n hb))
    · refine V_aload_n dL_replays_212 rfl 1 rfl ?_
      refine V_iload dL_replays_213 rfl 5 rfl ?_
      refine V_aaloadA dL_replays_215 rfl (fun x13 => ?_)
      refine V_iload dL_replays_216 rfl 6 rfl ?_
      refine V_nn (fun r15 hqr15 => ?_)
      subst hqr15
      refine V_iaload dL_replays_218 rfl (fun x14 => ?_)
      refine V_if_lt (q := 245) (q2 := 222) dL_replays_219 (by decide) rfl ?_ ?_
      · exact (V_w (Nat.le_add_right _ _) (Nat.le_add_right _ _) (v_L_replays_245 fo k n hb fu rc163 (f_L_replays_202 rc163 fu) h163 ih l0 l1 l2 l3 l4 l5 l6 M kk nn hb2))
      · refine V_aload_n dL_replays_222 rfl 0 rfl ?_
        refine V_iload dL_replays_223 rfl 5 rfl ?_
        refine V_iload dL_replays_225 rfl 6 rfl ?_
        refine V_iconst (x := 1) dL_replays_227 rfl rfl ?_
        refine V_iadd dL_replays_228 rfl ?_
        refine V_iconst (x := 0) dL_replays_229 rfl rfl ?_
        refine V_cVtI (As := [.int l5, .int (l6 + 1), .int 0]) (k_X11_entry l0 l5 (l6 + 1) 0 M) rfl (fun _ _ => rfl) (fun _ h => o_X11_entry h) ok_X11_entry im_X11_entry se_X11_entry rfl (ci := 10) rfl ml_L_175 ⟨⟨(Nat.le_of_ble_eq_true rfl), (Nat.le_of_ble_eq_true rfl)⟩, kb2_c0 hb hb2 (Nat.le_of_ble_eq_true rfl) (Nat.le_of_ble_eq_true rfl) (Nat.le_of_ble_eq_true rfl), kb2_s0 hb hb2 (Nat.le_of_ble_eq_true rfl) (Nat.le_of_ble_eq_true rfl) (Nat.le_of_ble_eq_true rfl)⟩ dL_replays_230 rfl rfl rfl (Nat.le_of_ble_eq_true rfl) rfl rfl (fun x24 M25 => ?_)
        refine V_aload_n dL_replays_233 rfl 1 rfl ?_
        refine V_iload dL_replays_234 rfl 5 rfl ?_
        refine V_aaloadA dL_replays_236 rfl (fun x26 => ?_)
        refine V_iload dL_replays_237 rfl 6 rfl ?_
        refine V_nn (fun r28 hqr28 => ?_)
        subst hqr28
        refine V_iaload dL_replays_239 rfl (fun x27 => ?_)
        refine V_icmp_eq (q := 245) (q2 := 243) dL_replays_240 (by decide) rfl ?_ ?_
        · exact v_L_replays_245 fo k n hb fu rc163 (f_L_replays_202 rc163 fu) h163 ih l0 l1 l2 l3 l4 l5 l6 M25 kk nn hb2
        · refine V_iconst (x := 0) dL_replays_243 rfl rfl ?_
          exact V_zret (v := false) dL_replays_244 rfl rfl ⟨kb2_ck hb hb2 (Nat.le_of_ble_eq_true rfl) (Nat.le_of_ble_eq_true rfl) (Nat.le_of_ble_eq_true rfl), kb2_sk hb hb2 (Nat.le_of_ble_eq_true rfl) (Nat.le_of_ble_eq_true rfl) (Nat.le_of_ble_eq_true rfl)⟩
theorem v_L_replays_163 : ∀ (fu : Nat) (l0 : Nat) (l1 : Nat) (l2 : Nat) (l3 : Int32) (l4 : Bool) (l5 : Int32) (M : Mem) (k n : Nat) (_ : kb 3321 48462 369 2214 fu k n), V mi_L_replays 163 [(0, .ref l0), (1, .ref l1), (2, .ref l2), (3, .int l3), (4, .int (b2i l4)), (5, .int l5)] [] M k n (f_L_replays_163 fu l0 l1 l2 l3 l4 l5 M) tZ := by
  intro fu
  induction fu with
  | zero => intros; exact V_none
  | succ fu ih =>
    intro l0 l1 l2 l3 l4 l5 M k n hb
    show V mi_L_replays 163 [(0, .ref l0), (1, .ref l1), (2, .ref l2), (3, .int l3), (4, .int (b2i l4)), (5, .int l5)] [] M k n (f_L_replays_163 (fu + 1) l0 l1 l2 l3 l4 l5 M) tZ
    unfold f_L_replays_163
    refine V_iload dL_replays_163 rfl 5 rfl ?_
    refine V_aload_n dL_replays_165 rfl 0 rfl ?_
    refine V_iconst (x := 1) dL_replays_166 rfl rfl ?_
    refine V_cVtI (As := [.int 1]) (k_X11_property l0 1 M) rfl (fun _ _ => rfl) (fun _ h => o_X11_property h) ok_X11_property im_X11_property se_X11_property rfl (ci := 10) rfl ml_L_110 ⟨⟨(Nat.le_of_ble_eq_true rfl), (Nat.le_of_ble_eq_true rfl)⟩, kb_c0 hb (Nat.le_of_ble_eq_true rfl) (Nat.le_of_ble_eq_true rfl), kb_s0 hb (Nat.le_of_ble_eq_true rfl) (Nat.le_of_ble_eq_true rfl)⟩ dL_replays_167 rfl rfl rfl (Nat.le_of_ble_eq_true rfl) rfl rfl (fun x3 M4 => ?_)
    refine V_icmp_ge (q := 295) (q2 := 173) dL_replays_170 (by decide) rfl ?_ ?_
    · refine V_iconst (x := 1) dL_replays_295 rfl rfl ?_
      exact V_zret (v := true) dL_replays_296 rfl rfl ⟨kb_ck hb (Nat.le_of_ble_eq_true rfl) (Nat.le_of_ble_eq_true rfl), kb_sk hb (Nat.le_of_ble_eq_true rfl) (Nat.le_of_ble_eq_true rfl)⟩
    · refine V_iload dL_replays_173 rfl 5 rfl ?_
      refine V_iload_n dL_replays_175 rfl 3 rfl ?_
      refine V_icmp_ne (q := 182) (q2 := 179) dL_replays_176 (by decide) rfl ?_ ?_
      · refine V_aload_n dL_replays_182 rfl 0 rfl ?_
        refine V_iload dL_replays_183 rfl 5 rfl ?_
        refine V_iconst (x := 3) dL_replays_185 rfl rfl ?_
        refine V_cVtI (As := [.int l5, .int 3]) (k_X11_session l0 l5 3 M4) rfl (fun _ _ => rfl) (fun _ h => o_X11_session h) ok_X11_session im_X11_session se_X11_session rfl (ci := 10) rfl ml_L_117 ⟨⟨(Nat.le_of_ble_eq_true rfl), (Nat.le_of_ble_eq_true rfl)⟩, kb_c hb (Nat.le_of_ble_eq_true rfl) (Nat.le_of_ble_eq_true rfl), kb_s hb (Nat.le_of_ble_eq_true rfl) (Nat.le_of_ble_eq_true rfl)⟩ dL_replays_186 rfl rfl rfl (Nat.le_of_ble_eq_true rfl) (Nat.add_assoc _ _ _) (Nat.add_assoc _ _ _) (fun x5 M6 => ?_)
        refine V_aload_n dL_replays_189 rfl 1 rfl ?_
        refine V_iload dL_replays_190 rfl 5 rfl ?_
        refine V_aaloadA dL_replays_192 rfl (fun x7 => ?_)
        refine V_nn (fun r9 hqr9 => ?_)
        subst hqr9
        refine V_arraylength dL_replays_193 rfl (fun x8 => ?_)
        refine V_icmp_eq (q := 199) (q2 := 197) dL_replays_194 (by decide) rfl ?_ ?_
        · refine V_iconst (x := 0) dL_replays_199 rfl rfl ?_
          refine V_istore (L' := [(0, .ref l0), (1, .ref l1), (2, .ref l2), (3, .int l3), (4, .int (b2i l4)), (5, .int l5), (6, .int 0)]) dL_replays_200 rfl (by decide) rfl ?_
          exact v_L_replays_202 fu k n hb (f_L_replays_163 fu) ih 61 l0 l1 l2 l3 l4 l5 0 M6 (k + 3) (n + 18) (kb_in (Nat.le_of_ble_eq_true rfl) (Nat.le_of_ble_eq_true rfl))
        · refine V_iconst (x := 0) dL_replays_197 rfl rfl ?_
          exact V_zret (v := false) dL_replays_198 rfl rfl ⟨kb_ck hb (Nat.le_of_ble_eq_true rfl) (Nat.le_of_ble_eq_true rfl), kb_sk hb (Nat.le_of_ble_eq_true rfl) (Nat.le_of_ble_eq_true rfl)⟩
      · refine V_goto (q := 289) dL_replays_179 (by decide) ?_
        exact (V_w (Nat.add_le_add_left (Nat.le_of_ble_eq_true rfl) _) (Nat.add_le_add_left (Nat.le_of_ble_eq_true rfl) _) (v_L_replays_289 fu (f_L_replays_163 fu) ih l0 l1 l2 l3 l4 l5 M4 k n hb))
theorem v_L_replays_160 (l0 : Nat) (l1 : Nat) (l2 : Nat) (l3 : Int32) (l4 : Bool) (M : Mem) : V mi_L_replays 160 [(0, .ref l0), (1, .ref l1), (2, .ref l2), (3, .int l3), (4, .int (b2i l4))] [] M 1476 37392 (f_L_replays_160 l0 l1 l2 l3 l4 M) tZ := by
  unfold f_L_replays_160
  refine V_iconst (x := 0) dL_replays_160 rfl rfl ?_
  refine V_istore (L' := [(0, .ref l0), (1, .ref l1), (2, .ref l2), (3, .int l3), (4, .int (b2i l4)), (5, .int 0)]) dL_replays_161 rfl (by decide) rfl ?_
  exact v_L_replays_163 5 l0 l1 l2 l3 l4 0 M 1476 37392 ⟨(Nat.le_of_ble_eq_true rfl), (Nat.le_of_ble_eq_true rfl)⟩
theorem v_L_replays_154 (fo : Nat) (rc3 : Nat → Nat → Nat → Int32 → Bool → Int32 → Mem → Option ((Bool ⊕ String) × Mem)) (h3 : ∀ (l0 : Nat) (l1 : Nat) (l2 : Nat) (l3 : Int32) (l4 : Bool) (l5 : Int32) (M : Mem) (k n : Nat) (_ : kb 1476 37392 6 152 fo k n), V mi_L_replays 3 [(0, .ref l0), (1, .ref l1), (2, .ref l2), (3, .int l3), (4, .int (b2i l4)), (5, .int l5)] [] M k n (rc3 l0 l1 l2 l3 l4 l5 M) tZ) (l0 : Nat) (l1 : Nat) (l2 : Nat) (l3 : Int32) (l4 : Bool) (l5 : Int32) (M : Mem) (k n : Nat) (hb : kb 1476 37392 6 152 (fo + 1) k n) : V mi_L_replays 154 [(0, .ref l0), (1, .ref l1), (2, .ref l2), (3, .int l3), (4, .int (b2i l4)), (5, .int l5)] [] M (k + 6) (n + 152) (f_L_replays_154 rc3 l0 l1 l2 l3 l4 l5 M) tZ := by
  unfold f_L_replays_154
  refine V_iinc (y := (l5 + 1)) (L' := [(0, .ref l0), (1, .ref l1), (2, .ref l2), (3, .int l3), (4, .int (b2i l4)), (5, .int (l5 + 1))]) dL_replays_154 rfl 5 rfl rfl (by decide) rfl ?_
  refine V_goto (q := 3) dL_replays_157 (by decide) ?_
  exact h3 l0 l1 l2 l3 l4 (l5 + 1) M _ _ (kb_next hb (Nat.le_of_ble_eq_true rfl) (Nat.le_of_ble_eq_true rfl))
theorem v_L_replays_3 : ∀ (fu : Nat) (l0 : Nat) (l1 : Nat) (l2 : Nat) (l3 : Int32) (l4 : Bool) (l5 : Int32) (M : Mem) (k n : Nat) (_ : kb 1476 37392 6 152 fu k n), V mi_L_replays 3 [(0, .ref l0), (1, .ref l1), (2, .ref l2), (3, .int l3), (4, .int (b2i l4)), (5, .int l5)] [] M k n (f_L_replays_3 fu l0 l1 l2 l3 l4 l5 M) tZ := by
  intro fu
  induction fu with
  | zero => intros; exact V_none
  | succ fu ih =>
    intro l0 l1 l2 l3 l4 l5 M k n hb
    show V mi_L_replays 3 [(0, .ref l0), (1, .ref l1), (2, .ref l2), (3, .int l3), (4, .int (b2i l4)), (5, .int l5)] [] M k n (f_L_replays_3 (fu + 1) l0 l1 l2 l3 l4 l5 M) tZ
    unfold f_L_replays_3
    refine V_iload dL_replays_3 rfl 5 rfl ?_
    refine V_aload_n dL_replays_5 rfl 0 rfl ?_
    refine V_iconst (x := 4) dL_replays_6 rfl rfl ?_
    refine V_cVtI (As := [.int 4]) (k_X11_property l0 4 M) rfl (fun _ _ => rfl) (fun _ h => o_X11_property h) ok_X11_property im_X11_property se_X11_property rfl (ci := 10) rfl ml_L_110 ⟨⟨(Nat.le_of_ble_eq_true rfl), (Nat.le_of_ble_eq_true rfl)⟩, kb_c0 hb (Nat.le_of_ble_eq_true rfl) (Nat.le_of_ble_eq_true rfl), kb_s0 hb (Nat.le_of_ble_eq_true rfl) (Nat.le_of_ble_eq_true rfl)⟩ dL_replays_7 rfl rfl rfl (Nat.le_of_ble_eq_true rfl) rfl rfl (fun x1 M2 => ?_)
    refine V_icmp_ge (q := 160) (q2 := 13) dL_replays_10 (by decide) rfl ?_ ?_
    · exact V_sub [0, 1, 2, 3, 4] rfl (V_w (kb_ck hb (Nat.le_of_ble_eq_true rfl) (Nat.le_of_ble_eq_true rfl)) (kb_sk hb (Nat.le_of_ble_eq_true rfl) (Nat.le_of_ble_eq_true rfl)) (v_L_replays_160 l0 l1 l2 l3 l4 M2))
    · refine V_aload_n dL_replays_13 rfl 0 rfl ?_
      refine V_iload dL_replays_14 rfl 5 rfl ?_
      refine V_iconst (x := 0) dL_replays_16 rfl rfl ?_
      refine V_cVtI (As := [.int l5, .int 0]) (k_X11_notice l0 l5 0 M2) rfl (fun _ _ => rfl) (fun _ h => o_X11_notice h) ok_X11_notice im_X11_notice se_X11_notice rfl (ci := 10) rfl ml_L_235 ⟨⟨(Nat.le_of_ble_eq_true rfl), (Nat.le_of_ble_eq_true rfl)⟩, kb_c hb (Nat.le_of_ble_eq_true rfl) (Nat.le_of_ble_eq_true rfl), kb_s hb (Nat.le_of_ble_eq_true rfl) (Nat.le_of_ble_eq_true rfl)⟩ dL_replays_17 rfl rfl rfl (Nat.le_of_ble_eq_true rfl) (Nat.add_assoc _ _ _) (Nat.add_assoc _ _ _) (fun x29 M30 => ?_)
      refine V_istore (L' := [(0, .ref l0), (1, .ref l1), (2, .ref l2), (3, .int l3), (4, .int (b2i l4)), (5, .int l5), (6, .int x29)]) dL_replays_20 rfl (by decide) rfl ?_
      refine V_aload_n dL_replays_22 rfl 0 rfl ?_
      refine V_iload dL_replays_23 rfl 5 rfl ?_
      refine V_iconst (x := 2) dL_replays_25 rfl rfl ?_
      refine V_cVtI (As := [.int l5, .int 2]) (k_X11_notice l0 l5 2 M30) rfl (fun _ _ => rfl) (fun _ h => o_X11_notice h) ok_X11_notice im_X11_notice se_X11_notice rfl (ci := 10) rfl ml_L_235 ⟨⟨(Nat.le_of_ble_eq_true rfl), (Nat.le_of_ble_eq_true rfl)⟩, kb_c hb (Nat.le_of_ble_eq_true rfl) (Nat.le_of_ble_eq_true rfl), kb_s hb (Nat.le_of_ble_eq_true rfl) (Nat.le_of_ble_eq_true rfl)⟩ dL_replays_26 rfl rfl rfl (Nat.le_of_ble_eq_true rfl) (Nat.add_assoc _ _ _) (Nat.add_assoc _ _ _) (fun x31 M32 => ?_)
      refine V_istore (L' := [(0, .ref l0), (1, .ref l1), (2, .ref l2), (3, .int l3), (4, .int (b2i l4)), (5, .int l5), (6, .int x29), (7, .int x31)]) dL_replays_29 rfl (by decide) rfl ?_
      refine V_aload_n dL_replays_31 rfl 0 rfl ?_
      refine V_iload dL_replays_32 rfl 5 rfl ?_
      refine V_iconst (x := 1) dL_replays_34 rfl rfl ?_
      refine V_cVtI (As := [.int l5, .int 1]) (k_X11_notice l0 l5 1 M32) rfl (fun _ _ => rfl) (fun _ h => o_X11_notice h) ok_X11_notice im_X11_notice se_X11_notice rfl (ci := 10) rfl ml_L_235 ⟨⟨(Nat.le_of_ble_eq_true rfl), (Nat.le_of_ble_eq_true rfl)⟩, kb_c hb (Nat.le_of_ble_eq_true rfl) (Nat.le_of_ble_eq_true rfl), kb_s hb (Nat.le_of_ble_eq_true rfl) (Nat.le_of_ble_eq_true rfl)⟩ dL_replays_35 rfl rfl rfl (Nat.le_of_ble_eq_true rfl) (Nat.add_assoc _ _ _) (Nat.add_assoc _ _ _) (fun x33 M34 => ?_)
      refine V_look2 (q := 64) (q2 := 97) (q3 := 116) dL_replays_38 (by decide) (by decide) (by decide) ?_ ?_ ?_
      · refine V_aload_n dL_replays_64 rfl 1 rfl ?_
        refine V_iload dL_replays_65 rfl 6 rfl ?_
        refine V_aload_n dL_replays_67 rfl 1 rfl ?_
        refine V_iload dL_replays_68 rfl 6 rfl ?_
        refine V_aaloadA dL_replays_70 rfl (fun x35 => ?_)
        refine V_iload dL_replays_71 rfl 7 rfl ?_
        refine V_iconst (x := 1) dL_replays_73 rfl rfl ?_
        refine V_isub dL_replays_74 rfl ?_
        refine V_nn (fun r36 hqr36 => ?_)
        subst hqr36
        refine V_cSwR (As := [.ref r36, .int (x31 - 1)]) (k_L_without r36 (x31 - 1) M34) ok_L_without sm_L_without ml_L_238 ⟨⟨(Nat.le_of_ble_eq_true rfl), (Nat.le_of_ble_eq_true rfl)⟩, kb_c hb (Nat.le_of_ble_eq_true rfl) (Nat.le_of_ble_eq_true rfl), kb_s hb (Nat.le_of_ble_eq_true rfl) (Nat.le_of_ble_eq_true rfl)⟩ dL_replays_75 rfl rfl rfl (Nat.le_of_ble_eq_true rfl) (Nat.add_assoc _ _ _) (Nat.add_assoc _ _ _) (fun x37 M38 => ?_)
        refine V_aastoreA ao_9 dL_replays_78 rfl (fun M39 => ?_)
        refine V_aload_n dL_replays_79 rfl 2 rfl ?_
        refine V_iload dL_replays_80 rfl 6 rfl ?_
        refine V_aload_n dL_replays_82 rfl 2 rfl ?_
        refine V_iload dL_replays_83 rfl 6 rfl ?_
        refine V_aaloadA dL_replays_85 rfl (fun x40 => ?_)
        refine V_iload dL_replays_86 rfl 7 rfl ?_
        refine V_iconst (x := 1) dL_replays_88 rfl rfl ?_
        refine V_isub dL_replays_89 rfl ?_
        refine V_nn (fun r41 hqr41 => ?_)
        subst hqr41
        refine V_cSwR (As := [.ref r41, .int (x31 - 1)]) (k_L_without r41 (x31 - 1) M39) ok_L_without sm_L_without ml_L_238 ⟨⟨(Nat.le_of_ble_eq_true rfl), (Nat.le_of_ble_eq_true rfl)⟩, kb_c hb (Nat.le_of_ble_eq_true rfl) (Nat.le_of_ble_eq_true rfl), kb_s hb (Nat.le_of_ble_eq_true rfl) (Nat.le_of_ble_eq_true rfl)⟩ dL_replays_90 rfl rfl rfl (Nat.le_of_ble_eq_true rfl) (Nat.add_assoc _ _ _) (Nat.add_assoc _ _ _) (fun x42 M43 => ?_)
        refine V_aastoreA ao_9 dL_replays_93 rfl (fun M44 => ?_)
        refine V_goto (q := 154) dL_replays_94 (by decide) ?_
        exact V_sub [0, 1, 2, 3, 4, 5] rfl (v_L_replays_154 fu (f_L_replays_3 fu) ih l0 l1 l2 l3 l4 l5 M44 k n hb)
      · refine V_aload_n dL_replays_97 rfl 2 rfl ?_
        refine V_iload dL_replays_98 rfl 6 rfl ?_
        refine V_aaloadA dL_replays_100 rfl (fun x45 => ?_)
        refine V_iload dL_replays_101 rfl 7 rfl ?_
        refine V_iconst (x := 1) dL_replays_103 rfl rfl ?_
        refine V_isub dL_replays_104 rfl ?_
        refine V_aload_n dL_replays_105 rfl 0 rfl ?_
        refine V_iload dL_replays_106 rfl 5 rfl ?_
        refine V_iconst (x := 3) dL_replays_108 rfl rfl ?_
        refine V_cVtI (As := [.int l5, .int 3]) (k_X11_notice l0 l5 3 M34) rfl (fun _ _ => rfl) (fun _ h => o_X11_notice h) ok_X11_notice im_X11_notice se_X11_notice rfl (ci := 10) rfl ml_L_235 ⟨⟨(Nat.le_of_ble_eq_true rfl), (Nat.le_of_ble_eq_true rfl)⟩, kb_c hb (Nat.le_of_ble_eq_true rfl) (Nat.le_of_ble_eq_true rfl), kb_s hb (Nat.le_of_ble_eq_true rfl) (Nat.le_of_ble_eq_true rfl)⟩ dL_replays_109 rfl rfl rfl (by rcases (x45 : Option Nat) with _ | _ <;> exact Nat.le_of_ble_eq_true rfl) (Nat.add_assoc _ _ _) (Nat.add_assoc _ _ _) (fun x46 M47 => ?_)
        refine V_nn (fun r49 hqr49 => ?_)
        subst hqr49
        refine V_iastore dL_replays_112 rfl (fun M48 => ?_)
        refine V_goto (q := 154) dL_replays_113 (by decide) ?_
        exact V_sub [0, 1, 2, 3, 4, 5] rfl (V_w (Nat.add_le_add_left (Nat.le_of_ble_eq_true rfl) _) (Nat.add_le_add_left (Nat.le_of_ble_eq_true rfl) _) (v_L_replays_154 fu (f_L_replays_3 fu) ih l0 l1 l2 l3 l4 l5 M48 k n hb))
      · refine V_iload dL_replays_116 rfl 7 rfl ?_
        refine V_aload_n dL_replays_118 rfl 1 rfl ?_
        refine V_iload dL_replays_119 rfl 6 rfl ?_
        refine V_aaloadA dL_replays_121 rfl (fun x50 => ?_)
        refine V_nn (fun r52 hqr52 => ?_)
        subst hqr52
        refine V_arraylength dL_replays_122 rfl (fun x51 => ?_)
        refine V_icmp_gt (q := 128) (q2 := 126) dL_replays_123 (by decide) rfl ?_ ?_
        · refine V_aload_n dL_replays_128 rfl 1 rfl ?_
          refine V_iload dL_replays_129 rfl 6 rfl ?_
          refine V_aload_n dL_replays_131 rfl 1 rfl ?_
          refine V_iload dL_replays_132 rfl 6 rfl ?_
          refine V_aaloadA dL_replays_134 rfl (fun x53 => ?_)
          refine V_iload dL_replays_135 rfl 7 rfl ?_
          refine V_nn (fun r54 hqr54 => ?_)
          subst hqr54
          refine V_cSwR (As := [.ref r54, .int x31]) (k_L_longer r54 x31 M34) ok_L_longer sm_L_longer ml_L_242 ⟨⟨(Nat.le_of_ble_eq_true rfl), (Nat.le_of_ble_eq_true rfl)⟩, kb_c hb (Nat.le_of_ble_eq_true rfl) (Nat.le_of_ble_eq_true rfl), kb_s hb (Nat.le_of_ble_eq_true rfl) (Nat.le_of_ble_eq_true rfl)⟩ dL_replays_137 rfl rfl rfl (Nat.le_of_ble_eq_true rfl) (Nat.add_assoc _ _ _) (Nat.add_assoc _ _ _) (fun x55 M56 => ?_)
          refine V_aastoreA ao_9 dL_replays_140 rfl (fun M57 => ?_)
          refine V_aload_n dL_replays_141 rfl 2 rfl ?_
          refine V_iload dL_replays_142 rfl 6 rfl ?_
          refine V_aload_n dL_replays_144 rfl 2 rfl ?_
          refine V_iload dL_replays_145 rfl 6 rfl ?_
          refine V_aaloadA dL_replays_147 rfl (fun x58 => ?_)
          refine V_iload dL_replays_148 rfl 7 rfl ?_
          refine V_nn (fun r59 hqr59 => ?_)
          subst hqr59
          refine V_cSwR (As := [.ref r59, .int x31]) (k_L_longer r59 x31 M57) ok_L_longer sm_L_longer ml_L_242 ⟨⟨(Nat.le_of_ble_eq_true rfl), (Nat.le_of_ble_eq_true rfl)⟩, kb_c hb (Nat.le_of_ble_eq_true rfl) (Nat.le_of_ble_eq_true rfl), kb_s hb (Nat.le_of_ble_eq_true rfl) (Nat.le_of_ble_eq_true rfl)⟩ dL_replays_150 rfl rfl rfl (Nat.le_of_ble_eq_true rfl) (Nat.add_assoc _ _ _) (Nat.add_assoc _ _ _) (fun x60 M61 => ?_)
          refine V_aastoreA ao_9 dL_replays_153 rfl (fun M62 => ?_)
          exact V_sub [0, 1, 2, 3, 4, 5] rfl (v_L_replays_154 fu (f_L_replays_3 fu) ih l0 l1 l2 l3 l4 l5 M62 k n hb)
        · refine V_iconst (x := 0) dL_replays_126 rfl rfl ?_
          exact V_zret (v := false) dL_replays_127 rfl rfl ⟨kb_ck hb (Nat.le_of_ble_eq_true rfl) (Nat.le_of_ble_eq_true rfl), kb_sk hb (Nat.le_of_ble_eq_true rfl) (Nat.le_of_ble_eq_true rfl)⟩
theorem v_L_replays (a0 : Nat) (a1 : Nat) (a2 : Nat) (a3 : Int32) (a4 : Bool) (M : Mem) : V mi_L_replays 0 [(0, .ref a0), (1, .ref a1), (2, .ref a2), (3, .int a3), (4, .int (b2i a4))] [] M 0 0 (f_L_replays a0 a1 a2 a3 a4 M) tZ := by
  unfold f_L_replays
  refine V_iconst (x := 0) dL_replays_0 rfl rfl ?_
  refine V_istore (L' := [(0, .ref a0), (1, .ref a1), (2, .ref a2), (3, .int a3), (4, .int (b2i a4)), (5, .int 0)]) dL_replays_1 rfl (by decide) rfl ?_
  exact v_L_replays_3 246 a0 a1 a2 a3 a4 0 M 0 0 ⟨(Nat.le_of_ble_eq_true rfl), (Nat.le_of_ble_eq_true rfl)⟩
theorem k_L_replays (a0 : Nat) (a1 : Nat) (a2 : Nat) (a3 : Int32) (a4 : Bool) (M : Mem) : K mi_L_replays [.ref a0, .ref a1, .ref a2, .int a3, .int (b2i a4)] M (f_L_replays a0 a1 a2 a3 a4 M) tZ := K_of_V ok_L_replays (Nat.le_of_ble_eq_true rfl) (v_L_replays a0 a1 a2 a3 a4 M)
theorem dL_session_0 : decode cL_session 0 = .ok (.aload_n 0, 1) := by decide +kernel
theorem dL_session_1 : decode cL_session 1 = .ok (.iload_n 1, 1) := by decide +kernel
theorem dL_session_2 : decode cL_session 2 = .ok (.iconst 0, 1) := by decide +kernel
theorem dL_session_3 : decode cL_session 3 = .ok (.invokevirtual 117, 3) := by decide +kernel
theorem dL_session_6 : decode cL_session 6 = .ok (.istore_n 2, 1) := by decide +kernel
theorem dL_session_7 : decode cL_session 7 = .ok (.iconst 0, 1) := by decide +kernel
theorem dL_session_8 : decode cL_session 8 = .ok (.istore_n 3, 1) := by decide +kernel
theorem dL_session_9 : decode cL_session 9 = .ok (.iconst 0, 1) := by decide +kernel
theorem dL_session_10 : decode cL_session 10 = .ok (.istore 4, 2) := by decide +kernel
theorem dL_session_12 : decode cL_session 12 = .ok (.iconst 0, 1) := by decide +kernel
theorem dL_session_13 : decode cL_session 13 = .ok (.istore 5, 2) := by decide +kernel
theorem dL_session_15 : decode cL_session 15 = .ok (.iconst (-1), 1) := by decide +kernel
theorem dL_session_16 : decode cL_session 16 = .ok (.istore 6, 2) := by decide +kernel
theorem dL_session_18 : decode cL_session 18 = .ok (.iconst (-1), 1) := by decide +kernel
theorem dL_session_19 : decode cL_session 19 = .ok (.istore 7, 2) := by decide +kernel
theorem dL_session_21 : decode cL_session 21 = .ok (.iconst 0, 1) := by decide +kernel
theorem dL_session_22 : decode cL_session 22 = .ok (.istore 8, 2) := by decide +kernel
theorem dL_session_24 : decode cL_session 24 = .ok (.iconst 1, 1) := by decide +kernel
theorem dL_session_25 : decode cL_session 25 = .ok (.istore 9, 2) := by decide +kernel
theorem dL_session_27 : decode cL_session 27 = .ok (.iload 9, 2) := by decide +kernel
theorem dL_session_29 : decode cL_session 29 = .ok (.aload_n 0, 1) := by decide +kernel
theorem dL_session_30 : decode cL_session 30 = .ok (.iload_n 1, 1) := by decide +kernel
theorem dL_session_31 : decode cL_session 31 = .ok (.iconst 3, 1) := by decide +kernel
theorem dL_session_32 : decode cL_session 32 = .ok (.invokevirtual 117, 3) := by decide +kernel
theorem dL_session_35 : decode cL_session 35 = .ok (.if_icmp .gt 271, 3) := by decide +kernel
theorem dL_session_38 : decode cL_session 38 = .ok (.aload_n 0, 1) := by decide +kernel
theorem dL_session_39 : decode cL_session 39 = .ok (.iload_n 1, 1) := by decide +kernel
theorem dL_session_40 : decode cL_session 40 = .ok (.iload 9, 2) := by decide +kernel
theorem dL_session_42 : decode cL_session 42 = .ok (.iconst 0, 1) := by decide +kernel
theorem dL_session_43 : decode cL_session 43 = .ok (.invokevirtual 175, 3) := by decide +kernel
theorem dL_session_46 : decode cL_session 46 = .ok (.istore 10, 2) := by decide +kernel
theorem dL_session_48 : decode cL_session 48 = .ok (.iload_n 2, 1) := by decide +kernel
theorem dL_session_49 : decode cL_session 49 = .ok (.ifCond .ge 7, 3) := by decide +kernel
theorem dL_session_52 : decode cL_session 52 = .ok (.iconst (-1), 1) := by decide +kernel
theorem dL_session_53 : decode cL_session 53 = .ok (.goto 10, 3) := by decide +kernel
theorem dL_session_56 : decode cL_session 56 = .ok (.aload_n 0, 1) := by decide +kernel
theorem dL_session_57 : decode cL_session 57 = .ok (.iload_n 2, 1) := by decide +kernel
theorem dL_session_58 : decode cL_session 58 = .ok (.iload 10, 2) := by decide +kernel
theorem dL_session_60 : decode cL_session 60 = .ok (.invokevirtual 245, 3) := by decide +kernel
theorem dL_session_63 : decode cL_session 63 = .ok (.istore 11, 2) := by decide +kernel
theorem dL_session_65 : decode cL_session 65 = .ok (.iload 10, 2) := by decide +kernel
theorem dL_session_67 : decode cL_session 67 = .ok (.iload 5, 2) := by decide +kernel
theorem dL_session_69 : decode cL_session 69 = .ok (.if_icmp .le 36, 3) := by decide +kernel
theorem dL_session_72 : decode cL_session 72 = .ok (.aload_n 0, 1) := by decide +kernel
theorem dL_session_73 : decode cL_session 73 = .ok (.iload_n 1, 1) := by decide +kernel
theorem dL_session_74 : decode cL_session 74 = .ok (.iload 9, 2) := by decide +kernel
theorem dL_session_76 : decode cL_session 76 = .ok (.iconst 2, 1) := by decide +kernel
theorem dL_session_77 : decode cL_session 77 = .ok (.invokevirtual 175, 3) := by decide +kernel
theorem dL_session_80 : decode cL_session 80 = .ok (.iload 11, 2) := by decide +kernel
theorem dL_session_82 : decode cL_session 82 = .ok (.ifCond .ge 7, 3) := by decide +kernel
theorem dL_session_85 : decode cL_session 85 = .ok (.iconst 1, 1) := by decide +kernel
theorem dL_session_86 : decode cL_session 86 = .ok (.goto 4, 3) := by decide +kernel
theorem dL_session_89 : decode cL_session 89 = .ok (.iconst 0, 1) := by decide +kernel
theorem dL_session_90 : decode cL_session 90 = .ok (.if_icmp .ne 15, 3) := by decide +kernel
theorem dL_session_93 : decode cL_session 93 = .ok (.aload_n 0, 1) := by decide +kernel
theorem dL_session_94 : decode cL_session 94 = .ok (.iload_n 1, 1) := by decide +kernel
theorem dL_session_95 : decode cL_session 95 = .ok (.iload 10, 2) := by decide +kernel
theorem dL_session_97 : decode cL_session 97 = .ok (.invokevirtual 248, 3) := by decide +kernel
theorem dL_session_100 : decode cL_session 100 = .ok (.iload 9, 2) := by decide +kernel
theorem dL_session_102 : decode cL_session 102 = .ok (.if_icmp .eq 5, 3) := by decide +kernel
theorem dL_session_105 : decode cL_session 105 = .ok (.iconst 0, 1) := by decide +kernel
theorem dL_session_106 : decode cL_session 106 = .ok (.ireturn, 1) := by decide +kernel
theorem dL_session_107 : decode cL_session 107 = .ok (.aload_n 0, 1) := by decide +kernel
theorem dL_session_108 : decode cL_session 108 = .ok (.iload_n 1, 1) := by decide +kernel
theorem dL_session_109 : decode cL_session 109 = .ok (.iload 9, 2) := by decide +kernel
theorem dL_session_111 : decode cL_session 111 = .ok (.iconst 3, 1) := by decide +kernel
theorem dL_session_112 : decode cL_session 112 = .ok (.invokevirtual 175, 3) := by decide +kernel
theorem dL_session_115 : decode cL_session 115 = .ok (.iload 11, 2) := by decide +kernel
theorem dL_session_117 : decode cL_session 117 = .ok (.ifCond .ge 7, 3) := by decide +kernel
theorem dL_session_120 : decode cL_session 120 = .ok (.iconst 0, 1) := by decide +kernel
theorem dL_session_121 : decode cL_session 121 = .ok (.goto 11, 3) := by decide +kernel
theorem dL_session_124 : decode cL_session 124 = .ok (.aload_n 0, 1) := by decide +kernel
theorem dL_session_125 : decode cL_session 125 = .ok (.iload_n 2, 1) := by decide +kernel
theorem dL_session_126 : decode cL_session 126 = .ok (.iload 11, 2) := by decide +kernel
theorem dL_session_128 : decode cL_session 128 = .ok (.iconst 1, 1) := by decide +kernel
theorem dL_session_129 : decode cL_session 129 = .ok (.invokevirtual 172, 3) := by decide +kernel
theorem dL_session_132 : decode cL_session 132 = .ok (.if_icmp .ne 31, 3) := by decide +kernel
theorem dL_session_135 : decode cL_session 135 = .ok (.aload_n 0, 1) := by decide +kernel
theorem dL_session_136 : decode cL_session 136 = .ok (.iload_n 1, 1) := by decide +kernel
theorem dL_session_137 : decode cL_session 137 = .ok (.iload 9, 2) := by decide +kernel
theorem dL_session_139 : decode cL_session 139 = .ok (.iconst 4, 1) := by decide +kernel
theorem dL_session_140 : decode cL_session 140 = .ok (.invokevirtual 175, 3) := by decide +kernel
theorem dL_session_143 : decode cL_session 143 = .ok (.iload 11, 2) := by decide +kernel
theorem dL_session_145 : decode cL_session 145 = .ok (.ifCond .ge 7, 3) := by decide +kernel
theorem dL_session_148 : decode cL_session 148 = .ok (.iconst 0, 1) := by decide +kernel
theorem dL_session_149 : decode cL_session 149 = .ok (.goto 11, 3) := by decide +kernel
theorem dL_session_152 : decode cL_session 152 = .ok (.aload_n 0, 1) := by decide +kernel
theorem dL_session_153 : decode cL_session 153 = .ok (.iload_n 2, 1) := by decide +kernel
theorem dL_session_154 : decode cL_session 154 = .ok (.iload 11, 2) := by decide +kernel
theorem dL_session_156 : decode cL_session 156 = .ok (.iconst 2, 1) := by decide +kernel
theorem dL_session_157 : decode cL_session 157 = .ok (.invokevirtual 172, 3) := by decide +kernel
theorem dL_session_160 : decode cL_session 160 = .ok (.if_icmp .eq 5, 3) := by decide +kernel
theorem dL_session_163 : decode cL_session 163 = .ok (.iconst 0, 1) := by decide +kernel
theorem dL_session_164 : decode cL_session 164 = .ok (.ireturn, 1) := by decide +kernel
theorem dL_session_165 : decode cL_session 165 = .ok (.aload_n 0, 1) := by decide +kernel
theorem dL_session_166 : decode cL_session 166 = .ok (.iload_n 1, 1) := by decide +kernel
theorem dL_session_167 : decode cL_session 167 = .ok (.iload 9, 2) := by decide +kernel
theorem dL_session_169 : decode cL_session 169 = .ok (.invokevirtual 251, 3) := by decide +kernel
theorem dL_session_172 : decode cL_session 172 = .ok (.iload 11, 2) := by decide +kernel
theorem dL_session_174 : decode cL_session 174 = .ok (.ifCond .ge 7, 3) := by decide +kernel
theorem dL_session_177 : decode cL_session 177 = .ok (.iconst (-1), 1) := by decide +kernel
theorem dL_session_178 : decode cL_session 178 = .ok (.goto 7, 3) := by decide +kernel
theorem dL_session_181 : decode cL_session 181 = .ok (.iload 9, 2) := by decide +kernel
theorem dL_session_183 : decode cL_session 183 = .ok (.iload_n 3, 1) := by decide +kernel
theorem dL_session_184 : decode cL_session 184 = .ok (.isub, 1) := by decide +kernel
theorem dL_session_185 : decode cL_session 185 = .ok (.if_icmp .eq 5, 3) := by decide +kernel
theorem dL_session_188 : decode cL_session 188 = .ok (.iconst 0, 1) := by decide +kernel
theorem dL_session_189 : decode cL_session 189 = .ok (.ireturn, 1) := by decide +kernel
theorem dL_session_190 : decode cL_session 190 = .ok (.iload_n 3, 1) := by decide +kernel
theorem dL_session_191 : decode cL_session 191 = .ok (.iload 11, 2) := by decide +kernel
theorem dL_session_193 : decode cL_session 193 = .ok (.ifCond .ge 7, 3) := by decide +kernel
theorem dL_session_196 : decode cL_session 196 = .ok (.iconst 1, 1) := by decide +kernel
theorem dL_session_197 : decode cL_session 197 = .ok (.goto 4, 3) := by decide +kernel
theorem dL_session_200 : decode cL_session 200 = .ok (.iconst 0, 1) := by decide +kernel
theorem dL_session_201 : decode cL_session 201 = .ok (.iadd, 1) := by decide +kernel
theorem dL_session_202 : decode cL_session 202 = .ok (.istore_n 3, 1) := by decide +kernel
theorem dL_session_203 : decode cL_session 203 = .ok (.iload 4, 2) := by decide +kernel
theorem dL_session_205 : decode cL_session 205 = .ok (.iload 11, 2) := by decide +kernel
theorem dL_session_207 : decode cL_session 207 = .ok (.ifCond .lt 26, 3) := by decide +kernel
theorem dL_session_210 : decode cL_session 210 = .ok (.aload_n 0, 1) := by decide +kernel
theorem dL_session_211 : decode cL_session 211 = .ok (.iload_n 2, 1) := by decide +kernel
theorem dL_session_212 : decode cL_session 212 = .ok (.iload 11, 2) := by decide +kernel
theorem dL_session_214 : decode cL_session 214 = .ok (.iconst 2, 1) := by decide +kernel
theorem dL_session_215 : decode cL_session 215 = .ok (.invokevirtual 172, 3) := by decide +kernel
theorem dL_session_218 : decode cL_session 218 = .ok (.aload_n 0, 1) := by decide +kernel
theorem dL_session_219 : decode cL_session 219 = .ok (.iload_n 1, 1) := by decide +kernel
theorem dL_session_220 : decode cL_session 220 = .ok (.iload 9, 2) := by decide +kernel
theorem dL_session_222 : decode cL_session 222 = .ok (.iconst 1, 1) := by decide +kernel
theorem dL_session_223 : decode cL_session 223 = .ok (.invokevirtual 175, 3) := by decide +kernel
theorem dL_session_226 : decode cL_session 226 = .ok (.if_icmp .eq 7, 3) := by decide +kernel
theorem dL_session_229 : decode cL_session 229 = .ok (.iconst 1, 1) := by decide +kernel
theorem dL_session_230 : decode cL_session 230 = .ok (.goto 4, 3) := by decide +kernel
theorem dL_session_233 : decode cL_session 233 = .ok (.iconst 0, 1) := by decide +kernel
theorem dL_session_234 : decode cL_session 234 = .ok (.iadd, 1) := by decide +kernel
theorem dL_session_235 : decode cL_session 235 = .ok (.istore 4, 2) := by decide +kernel
theorem dL_session_237 : decode cL_session 237 = .ok (.iload 6, 2) := by decide +kernel
theorem dL_session_239 : decode cL_session 239 = .ok (.ifCond .ge 21, 3) := by decide +kernel
theorem dL_session_242 : decode cL_session 242 = .ok (.aload_n 0, 1) := by decide +kernel
theorem dL_session_243 : decode cL_session 243 = .ok (.iload_n 1, 1) := by decide +kernel
theorem dL_session_244 : decode cL_session 244 = .ok (.iload 9, 2) := by decide +kernel
theorem dL_session_246 : decode cL_session 246 = .ok (.iconst 1, 1) := by decide +kernel
theorem dL_session_247 : decode cL_session 247 = .ok (.invokevirtual 175, 3) := by decide +kernel
theorem dL_session_250 : decode cL_session 250 = .ok (.iconst 1, 1) := by decide +kernel
theorem dL_session_251 : decode cL_session 251 = .ok (.iand, 1) := by decide +kernel
theorem dL_session_252 : decode cL_session 252 = .ok (.ifCond .ne 8, 3) := by decide +kernel
theorem dL_session_255 : decode cL_session 255 = .ok (.iload 9, 2) := by decide +kernel
theorem dL_session_257 : decode cL_session 257 = .ok (.goto 5, 3) := by decide +kernel
theorem dL_session_260 : decode cL_session 260 = .ok (.iload 6, 2) := by decide +kernel
theorem dL_session_262 : decode cL_session 262 = .ok (.istore 6, 2) := by decide +kernel
theorem dL_session_264 : decode cL_session 264 = .ok (.iload 11, 2) := by decide +kernel
theorem dL_session_266 : decode cL_session 266 = .ok (.ifCond .lt 30, 3) := by decide +kernel
theorem dL_session_269 : decode cL_session 269 = .ok (.aload_n 0, 1) := by decide +kernel
theorem dL_session_270 : decode cL_session 270 = .ok (.iload_n 2, 1) := by decide +kernel
theorem dL_session_271 : decode cL_session 271 = .ok (.iload 11, 2) := by decide +kernel
theorem dL_session_273 : decode cL_session 273 = .ok (.iconst 1, 1) := by decide +kernel
theorem dL_session_274 : decode cL_session 274 = .ok (.invokevirtual 172, 3) := by decide +kernel
theorem dL_session_277 : decode cL_session 277 = .ok (.iload 8, 2) := by decide +kernel
theorem dL_session_279 : decode cL_session 279 = .ok (.if_icmp .le 17, 3) := by decide +kernel
theorem dL_session_282 : decode cL_session 282 = .ok (.iload 9, 2) := by decide +kernel
theorem dL_session_284 : decode cL_session 284 = .ok (.istore 7, 2) := by decide +kernel
theorem dL_session_286 : decode cL_session 286 = .ok (.aload_n 0, 1) := by decide +kernel
theorem dL_session_287 : decode cL_session 287 = .ok (.iload_n 2, 1) := by decide +kernel
theorem dL_session_288 : decode cL_session 288 = .ok (.iload 11, 2) := by decide +kernel
theorem dL_session_290 : decode cL_session 290 = .ok (.iconst 1, 1) := by decide +kernel
theorem dL_session_291 : decode cL_session 291 = .ok (.invokevirtual 172, 3) := by decide +kernel
theorem dL_session_294 : decode cL_session 294 = .ok (.istore 8, 2) := by decide +kernel
theorem dL_session_296 : decode cL_session 296 = .ok (.iload 10, 2) := by decide +kernel
theorem dL_session_298 : decode cL_session 298 = .ok (.istore 5, 2) := by decide +kernel
theorem dL_session_300 : decode cL_session 300 = .ok (.iinc 9 1, 3) := by decide +kernel
theorem dL_session_303 : decode cL_session 303 = .ok (.goto (-276), 3) := by decide +kernel
theorem dL_session_306 : decode cL_session 306 = .ok (.iconst 0, 1) := by decide +kernel
theorem dL_session_307 : decode cL_session 307 = .ok (.istore 9, 2) := by decide +kernel
theorem dL_session_309 : decode cL_session 309 = .ok (.iconst 0, 1) := by decide +kernel
theorem dL_session_310 : decode cL_session 310 = .ok (.istore 10, 2) := by decide +kernel
theorem dL_session_312 : decode cL_session 312 = .ok (.iload_n 2, 1) := by decide +kernel
theorem dL_session_313 : decode cL_session 313 = .ok (.ifCond .lt 59, 3) := by decide +kernel
theorem dL_session_316 : decode cL_session 316 = .ok (.iload 10, 2) := by decide +kernel
theorem dL_session_318 : decode cL_session 318 = .ok (.aload_n 0, 1) := by decide +kernel
theorem dL_session_319 : decode cL_session 319 = .ok (.iload_n 2, 1) := by decide +kernel
theorem dL_session_320 : decode cL_session 320 = .ok (.iconst 0, 1) := by decide +kernel
theorem dL_session_321 : decode cL_session 321 = .ok (.invokevirtual 114, 3) := by decide +kernel
theorem dL_session_324 : decode cL_session 324 = .ok (.if_icmp .ge 48, 3) := by decide +kernel
theorem dL_session_327 : decode cL_session 327 = .ok (.iload 9, 2) := by decide +kernel
theorem dL_session_329 : decode cL_session 329 = .ok (.aload_n 0, 1) := by decide +kernel
theorem dL_session_330 : decode cL_session 330 = .ok (.iload_n 2, 1) := by decide +kernel
theorem dL_session_331 : decode cL_session 331 = .ok (.iload 10, 2) := by decide +kernel
theorem dL_session_333 : decode cL_session 333 = .ok (.iconst 0, 1) := by decide +kernel
theorem dL_session_334 : decode cL_session 334 = .ok (.invokevirtual 172, 3) := by decide +kernel
theorem dL_session_337 : decode cL_session 337 = .ok (.iload 5, 2) := by decide +kernel
theorem dL_session_339 : decode cL_session 339 = .ok (.if_icmp .le 23, 3) := by decide +kernel
theorem dL_session_342 : decode cL_session 342 = .ok (.aload_n 0, 1) := by decide +kernel
theorem dL_session_343 : decode cL_session 343 = .ok (.iload_n 1, 1) := by decide +kernel
theorem dL_session_344 : decode cL_session 344 = .ok (.aload_n 0, 1) := by decide +kernel
theorem dL_session_345 : decode cL_session 345 = .ok (.iload_n 2, 1) := by decide +kernel
theorem dL_session_346 : decode cL_session 346 = .ok (.iload 10, 2) := by decide +kernel
theorem dL_session_348 : decode cL_session 348 = .ok (.iconst 0, 1) := by decide +kernel
theorem dL_session_349 : decode cL_session 349 = .ok (.invokevirtual 172, 3) := by decide +kernel
theorem dL_session_352 : decode cL_session 352 = .ok (.invokevirtual 248, 3) := by decide +kernel
theorem dL_session_355 : decode cL_session 355 = .ok (.ifCond .ge 7, 3) := by decide +kernel
theorem dL_session_358 : decode cL_session 358 = .ok (.iconst 1, 1) := by decide +kernel
theorem dL_session_359 : decode cL_session 359 = .ok (.goto 4, 3) := by decide +kernel
theorem dL_session_362 : decode cL_session 362 = .ok (.iconst 0, 1) := by decide +kernel
theorem dL_session_363 : decode cL_session 363 = .ok (.iadd, 1) := by decide +kernel
theorem dL_session_364 : decode cL_session 364 = .ok (.istore 9, 2) := by decide +kernel
theorem dL_session_366 : decode cL_session 366 = .ok (.iinc 10 1, 3) := by decide +kernel
theorem dL_session_369 : decode cL_session 369 = .ok (.goto (-57), 3) := by decide +kernel
theorem dL_session_372 : decode cL_session 372 = .ok (.aload_n 0, 1) := by decide +kernel
theorem dL_session_373 : decode cL_session 373 = .ok (.iload_n 1, 1) := by decide +kernel
theorem dL_session_374 : decode cL_session 374 = .ok (.iconst 4, 1) := by decide +kernel
theorem dL_session_375 : decode cL_session 375 = .ok (.invokevirtual 117, 3) := by decide +kernel
theorem dL_session_378 : decode cL_session 378 = .ok (.iload_n 3, 1) := by decide +kernel
theorem dL_session_379 : decode cL_session 379 = .ok (.if_icmp .ne 46, 3) := by decide +kernel
theorem dL_session_382 : decode cL_session 382 = .ok (.aload_n 0, 1) := by decide +kernel
theorem dL_session_383 : decode cL_session 383 = .ok (.iload_n 1, 1) := by decide +kernel
theorem dL_session_384 : decode cL_session 384 = .ok (.iconst 5, 1) := by decide +kernel
theorem dL_session_385 : decode cL_session 385 = .ok (.invokevirtual 117, 3) := by decide +kernel
theorem dL_session_388 : decode cL_session 388 = .ok (.iload 4, 2) := by decide +kernel
theorem dL_session_390 : decode cL_session 390 = .ok (.if_icmp .ne 35, 3) := by decide +kernel
theorem dL_session_393 : decode cL_session 393 = .ok (.aload_n 0, 1) := by decide +kernel
theorem dL_session_394 : decode cL_session 394 = .ok (.iload_n 1, 1) := by decide +kernel
theorem dL_session_395 : decode cL_session 395 = .ok (.bipush 6, 2) := by decide +kernel
theorem dL_session_397 : decode cL_session 397 = .ok (.invokevirtual 117, 3) := by decide +kernel
theorem dL_session_400 : decode cL_session 400 = .ok (.iload 9, 2) := by decide +kernel
theorem dL_session_402 : decode cL_session 402 = .ok (.if_icmp .gt 23, 3) := by decide +kernel
theorem dL_session_405 : decode cL_session 405 = .ok (.aload_n 0, 1) := by decide +kernel
theorem dL_session_406 : decode cL_session 406 = .ok (.iload_n 1, 1) := by decide +kernel
theorem dL_session_407 : decode cL_session 407 = .ok (.invokevirtual 254, 3) := by decide +kernel
theorem dL_session_410 : decode cL_session 410 = .ok (.iload 6, 2) := by decide +kernel
theorem dL_session_412 : decode cL_session 412 = .ok (.if_icmp .ne 13, 3) := by decide +kernel
theorem dL_session_415 : decode cL_session 415 = .ok (.aload_n 0, 1) := by decide +kernel
theorem dL_session_416 : decode cL_session 416 = .ok (.iload_n 1, 1) := by decide +kernel
theorem dL_session_417 : decode cL_session 417 = .ok (.invokevirtual 257, 3) := by decide +kernel
theorem dL_session_420 : decode cL_session 420 = .ok (.iload 7, 2) := by decide +kernel
theorem dL_session_422 : decode cL_session 422 = .ok (.if_icmp .eq 5, 3) := by decide +kernel
theorem dL_session_425 : decode cL_session 425 = .ok (.iconst 0, 1) := by decide +kernel
theorem dL_session_426 : decode cL_session 426 = .ok (.ireturn, 1) := by decide +kernel
theorem dL_session_427 : decode cL_session 427 = .ok (.iload_n 3, 1) := by decide +kernel
theorem dL_session_428 : decode cL_session 428 = .ok (.iload 4, 2) := by decide +kernel
theorem dL_session_430 : decode cL_session 430 = .ok (.iadd, 1) := by decide +kernel
theorem dL_session_431 : decode cL_session 431 = .ok (.aload_n 0, 1) := by decide +kernel
theorem dL_session_432 : decode cL_session 432 = .ok (.iload_n 1, 1) := by decide +kernel
theorem dL_session_433 : decode cL_session 433 = .ok (.bipush 6, 2) := by decide +kernel
theorem dL_session_435 : decode cL_session 435 = .ok (.invokevirtual 117, 3) := by decide +kernel
theorem dL_session_438 : decode cL_session 438 = .ok (.ifCond .le 20, 3) := by decide +kernel
theorem dL_session_441 : decode cL_session 441 = .ok (.aload_n 0, 1) := by decide +kernel
theorem dL_session_442 : decode cL_session 442 = .ok (.iload_n 1, 1) := by decide +kernel
theorem dL_session_443 : decode cL_session 443 = .ok (.iconst 3, 1) := by decide +kernel
theorem dL_session_444 : decode cL_session 444 = .ok (.invokevirtual 117, 3) := by decide +kernel
theorem dL_session_447 : decode cL_session 447 = .ok (.iload_n 3, 1) := by decide +kernel
theorem dL_session_448 : decode cL_session 448 = .ok (.isub, 1) := by decide +kernel
theorem dL_session_449 : decode cL_session 449 = .ok (.bipush 60, 2) := by decide +kernel
theorem dL_session_451 : decode cL_session 451 = .ok (.if_icmp .ge 7, 3) := by decide +kernel
theorem dL_session_454 : decode cL_session 454 = .ok (.iconst 1, 1) := by decide +kernel
theorem dL_session_455 : decode cL_session 455 = .ok (.goto 4, 3) := by decide +kernel
theorem dL_session_458 : decode cL_session 458 = .ok (.iconst 0, 1) := by decide +kernel
theorem dL_session_459 : decode cL_session 459 = .ok (.iadd, 1) := by decide +kernel
theorem dL_session_460 : decode cL_session 460 = .ok (.istore 10, 2) := by decide +kernel
theorem dL_session_462 : decode cL_session 462 = .ok (.aload_n 0, 1) := by decide +kernel
theorem dL_session_463 : decode cL_session 463 = .ok (.iload_n 1, 1) := by decide +kernel
theorem dL_session_464 : decode cL_session 464 = .ok (.invokevirtual 260, 3) := by decide +kernel
theorem dL_session_467 : decode cL_session 467 = .ok (.iload 10, 2) := by decide +kernel
theorem dL_session_469 : decode cL_session 469 = .ok (.if_icmp .ne 54, 3) := by decide +kernel
theorem dL_session_472 : decode cL_session 472 = .ok (.aload_n 0, 1) := by decide +kernel
theorem dL_session_473 : decode cL_session 473 = .ok (.iload_n 1, 1) := by decide +kernel
theorem dL_session_474 : decode cL_session 474 = .ok (.invokevirtual 263, 3) := by decide +kernel
theorem dL_session_477 : decode cL_session 477 = .ok (.iload_n 2, 1) := by decide +kernel
theorem dL_session_478 : decode cL_session 478 = .ok (.ifCond .lt 12, 3) := by decide +kernel
theorem dL_session_481 : decode cL_session 481 = .ok (.iload 10, 2) := by decide +kernel
theorem dL_session_483 : decode cL_session 483 = .ok (.ifCond .ne 7, 3) := by decide +kernel
theorem dL_session_486 : decode cL_session 486 = .ok (.iconst 1, 1) := by decide +kernel
theorem dL_session_487 : decode cL_session 487 = .ok (.goto 4, 3) := by decide +kernel
theorem dL_session_490 : decode cL_session 490 = .ok (.iconst 0, 1) := by decide +kernel
theorem dL_session_491 : decode cL_session 491 = .ok (.if_icmp .ne 32, 3) := by decide +kernel
theorem dL_session_494 : decode cL_session 494 = .ok (.aload_n 0, 1) := by decide +kernel
theorem dL_session_495 : decode cL_session 495 = .ok (.invokevirtual 267, 3) := by decide +kernel
theorem dL_session_498 : decode cL_session 498 = .ok (.iload_n 1, 1) := by decide +kernel
theorem dL_session_499 : decode cL_session 499 = .ok (.ishr, 1) := by decide +kernel
theorem dL_session_500 : decode cL_session 500 = .ok (.iconst 1, 1) := by decide +kernel
theorem dL_session_501 : decode cL_session 501 = .ok (.iand, 1) := by decide +kernel
theorem dL_session_502 : decode cL_session 502 = .ok (.iload_n 2, 1) := by decide +kernel
theorem dL_session_503 : decode cL_session 503 = .ok (.ifCond .lt 12, 3) := by decide +kernel
theorem dL_session_506 : decode cL_session 506 = .ok (.iload 10, 2) := by decide +kernel
theorem dL_session_508 : decode cL_session 508 = .ok (.ifCond .le 7, 3) := by decide +kernel
theorem dL_session_511 : decode cL_session 511 = .ok (.iconst 1, 1) := by decide +kernel
theorem dL_session_512 : decode cL_session 512 = .ok (.goto 4, 3) := by decide +kernel
theorem dL_session_515 : decode cL_session 515 = .ok (.iconst 0, 1) := by decide +kernel
theorem dL_session_516 : decode cL_session 516 = .ok (.if_icmp .ne 7, 3) := by decide +kernel
theorem dL_session_519 : decode cL_session 519 = .ok (.iconst 1, 1) := by decide +kernel
theorem dL_session_520 : decode cL_session 520 = .ok (.goto 4, 3) := by decide +kernel
theorem dL_session_523 : decode cL_session 523 = .ok (.iconst 0, 1) := by decide +kernel
theorem dL_session_524 : decode cL_session 524 = .ok (.ireturn, 1) := by decide +kernel
def mi_L_session : MI := (RL, yL_session, cL_session, 12, some .boolean, [], { frames := 10, cells := 2307, slots := 13842, locals := 188 })
theorem ok_L_session : mOK mi_L_session 2 := ⟨rfl, cw_L_session, ini_L, ⟨rfl, by decide⟩, by decide, by decide, rfl⟩
theorem v_L_session_516 (s0 : Int32) (s1 : Bool) (M : Mem) : V mi_L_session 516 [] [.int (b2i s1), .int s0] M 2307 13842 (f_L_session_516 s0 s1 M) tZ := by
  unfold f_L_session_516
  refine V_icmp_ne (q := 523) (q2 := 519) dL_session_516 (by decide) rfl ?_ ?_
  · refine V_iconst (x := 0) dL_session_523 rfl rfl ?_
    exact V_zret (v := false) dL_session_524 rfl rfl ⟨(Nat.le_of_ble_eq_true rfl), (Nat.le_of_ble_eq_true rfl)⟩
  · refine V_iconst (x := 1) dL_session_519 rfl rfl ?_
    refine V_goto (q := 524) dL_session_520 (by decide) ?_
    exact V_zret (v := true) dL_session_524 rfl rfl ⟨(Nat.le_of_ble_eq_true rfl), (Nat.le_of_ble_eq_true rfl)⟩
theorem v_L_session_515 (s0 : Int32) (M : Mem) : V mi_L_session 515 [] [.int s0] M 2307 13842 (f_L_session_515 s0 M) tZ := by
  unfold f_L_session_515
  refine V_iconst (x := 0) dL_session_515 rfl rfl ?_
  exact v_L_session_516 s0 false M
theorem v_L_session_491 (l0 : Nat) (l1 : Int32) (l2 : Int32) (l10 : Int32) (s0 : Bool) (s1 : Bool) (M : Mem) : V mi_L_session 491 [(0, .ref l0), (1, .int l1), (2, .int l2), (10, .int l10)] [.int (b2i s1), .int (b2i s0)] M 2307 13842 (f_L_session_491 l0 l1 l2 l10 s0 s1 M) tZ := by
  unfold f_L_session_491
  refine V_icmp_ne (q := 523) (q2 := 494) dL_session_491 (by decide) rfl ?_ ?_
  · refine V_iconst (x := 0) dL_session_523 rfl rfl ?_
    exact V_zret (v := false) dL_session_524 rfl rfl ⟨(Nat.le_of_ble_eq_true rfl), (Nat.le_of_ble_eq_true rfl)⟩
  · refine V_aload_n dL_session_494 rfl 0 rfl ?_
    refine V_cVeI (As := []) (k_X11_stale l0 M) (fun _ h => o_X11_stale h) ok_X11_stale im_X11_stale se_X11_stale rfl (ci := 10) rfl ml_L_267 ⟨⟨(Nat.le_of_ble_eq_true rfl), (Nat.le_of_ble_eq_true rfl)⟩, (Nat.le_of_ble_eq_true rfl), (Nat.le_of_ble_eq_true rfl)⟩ dL_session_495 rfl rfl rfl (Nat.le_of_ble_eq_true rfl) rfl rfl (fun x21 => ?_)
    refine V_iload_n dL_session_498 rfl 1 rfl ?_
    refine V_ishr dL_session_499 rfl ?_
    refine V_iconst (x := 1) dL_session_500 rfl rfl ?_
    refine V_iand dL_session_501 rfl ?_
    refine V_iload_n dL_session_502 rfl 2 rfl ?_
    refine V_if_lt (q := 515) (q2 := 506) dL_session_503 (by decide) rfl ?_ ?_
    · exact V_sub [] rfl (v_L_session_515 ((x21 >>> (l1 &&& 31)) &&& 1) M)
    · refine V_iload dL_session_506 rfl 3 rfl ?_
      refine V_if_le (q := 515) (q2 := 511) dL_session_508 (by decide) rfl ?_ ?_
      · exact V_sub [] rfl (v_L_session_515 ((x21 >>> (l1 &&& 31)) &&& 1) M)
      · refine V_iconst (x := 1) dL_session_511 rfl rfl ?_
        refine V_goto (q := 516) dL_session_512 (by decide) ?_
        exact V_sub [] rfl (v_L_session_516 ((x21 >>> (l1 &&& 31)) &&& 1) true M)
theorem v_L_session_490 (l0 : Nat) (l1 : Int32) (l2 : Int32) (l10 : Int32) (s0 : Bool) (M : Mem) : V mi_L_session 490 [(0, .ref l0), (1, .int l1), (2, .int l2), (10, .int l10)] [.int (b2i s0)] M 2307 13842 (f_L_session_490 l0 l1 l2 l10 s0 M) tZ := by
  unfold f_L_session_490
  refine V_iconst (x := 0) dL_session_490 rfl rfl ?_
  exact v_L_session_491 l0 l1 l2 l10 s0 false M
theorem v_L_session_459 (l0 : Nat) (l1 : Int32) (l2 : Int32) (s0 : Int32) (s1 : Bool) (M : Mem) : V mi_L_session 459 [(0, .ref l0), (1, .int l1), (2, .int l2)] [.int (b2i s1), .int s0] M 2305 13830 (f_L_session_459 l0 l1 l2 s0 s1 M) tZ := by
  unfold f_L_session_459
  refine V_iadd dL_session_459 rfl ?_
  refine V_istore (L' := [(0, .ref l0), (1, .int l1), (2, .int l2), (10, .int (s0 + (b2i s1)))]) dL_session_460 rfl (by decide) rfl ?_
  refine V_aload_n dL_session_462 rfl 0 rfl ?_
  refine V_iload_n dL_session_463 rfl 1 rfl ?_
  refine V_cVtI (As := [.int l1]) (k_X11_pending l0 l1 M) rfl (fun _ _ => rfl) (fun _ h => o_X11_pending h) ok_X11_pending im_X11_pending se_X11_pending rfl (ci := 10) rfl ml_L_260 ⟨⟨(Nat.le_of_ble_eq_true rfl), (Nat.le_of_ble_eq_true rfl)⟩, (Nat.le_of_ble_eq_true rfl), (Nat.le_of_ble_eq_true rfl)⟩ dL_session_464 rfl rfl rfl (Nat.le_of_ble_eq_true rfl) rfl rfl (fun x17 M18 => ?_)
  refine V_iload dL_session_467 rfl 3 rfl ?_
  refine V_icmp_ne (q := 523) (q2 := 472) dL_session_469 (by decide) rfl ?_ ?_
  · refine V_iconst (x := 0) dL_session_523 rfl rfl ?_
    exact V_zret (v := false) dL_session_524 rfl rfl ⟨(Nat.le_of_ble_eq_true rfl), (Nat.le_of_ble_eq_true rfl)⟩
  · refine V_aload_n dL_session_472 rfl 0 rfl ?_
    refine V_iload_n dL_session_473 rfl 1 rfl ?_
    refine V_cVtZ (As := [.int l1]) (k_X11_isCurrent l0 l1 M18) rfl (fun _ _ => rfl) (fun _ h => o_X11_isCurrent h) ok_X11_isCurrent im_X11_isCurrent se_X11_isCurrent rfl (ci := 10) rfl ml_L_263 ⟨⟨(Nat.le_of_ble_eq_true rfl), (Nat.le_of_ble_eq_true rfl)⟩, (Nat.le_of_ble_eq_true rfl), (Nat.le_of_ble_eq_true rfl)⟩ dL_session_474 rfl rfl rfl (Nat.le_of_ble_eq_true rfl) rfl rfl (fun x19 M20 => ?_)
    refine V_iload_n dL_session_477 rfl 2 rfl ?_
    refine V_if_lt (q := 490) (q2 := 481) dL_session_478 (by decide) rfl ?_ ?_
    · exact v_L_session_490 l0 l1 l2 (s0 + (b2i s1)) x19 M20
    · refine V_iload dL_session_481 rfl 3 rfl ?_
      refine V_if_ne (q := 490) (q2 := 486) dL_session_483 (by decide) rfl ?_ ?_
      · exact v_L_session_490 l0 l1 l2 (s0 + (b2i s1)) x19 M20
      · refine V_iconst (x := 1) dL_session_486 rfl rfl ?_
        refine V_goto (q := 491) dL_session_487 (by decide) ?_
        exact v_L_session_491 l0 l1 l2 (s0 + (b2i s1)) x19 true M20
theorem v_L_session_458 (l0 : Nat) (l1 : Int32) (l2 : Int32) (s0 : Int32) (M : Mem) : V mi_L_session 458 [(0, .ref l0), (1, .int l1), (2, .int l2)] [.int s0] M 2305 13830 (f_L_session_458 l0 l1 l2 s0 M) tZ := by
  unfold f_L_session_458
  refine V_iconst (x := 0) dL_session_458 rfl rfl ?_
  exact v_L_session_459 l0 l1 l2 s0 false M
theorem v_L_session_372 (l0 : Nat) (l1 : Int32) (l2 : Int32) (l3 : Int32) (l4 : Int32) (l6 : Int32) (l7 : Int32) (l9 : Int32) (M : Mem) : V mi_L_session 372 [(0, .ref l0), (1, .int l1), (2, .int l2), (3, .int l3), (4, .int l4), (6, .int l6), (7, .int l7), (9, .int l9)] [] M 2293 13758 (f_L_session_372 l0 l1 l2 l3 l4 l6 l7 l9 M) tZ := by
  unfold f_L_session_372
  refine V_aload_n dL_session_372 rfl 0 rfl ?_
  refine V_iload_n dL_session_373 rfl 1 rfl ?_
  refine V_iconst (x := 4) dL_session_374 rfl rfl ?_
  refine V_cVtI (As := [.int l1, .int 4]) (k_X11_session l0 l1 4 M) rfl (fun _ _ => rfl) (fun _ h => o_X11_session h) ok_X11_session im_X11_session se_X11_session rfl (ci := 10) rfl ml_L_117 ⟨⟨(Nat.le_of_ble_eq_true rfl), (Nat.le_of_ble_eq_true rfl)⟩, (Nat.le_of_ble_eq_true rfl), (Nat.le_of_ble_eq_true rfl)⟩ dL_session_375 rfl rfl rfl (Nat.le_of_ble_eq_true rfl) rfl rfl (fun x5 M6 => ?_)
  refine V_iload_n dL_session_378 rfl 3 rfl ?_
  refine V_icmp_ne (q := 425) (q2 := 382) dL_session_379 (by decide) rfl ?_ ?_
  · refine V_iconst (x := 0) dL_session_425 rfl rfl ?_
    exact V_zret (v := false) dL_session_426 rfl rfl ⟨(Nat.le_of_ble_eq_true rfl), (Nat.le_of_ble_eq_true rfl)⟩
  · refine V_aload_n dL_session_382 rfl 0 rfl ?_
    refine V_iload_n dL_session_383 rfl 1 rfl ?_
    refine V_iconst (x := 5) dL_session_384 rfl rfl ?_
    refine V_cVtI (As := [.int l1, .int 5]) (k_X11_session l0 l1 5 M6) rfl (fun _ _ => rfl) (fun _ h => o_X11_session h) ok_X11_session im_X11_session se_X11_session rfl (ci := 10) rfl ml_L_117 ⟨⟨(Nat.le_of_ble_eq_true rfl), (Nat.le_of_ble_eq_true rfl)⟩, (Nat.le_of_ble_eq_true rfl), (Nat.le_of_ble_eq_true rfl)⟩ dL_session_385 rfl rfl rfl (Nat.le_of_ble_eq_true rfl) rfl rfl (fun x7 M8 => ?_)
    refine V_iload dL_session_388 rfl 4 rfl ?_
    refine V_icmp_ne (q := 425) (q2 := 393) dL_session_390 (by decide) rfl ?_ ?_
    · refine V_iconst (x := 0) dL_session_425 rfl rfl ?_
      exact V_zret (v := false) dL_session_426 rfl rfl ⟨(Nat.le_of_ble_eq_true rfl), (Nat.le_of_ble_eq_true rfl)⟩
    · refine V_aload_n dL_session_393 rfl 0 rfl ?_
      refine V_iload_n dL_session_394 rfl 1 rfl ?_
      refine V_bipush (x := 6) dL_session_395 rfl rfl ?_
      refine V_cVtI (As := [.int l1, .int 6]) (k_X11_session l0 l1 6 M8) rfl (fun _ _ => rfl) (fun _ h => o_X11_session h) ok_X11_session im_X11_session se_X11_session rfl (ci := 10) rfl ml_L_117 ⟨⟨(Nat.le_of_ble_eq_true rfl), (Nat.le_of_ble_eq_true rfl)⟩, (Nat.le_of_ble_eq_true rfl), (Nat.le_of_ble_eq_true rfl)⟩ dL_session_397 rfl rfl rfl (Nat.le_of_ble_eq_true rfl) rfl rfl (fun x9 M10 => ?_)
      refine V_iload dL_session_400 rfl 7 rfl ?_
      refine V_icmp_gt (q := 425) (q2 := 405) dL_session_402 (by decide) rfl ?_ ?_
      · refine V_iconst (x := 0) dL_session_425 rfl rfl ?_
        exact V_zret (v := false) dL_session_426 rfl rfl ⟨(Nat.le_of_ble_eq_true rfl), (Nat.le_of_ble_eq_true rfl)⟩
      · refine V_aload_n dL_session_405 rfl 0 rfl ?_
        refine V_iload_n dL_session_406 rfl 1 rfl ?_
        refine V_cVtI (As := [.int l1]) (k_X11_firstUnseen l0 l1 M10) rfl (fun _ _ => rfl) (fun _ h => o_X11_firstUnseen h) ok_X11_firstUnseen im_X11_firstUnseen se_X11_firstUnseen rfl (ci := 10) rfl ml_L_254 ⟨⟨(Nat.le_of_ble_eq_true rfl), (Nat.le_of_ble_eq_true rfl)⟩, (Nat.le_of_ble_eq_true rfl), (Nat.le_of_ble_eq_true rfl)⟩ dL_session_407 rfl rfl rfl (Nat.le_of_ble_eq_true rfl) rfl rfl (fun x11 M12 => ?_)
        refine V_iload dL_session_410 rfl 5 rfl ?_
        refine V_icmp_ne (q := 425) (q2 := 415) dL_session_412 (by decide) rfl ?_ ?_
        · refine V_iconst (x := 0) dL_session_425 rfl rfl ?_
          exact V_zret (v := false) dL_session_426 rfl rfl ⟨(Nat.le_of_ble_eq_true rfl), (Nat.le_of_ble_eq_true rfl)⟩
        · refine V_aload_n dL_session_415 rfl 0 rfl ?_
          refine V_iload_n dL_session_416 rfl 1 rfl ?_
          refine V_cVtI (As := [.int l1]) (k_X11_largest l0 l1 M12) rfl (fun _ _ => rfl) (fun _ h => o_X11_largest h) ok_X11_largest im_X11_largest se_X11_largest rfl (ci := 10) rfl ml_L_257 ⟨⟨(Nat.le_of_ble_eq_true rfl), (Nat.le_of_ble_eq_true rfl)⟩, (Nat.le_of_ble_eq_true rfl), (Nat.le_of_ble_eq_true rfl)⟩ dL_session_417 rfl rfl rfl (Nat.le_of_ble_eq_true rfl) rfl rfl (fun x13 M14 => ?_)
          refine V_iload dL_session_420 rfl 6 rfl ?_
          refine V_icmp_eq (q := 427) (q2 := 425) dL_session_422 (by decide) rfl ?_ ?_
          · refine V_iload_n dL_session_427 rfl 3 rfl ?_
            refine V_iload dL_session_428 rfl 4 rfl ?_
            refine V_iadd dL_session_430 rfl ?_
            refine V_aload_n dL_session_431 rfl 0 rfl ?_
            refine V_iload_n dL_session_432 rfl 1 rfl ?_
            refine V_bipush (x := 6) dL_session_433 rfl rfl ?_
            refine V_cVtI (As := [.int l1, .int 6]) (k_X11_session l0 l1 6 M14) rfl (fun _ _ => rfl) (fun _ h => o_X11_session h) ok_X11_session im_X11_session se_X11_session rfl (ci := 10) rfl ml_L_117 ⟨⟨(Nat.le_of_ble_eq_true rfl), (Nat.le_of_ble_eq_true rfl)⟩, (Nat.le_of_ble_eq_true rfl), (Nat.le_of_ble_eq_true rfl)⟩ dL_session_435 rfl rfl rfl (Nat.le_of_ble_eq_true rfl) rfl rfl (fun x15 M16 => ?_)
            refine V_if_le (q := 458) (q2 := 441) dL_session_438 (by decide) rfl ?_ ?_
            · exact V_sub [0, 1, 2] rfl (V_w (Nat.le_of_ble_eq_true rfl) (Nat.le_of_ble_eq_true rfl) (v_L_session_458 l0 l1 l2 (l3 + l4) M16))
            · refine V_aload_n dL_session_441 rfl 0 rfl ?_
              refine V_iload_n dL_session_442 rfl 1 rfl ?_
              refine V_iconst (x := 3) dL_session_443 rfl rfl ?_
              refine V_cVtI (As := [.int l1, .int 3]) (k_X11_session l0 l1 3 M16) rfl (fun _ _ => rfl) (fun _ h => o_X11_session h) ok_X11_session im_X11_session se_X11_session rfl (ci := 10) rfl ml_L_117 ⟨⟨(Nat.le_of_ble_eq_true rfl), (Nat.le_of_ble_eq_true rfl)⟩, (Nat.le_of_ble_eq_true rfl), (Nat.le_of_ble_eq_true rfl)⟩ dL_session_444 rfl rfl rfl (Nat.le_of_ble_eq_true rfl) rfl rfl (fun x22 M23 => ?_)
              refine V_iload_n dL_session_447 rfl 3 rfl ?_
              refine V_isub dL_session_448 rfl ?_
              refine V_bipush (x := 60) dL_session_449 rfl rfl ?_
              refine V_icmp_ge (q := 458) (q2 := 454) dL_session_451 (by decide) rfl ?_ ?_
              · exact V_sub [0, 1, 2] rfl (v_L_session_458 l0 l1 l2 (l3 + l4) M23)
              · refine V_iconst (x := 1) dL_session_454 rfl rfl ?_
                refine V_goto (q := 459) dL_session_455 (by decide) ?_
                exact V_sub [0, 1, 2] rfl (v_L_session_459 l0 l1 l2 (l3 + l4) true M23)
          · refine V_iconst (x := 0) dL_session_425 rfl rfl ?_
            exact V_zret (v := false) dL_session_426 rfl rfl ⟨(Nat.le_of_ble_eq_true rfl), (Nat.le_of_ble_eq_true rfl)⟩
theorem v_L_session_363 (fo : Nat) (rc312 : Nat → Int32 → Int32 → Int32 → Int32 → Int32 → Int32 → Int32 → Int32 → Int32 → Mem → Option ((Bool ⊕ String) × Mem)) (h312 : ∀ (l0 : Nat) (l1 : Int32) (l2 : Int32) (l3 : Int32) (l4 : Int32) (l5 : Int32) (l6 : Int32) (l7 : Int32) (l9 : Int32) (l10 : Int32) (M : Mem) (k n : Nat) (_ : kb 2293 13758 7 42 fo k n), V mi_L_session 312 [(0, .ref l0), (1, .int l1), (2, .int l2), (3, .int l3), (4, .int l4), (5, .int l5), (6, .int l6), (7, .int l7), (9, .int l9), (10, .int l10)] [] M k n (rc312 l0 l1 l2 l3 l4 l5 l6 l7 l9 l10 M) tZ) (l0 : Nat) (l1 : Int32) (l2 : Int32) (l3 : Int32) (l4 : Int32) (l5 : Int32) (l6 : Int32) (l7 : Int32) (l10 : Int32) (s0 : Int32) (s1 : Bool) (M : Mem) (k n : Nat) (hb : kb 2293 13758 7 42 (fo + 1) k n) : V mi_L_session 363 [(0, .ref l0), (1, .int l1), (2, .int l2), (3, .int l3), (4, .int l4), (5, .int l5), (6, .int l6), (7, .int l7), (10, .int l10)] [.int (b2i s1), .int s0] M (k + 7) (n + 42) (f_L_session_363 rc312 l0 l1 l2 l3 l4 l5 l6 l7 l10 s0 s1 M) tZ := by
  unfold f_L_session_363
  refine V_iadd dL_session_363 rfl ?_
  refine V_istore (L' := [(0, .ref l0), (1, .int l1), (2, .int l2), (3, .int l3), (4, .int l4), (5, .int l5), (6, .int l6), (7, .int l7), (9, .int (s0 + (b2i s1))), (10, .int l10)]) dL_session_364 rfl (by decide) rfl ?_
  refine V_iinc (y := (l10 + 1)) (L' := [(0, .ref l0), (1, .int l1), (2, .int l2), (3, .int l3), (4, .int l4), (5, .int l5), (6, .int l6), (7, .int l7), (9, .int (s0 + (b2i s1))), (10, .int (l10 + 1))]) dL_session_366 rfl 9 rfl rfl (by decide) rfl ?_
  refine V_goto (q := 312) dL_session_369 (by decide) ?_
  exact h312 l0 l1 l2 l3 l4 l5 l6 l7 (s0 + (b2i s1)) (l10 + 1) M _ _ (kb_next hb (Nat.le_of_ble_eq_true rfl) (Nat.le_of_ble_eq_true rfl))
theorem v_L_session_362 (fo : Nat) (rc312 : Nat → Int32 → Int32 → Int32 → Int32 → Int32 → Int32 → Int32 → Int32 → Int32 → Mem → Option ((Bool ⊕ String) × Mem)) (h312 : ∀ (l0 : Nat) (l1 : Int32) (l2 : Int32) (l3 : Int32) (l4 : Int32) (l5 : Int32) (l6 : Int32) (l7 : Int32) (l9 : Int32) (l10 : Int32) (M : Mem) (k n : Nat) (_ : kb 2293 13758 7 42 fo k n), V mi_L_session 312 [(0, .ref l0), (1, .int l1), (2, .int l2), (3, .int l3), (4, .int l4), (5, .int l5), (6, .int l6), (7, .int l7), (9, .int l9), (10, .int l10)] [] M k n (rc312 l0 l1 l2 l3 l4 l5 l6 l7 l9 l10 M) tZ) (l0 : Nat) (l1 : Int32) (l2 : Int32) (l3 : Int32) (l4 : Int32) (l5 : Int32) (l6 : Int32) (l7 : Int32) (l10 : Int32) (s0 : Int32) (M : Mem) (k n : Nat) (hb : kb 2293 13758 7 42 (fo + 1) k n) : V mi_L_session 362 [(0, .ref l0), (1, .int l1), (2, .int l2), (3, .int l3), (4, .int l4), (5, .int l5), (6, .int l6), (7, .int l7), (10, .int l10)] [.int s0] M (k + 7) (n + 42) (f_L_session_362 rc312 l0 l1 l2 l3 l4 l5 l6 l7 l10 s0 M) tZ := by
  unfold f_L_session_362
  refine V_iconst (x := 0) dL_session_362 rfl rfl ?_
  exact v_L_session_363 fo rc312 h312 l0 l1 l2 l3 l4 l5 l6 l7 l10 s0 false M k n hb
theorem v_L_session_312 : ∀ (fu : Nat) (l0 : Nat) (l1 : Int32) (l2 : Int32) (l3 : Int32) (l4 : Int32) (l5 : Int32) (l6 : Int32) (l7 : Int32) (l9 : Int32) (l10 : Int32) (M : Mem) (k n : Nat) (_ : kb 2293 13758 7 42 fu k n), V mi_L_session 312 [(0, .ref l0), (1, .int l1), (2, .int l2), (3, .int l3), (4, .int l4), (5, .int l5), (6, .int l6), (7, .int l7), (9, .int l9), (10, .int l10)] [] M k n (f_L_session_312 fu l0 l1 l2 l3 l4 l5 l6 l7 l9 l10 M) tZ := by
  intro fu
  induction fu with
  | zero => intros; exact V_none
  | succ fu ih =>
    intro l0 l1 l2 l3 l4 l5 l6 l7 l9 l10 M k n hb
    show V mi_L_session 312 [(0, .ref l0), (1, .int l1), (2, .int l2), (3, .int l3), (4, .int l4), (5, .int l5), (6, .int l6), (7, .int l7), (9, .int l9), (10, .int l10)] [] M k n (f_L_session_312 (fu + 1) l0 l1 l2 l3 l4 l5 l6 l7 l9 l10 M) tZ
    unfold f_L_session_312
    refine V_iload_n dL_session_312 rfl 2 rfl ?_
    refine V_if_lt (q := 372) (q2 := 316) dL_session_313 (by decide) rfl ?_ ?_
    · exact V_sub [0, 1, 2, 3, 4, 6, 7, 8] rfl (V_w (kb_ck0 hb (Nat.le_of_ble_eq_true rfl)) (kb_sk0 hb (Nat.le_of_ble_eq_true rfl)) (v_L_session_372 l0 l1 l2 l3 l4 l6 l7 l9 M))
    · refine V_iload dL_session_316 rfl 9 rfl ?_
      refine V_aload_n dL_session_318 rfl 0 rfl ?_
      refine V_iload_n dL_session_319 rfl 2 rfl ?_
      refine V_iconst (x := 0) dL_session_320 rfl rfl ?_
      refine V_cVtI (As := [.int l2, .int 0]) (k_X11_box l0 l2 0 M) rfl (fun _ _ => rfl) (fun _ h => o_X11_box h) ok_X11_box im_X11_box se_X11_box rfl (ci := 10) rfl ml_L_114 ⟨⟨(Nat.le_of_ble_eq_true rfl), (Nat.le_of_ble_eq_true rfl)⟩, kb_c0 hb (Nat.le_of_ble_eq_true rfl) (Nat.le_of_ble_eq_true rfl), kb_s0 hb (Nat.le_of_ble_eq_true rfl) (Nat.le_of_ble_eq_true rfl)⟩ dL_session_321 rfl rfl rfl (Nat.le_of_ble_eq_true rfl) rfl rfl (fun x24 M25 => ?_)
      refine V_icmp_ge (q := 372) (q2 := 327) dL_session_324 (by decide) rfl ?_ ?_
      · exact V_sub [0, 1, 2, 3, 4, 6, 7, 8] rfl (V_w (kb_ck hb (Nat.le_of_ble_eq_true rfl) (Nat.le_of_ble_eq_true rfl)) (kb_sk hb (Nat.le_of_ble_eq_true rfl) (Nat.le_of_ble_eq_true rfl)) (v_L_session_372 l0 l1 l2 l3 l4 l6 l7 l9 M25))
      · refine V_iload dL_session_327 rfl 8 rfl ?_
        refine V_aload_n dL_session_329 rfl 0 rfl ?_
        refine V_iload_n dL_session_330 rfl 2 rfl ?_
        refine V_iload dL_session_331 rfl 9 rfl ?_
        refine V_iconst (x := 0) dL_session_333 rfl rfl ?_
        refine V_cVtI (As := [.int l2, .int l10, .int 0]) (k_X11_message l0 l2 l10 0 M25) rfl (fun _ _ => rfl) (fun _ h => o_X11_message h) ok_X11_message im_X11_message se_X11_message rfl (ci := 10) rfl ml_L_172 ⟨⟨(Nat.le_of_ble_eq_true rfl), (Nat.le_of_ble_eq_true rfl)⟩, kb_c hb (Nat.le_of_ble_eq_true rfl) (Nat.le_of_ble_eq_true rfl), kb_s hb (Nat.le_of_ble_eq_true rfl) (Nat.le_of_ble_eq_true rfl)⟩ dL_session_334 rfl rfl rfl (Nat.le_of_ble_eq_true rfl) (Nat.add_assoc _ _ _) (Nat.add_assoc _ _ _) (fun x26 M27 => ?_)
        refine V_iload dL_session_337 rfl 5 rfl ?_
        refine V_icmp_le (q := 362) (q2 := 342) dL_session_339 (by decide) rfl ?_ ?_
        · exact V_sub [0, 1, 2, 3, 4, 5, 6, 7, 9] rfl (V_w (Nat.add_le_add_left (Nat.le_of_ble_eq_true rfl) _) (Nat.add_le_add_left (Nat.le_of_ble_eq_true rfl) _) (v_L_session_362 fu (f_L_session_312 fu) ih l0 l1 l2 l3 l4 l5 l6 l7 l10 l9 M27 k n hb))
        · refine V_aload_n dL_session_342 rfl 0 rfl ?_
          refine V_iload_n dL_session_343 rfl 1 rfl ?_
          refine V_aload_n dL_session_344 rfl 0 rfl ?_
          refine V_iload_n dL_session_345 rfl 2 rfl ?_
          refine V_iload dL_session_346 rfl 9 rfl ?_
          refine V_iconst (x := 0) dL_session_348 rfl rfl ?_
          refine V_cVtI (As := [.int l2, .int l10, .int 0]) (k_X11_message l0 l2 l10 0 M27) rfl (fun _ _ => rfl) (fun _ h => o_X11_message h) ok_X11_message im_X11_message se_X11_message rfl (ci := 10) rfl ml_L_172 ⟨⟨(Nat.le_of_ble_eq_true rfl), (Nat.le_of_ble_eq_true rfl)⟩, kb_c hb (Nat.le_of_ble_eq_true rfl) (Nat.le_of_ble_eq_true rfl), kb_s hb (Nat.le_of_ble_eq_true rfl) (Nat.le_of_ble_eq_true rfl)⟩ dL_session_349 rfl rfl rfl (Nat.le_of_ble_eq_true rfl) (Nat.add_assoc _ _ _) (Nat.add_assoc _ _ _) (fun x28 M29 => ?_)
          refine V_cVtI (As := [.int l1, .int x28]) (k_X11_numberOf l0 l1 x28 M29) rfl (fun _ _ => rfl) (fun _ h => o_X11_numberOf h) ok_X11_numberOf im_X11_numberOf se_X11_numberOf rfl (ci := 10) rfl ml_L_248 ⟨⟨(Nat.le_of_ble_eq_true rfl), (Nat.le_of_ble_eq_true rfl)⟩, kb_c hb (Nat.le_of_ble_eq_true rfl) (Nat.le_of_ble_eq_true rfl), kb_s hb (Nat.le_of_ble_eq_true rfl) (Nat.le_of_ble_eq_true rfl)⟩ dL_session_352 rfl rfl rfl (Nat.le_of_ble_eq_true rfl) (Nat.add_assoc _ _ _) (Nat.add_assoc _ _ _) (fun x30 M31 => ?_)
          refine V_if_ge (q := 362) (q2 := 358) dL_session_355 (by decide) rfl ?_ ?_
          · exact V_sub [0, 1, 2, 3, 4, 5, 6, 7, 9] rfl (v_L_session_362 fu (f_L_session_312 fu) ih l0 l1 l2 l3 l4 l5 l6 l7 l10 l9 M31 k n hb)
          · refine V_iconst (x := 1) dL_session_358 rfl rfl ?_
            refine V_goto (q := 363) dL_session_359 (by decide) ?_
            exact V_sub [0, 1, 2, 3, 4, 5, 6, 7, 9] rfl (v_L_session_363 fu (f_L_session_312 fu) ih l0 l1 l2 l3 l4 l5 l6 l7 l10 l9 true M31 k n hb)
theorem v_L_session_306 (l0 : Nat) (l1 : Int32) (l2 : Int32) (l3 : Int32) (l4 : Int32) (l5 : Int32) (l6 : Int32) (l7 : Int32) (M : Mem) : V mi_L_session 306 [(0, .ref l0), (1, .int l1), (2, .int l2), (3, .int l3), (4, .int l4), (5, .int l5), (6, .int l6), (7, .int l7)] [] M 2076 12456 (f_L_session_306 l0 l1 l2 l3 l4 l5 l6 l7 M) tZ := by
  unfold f_L_session_306
  refine V_iconst (x := 0) dL_session_306 rfl rfl ?_
  refine V_istore (L' := [(0, .ref l0), (1, .int l1), (2, .int l2), (3, .int l3), (4, .int l4), (5, .int l5), (6, .int l6), (7, .int l7), (9, .int 0)]) dL_session_307 rfl (by decide) rfl ?_
  refine V_iconst (x := 0) dL_session_309 rfl rfl ?_
  refine V_istore (L' := [(0, .ref l0), (1, .int l1), (2, .int l2), (3, .int l3), (4, .int l4), (5, .int l5), (6, .int l6), (7, .int l7), (9, .int 0), (10, .int 0)]) dL_session_310 rfl (by decide) rfl ?_
  exact v_L_session_312 31 l0 l1 l2 l3 l4 l5 l6 l7 0 0 M 2076 12456 ⟨(Nat.le_of_ble_eq_true rfl), (Nat.le_of_ble_eq_true rfl)⟩
theorem v_L_session_296 (fo : Nat) (rc27 : Nat → Int32 → Int32 → Int32 → Int32 → Int32 → Int32 → Int32 → Int32 → Int32 → Mem → Option ((Bool ⊕ String) × Mem)) (h27 : ∀ (l0 : Nat) (l1 : Int32) (l2 : Int32) (l3 : Int32) (l4 : Int32) (l5 : Int32) (l6 : Int32) (l7 : Int32) (l8 : Int32) (l9 : Int32) (M : Mem) (k n : Nat) (_ : kb 2076 12456 34 204 fo k n), V mi_L_session 27 [(0, .ref l0), (1, .int l1), (2, .int l2), (3, .int l3), (4, .int l4), (5, .int l5), (6, .int l6), (7, .int l7), (8, .int l8), (9, .int l9)] [] M k n (rc27 l0 l1 l2 l3 l4 l5 l6 l7 l8 l9 M) tZ) (l0 : Nat) (l1 : Int32) (l2 : Int32) (l3 : Int32) (l4 : Int32) (l6 : Int32) (l7 : Int32) (l8 : Int32) (l9 : Int32) (l10 : Int32) (M : Mem) (k n : Nat) (hb : kb 2076 12456 34 204 (fo + 1) k n) : V mi_L_session 296 [(0, .ref l0), (1, .int l1), (2, .int l2), (3, .int l3), (4, .int l4), (6, .int l6), (7, .int l7), (8, .int l8), (9, .int l9), (10, .int l10)] [] M (k + 34) (n + 204) (f_L_session_296 rc27 l0 l1 l2 l3 l4 l6 l7 l8 l9 l10 M) tZ := by
  unfold f_L_session_296
  refine V_iload dL_session_296 rfl 9 rfl ?_
  refine V_istore (L' := [(0, .ref l0), (1, .int l1), (2, .int l2), (3, .int l3), (4, .int l4), (5, .int l10), (6, .int l6), (7, .int l7), (8, .int l8), (9, .int l9), (10, .int l10)]) dL_session_298 rfl (by decide) rfl ?_
  refine V_iinc (y := (l9 + 1)) (L' := [(0, .ref l0), (1, .int l1), (2, .int l2), (3, .int l3), (4, .int l4), (5, .int l10), (6, .int l6), (7, .int l7), (8, .int l8), (9, .int (l9 + 1)), (10, .int l10)]) dL_session_300 rfl 9 rfl rfl (by decide) rfl ?_
  refine V_goto (q := 27) dL_session_303 (by decide) ?_
  exact V_sub [0, 1, 2, 3, 4, 5, 6, 7, 8, 9] rfl (h27 l0 l1 l2 l3 l4 l10 l6 l7 l8 (l9 + 1) M _ _ (kb_next hb (Nat.le_of_ble_eq_true rfl) (Nat.le_of_ble_eq_true rfl)))
theorem v_L_session_262 (fo : Nat) (rc27 : Nat → Int32 → Int32 → Int32 → Int32 → Int32 → Int32 → Int32 → Int32 → Int32 → Mem → Option ((Bool ⊕ String) × Mem)) (h27 : ∀ (l0 : Nat) (l1 : Int32) (l2 : Int32) (l3 : Int32) (l4 : Int32) (l5 : Int32) (l6 : Int32) (l7 : Int32) (l8 : Int32) (l9 : Int32) (M : Mem) (k n : Nat) (_ : kb 2076 12456 34 204 fo k n), V mi_L_session 27 [(0, .ref l0), (1, .int l1), (2, .int l2), (3, .int l3), (4, .int l4), (5, .int l5), (6, .int l6), (7, .int l7), (8, .int l8), (9, .int l9)] [] M k n (rc27 l0 l1 l2 l3 l4 l5 l6 l7 l8 l9 M) tZ) (l0 : Nat) (l1 : Int32) (l2 : Int32) (l3 : Int32) (l4 : Int32) (l7 : Int32) (l8 : Int32) (l9 : Int32) (l10 : Int32) (l11 : Int32) (s0 : Int32) (M : Mem) (k n : Nat) (hb : kb 2076 12456 34 204 (fo + 1) k n) : V mi_L_session 262 [(0, .ref l0), (1, .int l1), (2, .int l2), (3, .int l3), (4, .int l4), (7, .int l7), (8, .int l8), (9, .int l9), (10, .int l10), (11, .int l11)] [.int s0] M (k + 30) (n + 180) (f_L_session_262 rc27 l0 l1 l2 l3 l4 l7 l8 l9 l10 l11 s0 M) tZ := by
  unfold f_L_session_262
  refine V_istore (L' := [(0, .ref l0), (1, .int l1), (2, .int l2), (3, .int l3), (4, .int l4), (6, .int s0), (7, .int l7), (8, .int l8), (9, .int l9), (10, .int l10), (11, .int l11)]) dL_session_262 rfl (by decide) rfl ?_
  refine V_iload dL_session_264 rfl 10 rfl ?_
  refine V_if_lt (q := 296) (q2 := 269) dL_session_266 (by decide) rfl ?_ ?_
  · exact V_sub [0, 1, 2, 3, 4, 5, 6, 7, 8, 9] rfl (V_w (Nat.add_le_add_left (Nat.le_of_ble_eq_true rfl) _) (Nat.add_le_add_left (Nat.le_of_ble_eq_true rfl) _) (v_L_session_296 fo rc27 h27 l0 l1 l2 l3 l4 s0 l7 l8 l9 l10 M k n hb))
  · refine V_aload_n dL_session_269 rfl 0 rfl ?_
    refine V_iload_n dL_session_270 rfl 2 rfl ?_
    refine V_iload dL_session_271 rfl 10 rfl ?_
    refine V_iconst (x := 1) dL_session_273 rfl rfl ?_
    refine V_cVtI (As := [.int l2, .int l11, .int 1]) (k_X11_message l0 l2 l11 1 M) rfl (fun _ _ => rfl) (fun _ h => o_X11_message h) ok_X11_message im_X11_message se_X11_message rfl (ci := 10) rfl ml_L_172 ⟨⟨(Nat.le_of_ble_eq_true rfl), (Nat.le_of_ble_eq_true rfl)⟩, kb_c hb (Nat.le_of_ble_eq_true rfl) (Nat.le_of_ble_eq_true rfl), kb_s hb (Nat.le_of_ble_eq_true rfl) (Nat.le_of_ble_eq_true rfl)⟩ dL_session_274 rfl rfl rfl (Nat.le_of_ble_eq_true rfl) (Nat.add_assoc _ _ _) (Nat.add_assoc _ _ _) (fun x50 M51 => ?_)
    refine V_iload dL_session_277 rfl 7 rfl ?_
    refine V_icmp_le (q := 296) (q2 := 282) dL_session_279 (by decide) rfl ?_ ?_
    · exact V_sub [0, 1, 2, 3, 4, 5, 6, 7, 8, 9] rfl (V_w (Nat.add_le_add_left (Nat.le_of_ble_eq_true rfl) _) (Nat.add_le_add_left (Nat.le_of_ble_eq_true rfl) _) (v_L_session_296 fo rc27 h27 l0 l1 l2 l3 l4 s0 l7 l8 l9 l10 M51 k n hb))
    · refine V_iload dL_session_282 rfl 8 rfl ?_
      refine V_istore (L' := [(0, .ref l0), (1, .int l1), (2, .int l2), (3, .int l3), (4, .int l4), (6, .int s0), (7, .int l9), (8, .int l8), (9, .int l9), (10, .int l10), (11, .int l11)]) dL_session_284 rfl (by decide) rfl ?_
      refine V_aload_n dL_session_286 rfl 0 rfl ?_
      refine V_iload_n dL_session_287 rfl 2 rfl ?_
      refine V_iload dL_session_288 rfl 10 rfl ?_
      refine V_iconst (x := 1) dL_session_290 rfl rfl ?_
      refine V_cVtI (As := [.int l2, .int l11, .int 1]) (k_X11_message l0 l2 l11 1 M51) rfl (fun _ _ => rfl) (fun _ h => o_X11_message h) ok_X11_message im_X11_message se_X11_message rfl (ci := 10) rfl ml_L_172 ⟨⟨(Nat.le_of_ble_eq_true rfl), (Nat.le_of_ble_eq_true rfl)⟩, kb_c hb (Nat.le_of_ble_eq_true rfl) (Nat.le_of_ble_eq_true rfl), kb_s hb (Nat.le_of_ble_eq_true rfl) (Nat.le_of_ble_eq_true rfl)⟩ dL_session_291 rfl rfl rfl (Nat.le_of_ble_eq_true rfl) (Nat.add_assoc _ _ _) (Nat.add_assoc _ _ _) (fun x52 M53 => ?_)
      refine V_istore (L' := [(0, .ref l0), (1, .int l1), (2, .int l2), (3, .int l3), (4, .int l4), (6, .int s0), (7, .int l9), (8, .int x52), (9, .int l9), (10, .int l10), (11, .int l11)]) dL_session_294 rfl (by decide) rfl ?_
      exact V_sub [0, 1, 2, 3, 4, 5, 6, 7, 8, 9] rfl (v_L_session_296 fo rc27 h27 l0 l1 l2 l3 l4 s0 l9 x52 l9 l10 M53 k n hb)
theorem v_L_session_260 (fo : Nat) (rc27 : Nat → Int32 → Int32 → Int32 → Int32 → Int32 → Int32 → Int32 → Int32 → Int32 → Mem → Option ((Bool ⊕ String) × Mem)) (h27 : ∀ (l0 : Nat) (l1 : Int32) (l2 : Int32) (l3 : Int32) (l4 : Int32) (l5 : Int32) (l6 : Int32) (l7 : Int32) (l8 : Int32) (l9 : Int32) (M : Mem) (k n : Nat) (_ : kb 2076 12456 34 204 fo k n), V mi_L_session 27 [(0, .ref l0), (1, .int l1), (2, .int l2), (3, .int l3), (4, .int l4), (5, .int l5), (6, .int l6), (7, .int l7), (8, .int l8), (9, .int l9)] [] M k n (rc27 l0 l1 l2 l3 l4 l5 l6 l7 l8 l9 M) tZ) (l0 : Nat) (l1 : Int32) (l2 : Int32) (l3 : Int32) (l4 : Int32) (l6 : Int32) (l7 : Int32) (l8 : Int32) (l9 : Int32) (l10 : Int32) (l11 : Int32) (M : Mem) (k n : Nat) (hb : kb 2076 12456 34 204 (fo + 1) k n) : V mi_L_session 260 [(0, .ref l0), (1, .int l1), (2, .int l2), (3, .int l3), (4, .int l4), (6, .int l6), (7, .int l7), (8, .int l8), (9, .int l9), (10, .int l10), (11, .int l11)] [] M (k + 30) (n + 180) (f_L_session_260 rc27 l0 l1 l2 l3 l4 l6 l7 l8 l9 l10 l11 M) tZ := by
  unfold f_L_session_260
  refine V_iload dL_session_260 rfl 5 rfl ?_
  exact V_sub [0, 1, 2, 3, 4, 6, 7, 8, 9, 10] rfl (v_L_session_262 fo rc27 h27 l0 l1 l2 l3 l4 l7 l8 l9 l10 l11 l6 M k n hb)
theorem v_L_session_234 (fo : Nat) (rc27 : Nat → Int32 → Int32 → Int32 → Int32 → Int32 → Int32 → Int32 → Int32 → Int32 → Mem → Option ((Bool ⊕ String) × Mem)) (h27 : ∀ (l0 : Nat) (l1 : Int32) (l2 : Int32) (l3 : Int32) (l4 : Int32) (l5 : Int32) (l6 : Int32) (l7 : Int32) (l8 : Int32) (l9 : Int32) (M : Mem) (k n : Nat) (_ : kb 2076 12456 34 204 fo k n), V mi_L_session 27 [(0, .ref l0), (1, .int l1), (2, .int l2), (3, .int l3), (4, .int l4), (5, .int l5), (6, .int l6), (7, .int l7), (8, .int l8), (9, .int l9)] [] M k n (rc27 l0 l1 l2 l3 l4 l5 l6 l7 l8 l9 M) tZ) (l0 : Nat) (l1 : Int32) (l2 : Int32) (l3 : Int32) (l6 : Int32) (l7 : Int32) (l8 : Int32) (l9 : Int32) (l10 : Int32) (l11 : Int32) (s0 : Int32) (s1 : Bool) (M : Mem) (k n : Nat) (hb : kb 2076 12456 34 204 (fo + 1) k n) : V mi_L_session 234 [(0, .ref l0), (1, .int l1), (2, .int l2), (3, .int l3), (6, .int l6), (7, .int l7), (8, .int l8), (9, .int l9), (10, .int l10), (11, .int l11)] [.int (b2i s1), .int s0] M (k + 27) (n + 162) (f_L_session_234 rc27 l0 l1 l2 l3 l6 l7 l8 l9 l10 l11 s0 s1 M) tZ := by
  unfold f_L_session_234
  refine V_iadd dL_session_234 rfl ?_
  refine V_istore (L' := [(0, .ref l0), (1, .int l1), (2, .int l2), (3, .int l3), (4, .int (s0 + (b2i s1))), (6, .int l6), (7, .int l7), (8, .int l8), (9, .int l9), (10, .int l10), (11, .int l11)]) dL_session_235 rfl (by decide) rfl ?_
  refine V_iload dL_session_237 rfl 5 rfl ?_
  refine V_if_ge (q := 260) (q2 := 242) dL_session_239 (by decide) rfl ?_ ?_
  · exact (V_w (Nat.add_le_add_left (Nat.le_of_ble_eq_true rfl) _) (Nat.add_le_add_left (Nat.le_of_ble_eq_true rfl) _) (v_L_session_260 fo rc27 h27 l0 l1 l2 l3 (s0 + (b2i s1)) l6 l7 l8 l9 l10 l11 M k n hb))
  · refine V_aload_n dL_session_242 rfl 0 rfl ?_
    refine V_iload_n dL_session_243 rfl 1 rfl ?_
    refine V_iload dL_session_244 rfl 8 rfl ?_
    refine V_iconst (x := 1) dL_session_246 rfl rfl ?_
    refine V_cVtI (As := [.int l1, .int l9, .int 1]) (k_X11_entry l0 l1 l9 1 M) rfl (fun _ _ => rfl) (fun _ h => o_X11_entry h) ok_X11_entry im_X11_entry se_X11_entry rfl (ci := 10) rfl ml_L_175 ⟨⟨(Nat.le_of_ble_eq_true rfl), (Nat.le_of_ble_eq_true rfl)⟩, kb_c hb (Nat.le_of_ble_eq_true rfl) (Nat.le_of_ble_eq_true rfl), kb_s hb (Nat.le_of_ble_eq_true rfl) (Nat.le_of_ble_eq_true rfl)⟩ dL_session_247 rfl rfl rfl (Nat.le_of_ble_eq_true rfl) (Nat.add_assoc _ _ _) (Nat.add_assoc _ _ _) (fun x54 M55 => ?_)
    refine V_iconst (x := 1) dL_session_250 rfl rfl ?_
    refine V_iand dL_session_251 rfl ?_
    refine V_if_ne (q := 260) (q2 := 255) dL_session_252 (by decide) rfl ?_ ?_
    · exact v_L_session_260 fo rc27 h27 l0 l1 l2 l3 (s0 + (b2i s1)) l6 l7 l8 l9 l10 l11 M55 k n hb
    · refine V_iload dL_session_255 rfl 8 rfl ?_
      refine V_goto (q := 262) dL_session_257 (by decide) ?_
      exact V_sub [0, 1, 2, 3, 4, 6, 7, 8, 9, 10] rfl (v_L_session_262 fo rc27 h27 l0 l1 l2 l3 (s0 + (b2i s1)) l7 l8 l9 l10 l11 l9 M55 k n hb)
theorem v_L_session_233 (fo : Nat) (rc27 : Nat → Int32 → Int32 → Int32 → Int32 → Int32 → Int32 → Int32 → Int32 → Int32 → Mem → Option ((Bool ⊕ String) × Mem)) (h27 : ∀ (l0 : Nat) (l1 : Int32) (l2 : Int32) (l3 : Int32) (l4 : Int32) (l5 : Int32) (l6 : Int32) (l7 : Int32) (l8 : Int32) (l9 : Int32) (M : Mem) (k n : Nat) (_ : kb 2076 12456 34 204 fo k n), V mi_L_session 27 [(0, .ref l0), (1, .int l1), (2, .int l2), (3, .int l3), (4, .int l4), (5, .int l5), (6, .int l6), (7, .int l7), (8, .int l8), (9, .int l9)] [] M k n (rc27 l0 l1 l2 l3 l4 l5 l6 l7 l8 l9 M) tZ) (l0 : Nat) (l1 : Int32) (l2 : Int32) (l3 : Int32) (l6 : Int32) (l7 : Int32) (l8 : Int32) (l9 : Int32) (l10 : Int32) (l11 : Int32) (s0 : Int32) (M : Mem) (k n : Nat) (hb : kb 2076 12456 34 204 (fo + 1) k n) : V mi_L_session 233 [(0, .ref l0), (1, .int l1), (2, .int l2), (3, .int l3), (6, .int l6), (7, .int l7), (8, .int l8), (9, .int l9), (10, .int l10), (11, .int l11)] [.int s0] M (k + 27) (n + 162) (f_L_session_233 rc27 l0 l1 l2 l3 l6 l7 l8 l9 l10 l11 s0 M) tZ := by
  unfold f_L_session_233
  refine V_iconst (x := 0) dL_session_233 rfl rfl ?_
  exact v_L_session_234 fo rc27 h27 l0 l1 l2 l3 l6 l7 l8 l9 l10 l11 s0 false M k n hb
theorem v_L_session_201 (fo : Nat) (rc27 : Nat → Int32 → Int32 → Int32 → Int32 → Int32 → Int32 → Int32 → Int32 → Int32 → Mem → Option ((Bool ⊕ String) × Mem)) (h27 : ∀ (l0 : Nat) (l1 : Int32) (l2 : Int32) (l3 : Int32) (l4 : Int32) (l5 : Int32) (l6 : Int32) (l7 : Int32) (l8 : Int32) (l9 : Int32) (M : Mem) (k n : Nat) (_ : kb 2076 12456 34 204 fo k n), V mi_L_session 27 [(0, .ref l0), (1, .int l1), (2, .int l2), (3, .int l3), (4, .int l4), (5, .int l5), (6, .int l6), (7, .int l7), (8, .int l8), (9, .int l9)] [] M k n (rc27 l0 l1 l2 l3 l4 l5 l6 l7 l8 l9 M) tZ) (l0 : Nat) (l1 : Int32) (l2 : Int32) (l4 : Int32) (l6 : Int32) (l7 : Int32) (l8 : Int32) (l9 : Int32) (l10 : Int32) (l11 : Int32) (s0 : Int32) (s1 : Bool) (M : Mem) (k n : Nat) (hb : kb 2076 12456 34 204 (fo + 1) k n) : V mi_L_session 201 [(0, .ref l0), (1, .int l1), (2, .int l2), (4, .int l4), (6, .int l6), (7, .int l7), (8, .int l8), (9, .int l9), (10, .int l10), (11, .int l11)] [.int (b2i s1), .int s0] M (k + 22) (n + 132) (f_L_session_201 rc27 l0 l1 l2 l4 l6 l7 l8 l9 l10 l11 s0 s1 M) tZ := by
  unfold f_L_session_201
  refine V_iadd dL_session_201 rfl ?_
  refine V_istore_n (L' := [(0, .ref l0), (1, .int l1), (2, .int l2), (3, .int (s0 + (b2i s1))), (4, .int l4), (6, .int l6), (7, .int l7), (8, .int l8), (9, .int l9), (10, .int l10), (11, .int l11)]) dL_session_202 rfl (by decide) rfl ?_
  refine V_iload dL_session_203 rfl 4 rfl ?_
  refine V_iload dL_session_205 rfl 10 rfl ?_
  refine V_if_lt (q := 233) (q2 := 210) dL_session_207 (by decide) rfl ?_ ?_
  · exact V_sub [0, 1, 2, 3, 5, 6, 7, 8, 9, 10] rfl (V_w (Nat.add_le_add_left (Nat.le_of_ble_eq_true rfl) _) (Nat.add_le_add_left (Nat.le_of_ble_eq_true rfl) _) (v_L_session_233 fo rc27 h27 l0 l1 l2 (s0 + (b2i s1)) l6 l7 l8 l9 l10 l11 l4 M k n hb))
  · refine V_aload_n dL_session_210 rfl 0 rfl ?_
    refine V_iload_n dL_session_211 rfl 2 rfl ?_
    refine V_iload dL_session_212 rfl 10 rfl ?_
    refine V_iconst (x := 2) dL_session_214 rfl rfl ?_
    refine V_cVtI (As := [.int l2, .int l11, .int 2]) (k_X11_message l0 l2 l11 2 M) rfl (fun _ _ => rfl) (fun _ h => o_X11_message h) ok_X11_message im_X11_message se_X11_message rfl (ci := 10) rfl ml_L_172 ⟨⟨(Nat.le_of_ble_eq_true rfl), (Nat.le_of_ble_eq_true rfl)⟩, kb_c hb (Nat.le_of_ble_eq_true rfl) (Nat.le_of_ble_eq_true rfl), kb_s hb (Nat.le_of_ble_eq_true rfl) (Nat.le_of_ble_eq_true rfl)⟩ dL_session_215 rfl rfl rfl (Nat.le_of_ble_eq_true rfl) (Nat.add_assoc _ _ _) (Nat.add_assoc _ _ _) (fun x56 M57 => ?_)
    refine V_aload_n dL_session_218 rfl 0 rfl ?_
    refine V_iload_n dL_session_219 rfl 1 rfl ?_
    refine V_iload dL_session_220 rfl 8 rfl ?_
    refine V_iconst (x := 1) dL_session_222 rfl rfl ?_
    refine V_cVtI (As := [.int l1, .int l9, .int 1]) (k_X11_entry l0 l1 l9 1 M57) rfl (fun _ _ => rfl) (fun _ h => o_X11_entry h) ok_X11_entry im_X11_entry se_X11_entry rfl (ci := 10) rfl ml_L_175 ⟨⟨(Nat.le_of_ble_eq_true rfl), (Nat.le_of_ble_eq_true rfl)⟩, kb_c hb (Nat.le_of_ble_eq_true rfl) (Nat.le_of_ble_eq_true rfl), kb_s hb (Nat.le_of_ble_eq_true rfl) (Nat.le_of_ble_eq_true rfl)⟩ dL_session_223 rfl rfl rfl (Nat.le_of_ble_eq_true rfl) (Nat.add_assoc _ _ _) (Nat.add_assoc _ _ _) (fun x58 M59 => ?_)
    refine V_icmp_eq (q := 233) (q2 := 229) dL_session_226 (by decide) rfl ?_ ?_
    · exact V_sub [0, 1, 2, 3, 5, 6, 7, 8, 9, 10] rfl (v_L_session_233 fo rc27 h27 l0 l1 l2 (s0 + (b2i s1)) l6 l7 l8 l9 l10 l11 l4 M59 k n hb)
    · refine V_iconst (x := 1) dL_session_229 rfl rfl ?_
      refine V_goto (q := 234) dL_session_230 (by decide) ?_
      exact V_sub [0, 1, 2, 3, 5, 6, 7, 8, 9, 10] rfl (v_L_session_234 fo rc27 h27 l0 l1 l2 (s0 + (b2i s1)) l6 l7 l8 l9 l10 l11 l4 true M59 k n hb)
theorem v_L_session_185 (fo : Nat) (rc27 : Nat → Int32 → Int32 → Int32 → Int32 → Int32 → Int32 → Int32 → Int32 → Int32 → Mem → Option ((Bool ⊕ String) × Mem)) (h27 : ∀ (l0 : Nat) (l1 : Int32) (l2 : Int32) (l3 : Int32) (l4 : Int32) (l5 : Int32) (l6 : Int32) (l7 : Int32) (l8 : Int32) (l9 : Int32) (M : Mem) (k n : Nat) (_ : kb 2076 12456 34 204 fo k n), V mi_L_session 27 [(0, .ref l0), (1, .int l1), (2, .int l2), (3, .int l3), (4, .int l4), (5, .int l5), (6, .int l6), (7, .int l7), (8, .int l8), (9, .int l9)] [] M k n (rc27 l0 l1 l2 l3 l4 l5 l6 l7 l8 l9 M) tZ) (l0 : Nat) (l1 : Int32) (l2 : Int32) (l3 : Int32) (l4 : Int32) (l6 : Int32) (l7 : Int32) (l8 : Int32) (l9 : Int32) (l10 : Int32) (l11 : Int32) (s0 : Int32) (s1 : Int32) (M : Mem) (k n : Nat) (hb : kb 2076 12456 34 204 (fo + 1) k n) : V mi_L_session 185 [(0, .ref l0), (1, .int l1), (2, .int l2), (3, .int l3), (4, .int l4), (6, .int l6), (7, .int l7), (8, .int l8), (9, .int l9), (10, .int l10), (11, .int l11)] [.int s1, .int s0] M (k + 22) (n + 132) (f_L_session_185 rc27 l0 l1 l2 l3 l4 l6 l7 l8 l9 l10 l11 s0 s1 M) tZ := by
  unfold f_L_session_185
  refine V_icmp_eq (q := 190) (q2 := 188) dL_session_185 (by decide) rfl ?_ ?_
  · refine V_iload_n dL_session_190 rfl 3 rfl ?_
    refine V_iload dL_session_191 rfl 10 rfl ?_
    refine V_if_ge (q := 200) (q2 := 196) dL_session_193 (by decide) rfl ?_ ?_
    · refine V_iconst (x := 0) dL_session_200 rfl rfl ?_
      exact V_sub [0, 1, 2, 4, 5, 6, 7, 8, 9, 10] rfl (v_L_session_201 fo rc27 h27 l0 l1 l2 l4 l6 l7 l8 l9 l10 l11 l3 false M k n hb)
    · refine V_iconst (x := 1) dL_session_196 rfl rfl ?_
      refine V_goto (q := 201) dL_session_197 (by decide) ?_
      exact V_sub [0, 1, 2, 4, 5, 6, 7, 8, 9, 10] rfl (v_L_session_201 fo rc27 h27 l0 l1 l2 l4 l6 l7 l8 l9 l10 l11 l3 true M k n hb)
  · refine V_iconst (x := 0) dL_session_188 rfl rfl ?_
    exact V_zret (v := false) dL_session_189 rfl rfl ⟨kb_ck hb (Nat.le_of_ble_eq_true rfl) (Nat.le_of_ble_eq_true rfl), kb_sk hb (Nat.le_of_ble_eq_true rfl) (Nat.le_of_ble_eq_true rfl)⟩
theorem v_L_session_160 (fo : Nat) (rc27 : Nat → Int32 → Int32 → Int32 → Int32 → Int32 → Int32 → Int32 → Int32 → Int32 → Mem → Option ((Bool ⊕ String) × Mem)) (h27 : ∀ (l0 : Nat) (l1 : Int32) (l2 : Int32) (l3 : Int32) (l4 : Int32) (l5 : Int32) (l6 : Int32) (l7 : Int32) (l8 : Int32) (l9 : Int32) (M : Mem) (k n : Nat) (_ : kb 2076 12456 34 204 fo k n), V mi_L_session 27 [(0, .ref l0), (1, .int l1), (2, .int l2), (3, .int l3), (4, .int l4), (5, .int l5), (6, .int l6), (7, .int l7), (8, .int l8), (9, .int l9)] [] M k n (rc27 l0 l1 l2 l3 l4 l5 l6 l7 l8 l9 M) tZ) (l0 : Nat) (l1 : Int32) (l2 : Int32) (l3 : Int32) (l4 : Int32) (l6 : Int32) (l7 : Int32) (l8 : Int32) (l9 : Int32) (l10 : Int32) (l11 : Int32) (s0 : Int32) (s1 : Int32) (M : Mem) (k n : Nat) (hb : kb 2076 12456 34 204 (fo + 1) k n) : V mi_L_session 160 [(0, .ref l0), (1, .int l1), (2, .int l2), (3, .int l3), (4, .int l4), (6, .int l6), (7, .int l7), (8, .int l8), (9, .int l9), (10, .int l10), (11, .int l11)] [.int s1, .int s0] M (k + 20) (n + 120) (f_L_session_160 rc27 l0 l1 l2 l3 l4 l6 l7 l8 l9 l10 l11 s0 s1 M) tZ := by
  unfold f_L_session_160
  refine V_icmp_eq (q := 165) (q2 := 163) dL_session_160 (by decide) rfl ?_ ?_
  · refine V_aload_n dL_session_165 rfl 0 rfl ?_
    refine V_iload_n dL_session_166 rfl 1 rfl ?_
    refine V_iload dL_session_167 rfl 8 rfl ?_
    refine V_cVtI (As := [.int l1, .int l9]) (k_X11_numberThen l0 l1 l9 M) rfl (fun _ _ => rfl) (fun _ h => o_X11_numberThen h) ok_X11_numberThen im_X11_numberThen se_X11_numberThen rfl (ci := 10) rfl ml_L_251 ⟨⟨(Nat.le_of_ble_eq_true rfl), (Nat.le_of_ble_eq_true rfl)⟩, kb_c hb (Nat.le_of_ble_eq_true rfl) (Nat.le_of_ble_eq_true rfl), kb_s hb (Nat.le_of_ble_eq_true rfl) (Nat.le_of_ble_eq_true rfl)⟩ dL_session_169 rfl rfl rfl (Nat.le_of_ble_eq_true rfl) (Nat.add_assoc _ _ _) (Nat.add_assoc _ _ _) (fun x48 M49 => ?_)
    refine V_iload dL_session_172 rfl 10 rfl ?_
    refine V_if_ge (q := 181) (q2 := 177) dL_session_174 (by decide) rfl ?_ ?_
    · refine V_iload dL_session_181 rfl 8 rfl ?_
      refine V_iload_n dL_session_183 rfl 3 rfl ?_
      refine V_isub dL_session_184 rfl ?_
      exact v_L_session_185 fo rc27 h27 l0 l1 l2 l3 l4 l6 l7 l8 l9 l10 l11 x48 (l9 - l3) M49 k n hb
    · refine V_iconst (x := (-1)) dL_session_177 rfl rfl ?_
      refine V_goto (q := 185) dL_session_178 (by decide) ?_
      exact v_L_session_185 fo rc27 h27 l0 l1 l2 l3 l4 l6 l7 l8 l9 l10 l11 x48 (-1) M49 k n hb
  · refine V_iconst (x := 0) dL_session_163 rfl rfl ?_
    exact V_zret (v := false) dL_session_164 rfl rfl ⟨kb_ck hb (Nat.le_of_ble_eq_true rfl) (Nat.le_of_ble_eq_true rfl), kb_sk hb (Nat.le_of_ble_eq_true rfl) (Nat.le_of_ble_eq_true rfl)⟩
theorem v_L_session_132 (fo : Nat) (rc27 : Nat → Int32 → Int32 → Int32 → Int32 → Int32 → Int32 → Int32 → Int32 → Int32 → Mem → Option ((Bool ⊕ String) × Mem)) (h27 : ∀ (l0 : Nat) (l1 : Int32) (l2 : Int32) (l3 : Int32) (l4 : Int32) (l5 : Int32) (l6 : Int32) (l7 : Int32) (l8 : Int32) (l9 : Int32) (M : Mem) (k n : Nat) (_ : kb 2076 12456 34 204 fo k n), V mi_L_session 27 [(0, .ref l0), (1, .int l1), (2, .int l2), (3, .int l3), (4, .int l4), (5, .int l5), (6, .int l6), (7, .int l7), (8, .int l8), (9, .int l9)] [] M k n (rc27 l0 l1 l2 l3 l4 l5 l6 l7 l8 l9 M) tZ) (l0 : Nat) (l1 : Int32) (l2 : Int32) (l3 : Int32) (l4 : Int32) (l6 : Int32) (l7 : Int32) (l8 : Int32) (l9 : Int32) (l10 : Int32) (l11 : Int32) (s0 : Int32) (s1 : Int32) (M : Mem) (k n : Nat) (hb : kb 2076 12456 34 204 (fo + 1) k n) : V mi_L_session 132 [(0, .ref l0), (1, .int l1), (2, .int l2), (3, .int l3), (4, .int l4), (6, .int l6), (7, .int l7), (8, .int l8), (9, .int l9), (10, .int l10), (11, .int l11)] [.int s1, .int s0] M (k + 15) (n + 90) (f_L_session_132 rc27 l0 l1 l2 l3 l4 l6 l7 l8 l9 l10 l11 s0 s1 M) tZ := by
  unfold f_L_session_132
  refine V_icmp_ne (q := 163) (q2 := 135) dL_session_132 (by decide) rfl ?_ ?_
  · refine V_iconst (x := 0) dL_session_163 rfl rfl ?_
    exact V_zret (v := false) dL_session_164 rfl rfl ⟨kb_ck hb (Nat.le_of_ble_eq_true rfl) (Nat.le_of_ble_eq_true rfl), kb_sk hb (Nat.le_of_ble_eq_true rfl) (Nat.le_of_ble_eq_true rfl)⟩
  · refine V_aload_n dL_session_135 rfl 0 rfl ?_
    refine V_iload_n dL_session_136 rfl 1 rfl ?_
    refine V_iload dL_session_137 rfl 8 rfl ?_
    refine V_iconst (x := 4) dL_session_139 rfl rfl ?_
    refine V_cVtI (As := [.int l1, .int l9, .int 4]) (k_X11_entry l0 l1 l9 4 M) rfl (fun _ _ => rfl) (fun _ h => o_X11_entry h) ok_X11_entry im_X11_entry se_X11_entry rfl (ci := 10) rfl ml_L_175 ⟨⟨(Nat.le_of_ble_eq_true rfl), (Nat.le_of_ble_eq_true rfl)⟩, kb_c hb (Nat.le_of_ble_eq_true rfl) (Nat.le_of_ble_eq_true rfl), kb_s hb (Nat.le_of_ble_eq_true rfl) (Nat.le_of_ble_eq_true rfl)⟩ dL_session_140 rfl rfl rfl (Nat.le_of_ble_eq_true rfl) (Nat.add_assoc _ _ _) (Nat.add_assoc _ _ _) (fun x44 M45 => ?_)
    refine V_iload dL_session_143 rfl 10 rfl ?_
    refine V_if_ge (q := 152) (q2 := 148) dL_session_145 (by decide) rfl ?_ ?_
    · refine V_aload_n dL_session_152 rfl 0 rfl ?_
      refine V_iload_n dL_session_153 rfl 2 rfl ?_
      refine V_iload dL_session_154 rfl 10 rfl ?_
      refine V_iconst (x := 2) dL_session_156 rfl rfl ?_
      refine V_cVtI (As := [.int l2, .int l11, .int 2]) (k_X11_message l0 l2 l11 2 M45) rfl (fun _ _ => rfl) (fun _ h => o_X11_message h) ok_X11_message im_X11_message se_X11_message rfl (ci := 10) rfl ml_L_172 ⟨⟨(Nat.le_of_ble_eq_true rfl), (Nat.le_of_ble_eq_true rfl)⟩, kb_c hb (Nat.le_of_ble_eq_true rfl) (Nat.le_of_ble_eq_true rfl), kb_s hb (Nat.le_of_ble_eq_true rfl) (Nat.le_of_ble_eq_true rfl)⟩ dL_session_157 rfl rfl rfl (Nat.le_of_ble_eq_true rfl) (Nat.add_assoc _ _ _) (Nat.add_assoc _ _ _) (fun x46 M47 => ?_)
      exact v_L_session_160 fo rc27 h27 l0 l1 l2 l3 l4 l6 l7 l8 l9 l10 l11 x44 x46 M47 k n hb
    · refine V_iconst (x := 0) dL_session_148 rfl rfl ?_
      refine V_goto (q := 160) dL_session_149 (by decide) ?_
      exact (V_w (Nat.add_le_add_left (Nat.le_of_ble_eq_true rfl) _) (Nat.add_le_add_left (Nat.le_of_ble_eq_true rfl) _) (v_L_session_160 fo rc27 h27 l0 l1 l2 l3 l4 l6 l7 l8 l9 l10 l11 x44 0 M45 k n hb))
theorem v_L_session_90 (fo : Nat) (rc27 : Nat → Int32 → Int32 → Int32 → Int32 → Int32 → Int32 → Int32 → Int32 → Int32 → Mem → Option ((Bool ⊕ String) × Mem)) (h27 : ∀ (l0 : Nat) (l1 : Int32) (l2 : Int32) (l3 : Int32) (l4 : Int32) (l5 : Int32) (l6 : Int32) (l7 : Int32) (l8 : Int32) (l9 : Int32) (M : Mem) (k n : Nat) (_ : kb 2076 12456 34 204 fo k n), V mi_L_session 27 [(0, .ref l0), (1, .int l1), (2, .int l2), (3, .int l3), (4, .int l4), (5, .int l5), (6, .int l6), (7, .int l7), (8, .int l8), (9, .int l9)] [] M k n (rc27 l0 l1 l2 l3 l4 l5 l6 l7 l8 l9 M) tZ) (l0 : Nat) (l1 : Int32) (l2 : Int32) (l3 : Int32) (l4 : Int32) (l6 : Int32) (l7 : Int32) (l8 : Int32) (l9 : Int32) (l10 : Int32) (l11 : Int32) (s0 : Int32) (s1 : Bool) (M : Mem) (k n : Nat) (hb : kb 2076 12456 34 204 (fo + 1) k n) : V mi_L_session 90 [(0, .ref l0), (1, .int l1), (2, .int l2), (3, .int l3), (4, .int l4), (6, .int l6), (7, .int l7), (8, .int l8), (9, .int l9), (10, .int l10), (11, .int l11)] [.int (b2i s1), .int s0] M (k + 9) (n + 54) (f_L_session_90 rc27 l0 l1 l2 l3 l4 l6 l7 l8 l9 l10 l11 s0 s1 M) tZ := by
  unfold f_L_session_90
  refine V_icmp_ne (q := 105) (q2 := 93) dL_session_90 (by decide) rfl ?_ ?_
  · refine V_iconst (x := 0) dL_session_105 rfl rfl ?_
    exact V_zret (v := false) dL_session_106 rfl rfl ⟨kb_ck hb (Nat.le_of_ble_eq_true rfl) (Nat.le_of_ble_eq_true rfl), kb_sk hb (Nat.le_of_ble_eq_true rfl) (Nat.le_of_ble_eq_true rfl)⟩
  · refine V_aload_n dL_session_93 rfl 0 rfl ?_
    refine V_iload_n dL_session_94 rfl 1 rfl ?_
    refine V_iload dL_session_95 rfl 9 rfl ?_
    refine V_cVtI (As := [.int l1, .int l10]) (k_X11_numberOf l0 l1 l10 M) rfl (fun _ _ => rfl) (fun _ h => o_X11_numberOf h) ok_X11_numberOf im_X11_numberOf se_X11_numberOf rfl (ci := 10) rfl ml_L_248 ⟨⟨(Nat.le_of_ble_eq_true rfl), (Nat.le_of_ble_eq_true rfl)⟩, kb_c hb (Nat.le_of_ble_eq_true rfl) (Nat.le_of_ble_eq_true rfl), kb_s hb (Nat.le_of_ble_eq_true rfl) (Nat.le_of_ble_eq_true rfl)⟩ dL_session_97 rfl rfl rfl (Nat.le_of_ble_eq_true rfl) (Nat.add_assoc _ _ _) (Nat.add_assoc _ _ _) (fun x38 M39 => ?_)
    refine V_iload dL_session_100 rfl 8 rfl ?_
    refine V_icmp_eq (q := 107) (q2 := 105) dL_session_102 (by decide) rfl ?_ ?_
    · refine V_aload_n dL_session_107 rfl 0 rfl ?_
      refine V_iload_n dL_session_108 rfl 1 rfl ?_
      refine V_iload dL_session_109 rfl 8 rfl ?_
      refine V_iconst (x := 3) dL_session_111 rfl rfl ?_
      refine V_cVtI (As := [.int l1, .int l9, .int 3]) (k_X11_entry l0 l1 l9 3 M39) rfl (fun _ _ => rfl) (fun _ h => o_X11_entry h) ok_X11_entry im_X11_entry se_X11_entry rfl (ci := 10) rfl ml_L_175 ⟨⟨(Nat.le_of_ble_eq_true rfl), (Nat.le_of_ble_eq_true rfl)⟩, kb_c hb (Nat.le_of_ble_eq_true rfl) (Nat.le_of_ble_eq_true rfl), kb_s hb (Nat.le_of_ble_eq_true rfl) (Nat.le_of_ble_eq_true rfl)⟩ dL_session_112 rfl rfl rfl (Nat.le_of_ble_eq_true rfl) (Nat.add_assoc _ _ _) (Nat.add_assoc _ _ _) (fun x40 M41 => ?_)
      refine V_iload dL_session_115 rfl 10 rfl ?_
      refine V_if_ge (q := 124) (q2 := 120) dL_session_117 (by decide) rfl ?_ ?_
      · refine V_aload_n dL_session_124 rfl 0 rfl ?_
        refine V_iload_n dL_session_125 rfl 2 rfl ?_
        refine V_iload dL_session_126 rfl 10 rfl ?_
        refine V_iconst (x := 1) dL_session_128 rfl rfl ?_
        refine V_cVtI (As := [.int l2, .int l11, .int 1]) (k_X11_message l0 l2 l11 1 M41) rfl (fun _ _ => rfl) (fun _ h => o_X11_message h) ok_X11_message im_X11_message se_X11_message rfl (ci := 10) rfl ml_L_172 ⟨⟨(Nat.le_of_ble_eq_true rfl), (Nat.le_of_ble_eq_true rfl)⟩, kb_c hb (Nat.le_of_ble_eq_true rfl) (Nat.le_of_ble_eq_true rfl), kb_s hb (Nat.le_of_ble_eq_true rfl) (Nat.le_of_ble_eq_true rfl)⟩ dL_session_129 rfl rfl rfl (Nat.le_of_ble_eq_true rfl) (Nat.add_assoc _ _ _) (Nat.add_assoc _ _ _) (fun x42 M43 => ?_)
        exact v_L_session_132 fo rc27 h27 l0 l1 l2 l3 l4 l6 l7 l8 l9 l10 l11 x40 x42 M43 k n hb
      · refine V_iconst (x := 0) dL_session_120 rfl rfl ?_
        refine V_goto (q := 132) dL_session_121 (by decide) ?_
        exact (V_w (Nat.add_le_add_left (Nat.le_of_ble_eq_true rfl) _) (Nat.add_le_add_left (Nat.le_of_ble_eq_true rfl) _) (v_L_session_132 fo rc27 h27 l0 l1 l2 l3 l4 l6 l7 l8 l9 l10 l11 x40 0 M41 k n hb))
    · refine V_iconst (x := 0) dL_session_105 rfl rfl ?_
      exact V_zret (v := false) dL_session_106 rfl rfl ⟨kb_ck hb (Nat.le_of_ble_eq_true rfl) (Nat.le_of_ble_eq_true rfl), kb_sk hb (Nat.le_of_ble_eq_true rfl) (Nat.le_of_ble_eq_true rfl)⟩
theorem v_L_session_63 (fo : Nat) (rc27 : Nat → Int32 → Int32 → Int32 → Int32 → Int32 → Int32 → Int32 → Int32 → Int32 → Mem → Option ((Bool ⊕ String) × Mem)) (h27 : ∀ (l0 : Nat) (l1 : Int32) (l2 : Int32) (l3 : Int32) (l4 : Int32) (l5 : Int32) (l6 : Int32) (l7 : Int32) (l8 : Int32) (l9 : Int32) (M : Mem) (k n : Nat) (_ : kb 2076 12456 34 204 fo k n), V mi_L_session 27 [(0, .ref l0), (1, .int l1), (2, .int l2), (3, .int l3), (4, .int l4), (5, .int l5), (6, .int l6), (7, .int l7), (8, .int l8), (9, .int l9)] [] M k n (rc27 l0 l1 l2 l3 l4 l5 l6 l7 l8 l9 M) tZ) (l0 : Nat) (l1 : Int32) (l2 : Int32) (l3 : Int32) (l4 : Int32) (l5 : Int32) (l6 : Int32) (l7 : Int32) (l8 : Int32) (l9 : Int32) (l10 : Int32) (s0 : Int32) (M : Mem) (k n : Nat) (hb : kb 2076 12456 34 204 (fo + 1) k n) : V mi_L_session 63 [(0, .ref l0), (1, .int l1), (2, .int l2), (3, .int l3), (4, .int l4), (5, .int l5), (6, .int l6), (7, .int l7), (8, .int l8), (9, .int l9), (10, .int l10)] [.int s0] M (k + 6) (n + 36) (f_L_session_63 rc27 l0 l1 l2 l3 l4 l5 l6 l7 l8 l9 l10 s0 M) tZ := by
  unfold f_L_session_63
  refine V_istore (L' := [(0, .ref l0), (1, .int l1), (2, .int l2), (3, .int l3), (4, .int l4), (5, .int l5), (6, .int l6), (7, .int l7), (8, .int l8), (9, .int l9), (10, .int l10), (11, .int s0)]) dL_session_63 rfl (by decide) rfl ?_
  refine V_iload dL_session_65 rfl 10 rfl ?_
  refine V_iload dL_session_67 rfl 5 rfl ?_
  refine V_icmp_le (q := 105) (q2 := 72) dL_session_69 (by decide) rfl ?_ ?_
  · refine V_iconst (x := 0) dL_session_105 rfl rfl ?_
    exact V_zret (v := false) dL_session_106 rfl rfl ⟨kb_ck hb (Nat.le_of_ble_eq_true rfl) (Nat.le_of_ble_eq_true rfl), kb_sk hb (Nat.le_of_ble_eq_true rfl) (Nat.le_of_ble_eq_true rfl)⟩
  · refine V_aload_n dL_session_72 rfl 0 rfl ?_
    refine V_iload_n dL_session_73 rfl 1 rfl ?_
    refine V_iload dL_session_74 rfl 9 rfl ?_
    refine V_iconst (x := 2) dL_session_76 rfl rfl ?_
    refine V_cVtI (As := [.int l1, .int l9, .int 2]) (k_X11_entry l0 l1 l9 2 M) rfl (fun _ _ => rfl) (fun _ h => o_X11_entry h) ok_X11_entry im_X11_entry se_X11_entry rfl (ci := 10) rfl ml_L_175 ⟨⟨(Nat.le_of_ble_eq_true rfl), (Nat.le_of_ble_eq_true rfl)⟩, kb_c hb (Nat.le_of_ble_eq_true rfl) (Nat.le_of_ble_eq_true rfl), kb_s hb (Nat.le_of_ble_eq_true rfl) (Nat.le_of_ble_eq_true rfl)⟩ dL_session_77 rfl rfl rfl (Nat.le_of_ble_eq_true rfl) (Nat.add_assoc _ _ _) (Nat.add_assoc _ _ _) (fun x36 M37 => ?_)
    refine V_iload dL_session_80 rfl 11 rfl ?_
    refine V_if_ge (q := 89) (q2 := 85) dL_session_82 (by decide) rfl ?_ ?_
    · refine V_iconst (x := 0) dL_session_89 rfl rfl ?_
      exact V_sub [0, 1, 2, 3, 4, 6, 7, 8, 9, 10, 11] rfl (v_L_session_90 fo rc27 h27 l0 l1 l2 l3 l4 l6 l7 l8 l9 l10 s0 x36 false M37 k n hb)
    · refine V_iconst (x := 1) dL_session_85 rfl rfl ?_
      refine V_goto (q := 90) dL_session_86 (by decide) ?_
      exact V_sub [0, 1, 2, 3, 4, 6, 7, 8, 9, 10, 11] rfl (v_L_session_90 fo rc27 h27 l0 l1 l2 l3 l4 l6 l7 l8 l9 l10 s0 x36 true M37 k n hb)
theorem v_L_session_27 : ∀ (fu : Nat) (l0 : Nat) (l1 : Int32) (l2 : Int32) (l3 : Int32) (l4 : Int32) (l5 : Int32) (l6 : Int32) (l7 : Int32) (l8 : Int32) (l9 : Int32) (M : Mem) (k n : Nat) (_ : kb 2076 12456 34 204 fu k n), V mi_L_session 27 [(0, .ref l0), (1, .int l1), (2, .int l2), (3, .int l3), (4, .int l4), (5, .int l5), (6, .int l6), (7, .int l7), (8, .int l8), (9, .int l9)] [] M k n (f_L_session_27 fu l0 l1 l2 l3 l4 l5 l6 l7 l8 l9 M) tZ := by
  intro fu
  induction fu with
  | zero => intros; exact V_none
  | succ fu ih =>
    intro l0 l1 l2 l3 l4 l5 l6 l7 l8 l9 M k n hb
    show V mi_L_session 27 [(0, .ref l0), (1, .int l1), (2, .int l2), (3, .int l3), (4, .int l4), (5, .int l5), (6, .int l6), (7, .int l7), (8, .int l8), (9, .int l9)] [] M k n (f_L_session_27 (fu + 1) l0 l1 l2 l3 l4 l5 l6 l7 l8 l9 M) tZ
    unfold f_L_session_27
    refine V_iload dL_session_27 rfl 9 rfl ?_
    refine V_aload_n dL_session_29 rfl 0 rfl ?_
    refine V_iload_n dL_session_30 rfl 1 rfl ?_
    refine V_iconst (x := 3) dL_session_31 rfl rfl ?_
    refine V_cVtI (As := [.int l1, .int 3]) (k_X11_session l0 l1 3 M) rfl (fun _ _ => rfl) (fun _ h => o_X11_session h) ok_X11_session im_X11_session se_X11_session rfl (ci := 10) rfl ml_L_117 ⟨⟨(Nat.le_of_ble_eq_true rfl), (Nat.le_of_ble_eq_true rfl)⟩, kb_c0 hb (Nat.le_of_ble_eq_true rfl) (Nat.le_of_ble_eq_true rfl), kb_s0 hb (Nat.le_of_ble_eq_true rfl) (Nat.le_of_ble_eq_true rfl)⟩ dL_session_32 rfl rfl rfl (Nat.le_of_ble_eq_true rfl) rfl rfl (fun x3 M4 => ?_)
    refine V_icmp_gt (q := 306) (q2 := 38) dL_session_35 (by decide) rfl ?_ ?_
    · exact V_sub [0, 1, 2, 3, 4, 5, 6, 7] rfl (V_w (kb_ck hb (Nat.le_of_ble_eq_true rfl) (Nat.le_of_ble_eq_true rfl)) (kb_sk hb (Nat.le_of_ble_eq_true rfl) (Nat.le_of_ble_eq_true rfl)) (v_L_session_306 l0 l1 l2 l3 l4 l5 l6 l7 M4))
    · refine V_aload_n dL_session_38 rfl 0 rfl ?_
      refine V_iload_n dL_session_39 rfl 1 rfl ?_
      refine V_iload dL_session_40 rfl 9 rfl ?_
      refine V_iconst (x := 0) dL_session_42 rfl rfl ?_
      refine V_cVtI (As := [.int l1, .int l9, .int 0]) (k_X11_entry l0 l1 l9 0 M4) rfl (fun _ _ => rfl) (fun _ h => o_X11_entry h) ok_X11_entry im_X11_entry se_X11_entry rfl (ci := 10) rfl ml_L_175 ⟨⟨(Nat.le_of_ble_eq_true rfl), (Nat.le_of_ble_eq_true rfl)⟩, kb_c hb (Nat.le_of_ble_eq_true rfl) (Nat.le_of_ble_eq_true rfl), kb_s hb (Nat.le_of_ble_eq_true rfl) (Nat.le_of_ble_eq_true rfl)⟩ dL_session_43 rfl rfl rfl (Nat.le_of_ble_eq_true rfl) (Nat.add_assoc _ _ _) (Nat.add_assoc _ _ _) (fun x32 M33 => ?_)
      refine V_istore (L' := [(0, .ref l0), (1, .int l1), (2, .int l2), (3, .int l3), (4, .int l4), (5, .int l5), (6, .int l6), (7, .int l7), (8, .int l8), (9, .int l9), (10, .int x32)]) dL_session_46 rfl (by decide) rfl ?_
      refine V_iload_n dL_session_48 rfl 2 rfl ?_
      refine V_if_ge (q := 56) (q2 := 52) dL_session_49 (by decide) rfl ?_ ?_
      · refine V_aload_n dL_session_56 rfl 0 rfl ?_
        refine V_iload_n dL_session_57 rfl 2 rfl ?_
        refine V_iload dL_session_58 rfl 10 rfl ?_
        refine V_cVtI (As := [.int l2, .int x32]) (k_X11_indexOf l0 l2 x32 M33) rfl (fun _ _ => rfl) (fun _ h => o_X11_indexOf h) ok_X11_indexOf im_X11_indexOf se_X11_indexOf rfl (ci := 10) rfl ml_L_245 ⟨⟨(Nat.le_of_ble_eq_true rfl), (Nat.le_of_ble_eq_true rfl)⟩, kb_c hb (Nat.le_of_ble_eq_true rfl) (Nat.le_of_ble_eq_true rfl), kb_s hb (Nat.le_of_ble_eq_true rfl) (Nat.le_of_ble_eq_true rfl)⟩ dL_session_60 rfl rfl rfl (Nat.le_of_ble_eq_true rfl) (Nat.add_assoc _ _ _) (Nat.add_assoc _ _ _) (fun x34 M35 => ?_)
        exact v_L_session_63 fu (f_L_session_27 fu) ih l0 l1 l2 l3 l4 l5 l6 l7 l8 l9 x32 x34 M35 k n hb
      · refine V_iconst (x := (-1)) dL_session_52 rfl rfl ?_
        refine V_goto (q := 63) dL_session_53 (by decide) ?_
        exact (V_w (Nat.add_le_add_left (Nat.le_of_ble_eq_true rfl) _) (Nat.add_le_add_left (Nat.le_of_ble_eq_true rfl) _) (v_L_session_63 fu (f_L_session_27 fu) ih l0 l1 l2 l3 l4 l5 l6 l7 l8 l9 x32 (-1) M33 k n hb))
theorem v_L_session (a0 : Nat) (a1 : Int32) (M : Mem) : V mi_L_session 0 [(0, .ref a0), (1, .int a1)] [] M 0 0 (f_L_session a0 a1 M) tZ := by
  unfold f_L_session
  refine V_aload_n dL_session_0 rfl 0 rfl ?_
  refine V_iload_n dL_session_1 rfl 1 rfl ?_
  refine V_iconst (x := 0) dL_session_2 rfl rfl ?_
  refine V_cVtI (As := [.int a1, .int 0]) (k_X11_session a0 a1 0 M) rfl (fun _ _ => rfl) (fun _ h => o_X11_session h) ok_X11_session im_X11_session se_X11_session rfl (ci := 10) rfl ml_L_117 ⟨⟨(Nat.le_of_ble_eq_true rfl), (Nat.le_of_ble_eq_true rfl)⟩, (Nat.le_of_ble_eq_true rfl), (Nat.le_of_ble_eq_true rfl)⟩ dL_session_3 rfl rfl rfl (Nat.le_of_ble_eq_true rfl) rfl rfl (fun x1 M2 => ?_)
  refine V_istore_n (L' := [(0, .ref a0), (1, .int a1), (2, .int x1)]) dL_session_6 rfl (by decide) rfl ?_
  refine V_iconst (x := 0) dL_session_7 rfl rfl ?_
  refine V_istore_n (L' := [(0, .ref a0), (1, .int a1), (2, .int x1), (3, .int 0)]) dL_session_8 rfl (by decide) rfl ?_
  refine V_iconst (x := 0) dL_session_9 rfl rfl ?_
  refine V_istore (L' := [(0, .ref a0), (1, .int a1), (2, .int x1), (3, .int 0), (4, .int 0)]) dL_session_10 rfl (by decide) rfl ?_
  refine V_iconst (x := 0) dL_session_12 rfl rfl ?_
  refine V_istore (L' := [(0, .ref a0), (1, .int a1), (2, .int x1), (3, .int 0), (4, .int 0), (5, .int 0)]) dL_session_13 rfl (by decide) rfl ?_
  refine V_iconst (x := (-1)) dL_session_15 rfl rfl ?_
  refine V_istore (L' := [(0, .ref a0), (1, .int a1), (2, .int x1), (3, .int 0), (4, .int 0), (5, .int 0), (6, .int (-1))]) dL_session_16 rfl (by decide) rfl ?_
  refine V_iconst (x := (-1)) dL_session_18 rfl rfl ?_
  refine V_istore (L' := [(0, .ref a0), (1, .int a1), (2, .int x1), (3, .int 0), (4, .int 0), (5, .int 0), (6, .int (-1)), (7, .int (-1))]) dL_session_19 rfl (by decide) rfl ?_
  refine V_iconst (x := 0) dL_session_21 rfl rfl ?_
  refine V_istore (L' := [(0, .ref a0), (1, .int a1), (2, .int x1), (3, .int 0), (4, .int 0), (5, .int 0), (6, .int (-1)), (7, .int (-1)), (8, .int 0)]) dL_session_22 rfl (by decide) rfl ?_
  refine V_iconst (x := 1) dL_session_24 rfl rfl ?_
  refine V_istore (L' := [(0, .ref a0), (1, .int a1), (2, .int x1), (3, .int 0), (4, .int 0), (5, .int 0), (6, .int (-1)), (7, .int (-1)), (8, .int 0), (9, .int 1)]) dL_session_25 rfl (by decide) rfl ?_
  exact v_L_session_27 61 a0 a1 x1 0 0 0 (-1) (-1) 0 1 M2 2 12 ⟨(Nat.le_of_ble_eq_true rfl), (Nat.le_of_ble_eq_true rfl)⟩
theorem k_L_session (a0 : Nat) (a1 : Int32) (M : Mem) : K mi_L_session [.ref a0, .int a1] M (f_L_session a0 a1 M) tZ := K_of_V ok_L_session (Nat.le_of_ble_eq_true rfl) (v_L_session a0 a1 M)
theorem dL_law_0 : decode cL_law 0 = .ok (.new 21, 3) := by decide +kernel
theorem dL_law_3 : decode cL_law 3 = .ok (.dup, 1) := by decide +kernel
theorem dL_law_4 : decode cL_law 4 = .ok (.invokespecial 270, 3) := by decide +kernel
theorem dL_law_7 : decode cL_law 7 = .ok (.astore_n 1, 1) := by decide +kernel
theorem dL_law_8 : decode cL_law 8 = .ok (.aload_n 1, 1) := by decide +kernel
theorem dL_law_9 : decode cL_law 9 = .ok (.aload_n 0, 1) := by decide +kernel
theorem dL_law_10 : decode cL_law 10 = .ok (.invokestatic 271, 3) := by decide +kernel
theorem dL_law_13 : decode cL_law 13 = .ok (.ifCond .ne 5, 3) := by decide +kernel
theorem dL_law_16 : decode cL_law 16 = .ok (.iconst 0, 1) := by decide +kernel
theorem dL_law_17 : decode cL_law 17 = .ok (.ireturn, 1) := by decide +kernel
theorem dL_law_18 : decode cL_law 18 = .ok (.bipush 50, 2) := by decide +kernel
theorem dL_law_20 : decode cL_law 20 = .ok (.istore_n 2, 1) := by decide +kernel
theorem dL_law_21 : decode cL_law 21 = .ok (.iload_n 2, 1) := by decide +kernel
theorem dL_law_22 : decode cL_law 22 = .ok (.sipush 182, 3) := by decide +kernel
theorem dL_law_25 : decode cL_law 25 = .ok (.if_icmp .ge 356, 3) := by decide +kernel
theorem dL_law_28 : decode cL_law 28 = .ok (.aload_n 1, 1) := by decide +kernel
theorem dL_law_29 : decode cL_law 29 = .ok (.iconst 0, 1) := by decide +kernel
theorem dL_law_30 : decode cL_law 30 = .ok (.invokestatic 274, 3) := by decide +kernel
theorem dL_law_33 : decode cL_law 33 = .ok (.astore_n 3, 1) := by decide +kernel
theorem dL_law_34 : decode cL_law 34 = .ok (.aload_n 1, 1) := by decide +kernel
theorem dL_law_35 : decode cL_law 35 = .ok (.iconst 1, 1) := by decide +kernel
theorem dL_law_36 : decode cL_law 36 = .ok (.invokestatic 274, 3) := by decide +kernel
theorem dL_law_39 : decode cL_law 39 = .ok (.astore 4, 2) := by decide +kernel
theorem dL_law_41 : decode cL_law 41 = .ok (.aload_n 1, 1) := by decide +kernel
theorem dL_law_42 : decode cL_law 42 = .ok (.invokestatic 278, 3) := by decide +kernel
theorem dL_law_45 : decode cL_law 45 = .ok (.lstore 5, 2) := by decide +kernel
theorem dL_law_47 : decode cL_law 47 = .ok (.aload_n 1, 1) := by decide +kernel
theorem dL_law_48 : decode cL_law 48 = .ok (.iconst 4, 1) := by decide +kernel
theorem dL_law_49 : decode cL_law 49 = .ok (.invokevirtual 110, 3) := by decide +kernel
theorem dL_law_52 : decode cL_law 52 = .ok (.istore 7, 2) := by decide +kernel
theorem dL_law_54 : decode cL_law 54 = .ok (.aload_n 0, 1) := by decide +kernel
theorem dL_law_55 : decode cL_law 55 = .ok (.iload_n 2, 1) := by decide +kernel
theorem dL_law_56 : decode cL_law 56 = .ok (.aload_n 1, 1) := by decide +kernel
theorem dL_law_57 : decode cL_law 57 = .ok (.iconst 1, 1) := by decide +kernel
theorem dL_law_58 : decode cL_law 58 = .ok (.invokevirtual 110, 3) := by decide +kernel
theorem dL_law_61 : decode cL_law 61 = .ok (.invokestatic 64, 3) := by decide +kernel
theorem dL_law_64 : decode cL_law 64 = .ok (.istore 8, 2) := by decide +kernel
theorem dL_law_66 : decode cL_law 66 = .ok (.aload_n 0, 1) := by decide +kernel
theorem dL_law_67 : decode cL_law 67 = .ok (.iload_n 2, 1) := by decide +kernel
theorem dL_law_68 : decode cL_law 68 = .ok (.iconst 5, 1) := by decide +kernel
theorem dL_law_69 : decode cL_law 69 = .ok (.iadd, 1) := by decide +kernel
theorem dL_law_70 : decode cL_law 70 = .ok (.bipush 16, 2) := by decide +kernel
theorem dL_law_72 : decode cL_law 72 = .ok (.invokestatic 64, 3) := by decide +kernel
theorem dL_law_75 : decode cL_law 75 = .ok (.istore 9, 2) := by decide +kernel
theorem dL_law_77 : decode cL_law 77 = .ok (.aload_n 1, 1) := by decide +kernel
theorem dL_law_78 : decode cL_law 78 = .ok (.aload_n 0, 1) := by decide +kernel
theorem dL_law_79 : decode cL_law 79 = .ok (.iload_n 2, 1) := by decide +kernel
theorem dL_law_80 : decode cL_law 80 = .ok (.invokestatic 282, 3) := by decide +kernel
theorem dL_law_83 : decode cL_law 83 = .ok (.istore 10, 2) := by decide +kernel
theorem dL_law_85 : decode cL_law 85 = .ok (.iload 10, 2) := by decide +kernel
theorem dL_law_87 : decode cL_law 87 = .ok (.ldc 126, 2) := by decide +kernel
theorem dL_law_89 : decode cL_law 89 = .ok (.if_icmp .ne 25, 3) := by decide +kernel
theorem dL_law_92 : decode cL_law 92 = .ok (.aload_n 1, 1) := by decide +kernel
theorem dL_law_93 : decode cL_law 93 = .ok (.invokestatic 278, 3) := by decide +kernel
theorem dL_law_96 : decode cL_law 96 = .ok (.lload 5, 2) := by decide +kernel
theorem dL_law_98 : decode cL_law 98 = .ok (.lcmp, 1) := by decide +kernel
theorem dL_law_99 : decode cL_law 99 = .ok (.ifCond .ne 13, 3) := by decide +kernel
theorem dL_law_102 : decode cL_law 102 = .ok (.aload_n 1, 1) := by decide +kernel
theorem dL_law_103 : decode cL_law 103 = .ok (.iconst 4, 1) := by decide +kernel
theorem dL_law_104 : decode cL_law 104 = .ok (.invokevirtual 110, 3) := by decide +kernel
theorem dL_law_107 : decode cL_law 107 = .ok (.iload 7, 2) := by decide +kernel
theorem dL_law_109 : decode cL_law 109 = .ok (.if_icmp .eq 266, 3) := by decide +kernel
theorem dL_law_112 : decode cL_law 112 = .ok (.iconst 0, 1) := by decide +kernel
theorem dL_law_113 : decode cL_law 113 = .ok (.ireturn, 1) := by decide +kernel
theorem dL_law_114 : decode cL_law 114 = .ok (.iload 9, 2) := by decide +kernel
theorem dL_law_116 : decode cL_law 116 = .ok (.iconst 5, 1) := by decide +kernel
theorem dL_law_117 : decode cL_law 117 = .ok (.if_icmp .le 28, 3) := by decide +kernel
theorem dL_law_120 : decode cL_law 120 = .ok (.iload 9, 2) := by decide +kernel
theorem dL_law_122 : decode cL_law 122 = .ok (.bipush 8, 2) := by decide +kernel
theorem dL_law_124 : decode cL_law 124 = .ok (.if_icmp .ge 21, 3) := by decide +kernel
theorem dL_law_127 : decode cL_law 127 = .ok (.aload_n 0, 1) := by decide +kernel
theorem dL_law_128 : decode cL_law 128 = .ok (.iload_n 2, 1) := by decide +kernel
theorem dL_law_129 : decode cL_law 129 = .ok (.iconst 4, 1) := by decide +kernel
theorem dL_law_130 : decode cL_law 130 = .ok (.iadd, 1) := by decide +kernel
theorem dL_law_131 : decode cL_law 131 = .ok (.bipush 32, 2) := by decide +kernel
theorem dL_law_133 : decode cL_law 133 = .ok (.invokestatic 64, 3) := by decide +kernel
theorem dL_law_136 : decode cL_law 136 = .ok (.bipush 20, 2) := by decide +kernel
theorem dL_law_138 : decode cL_law 138 = .ok (.if_icmp .le 7, 3) := by decide +kernel
theorem dL_law_141 : decode cL_law 141 = .ok (.iconst 1, 1) := by decide +kernel
theorem dL_law_142 : decode cL_law 142 = .ok (.goto 4, 3) := by decide +kernel
theorem dL_law_145 : decode cL_law 145 = .ok (.iconst 0, 1) := by decide +kernel
theorem dL_law_146 : decode cL_law 146 = .ok (.istore 11, 2) := by decide +kernel
theorem dL_law_148 : decode cL_law 148 = .ok (.aload_n 1, 1) := by decide +kernel
theorem dL_law_149 : decode cL_law 149 = .ok (.aload_n 3, 1) := by decide +kernel
theorem dL_law_150 : decode cL_law 150 = .ok (.aload 4, 2) := by decide +kernel
theorem dL_law_152 : decode cL_law 152 = .ok (.iload 9, 2) := by decide +kernel
theorem dL_law_154 : decode cL_law 154 = .ok (.ifCond .eq 10, 3) := by decide +kernel
theorem dL_law_157 : decode cL_law 157 = .ok (.iload 9, 2) := by decide +kernel
theorem dL_law_159 : decode cL_law 159 = .ok (.bipush 13, 2) := by decide +kernel
theorem dL_law_161 : decode cL_law 161 = .ok (.if_icmp .ne 8, 3) := by decide +kernel
theorem dL_law_164 : decode cL_law 164 = .ok (.iload 8, 2) := by decide +kernel
theorem dL_law_166 : decode cL_law 166 = .ok (.goto 4, 3) := by decide +kernel
theorem dL_law_169 : decode cL_law 169 = .ok (.iconst (-1), 1) := by decide +kernel
theorem dL_law_170 : decode cL_law 170 = .ok (.iload 11, 2) := by decide +kernel
theorem dL_law_172 : decode cL_law 172 = .ok (.invokestatic 286, 3) := by decide +kernel
theorem dL_law_175 : decode cL_law 175 = .ok (.ifCond .ne 5, 3) := by decide +kernel
theorem dL_law_178 : decode cL_law 178 = .ok (.iconst 0, 1) := by decide +kernel
theorem dL_law_179 : decode cL_law 179 = .ok (.ireturn, 1) := by decide +kernel
theorem dL_law_180 : decode cL_law 180 = .ok (.iload 9, 2) := by decide +kernel
theorem dL_law_182 : decode cL_law 182 = .ok (.ifCond .le 9, 3) := by decide +kernel
theorem dL_law_185 : decode cL_law 185 = .ok (.iload 9, 2) := by decide +kernel
theorem dL_law_187 : decode cL_law 187 = .ok (.iconst 5, 1) := by decide +kernel
theorem dL_law_188 : decode cL_law 188 = .ok (.if_icmp .lt 17, 3) := by decide +kernel
theorem dL_law_191 : decode cL_law 191 = .ok (.iload 9, 2) := by decide +kernel
theorem dL_law_193 : decode cL_law 193 = .ok (.bipush 7, 2) := by decide +kernel
theorem dL_law_195 : decode cL_law 195 = .ok (.if_icmp .le 39, 3) := by decide +kernel
theorem dL_law_198 : decode cL_law 198 = .ok (.iload 9, 2) := by decide +kernel
theorem dL_law_200 : decode cL_law 200 = .ok (.bipush 13, 2) := by decide +kernel
theorem dL_law_202 : decode cL_law 202 = .ok (.if_icmp .ge 32, 3) := by decide +kernel
theorem dL_law_205 : decode cL_law 205 = .ok (.aload_n 1, 1) := by decide +kernel
theorem dL_law_206 : decode cL_law 206 = .ok (.iload 8, 2) := by decide +kernel
theorem dL_law_208 : decode cL_law 208 = .ok (.iconst 4, 1) := by decide +kernel
theorem dL_law_209 : decode cL_law 209 = .ok (.invokevirtual 117, 3) := by decide +kernel
theorem dL_law_212 : decode cL_law 212 = .ok (.aload_n 1, 1) := by decide +kernel
theorem dL_law_213 : decode cL_law 213 = .ok (.iload 8, 2) := by decide +kernel
theorem dL_law_215 : decode cL_law 215 = .ok (.iconst 5, 1) := by decide +kernel
theorem dL_law_216 : decode cL_law 216 = .ok (.invokevirtual 117, 3) := by decide +kernel
theorem dL_law_219 : decode cL_law 219 = .ok (.iadd, 1) := by decide +kernel
theorem dL_law_220 : decode cL_law 220 = .ok (.ifCond .ne 12, 3) := by decide +kernel
theorem dL_law_223 : decode cL_law 223 = .ok (.aload_n 1, 1) := by decide +kernel
theorem dL_law_224 : decode cL_law 224 = .ok (.iload 8, 2) := by decide +kernel
theorem dL_law_226 : decode cL_law 226 = .ok (.invokevirtual 263, 3) := by decide +kernel
theorem dL_law_229 : decode cL_law 229 = .ok (.ifCond .ne 5, 3) := by decide +kernel
theorem dL_law_232 : decode cL_law 232 = .ok (.iconst 0, 1) := by decide +kernel
theorem dL_law_233 : decode cL_law 233 = .ok (.ireturn, 1) := by decide +kernel
theorem dL_law_234 : decode cL_law 234 = .ok (.iload 9, 2) := by decide +kernel
theorem dL_law_236 : decode cL_law 236 = .ok (.iconst 4, 1) := by decide +kernel
theorem dL_law_237 : decode cL_law 237 = .ok (.if_icmp .le 22, 3) := by decide +kernel
theorem dL_law_240 : decode cL_law 240 = .ok (.iload 9, 2) := by decide +kernel
theorem dL_law_242 : decode cL_law 242 = .ok (.bipush 8, 2) := by decide +kernel
theorem dL_law_244 : decode cL_law 244 = .ok (.if_icmp .ge 15, 3) := by decide +kernel
theorem dL_law_247 : decode cL_law 247 = .ok (.aload_n 1, 1) := by decide +kernel
theorem dL_law_248 : decode cL_law 248 = .ok (.iload 8, 2) := by decide +kernel
theorem dL_law_250 : decode cL_law 250 = .ok (.iconst 5, 1) := by decide +kernel
theorem dL_law_251 : decode cL_law 251 = .ok (.invokevirtual 117, 3) := by decide +kernel
theorem dL_law_254 : decode cL_law 254 = .ok (.ifCond .eq 5, 3) := by decide +kernel
theorem dL_law_257 : decode cL_law 257 = .ok (.iconst 0, 1) := by decide +kernel
theorem dL_law_258 : decode cL_law 258 = .ok (.ireturn, 1) := by decide +kernel
theorem dL_law_259 : decode cL_law 259 = .ok (.iconst 0, 1) := by decide +kernel
theorem dL_law_260 : decode cL_law 260 = .ok (.istore 12, 2) := by decide +kernel
theorem dL_law_262 : decode cL_law 262 = .ok (.iload 12, 2) := by decide +kernel
theorem dL_law_264 : decode cL_law 264 = .ok (.aload_n 1, 1) := by decide +kernel
theorem dL_law_265 : decode cL_law 265 = .ok (.iconst 1, 1) := by decide +kernel
theorem dL_law_266 : decode cL_law 266 = .ok (.invokevirtual 110, 3) := by decide +kernel
theorem dL_law_269 : decode cL_law 269 = .ok (.if_icmp .ge 42, 3) := by decide +kernel
theorem dL_law_272 : decode cL_law 272 = .ok (.aload_n 1, 1) := by decide +kernel
theorem dL_law_273 : decode cL_law 273 = .ok (.iload 12, 2) := by decide +kernel
theorem dL_law_275 : decode cL_law 275 = .ok (.invokestatic 290, 3) := by decide +kernel
theorem dL_law_278 : decode cL_law 278 = .ok (.ifCond .ne 5, 3) := by decide +kernel
theorem dL_law_281 : decode cL_law 281 = .ok (.iconst 0, 1) := by decide +kernel
theorem dL_law_282 : decode cL_law 282 = .ok (.ireturn, 1) := by decide +kernel
theorem dL_law_283 : decode cL_law 283 = .ok (.aload_n 1, 1) := by decide +kernel
theorem dL_law_284 : decode cL_law 284 = .ok (.iload 12, 2) := by decide +kernel
theorem dL_law_286 : decode cL_law 286 = .ok (.iconst 2, 1) := by decide +kernel
theorem dL_law_287 : decode cL_law 287 = .ok (.invokevirtual 117, 3) := by decide +kernel
theorem dL_law_290 : decode cL_law 290 = .ok (.iconst 1, 1) := by decide +kernel
theorem dL_law_291 : decode cL_law 291 = .ok (.if_icmp .ne 14, 3) := by decide +kernel
theorem dL_law_294 : decode cL_law 294 = .ok (.aload_n 1, 1) := by decide +kernel
theorem dL_law_295 : decode cL_law 295 = .ok (.iload 12, 2) := by decide +kernel
theorem dL_law_297 : decode cL_law 297 = .ok (.invokevirtual 263, 3) := by decide +kernel
theorem dL_law_300 : decode cL_law 300 = .ok (.ifCond .ne 5, 3) := by decide +kernel
theorem dL_law_303 : decode cL_law 303 = .ok (.iconst 0, 1) := by decide +kernel
theorem dL_law_304 : decode cL_law 304 = .ok (.ireturn, 1) := by decide +kernel
theorem dL_law_305 : decode cL_law 305 = .ok (.iinc 12 1, 3) := by decide +kernel
theorem dL_law_308 : decode cL_law 308 = .ok (.goto (-46), 3) := by decide +kernel
theorem dL_law_311 : decode cL_law 311 = .ok (.iload 9, 2) := by decide +kernel
theorem dL_law_313 : decode cL_law 313 = .ok (.ifCond .le 62, 3) := by decide +kernel
theorem dL_law_316 : decode cL_law 316 = .ok (.iload 9, 2) := by decide +kernel
theorem dL_law_318 : decode cL_law 318 = .ok (.iconst 5, 1) := by decide +kernel
theorem dL_law_319 : decode cL_law 319 = .ok (.if_icmp .ge 56, 3) := by decide +kernel
theorem dL_law_322 : decode cL_law 322 = .ok (.iconst 0, 1) := by decide +kernel
theorem dL_law_323 : decode cL_law 323 = .ok (.istore 12, 2) := by decide +kernel
theorem dL_law_325 : decode cL_law 325 = .ok (.iconst 0, 1) := by decide +kernel
theorem dL_law_326 : decode cL_law 326 = .ok (.istore 13, 2) := by decide +kernel
theorem dL_law_328 : decode cL_law 328 = .ok (.iload 13, 2) := by decide +kernel
theorem dL_law_330 : decode cL_law 330 = .ok (.aload_n 1, 1) := by decide +kernel
theorem dL_law_331 : decode cL_law 331 = .ok (.iconst 4, 1) := by decide +kernel
theorem dL_law_332 : decode cL_law 332 = .ok (.invokevirtual 110, 3) := by decide +kernel
theorem dL_law_335 : decode cL_law 335 = .ok (.if_icmp .ge 31, 3) := by decide +kernel
theorem dL_law_338 : decode cL_law 338 = .ok (.iload 12, 2) := by decide +kernel
theorem dL_law_340 : decode cL_law 340 = .ok (.aload_n 1, 1) := by decide +kernel
theorem dL_law_341 : decode cL_law 341 = .ok (.iload 13, 2) := by decide +kernel
theorem dL_law_343 : decode cL_law 343 = .ok (.iconst 0, 1) := by decide +kernel
theorem dL_law_344 : decode cL_law 344 = .ok (.invokevirtual 235, 3) := by decide +kernel
theorem dL_law_347 : decode cL_law 347 = .ok (.iload 8, 2) := by decide +kernel
theorem dL_law_349 : decode cL_law 349 = .ok (.if_icmp .ne 7, 3) := by decide +kernel
theorem dL_law_352 : decode cL_law 352 = .ok (.iconst 1, 1) := by decide +kernel
theorem dL_law_353 : decode cL_law 353 = .ok (.goto 4, 3) := by decide +kernel
theorem dL_law_356 : decode cL_law 356 = .ok (.iconst 0, 1) := by decide +kernel
theorem dL_law_357 : decode cL_law 357 = .ok (.iadd, 1) := by decide +kernel
theorem dL_law_358 : decode cL_law 358 = .ok (.istore 12, 2) := by decide +kernel
theorem dL_law_360 : decode cL_law 360 = .ok (.iinc 13 1, 3) := by decide +kernel
theorem dL_law_363 : decode cL_law 363 = .ok (.goto (-35), 3) := by decide +kernel
theorem dL_law_366 : decode cL_law 366 = .ok (.iload 10, 2) := by decide +kernel
theorem dL_law_368 : decode cL_law 368 = .ok (.iload 12, 2) := by decide +kernel
theorem dL_law_370 : decode cL_law 370 = .ok (.if_icmp .eq 5, 3) := by decide +kernel
theorem dL_law_373 : decode cL_law 373 = .ok (.iconst 0, 1) := by decide +kernel
theorem dL_law_374 : decode cL_law 374 = .ok (.ireturn, 1) := by decide +kernel
theorem dL_law_375 : decode cL_law 375 = .ok (.iinc 2 6, 3) := by decide +kernel
theorem dL_law_378 : decode cL_law 378 = .ok (.goto (-357), 3) := by decide +kernel
theorem dL_law_381 : decode cL_law 381 = .ok (.iconst 1, 1) := by decide +kernel
theorem dL_law_382 : decode cL_law 382 = .ok (.ireturn, 1) := by decide +kernel
def mi_L_law : MI := (RL, yL_law, cL_law, 14, some .boolean, lawH, room_1)
theorem v_L_law_375 (fo : Nat) (rc21 : Nat → Nat → Int32 → Mem → Option (Bool × Mem)) (h21 : ∀ (l0 : Nat) (l1 : Nat) (l2 : Int32) (M : Mem) (k n : Nat) (_ : kb 479432 3735806 20793 153878 fo k n), V mi_L_law 21 [(0, .ref l0), (1, .ref l1), (2, .int l2)] [] M k n (rc21 l0 l1 l2 M) wZ) (l0 : Nat) (l1 : Nat) (l2 : Int32) (M : Mem) (k n : Nat) (hb : kb 479432 3735806 20793 153878 (fo + 1) k n) : V mi_L_law 375 [(0, .ref l0), (1, .ref l1), (2, .int l2)] [] M (k + 20793) (n + 153878) (f_L_law_375 rc21 l0 l1 l2 M) wZ := by
  unfold f_L_law_375
  refine V_iinc (y := (l2 + 6)) (L' := [(0, .ref l0), (1, .ref l1), (2, .int (l2 + 6))]) dL_law_375 rfl 2 rfl rfl (by decide) rfl ?_
  refine V_goto (q := 21) dL_law_378 (by decide) ?_
  exact h21 l0 l1 (l2 + 6) M _ _ (kb_next hb (Nat.le_of_ble_eq_true rfl) (Nat.le_of_ble_eq_true rfl))
theorem v_L_law_366 (fo : Nat) (rc21 : Nat → Nat → Int32 → Mem → Option (Bool × Mem)) (h21 : ∀ (l0 : Nat) (l1 : Nat) (l2 : Int32) (M : Mem) (k n : Nat) (_ : kb 479432 3735806 20793 153878 fo k n), V mi_L_law 21 [(0, .ref l0), (1, .ref l1), (2, .int l2)] [] M k n (rc21 l0 l1 l2 M) wZ) (l0 : Nat) (l1 : Nat) (l2 : Int32) (l10 : Int32) (l12 : Int32) (M : Mem) (k n : Nat) (hb : kb 479432 3735806 20793 153878 (fo + 1) k n) : V mi_L_law 366 [(0, .ref l0), (1, .ref l1), (2, .int l2), (10, .int l10), (12, .int l12)] [] M (k + 20793) (n + 153878) (f_L_law_366 rc21 l0 l1 l2 l10 l12 M) wZ := by
  unfold f_L_law_366
  refine V_iload dL_law_366 rfl 3 rfl ?_
  refine V_iload dL_law_368 rfl 4 rfl ?_
  refine V_icmp_eq (q := 375) (q2 := 373) dL_law_370 (by decide) rfl ?_ ?_
  · exact V_sub [0, 1, 2] rfl (v_L_law_375 fo rc21 h21 l0 l1 l2 M k n hb)
  · refine V_iconst (x := 0) dL_law_373 rfl rfl ?_
    exact V_zret (v := false) dL_law_374 rfl rfl ⟨kb_ck hb (Nat.le_of_ble_eq_true rfl) (Nat.le_of_ble_eq_true rfl), kb_sk hb (Nat.le_of_ble_eq_true rfl) (Nat.le_of_ble_eq_true rfl)⟩
theorem v_L_law_357 (fo k n : Nat) (hb : kb 479432 3735806 20793 153878 (fo + 1) k n) (fo2 : Nat) (rc21 : Nat → Nat → Int32 → Mem → Option (Bool × Mem)) (rc328 : Nat → Nat → Int32 → Int32 → Int32 → Int32 → Int32 → Mem → Option (Bool × Mem)) (h21 : ∀ (l0 : Nat) (l1 : Nat) (l2 : Int32) (M : Mem) (k n : Nat) (_ : kb 479432 3735806 20793 153878 fo k n), V mi_L_law 21 [(0, .ref l0), (1, .ref l1), (2, .int l2)] [] M k n (rc21 l0 l1 l2 M) wZ) (h328 : ∀ (l0 : Nat) (l1 : Nat) (l2 : Int32) (l8 : Int32) (l10 : Int32) (l12 : Int32) (l13 : Int32) (M : Mem) (kk nn : Nat) (_ : kb (k + 20793) (n + 153878) 2 12 fo2 kk nn), V mi_L_law 328 [(0, .ref l0), (1, .ref l1), (2, .int l2), (8, .int l8), (10, .int l10), (12, .int l12), (13, .int l13)] [] M kk nn (rc328 l0 l1 l2 l8 l10 l12 l13 M) wZ) (l0 : Nat) (l1 : Nat) (l2 : Int32) (l8 : Int32) (l10 : Int32) (l13 : Int32) (s0 : Int32) (s1 : Bool) (M : Mem) (kk nn : Nat) (hb2 : kb (k + 20793) (n + 153878) 2 12 (fo2 + 1) kk nn) : V mi_L_law 357 [(0, .ref l0), (1, .ref l1), (2, .int l2), (8, .int l8), (10, .int l10), (13, .int l13)] [.int (b2i s1), .int s0] M (kk + 2) (nn + 12) (f_L_law_357 rc21 rc328 l0 l1 l2 l8 l10 l13 s0 s1 M) wZ := by
  unfold f_L_law_357
  refine V_iadd dL_law_357 rfl ?_
  refine V_istore (L' := [(0, .ref l0), (1, .ref l1), (2, .int l2), (8, .int l8), (10, .int l10), (12, .int (s0 + (b2i s1))), (13, .int l13)]) dL_law_358 rfl (by decide) rfl ?_
  refine V_iinc (y := (l13 + 1)) (L' := [(0, .ref l0), (1, .ref l1), (2, .int l2), (8, .int l8), (10, .int l10), (12, .int (s0 + (b2i s1))), (13, .int (l13 + 1))]) dL_law_360 rfl 6 rfl rfl (by decide) rfl ?_
  refine V_goto (q := 328) dL_law_363 (by decide) ?_
  exact h328 l0 l1 l2 l8 l10 (s0 + (b2i s1)) (l13 + 1) M _ _ (kb_next hb2 (Nat.le_of_ble_eq_true rfl) (Nat.le_of_ble_eq_true rfl))
theorem v_L_law_328 (fo k n : Nat) (hb : kb 479432 3735806 20793 153878 (fo + 1) k n) (rc21 : Nat → Nat → Int32 → Mem → Option (Bool × Mem)) (h21 : ∀ (l0 : Nat) (l1 : Nat) (l2 : Int32) (M : Mem) (k n : Nat) (_ : kb 479432 3735806 20793 153878 fo k n), V mi_L_law 21 [(0, .ref l0), (1, .ref l1), (2, .int l2)] [] M k n (rc21 l0 l1 l2 M) wZ) : ∀ (fu : Nat) (l0 : Nat) (l1 : Nat) (l2 : Int32) (l8 : Int32) (l10 : Int32) (l12 : Int32) (l13 : Int32) (M : Mem) (kk nn : Nat) (_ : kb (k + 20793) (n + 153878) 2 12 fu kk nn), V mi_L_law 328 [(0, .ref l0), (1, .ref l1), (2, .int l2), (8, .int l8), (10, .int l10), (12, .int l12), (13, .int l13)] [] M kk nn (f_L_law_328 rc21 fu l0 l1 l2 l8 l10 l12 l13 M) wZ := by
  intro fu
  induction fu with
  | zero => intros; exact V_none
  | succ fu ih =>
    intro l0 l1 l2 l8 l10 l12 l13 M kk nn hb2
    show V mi_L_law 328 [(0, .ref l0), (1, .ref l1), (2, .int l2), (8, .int l8), (10, .int l10), (12, .int l12), (13, .int l13)] [] M kk nn (f_L_law_328  rc21 (fu + 1) l0 l1 l2 l8 l10 l12 l13 M) wZ
    unfold f_L_law_328
    refine V_iload dL_law_328 rfl 6 rfl ?_
    refine V_aload_n dL_law_330 rfl 1 rfl ?_
    refine V_iconst (x := 4) dL_law_331 rfl rfl ?_
    refine V_cVnI (As := [.int 4]) (k_X11_property l1 4 M) (fun _ h => o_X11_property h) ok_X11_property im_X11_property se_X11_property rfl (ci := 10) rfl ml_L_110 ⟨⟨(Nat.le_of_ble_eq_true rfl), (Nat.le_of_ble_eq_true rfl)⟩, kb2_c0 hb hb2 (Nat.le_of_ble_eq_true rfl) (Nat.le_of_ble_eq_true rfl) (Nat.le_of_ble_eq_true rfl), kb2_s0 hb hb2 (Nat.le_of_ble_eq_true rfl) (Nat.le_of_ble_eq_true rfl) (Nat.le_of_ble_eq_true rfl)⟩ dL_law_332 rfl rfl rfl (Nat.le_of_ble_eq_true rfl) rfl rfl (fun x24 M25 => ?_)
    refine V_icmp_ge (q := 366) (q2 := 338) dL_law_335 (by decide) rfl ?_ ?_
    · exact V_sub [0, 1, 2, 4, 5] rfl (V_w (kb_ck hb2 (Nat.le_of_ble_eq_true rfl) (Nat.add_le_add_left (Nat.le_of_ble_eq_true rfl) _)) (kb_sk hb2 (Nat.le_of_ble_eq_true rfl) (Nat.add_le_add_left (Nat.le_of_ble_eq_true rfl) _)) (v_L_law_366 fo rc21 h21 l0 l1 l2 l10 l12 M25 k n hb))
    · refine V_iload dL_law_338 rfl 5 rfl ?_
      refine V_aload_n dL_law_340 rfl 1 rfl ?_
      refine V_iload dL_law_341 rfl 6 rfl ?_
      refine V_iconst (x := 0) dL_law_343 rfl rfl ?_
      refine V_cVnI (As := [.int l13, .int 0]) (k_X11_notice l1 l13 0 M25) (fun _ h => o_X11_notice h) ok_X11_notice im_X11_notice se_X11_notice rfl (ci := 10) rfl ml_L_235 ⟨⟨(Nat.le_of_ble_eq_true rfl), (Nat.le_of_ble_eq_true rfl)⟩, kb2_c hb hb2 (Nat.le_of_ble_eq_true rfl) (Nat.le_of_ble_eq_true rfl) (Nat.le_of_ble_eq_true rfl), kb2_s hb hb2 (Nat.le_of_ble_eq_true rfl) (Nat.le_of_ble_eq_true rfl) (Nat.le_of_ble_eq_true rfl)⟩ dL_law_344 rfl rfl rfl (Nat.le_of_ble_eq_true rfl) (Nat.add_assoc _ _ _) (Nat.add_assoc _ _ _) (fun x26 M27 => ?_)
      refine V_iload dL_law_347 rfl 3 rfl ?_
      refine V_icmp_ne (q := 356) (q2 := 352) dL_law_349 (by decide) rfl ?_ ?_
      · refine V_iconst (x := 0) dL_law_356 rfl rfl ?_
        exact V_sub [0, 1, 2, 3, 4, 6] rfl (v_L_law_357 fo k n hb fu rc21 (f_L_law_328 rc21 fu) h21 ih l0 l1 l2 l8 l10 l13 l12 false M27 kk nn hb2)
      · refine V_iconst (x := 1) dL_law_352 rfl rfl ?_
        refine V_goto (q := 357) dL_law_353 (by decide) ?_
        exact V_sub [0, 1, 2, 3, 4, 6] rfl (v_L_law_357 fo k n hb fu rc21 (f_L_law_328 rc21 fu) h21 ih l0 l1 l2 l8 l10 l13 l12 true M27 kk nn hb2)
theorem v_L_law_311 (fo : Nat) (rc21 : Nat → Nat → Int32 → Mem → Option (Bool × Mem)) (h21 : ∀ (l0 : Nat) (l1 : Nat) (l2 : Int32) (M : Mem) (k n : Nat) (_ : kb 479432 3735806 20793 153878 fo k n), V mi_L_law 21 [(0, .ref l0), (1, .ref l1), (2, .int l2)] [] M k n (rc21 l0 l1 l2 M) wZ) (l0 : Nat) (l1 : Nat) (l2 : Int32) (l8 : Int32) (l9 : Int32) (l10 : Int32) (M : Mem) (k n : Nat) (hb : kb 479432 3735806 20793 153878 (fo + 1) k n) : V mi_L_law 311 [(0, .ref l0), (1, .ref l1), (2, .int l2), (8, .int l8), (9, .int l9), (10, .int l10)] [] M (k + 20301) (n + 150926) (f_L_law_311 rc21 l0 l1 l2 l8 l9 l10 M) wZ := by
  unfold f_L_law_311
  refine V_iload dL_law_311 rfl 4 rfl ?_
  refine V_if_le (q := 375) (q2 := 316) dL_law_313 (by decide) rfl ?_ ?_
  · exact V_sub [0, 1, 2] rfl (V_w (Nat.add_le_add_left (Nat.le_of_ble_eq_true rfl) _) (Nat.add_le_add_left (Nat.le_of_ble_eq_true rfl) _) (v_L_law_375 fo rc21 h21 l0 l1 l2 M k n hb))
  · refine V_iload dL_law_316 rfl 4 rfl ?_
    refine V_iconst (x := 5) dL_law_318 rfl rfl ?_
    refine V_icmp_ge (q := 375) (q2 := 322) dL_law_319 (by decide) rfl ?_ ?_
    · exact V_sub [0, 1, 2] rfl (V_w (Nat.add_le_add_left (Nat.le_of_ble_eq_true rfl) _) (Nat.add_le_add_left (Nat.le_of_ble_eq_true rfl) _) (v_L_law_375 fo rc21 h21 l0 l1 l2 M k n hb))
    · refine V_iconst (x := 0) dL_law_322 rfl rfl ?_
      refine V_istore (L' := [(0, .ref l0), (1, .ref l1), (2, .int l2), (8, .int l8), (9, .int l9), (10, .int l10), (12, .int 0)]) dL_law_323 rfl (by decide) rfl ?_
      refine V_iconst (x := 0) dL_law_325 rfl rfl ?_
      refine V_istore (L' := [(0, .ref l0), (1, .ref l1), (2, .int l2), (8, .int l8), (9, .int l9), (10, .int l10), (12, .int 0), (13, .int 0)]) dL_law_326 rfl (by decide) rfl ?_
      exact V_sub [0, 1, 2, 3, 5, 6, 7] rfl (v_L_law_328 fo k n hb rc21 h21 246 l0 l1 l2 l8 l10 0 0 M (k + 20301) (n + 150926) (kb_in (Nat.le_of_ble_eq_true rfl) (Nat.le_of_ble_eq_true rfl)))
theorem v_L_law_305 (fo k n : Nat) (hb : kb 479432 3735806 20793 153878 (fo + 1) k n) (fo2 : Nat) (rc21 : Nat → Nat → Int32 → Mem → Option (Bool × Mem)) (rc262 : Nat → Nat → Int32 → Int32 → Int32 → Int32 → Int32 → Mem → Option (Bool × Mem)) (h21 : ∀ (l0 : Nat) (l1 : Nat) (l2 : Int32) (M : Mem) (k n : Nat) (_ : kb 479432 3735806 20793 153878 fo k n), V mi_L_law 21 [(0, .ref l0), (1, .ref l1), (2, .int l2)] [] M k n (rc21 l0 l1 l2 M) wZ) (h262 : ∀ (l0 : Nat) (l1 : Nat) (l2 : Int32) (l8 : Int32) (l9 : Int32) (l10 : Int32) (l12 : Int32) (M : Mem) (kk nn : Nat) (_ : kb (k + 20301) (n + 150926) 2311 13866 fo2 kk nn), V mi_L_law 262 [(0, .ref l0), (1, .ref l1), (2, .int l2), (8, .int l8), (9, .int l9), (10, .int l10), (12, .int l12)] [] M kk nn (rc262 l0 l1 l2 l8 l9 l10 l12 M) wZ) (l0 : Nat) (l1 : Nat) (l2 : Int32) (l8 : Int32) (l9 : Int32) (l10 : Int32) (l12 : Int32) (M : Mem) (kk nn : Nat) (hb2 : kb (k + 20301) (n + 150926) 2311 13866 (fo2 + 1) kk nn) : V mi_L_law 305 [(0, .ref l0), (1, .ref l1), (2, .int l2), (8, .int l8), (9, .int l9), (10, .int l10), (12, .int l12)] [] M (kk + 2311) (nn + 13866) (f_L_law_305 rc21 rc262 l0 l1 l2 l8 l9 l10 l12 M) wZ := by
  unfold f_L_law_305
  refine V_iinc (y := (l12 + 1)) (L' := [(0, .ref l0), (1, .ref l1), (2, .int l2), (8, .int l8), (9, .int l9), (10, .int l10), (12, .int (l12 + 1))]) dL_law_305 rfl 6 rfl rfl (by decide) rfl ?_
  refine V_goto (q := 262) dL_law_308 (by decide) ?_
  exact h262 l0 l1 l2 l8 l9 l10 (l12 + 1) M _ _ (kb_next hb2 (Nat.le_of_ble_eq_true rfl) (Nat.le_of_ble_eq_true rfl))
theorem v_L_law_262 (fo k n : Nat) (hb : kb 479432 3735806 20793 153878 (fo + 1) k n) (rc21 : Nat → Nat → Int32 → Mem → Option (Bool × Mem)) (h21 : ∀ (l0 : Nat) (l1 : Nat) (l2 : Int32) (M : Mem) (k n : Nat) (_ : kb 479432 3735806 20793 153878 fo k n), V mi_L_law 21 [(0, .ref l0), (1, .ref l1), (2, .int l2)] [] M k n (rc21 l0 l1 l2 M) wZ) : ∀ (fu : Nat) (l0 : Nat) (l1 : Nat) (l2 : Int32) (l8 : Int32) (l9 : Int32) (l10 : Int32) (l12 : Int32) (M : Mem) (kk nn : Nat) (_ : kb (k + 20301) (n + 150926) 2311 13866 fu kk nn), V mi_L_law 262 [(0, .ref l0), (1, .ref l1), (2, .int l2), (8, .int l8), (9, .int l9), (10, .int l10), (12, .int l12)] [] M kk nn (f_L_law_262 rc21 fu l0 l1 l2 l8 l9 l10 l12 M) wZ := by
  intro fu
  induction fu with
  | zero => intros; exact V_none
  | succ fu ih =>
    intro l0 l1 l2 l8 l9 l10 l12 M kk nn hb2
    show V mi_L_law 262 [(0, .ref l0), (1, .ref l1), (2, .int l2), (8, .int l8), (9, .int l9), (10, .int l10), (12, .int l12)] [] M kk nn (f_L_law_262  rc21 (fu + 1) l0 l1 l2 l8 l9 l10 l12 M) wZ
    unfold f_L_law_262
    refine V_iload dL_law_262 rfl 6 rfl ?_
    refine V_aload_n dL_law_264 rfl 1 rfl ?_
    refine V_iconst (x := 1) dL_law_265 rfl rfl ?_
    refine V_cVnI (As := [.int 1]) (k_X11_property l1 1 M) (fun _ h => o_X11_property h) ok_X11_property im_X11_property se_X11_property rfl (ci := 10) rfl ml_L_110 ⟨⟨(Nat.le_of_ble_eq_true rfl), (Nat.le_of_ble_eq_true rfl)⟩, kb2_c0 hb hb2 (Nat.le_of_ble_eq_true rfl) (Nat.le_of_ble_eq_true rfl) (Nat.le_of_ble_eq_true rfl), kb2_s0 hb hb2 (Nat.le_of_ble_eq_true rfl) (Nat.le_of_ble_eq_true rfl) (Nat.le_of_ble_eq_true rfl)⟩ dL_law_266 rfl rfl rfl (Nat.le_of_ble_eq_true rfl) rfl rfl (fun x22 M23 => ?_)
    refine V_icmp_ge (q := 311) (q2 := 272) dL_law_269 (by decide) rfl ?_ ?_
    · exact V_sub [0, 1, 2, 3, 4, 5] rfl (V_w (kb_ck hb2 (Nat.le_of_ble_eq_true rfl) (Nat.add_le_add_left (Nat.le_of_ble_eq_true rfl) _)) (kb_sk hb2 (Nat.le_of_ble_eq_true rfl) (Nat.add_le_add_left (Nat.le_of_ble_eq_true rfl) _)) (v_L_law_311 fo rc21 h21 l0 l1 l2 l8 l9 l10 M23 k n hb))
    · refine V_aload_n dL_law_272 rfl 1 rfl ?_
      refine V_iload dL_law_273 rfl 6 rfl ?_
      refine V_cSnZ (As := [.ref l1, .int l12]) (k_L_session l1 l12 M23) ok_L_session sm_L_session ml_L_290 ⟨⟨(Nat.le_of_ble_eq_true rfl), (Nat.le_of_ble_eq_true rfl)⟩, kb2_c hb hb2 (Nat.le_of_ble_eq_true rfl) (Nat.le_of_ble_eq_true rfl) (Nat.le_of_ble_eq_true rfl), kb2_s hb hb2 (Nat.le_of_ble_eq_true rfl) (Nat.le_of_ble_eq_true rfl) (Nat.le_of_ble_eq_true rfl)⟩ dL_law_275 rfl rfl rfl (Nat.le_of_ble_eq_true rfl) (Nat.add_assoc _ _ _) (Nat.add_assoc _ _ _) (fun x28 M29 => ?_)
      refine V_ifz_ne (q := 283) (q2 := 281) dL_law_278 (by decide) rfl ?_ ?_
      · refine V_aload_n dL_law_283 rfl 1 rfl ?_
        refine V_iload dL_law_284 rfl 6 rfl ?_
        refine V_iconst (x := 2) dL_law_286 rfl rfl ?_
        refine V_cVnI (As := [.int l12, .int 2]) (k_X11_session l1 l12 2 M29) (fun _ h => o_X11_session h) ok_X11_session im_X11_session se_X11_session rfl (ci := 10) rfl ml_L_117 ⟨⟨(Nat.le_of_ble_eq_true rfl), (Nat.le_of_ble_eq_true rfl)⟩, kb2_c hb hb2 (Nat.le_of_ble_eq_true rfl) (Nat.le_of_ble_eq_true rfl) (Nat.le_of_ble_eq_true rfl), kb2_s hb hb2 (Nat.le_of_ble_eq_true rfl) (Nat.le_of_ble_eq_true rfl) (Nat.le_of_ble_eq_true rfl)⟩ dL_law_287 rfl rfl rfl (Nat.le_of_ble_eq_true rfl) (Nat.add_assoc _ _ _) (Nat.add_assoc _ _ _) (fun x30 M31 => ?_)
        refine V_iconst (x := 1) dL_law_290 rfl rfl ?_
        refine V_icmp_ne (q := 305) (q2 := 294) dL_law_291 (by decide) rfl ?_ ?_
        · exact (V_w (Nat.add_le_add_left (Nat.le_of_ble_eq_true rfl) _) (Nat.add_le_add_left (Nat.le_of_ble_eq_true rfl) _) (v_L_law_305 fo k n hb fu rc21 (f_L_law_262 rc21 fu) h21 ih l0 l1 l2 l8 l9 l10 l12 M31 kk nn hb2))
        · refine V_aload_n dL_law_294 rfl 1 rfl ?_
          refine V_iload dL_law_295 rfl 6 rfl ?_
          refine V_cVnZ (As := [.int l12]) (k_X11_isCurrent l1 l12 M31) (fun _ h => o_X11_isCurrent h) ok_X11_isCurrent im_X11_isCurrent se_X11_isCurrent rfl (ci := 10) rfl ml_L_263 ⟨⟨(Nat.le_of_ble_eq_true rfl), (Nat.le_of_ble_eq_true rfl)⟩, kb2_c hb hb2 (Nat.le_of_ble_eq_true rfl) (Nat.le_of_ble_eq_true rfl) (Nat.le_of_ble_eq_true rfl), kb2_s hb hb2 (Nat.le_of_ble_eq_true rfl) (Nat.le_of_ble_eq_true rfl) (Nat.le_of_ble_eq_true rfl)⟩ dL_law_297 rfl rfl rfl (Nat.le_of_ble_eq_true rfl) (Nat.add_assoc _ _ _) (Nat.add_assoc _ _ _) (fun x32 M33 => ?_)
          refine V_ifz_ne (q := 305) (q2 := 303) dL_law_300 (by decide) rfl ?_ ?_
          · exact v_L_law_305 fo k n hb fu rc21 (f_L_law_262 rc21 fu) h21 ih l0 l1 l2 l8 l9 l10 l12 M33 kk nn hb2
          · refine V_iconst (x := 0) dL_law_303 rfl rfl ?_
            exact V_zret (v := false) dL_law_304 rfl rfl ⟨kb2_ck hb hb2 (Nat.le_of_ble_eq_true rfl) (Nat.le_of_ble_eq_true rfl) (Nat.le_of_ble_eq_true rfl), kb2_sk hb hb2 (Nat.le_of_ble_eq_true rfl) (Nat.le_of_ble_eq_true rfl) (Nat.le_of_ble_eq_true rfl)⟩
      · refine V_iconst (x := 0) dL_law_281 rfl rfl ?_
        exact V_zret (v := false) dL_law_282 rfl rfl ⟨kb2_ck hb hb2 (Nat.le_of_ble_eq_true rfl) (Nat.le_of_ble_eq_true rfl) (Nat.le_of_ble_eq_true rfl), kb2_sk hb hb2 (Nat.le_of_ble_eq_true rfl) (Nat.le_of_ble_eq_true rfl) (Nat.le_of_ble_eq_true rfl)⟩
theorem v_L_law_259 (fo : Nat) (rc21 : Nat → Nat → Int32 → Mem → Option (Bool × Mem)) (h21 : ∀ (l0 : Nat) (l1 : Nat) (l2 : Int32) (M : Mem) (k n : Nat) (_ : kb 479432 3735806 20793 153878 fo k n), V mi_L_law 21 [(0, .ref l0), (1, .ref l1), (2, .int l2)] [] M k n (rc21 l0 l1 l2 M) wZ) (l0 : Nat) (l1 : Nat) (l2 : Int32) (l8 : Int32) (l9 : Int32) (l10 : Int32) (M : Mem) (k n : Nat) (hb : kb 479432 3735806 20793 153878 (fo + 1) k n) : V mi_L_law 259 [(0, .ref l0), (1, .ref l1), (2, .int l2), (8, .int l8), (9, .int l9), (10, .int l10)] [] M (k + 8746) (n + 81596) (f_L_law_259 rc21 l0 l1 l2 l8 l9 l10 M) wZ := by
  unfold f_L_law_259
  refine V_iconst (x := 0) dL_law_259 rfl rfl ?_
  refine V_istore (L' := [(0, .ref l0), (1, .ref l1), (2, .int l2), (8, .int l8), (9, .int l9), (10, .int l10), (12, .int 0)]) dL_law_260 rfl (by decide) rfl ?_
  exact v_L_law_262 fo k n hb rc21 h21 5 l0 l1 l2 l8 l9 l10 0 M (k + 8746) (n + 81596) (kb_in (Nat.le_of_ble_eq_true rfl) (Nat.le_of_ble_eq_true rfl))
theorem v_L_law_234 (fo : Nat) (rc21 : Nat → Nat → Int32 → Mem → Option (Bool × Mem)) (h21 : ∀ (l0 : Nat) (l1 : Nat) (l2 : Int32) (M : Mem) (k n : Nat) (_ : kb 479432 3735806 20793 153878 fo k n), V mi_L_law 21 [(0, .ref l0), (1, .ref l1), (2, .int l2)] [] M k n (rc21 l0 l1 l2 M) wZ) (l0 : Nat) (l1 : Nat) (l2 : Int32) (l8 : Int32) (l9 : Int32) (l10 : Int32) (M : Mem) (k n : Nat) (hb : kb 479432 3735806 20793 153878 (fo + 1) k n) : V mi_L_law 234 [(0, .ref l0), (1, .ref l1), (2, .int l2), (8, .int l8), (9, .int l9), (10, .int l10)] [] M (k + 8744) (n + 81584) (f_L_law_234 rc21 l0 l1 l2 l8 l9 l10 M) wZ := by
  unfold f_L_law_234
  refine V_iload dL_law_234 rfl 4 rfl ?_
  refine V_iconst (x := 4) dL_law_236 rfl rfl ?_
  refine V_icmp_le (q := 259) (q2 := 240) dL_law_237 (by decide) rfl ?_ ?_
  · exact (V_w (Nat.add_le_add_left (Nat.le_of_ble_eq_true rfl) _) (Nat.add_le_add_left (Nat.le_of_ble_eq_true rfl) _) (v_L_law_259 fo rc21 h21 l0 l1 l2 l8 l9 l10 M k n hb))
  · refine V_iload dL_law_240 rfl 4 rfl ?_
    refine V_bipush (x := 8) dL_law_242 rfl rfl ?_
    refine V_icmp_ge (q := 259) (q2 := 247) dL_law_244 (by decide) rfl ?_ ?_
    · exact (V_w (Nat.add_le_add_left (Nat.le_of_ble_eq_true rfl) _) (Nat.add_le_add_left (Nat.le_of_ble_eq_true rfl) _) (v_L_law_259 fo rc21 h21 l0 l1 l2 l8 l9 l10 M k n hb))
    · refine V_aload_n dL_law_247 rfl 1 rfl ?_
      refine V_iload dL_law_248 rfl 3 rfl ?_
      refine V_iconst (x := 5) dL_law_250 rfl rfl ?_
      refine V_cVnI (As := [.int l8, .int 5]) (k_X11_session l1 l8 5 M) (fun _ h => o_X11_session h) ok_X11_session im_X11_session se_X11_session rfl (ci := 10) rfl ml_L_117 ⟨⟨(Nat.le_of_ble_eq_true rfl), (Nat.le_of_ble_eq_true rfl)⟩, kb_c hb (Nat.le_of_ble_eq_true rfl) (Nat.le_of_ble_eq_true rfl), kb_s hb (Nat.le_of_ble_eq_true rfl) (Nat.le_of_ble_eq_true rfl)⟩ dL_law_251 rfl rfl rfl (Nat.le_of_ble_eq_true rfl) (Nat.add_assoc _ _ _) (Nat.add_assoc _ _ _) (fun x34 M35 => ?_)
      refine V_if_eq (q := 259) (q2 := 257) dL_law_254 (by decide) rfl ?_ ?_
      · exact v_L_law_259 fo rc21 h21 l0 l1 l2 l8 l9 l10 M35 k n hb
      · refine V_iconst (x := 0) dL_law_257 rfl rfl ?_
        exact V_zret (v := false) dL_law_258 rfl rfl ⟨kb_ck hb (Nat.le_of_ble_eq_true rfl) (Nat.le_of_ble_eq_true rfl), kb_sk hb (Nat.le_of_ble_eq_true rfl) (Nat.le_of_ble_eq_true rfl)⟩
theorem v_L_law_205 (fo : Nat) (rc21 : Nat → Nat → Int32 → Mem → Option (Bool × Mem)) (h21 : ∀ (l0 : Nat) (l1 : Nat) (l2 : Int32) (M : Mem) (k n : Nat) (_ : kb 479432 3735806 20793 153878 fo k n), V mi_L_law 21 [(0, .ref l0), (1, .ref l1), (2, .int l2)] [] M k n (rc21 l0 l1 l2 M) wZ) (l0 : Nat) (l1 : Nat) (l2 : Int32) (l8 : Int32) (l9 : Int32) (l10 : Int32) (M : Mem) (k n : Nat) (hb : kb 479432 3735806 20793 153878 (fo + 1) k n) : V mi_L_law 205 [(0, .ref l0), (1, .ref l1), (2, .int l2), (8, .int l8), (9, .int l9), (10, .int l10)] [] M (k + 8739) (n + 81554) (f_L_law_205 rc21 l0 l1 l2 l8 l9 l10 M) wZ := by
  unfold f_L_law_205
  refine V_aload_n dL_law_205 rfl 1 rfl ?_
  refine V_iload dL_law_206 rfl 3 rfl ?_
  refine V_iconst (x := 4) dL_law_208 rfl rfl ?_
  refine V_cVnI (As := [.int l8, .int 4]) (k_X11_session l1 l8 4 M) (fun _ h => o_X11_session h) ok_X11_session im_X11_session se_X11_session rfl (ci := 10) rfl ml_L_117 ⟨⟨(Nat.le_of_ble_eq_true rfl), (Nat.le_of_ble_eq_true rfl)⟩, kb_c hb (Nat.le_of_ble_eq_true rfl) (Nat.le_of_ble_eq_true rfl), kb_s hb (Nat.le_of_ble_eq_true rfl) (Nat.le_of_ble_eq_true rfl)⟩ dL_law_209 rfl rfl rfl (Nat.le_of_ble_eq_true rfl) (Nat.add_assoc _ _ _) (Nat.add_assoc _ _ _) (fun x36 M37 => ?_)
  refine V_aload_n dL_law_212 rfl 1 rfl ?_
  refine V_iload dL_law_213 rfl 3 rfl ?_
  refine V_iconst (x := 5) dL_law_215 rfl rfl ?_
  refine V_cVnI (As := [.int l8, .int 5]) (k_X11_session l1 l8 5 M37) (fun _ h => o_X11_session h) ok_X11_session im_X11_session se_X11_session rfl (ci := 10) rfl ml_L_117 ⟨⟨(Nat.le_of_ble_eq_true rfl), (Nat.le_of_ble_eq_true rfl)⟩, kb_c hb (Nat.le_of_ble_eq_true rfl) (Nat.le_of_ble_eq_true rfl), kb_s hb (Nat.le_of_ble_eq_true rfl) (Nat.le_of_ble_eq_true rfl)⟩ dL_law_216 rfl rfl rfl (Nat.le_of_ble_eq_true rfl) (Nat.add_assoc _ _ _) (Nat.add_assoc _ _ _) (fun x38 M39 => ?_)
  refine V_iadd dL_law_219 rfl ?_
  refine V_if_ne (q := 232) (q2 := 223) dL_law_220 (by decide) rfl ?_ ?_
  · refine V_iconst (x := 0) dL_law_232 rfl rfl ?_
    exact V_zret (v := false) dL_law_233 rfl rfl ⟨kb_ck hb (Nat.le_of_ble_eq_true rfl) (Nat.le_of_ble_eq_true rfl), kb_sk hb (Nat.le_of_ble_eq_true rfl) (Nat.le_of_ble_eq_true rfl)⟩
  · refine V_aload_n dL_law_223 rfl 1 rfl ?_
    refine V_iload dL_law_224 rfl 3 rfl ?_
    refine V_cVnZ (As := [.int l8]) (k_X11_isCurrent l1 l8 M39) (fun _ h => o_X11_isCurrent h) ok_X11_isCurrent im_X11_isCurrent se_X11_isCurrent rfl (ci := 10) rfl ml_L_263 ⟨⟨(Nat.le_of_ble_eq_true rfl), (Nat.le_of_ble_eq_true rfl)⟩, kb_c hb (Nat.le_of_ble_eq_true rfl) (Nat.le_of_ble_eq_true rfl), kb_s hb (Nat.le_of_ble_eq_true rfl) (Nat.le_of_ble_eq_true rfl)⟩ dL_law_226 rfl rfl rfl (Nat.le_of_ble_eq_true rfl) (Nat.add_assoc _ _ _) (Nat.add_assoc _ _ _) (fun x40 M41 => ?_)
    refine V_ifz_ne (q := 234) (q2 := 232) dL_law_229 (by decide) rfl ?_ ?_
    · exact v_L_law_234 fo rc21 h21 l0 l1 l2 l8 l9 l10 M41 k n hb
    · refine V_iconst (x := 0) dL_law_232 rfl rfl ?_
      exact V_zret (v := false) dL_law_233 rfl rfl ⟨kb_ck hb (Nat.le_of_ble_eq_true rfl) (Nat.le_of_ble_eq_true rfl), kb_sk hb (Nat.le_of_ble_eq_true rfl) (Nat.le_of_ble_eq_true rfl)⟩
theorem v_L_law_191 (fo : Nat) (rc21 : Nat → Nat → Int32 → Mem → Option (Bool × Mem)) (h21 : ∀ (l0 : Nat) (l1 : Nat) (l2 : Int32) (M : Mem) (k n : Nat) (_ : kb 479432 3735806 20793 153878 fo k n), V mi_L_law 21 [(0, .ref l0), (1, .ref l1), (2, .int l2)] [] M k n (rc21 l0 l1 l2 M) wZ) (l0 : Nat) (l1 : Nat) (l2 : Int32) (l8 : Int32) (l9 : Int32) (l10 : Int32) (M : Mem) (k n : Nat) (hb : kb 479432 3735806 20793 153878 (fo + 1) k n) : V mi_L_law 191 [(0, .ref l0), (1, .ref l1), (2, .int l2), (8, .int l8), (9, .int l9), (10, .int l10)] [] M (k + 8739) (n + 81554) (f_L_law_191 rc21 l0 l1 l2 l8 l9 l10 M) wZ := by
  unfold f_L_law_191
  refine V_iload dL_law_191 rfl 4 rfl ?_
  refine V_bipush (x := 7) dL_law_193 rfl rfl ?_
  refine V_icmp_le (q := 234) (q2 := 198) dL_law_195 (by decide) rfl ?_ ?_
  · exact (V_w (Nat.add_le_add_left (Nat.le_of_ble_eq_true rfl) _) (Nat.add_le_add_left (Nat.le_of_ble_eq_true rfl) _) (v_L_law_234 fo rc21 h21 l0 l1 l2 l8 l9 l10 M k n hb))
  · refine V_iload dL_law_198 rfl 4 rfl ?_
    refine V_bipush (x := 13) dL_law_200 rfl rfl ?_
    refine V_icmp_ge (q := 234) (q2 := 205) dL_law_202 (by decide) rfl ?_ ?_
    · exact (V_w (Nat.add_le_add_left (Nat.le_of_ble_eq_true rfl) _) (Nat.add_le_add_left (Nat.le_of_ble_eq_true rfl) _) (v_L_law_234 fo rc21 h21 l0 l1 l2 l8 l9 l10 M k n hb))
    · exact v_L_law_205 fo rc21 h21 l0 l1 l2 l8 l9 l10 M k n hb
theorem v_L_law_170 (fo : Nat) (rc21 : Nat → Nat → Int32 → Mem → Option (Bool × Mem)) (h21 : ∀ (l0 : Nat) (l1 : Nat) (l2 : Int32) (M : Mem) (k n : Nat) (_ : kb 479432 3735806 20793 153878 fo k n), V mi_L_law 21 [(0, .ref l0), (1, .ref l1), (2, .int l2)] [] M k n (rc21 l0 l1 l2 M) wZ) (l0 : Nat) (l1 : Nat) (l2 : Int32) (l8 : Int32) (l9 : Int32) (l10 : Int32) (l11 : Bool) (s0 : Nat) (s1 : Nat) (s2 : Nat) (s3 : Int32) (M : Mem) (k n : Nat) (hb : kb 479432 3735806 20793 153878 (fo + 1) k n) : V mi_L_law 170 [(0, .ref l0), (1, .ref l1), (2, .int l2), (8, .int l8), (9, .int l9), (10, .int l10), (11, .int (b2i l11))] [.int s3, .ref s2, .ref s1, .ref s0] M (k + 5418) (n + 33092) (f_L_law_170 rc21 l0 l1 l2 l8 l9 l10 l11 s0 s1 s2 s3 M) wZ := by
  unfold f_L_law_170
  refine V_iload dL_law_170 rfl 6 rfl ?_
  refine V_cSnZ (As := [.ref s0, .ref s1, .ref s2, .int s3, .int (b2i l11)]) (k_L_replays s0 s1 s2 s3 l11 M) ok_L_replays sm_L_replays ml_L_286 ⟨⟨(Nat.le_of_ble_eq_true rfl), (Nat.le_of_ble_eq_true rfl)⟩, kb_c hb (Nat.le_of_ble_eq_true rfl) (Nat.le_of_ble_eq_true rfl), kb_s hb (Nat.le_of_ble_eq_true rfl) (Nat.le_of_ble_eq_true rfl)⟩ dL_law_172 rfl rfl rfl (Nat.le_of_ble_eq_true rfl) (Nat.add_assoc _ _ _) (Nat.add_assoc _ _ _) (fun x20 M21 => ?_)
  refine V_ifz_ne (q := 180) (q2 := 178) dL_law_175 (by decide) rfl ?_ ?_
  · refine V_iload dL_law_180 rfl 4 rfl ?_
    refine V_if_le (q := 191) (q2 := 185) dL_law_182 (by decide) rfl ?_ ?_
    · exact V_sub [0, 1, 2, 3, 4, 5] rfl (v_L_law_191 fo rc21 h21 l0 l1 l2 l8 l9 l10 M21 k n hb)
    · refine V_iload dL_law_185 rfl 4 rfl ?_
      refine V_iconst (x := 5) dL_law_187 rfl rfl ?_
      refine V_icmp_lt (q := 205) (q2 := 191) dL_law_188 (by decide) rfl ?_ ?_
      · exact V_sub [0, 1, 2, 3, 4, 5] rfl (v_L_law_205 fo rc21 h21 l0 l1 l2 l8 l9 l10 M21 k n hb)
      · exact V_sub [0, 1, 2, 3, 4, 5] rfl (v_L_law_191 fo rc21 h21 l0 l1 l2 l8 l9 l10 M21 k n hb)
  · refine V_iconst (x := 0) dL_law_178 rfl rfl ?_
    exact V_zret (v := false) dL_law_179 rfl rfl ⟨kb_ck hb (Nat.le_of_ble_eq_true rfl) (Nat.le_of_ble_eq_true rfl), kb_sk hb (Nat.le_of_ble_eq_true rfl) (Nat.le_of_ble_eq_true rfl)⟩
theorem v_L_law_164 (fo : Nat) (rc21 : Nat → Nat → Int32 → Mem → Option (Bool × Mem)) (h21 : ∀ (l0 : Nat) (l1 : Nat) (l2 : Int32) (M : Mem) (k n : Nat) (_ : kb 479432 3735806 20793 153878 fo k n), V mi_L_law 21 [(0, .ref l0), (1, .ref l1), (2, .int l2)] [] M k n (rc21 l0 l1 l2 M) wZ) (l0 : Nat) (l1 : Nat) (l2 : Int32) (l8 : Int32) (l9 : Int32) (l10 : Int32) (l11 : Bool) (s0 : Nat) (s1 : Nat) (s2 : Nat) (M : Mem) (k n : Nat) (hb : kb 479432 3735806 20793 153878 (fo + 1) k n) : V mi_L_law 164 [(0, .ref l0), (1, .ref l1), (2, .int l2), (8, .int l8), (9, .int l9), (10, .int l10), (11, .int (b2i l11))] [.ref s2, .ref s1, .ref s0] M (k + 5418) (n + 33092) (f_L_law_164 rc21 l0 l1 l2 l8 l9 l10 l11 s0 s1 s2 M) wZ := by
  unfold f_L_law_164
  refine V_iload dL_law_164 rfl 3 rfl ?_
  refine V_goto (q := 170) dL_law_166 (by decide) ?_
  exact v_L_law_170 fo rc21 h21 l0 l1 l2 l8 l9 l10 l11 s0 s1 s2 l8 M k n hb
theorem v_L_law_146 (fo : Nat) (rc21 : Nat → Nat → Int32 → Mem → Option (Bool × Mem)) (h21 : ∀ (l0 : Nat) (l1 : Nat) (l2 : Int32) (M : Mem) (k n : Nat) (_ : kb 479432 3735806 20793 153878 fo k n), V mi_L_law 21 [(0, .ref l0), (1, .ref l1), (2, .int l2)] [] M k n (rc21 l0 l1 l2 M) wZ) (l0 : Nat) (l1 : Nat) (l2 : Int32) (l3 : Nat) (l4 : Nat) (l8 : Int32) (l9 : Int32) (l10 : Int32) (s0 : Bool) (M : Mem) (k n : Nat) (hb : kb 479432 3735806 20793 153878 (fo + 1) k n) : V mi_L_law 146 [(0, .ref l0), (1, .ref l1), (2, .int l2), (3, .ref l3), (4, .ref l4), (8, .int l8), (9, .int l9), (10, .int l10)] [.int (b2i s0)] M (k + 5418) (n + 33092) (f_L_law_146 rc21 l0 l1 l2 l3 l4 l8 l9 l10 s0 M) wZ := by
  unfold f_L_law_146
  refine V_istore (L' := [(0, .ref l0), (1, .ref l1), (2, .int l2), (3, .ref l3), (4, .ref l4), (8, .int l8), (9, .int l9), (10, .int l10), (11, .int (b2i s0))]) dL_law_146 rfl (by decide) rfl ?_
  refine V_aload_n dL_law_148 rfl 1 rfl ?_
  refine V_aload_n dL_law_149 rfl 3 rfl ?_
  refine V_aload dL_law_150 rfl 4 rfl ?_
  refine V_iload dL_law_152 rfl 6 rfl ?_
  refine V_if_eq (q := 164) (q2 := 157) dL_law_154 (by decide) rfl ?_ ?_
  · exact V_sub [0, 1, 2, 5, 6, 7, 8] rfl (v_L_law_164 fo rc21 h21 l0 l1 l2 l8 l9 l10 s0 l1 l3 l4 M k n hb)
  · refine V_iload dL_law_157 rfl 6 rfl ?_
    refine V_bipush (x := 13) dL_law_159 rfl rfl ?_
    refine V_icmp_ne (q := 169) (q2 := 164) dL_law_161 (by decide) rfl ?_ ?_
    · refine V_iconst (x := (-1)) dL_law_169 rfl rfl ?_
      exact V_sub [0, 1, 2, 5, 6, 7, 8] rfl (v_L_law_170 fo rc21 h21 l0 l1 l2 l8 l9 l10 s0 l1 l3 l4 (-1) M k n hb)
    · exact V_sub [0, 1, 2, 5, 6, 7, 8] rfl (v_L_law_164 fo rc21 h21 l0 l1 l2 l8 l9 l10 s0 l1 l3 l4 M k n hb)
theorem v_L_law_145 (fo : Nat) (rc21 : Nat → Nat → Int32 → Mem → Option (Bool × Mem)) (h21 : ∀ (l0 : Nat) (l1 : Nat) (l2 : Int32) (M : Mem) (k n : Nat) (_ : kb 479432 3735806 20793 153878 fo k n), V mi_L_law 21 [(0, .ref l0), (1, .ref l1), (2, .int l2)] [] M k n (rc21 l0 l1 l2 M) wZ) (l0 : Nat) (l1 : Nat) (l2 : Int32) (l3 : Nat) (l4 : Nat) (l8 : Int32) (l9 : Int32) (l10 : Int32) (M : Mem) (k n : Nat) (hb : kb 479432 3735806 20793 153878 (fo + 1) k n) : V mi_L_law 145 [(0, .ref l0), (1, .ref l1), (2, .int l2), (3, .ref l3), (4, .ref l4), (8, .int l8), (9, .int l9), (10, .int l10)] [] M (k + 5418) (n + 33092) (f_L_law_145 rc21 l0 l1 l2 l3 l4 l8 l9 l10 M) wZ := by
  unfold f_L_law_145
  refine V_iconst (x := 0) dL_law_145 rfl rfl ?_
  exact v_L_law_146 fo rc21 h21 l0 l1 l2 l3 l4 l8 l9 l10 false M k n hb
theorem v_L_law_21 (fo : Nat) (rc21 : Nat → Nat → Int32 → Mem → Option (Bool × Mem)) (h21 : ∀ (l0 : Nat) (l1 : Nat) (l2 : Int32) (M : Mem) (k n : Nat) (_ : kb 479432 3735806 20793 153878 fo k n), V mi_L_law 21 [(0, .ref l0), (1, .ref l1), (2, .int l2)] [] M k n (rc21 l0 l1 l2 M) wZ) (l0 : Nat) (l1 : Nat) (l2 : Int32) (M : Mem) (k n : Nat) (hb : kb 479432 3735806 20793 153878 (fo + 1) k n) : V mi_L_law 21 [(0, .ref l0), (1, .ref l1), (2, .int l2)] [] M (k + 0) (n + 0) (f_L_law_21 rc21 l0 l1 l2 M) wZ := by
  unfold f_L_law_21
  refine V_iload_n dL_law_21 rfl 2 rfl ?_
  refine V_sipush (x := 182) dL_law_22 rfl rfl ?_
  refine V_icmp_ge (q := 381) (q2 := 28) dL_law_25 (by decide) rfl ?_ ?_
  · refine V_iconst (x := 1) dL_law_381 rfl rfl ?_
    exact V_zret (v := true) dL_law_382 rfl rfl ⟨kb_ck0 hb (Nat.le_of_ble_eq_true rfl), kb_sk0 hb (Nat.le_of_ble_eq_true rfl)⟩
  · refine V_aload_n dL_law_28 rfl 1 rfl ?_
    refine V_iconst (x := 0) dL_law_29 rfl rfl ?_
    refine V_cSnR (As := [.ref l1, .int 0]) (k_L_views l1 0 M) ok_L_views sm_L_views ml_L_274 ⟨⟨(Nat.le_of_ble_eq_true rfl), (Nat.le_of_ble_eq_true rfl)⟩, kb_c0 hb (Nat.le_of_ble_eq_true rfl) (Nat.le_of_ble_eq_true rfl), kb_s0 hb (Nat.le_of_ble_eq_true rfl) (Nat.le_of_ble_eq_true rfl)⟩ dL_law_30 rfl rfl rfl (Nat.le_of_ble_eq_true rfl) rfl rfl (fun x6 M7 => ?_)
    refine V_astore_n (L' := [(0, .ref l0), (1, .ref l1), (2, .int l2), (3, .ref x6)]) dL_law_33 rfl (by decide) rfl ?_
    refine V_aload_n dL_law_34 rfl 1 rfl ?_
    refine V_iconst (x := 1) dL_law_35 rfl rfl ?_
    refine V_cSnR (As := [.ref l1, .int 1]) (k_L_views l1 1 M7) ok_L_views sm_L_views ml_L_274 ⟨⟨(Nat.le_of_ble_eq_true rfl), (Nat.le_of_ble_eq_true rfl)⟩, kb_c hb (Nat.le_of_ble_eq_true rfl) (Nat.le_of_ble_eq_true rfl), kb_s hb (Nat.le_of_ble_eq_true rfl) (Nat.le_of_ble_eq_true rfl)⟩ dL_law_36 rfl rfl rfl (Nat.le_of_ble_eq_true rfl) (Nat.add_assoc _ _ _) (Nat.add_assoc _ _ _) (fun x8 M9 => ?_)
    refine V_astore (L' := [(0, .ref l0), (1, .ref l1), (2, .int l2), (3, .ref x6), (4, .ref x8)]) dL_law_39 rfl (by decide) rfl ?_
    refine V_aload_n dL_law_41 rfl 1 rfl ?_
    refine V_cSnJ (As := [.ref l1]) (k_L_all l1 M9) ok_L_all sm_L_all ml_L_278 ⟨⟨(Nat.le_of_ble_eq_true rfl), (Nat.le_of_ble_eq_true rfl)⟩, kb_c hb (Nat.le_of_ble_eq_true rfl) (Nat.le_of_ble_eq_true rfl), kb_s hb (Nat.le_of_ble_eq_true rfl) (Nat.le_of_ble_eq_true rfl)⟩ dL_law_42 rfl rfl rfl (Nat.le_of_ble_eq_true rfl) (Nat.add_assoc _ _ _) (Nat.add_assoc _ _ _) (fun x10 M11 => ?_)
    refine V_lstore (L' := [(0, .ref l0), (1, .ref l1), (2, .int l2), (3, .ref x6), (4, .ref x8), (5, .long x10)]) dL_law_45 rfl (by decide) rfl ?_
    refine V_aload_n dL_law_47 rfl 1 rfl ?_
    refine V_iconst (x := 4) dL_law_48 rfl rfl ?_
    refine V_cVnI (As := [.int 4]) (k_X11_property l1 4 M11) (fun _ h => o_X11_property h) ok_X11_property im_X11_property se_X11_property rfl (ci := 10) rfl ml_L_110 ⟨⟨(Nat.le_of_ble_eq_true rfl), (Nat.le_of_ble_eq_true rfl)⟩, kb_c hb (Nat.le_of_ble_eq_true rfl) (Nat.le_of_ble_eq_true rfl), kb_s hb (Nat.le_of_ble_eq_true rfl) (Nat.le_of_ble_eq_true rfl)⟩ dL_law_49 rfl rfl rfl (Nat.le_of_ble_eq_true rfl) (Nat.add_assoc _ _ _) (Nat.add_assoc _ _ _) (fun x12 M13 => ?_)
    refine V_istore (L' := [(0, .ref l0), (1, .ref l1), (2, .int l2), (3, .ref x6), (4, .ref x8), (5, .long x10), (7, .int x12)]) dL_law_52 rfl (by decide) rfl ?_
    refine V_aload_n dL_law_54 rfl 0 rfl ?_
    refine V_iload_n dL_law_55 rfl 2 rfl ?_
    refine V_aload_n dL_law_56 rfl 1 rfl ?_
    refine V_iconst (x := 1) dL_law_57 rfl rfl ?_
    refine V_cVnI (As := [.int 1]) (k_X11_property l1 1 M13) (fun _ h => o_X11_property h) ok_X11_property im_X11_property se_X11_property rfl (ci := 10) rfl ml_L_110 ⟨⟨(Nat.le_of_ble_eq_true rfl), (Nat.le_of_ble_eq_true rfl)⟩, kb_c hb (Nat.le_of_ble_eq_true rfl) (Nat.le_of_ble_eq_true rfl), kb_s hb (Nat.le_of_ble_eq_true rfl) (Nat.le_of_ble_eq_true rfl)⟩ dL_law_58 rfl rfl rfl (Nat.le_of_ble_eq_true rfl) (Nat.add_assoc _ _ _) (Nat.add_assoc _ _ _) (fun x14 M15 => ?_)
    refine V_cSeI (As := [.ref l0, .int l2, .int x14]) (k_L_draw l0 l2 x14 M15) ok_L_draw sm_L_draw ml_L_64 ⟨⟨(Nat.le_of_ble_eq_true rfl), (Nat.le_of_ble_eq_true rfl)⟩, kb_c hb (Nat.le_of_ble_eq_true rfl) (Nat.le_of_ble_eq_true rfl), kb_s hb (Nat.le_of_ble_eq_true rfl) (Nat.le_of_ble_eq_true rfl)⟩ dL_law_61 rfl rfl rfl (Nat.le_of_ble_eq_true rfl) (Nat.add_assoc _ _ _) (Nat.add_assoc _ _ _) (fun x16 => ?_)
    refine V_istore (L' := [(0, .ref l0), (1, .ref l1), (2, .int l2), (3, .ref x6), (4, .ref x8), (5, .long x10), (7, .int x12), (8, .int x16)]) dL_law_64 rfl (by decide) rfl ?_
    refine V_aload_n dL_law_66 rfl 0 rfl ?_
    refine V_iload_n dL_law_67 rfl 2 rfl ?_
    refine V_iconst (x := 5) dL_law_68 rfl rfl ?_
    refine V_iadd dL_law_69 rfl ?_
    refine V_bipush (x := 16) dL_law_70 rfl rfl ?_
    refine V_cSeI (As := [.ref l0, .int (l2 + 5), .int 16]) (k_L_draw l0 (l2 + 5) 16 M15) ok_L_draw sm_L_draw ml_L_64 ⟨⟨(Nat.le_of_ble_eq_true rfl), (Nat.le_of_ble_eq_true rfl)⟩, kb_c hb (Nat.le_of_ble_eq_true rfl) (Nat.le_of_ble_eq_true rfl), kb_s hb (Nat.le_of_ble_eq_true rfl) (Nat.le_of_ble_eq_true rfl)⟩ dL_law_72 rfl rfl rfl (Nat.le_of_ble_eq_true rfl) (Nat.add_assoc _ _ _) (Nat.add_assoc _ _ _) (fun x17 => ?_)
    refine V_istore (L' := [(0, .ref l0), (1, .ref l1), (2, .int l2), (3, .ref x6), (4, .ref x8), (5, .long x10), (7, .int x12), (8, .int x16), (9, .int x17)]) dL_law_75 rfl (by decide) rfl ?_
    refine V_aload_n dL_law_77 rfl 1 rfl ?_
    refine V_aload_n dL_law_78 rfl 0 rfl ?_
    refine V_iload_n dL_law_79 rfl 2 rfl ?_
    refine V_cSnI (As := [.ref l1, .ref l0, .int l2]) (k_L_act l1 l0 l2 M15) ok_L_act sm_L_act ml_L_282 ⟨⟨(Nat.le_of_ble_eq_true rfl), (Nat.le_of_ble_eq_true rfl)⟩, kb_c hb (Nat.le_of_ble_eq_true rfl) (Nat.le_of_ble_eq_true rfl), kb_s hb (Nat.le_of_ble_eq_true rfl) (Nat.le_of_ble_eq_true rfl)⟩ dL_law_80 rfl rfl rfl (Nat.le_of_ble_eq_true rfl) (Nat.add_assoc _ _ _) (Nat.add_assoc _ _ _) (fun x18 M19 => ?_)
    refine V_istore (L' := [(0, .ref l0), (1, .ref l1), (2, .int l2), (3, .ref x6), (4, .ref x8), (5, .long x10), (7, .int x12), (8, .int x16), (9, .int x17), (10, .int x18)]) dL_law_83 rfl (by decide) rfl ?_
    refine V_iload dL_law_85 rfl 9 rfl ?_
    refine V_ldc (x := (-2147483648)) kc_L_126 dL_law_87 rfl ?_
    refine V_icmp_ne (q := 114) (q2 := 92) dL_law_89 (by decide) rfl ?_ ?_
    · refine V_iload dL_law_114 rfl 8 rfl ?_
      refine V_iconst (x := 5) dL_law_116 rfl rfl ?_
      refine V_icmp_le (q := 145) (q2 := 120) dL_law_117 (by decide) rfl ?_ ?_
      · exact V_sub [0, 1, 2, 3, 4, 7, 8, 9] rfl (v_L_law_145 fo rc21 h21 l0 l1 l2 x6 x8 x16 x17 x18 M19 k n hb)
      · refine V_iload dL_law_120 rfl 8 rfl ?_
        refine V_bipush (x := 8) dL_law_122 rfl rfl ?_
        refine V_icmp_ge (q := 145) (q2 := 127) dL_law_124 (by decide) rfl ?_ ?_
        · exact V_sub [0, 1, 2, 3, 4, 7, 8, 9] rfl (v_L_law_145 fo rc21 h21 l0 l1 l2 x6 x8 x16 x17 x18 M19 k n hb)
        · refine V_aload_n dL_law_127 rfl 0 rfl ?_
          refine V_iload_n dL_law_128 rfl 2 rfl ?_
          refine V_iconst (x := 4) dL_law_129 rfl rfl ?_
          refine V_iadd dL_law_130 rfl ?_
          refine V_bipush (x := 32) dL_law_131 rfl rfl ?_
          refine V_cSeI (As := [.ref l0, .int (l2 + 4), .int 32]) (k_L_draw l0 (l2 + 4) 32 M19) ok_L_draw sm_L_draw ml_L_64 ⟨⟨(Nat.le_of_ble_eq_true rfl), (Nat.le_of_ble_eq_true rfl)⟩, kb_c hb (Nat.le_of_ble_eq_true rfl) (Nat.le_of_ble_eq_true rfl), kb_s hb (Nat.le_of_ble_eq_true rfl) (Nat.le_of_ble_eq_true rfl)⟩ dL_law_133 rfl rfl rfl (Nat.le_of_ble_eq_true rfl) (Nat.add_assoc _ _ _) (Nat.add_assoc _ _ _) (fun x42 => ?_)
          refine V_bipush (x := 20) dL_law_136 rfl rfl ?_
          refine V_icmp_le (q := 145) (q2 := 141) dL_law_138 (by decide) rfl ?_ ?_
          · exact V_sub [0, 1, 2, 3, 4, 7, 8, 9] rfl (v_L_law_145 fo rc21 h21 l0 l1 l2 x6 x8 x16 x17 x18 M19 k n hb)
          · refine V_iconst (x := 1) dL_law_141 rfl rfl ?_
            refine V_goto (q := 146) dL_law_142 (by decide) ?_
            exact V_sub [0, 1, 2, 3, 4, 7, 8, 9] rfl (v_L_law_146 fo rc21 h21 l0 l1 l2 x6 x8 x16 x17 x18 true M19 k n hb)
    · refine V_aload_n dL_law_92 rfl 1 rfl ?_
      refine V_cSnJ (As := [.ref l1]) (k_L_all l1 M19) ok_L_all sm_L_all ml_L_278 ⟨⟨(Nat.le_of_ble_eq_true rfl), (Nat.le_of_ble_eq_true rfl)⟩, kb_c hb (Nat.le_of_ble_eq_true rfl) (Nat.le_of_ble_eq_true rfl), kb_s hb (Nat.le_of_ble_eq_true rfl) (Nat.le_of_ble_eq_true rfl)⟩ dL_law_93 rfl rfl rfl (Nat.le_of_ble_eq_true rfl) (Nat.add_assoc _ _ _) (Nat.add_assoc _ _ _) (fun x43 M44 => ?_)
      refine V_lload dL_law_96 rfl 5 rfl ?_
      refine V_lcmp dL_law_98 rfl ?_
      refine V_if_ne (q := 112) (q2 := 102) dL_law_99 (by decide) rfl ?_ ?_
      · refine V_iconst (x := 0) dL_law_112 rfl rfl ?_
        exact V_zret (v := false) dL_law_113 rfl rfl ⟨kb_ck hb (Nat.le_of_ble_eq_true rfl) (Nat.le_of_ble_eq_true rfl), kb_sk hb (Nat.le_of_ble_eq_true rfl) (Nat.le_of_ble_eq_true rfl)⟩
      · refine V_aload_n dL_law_102 rfl 1 rfl ?_
        refine V_iconst (x := 4) dL_law_103 rfl rfl ?_
        refine V_cVnI (As := [.int 4]) (k_X11_property l1 4 M44) (fun _ h => o_X11_property h) ok_X11_property im_X11_property se_X11_property rfl (ci := 10) rfl ml_L_110 ⟨⟨(Nat.le_of_ble_eq_true rfl), (Nat.le_of_ble_eq_true rfl)⟩, kb_c hb (Nat.le_of_ble_eq_true rfl) (Nat.le_of_ble_eq_true rfl), kb_s hb (Nat.le_of_ble_eq_true rfl) (Nat.le_of_ble_eq_true rfl)⟩ dL_law_104 rfl rfl rfl (Nat.le_of_ble_eq_true rfl) (Nat.add_assoc _ _ _) (Nat.add_assoc _ _ _) (fun x45 M46 => ?_)
        refine V_iload dL_law_107 rfl 6 rfl ?_
        refine V_icmp_eq (q := 375) (q2 := 112) dL_law_109 (by decide) rfl ?_ ?_
        · exact V_sub [0, 1, 2] rfl (V_w (Nat.add_le_add_left (Nat.le_of_ble_eq_true rfl) _) (Nat.add_le_add_left (Nat.le_of_ble_eq_true rfl) _) (v_L_law_375 fo rc21 h21 l0 l1 l2 M46 k n hb))
        · refine V_iconst (x := 0) dL_law_112 rfl rfl ?_
          exact V_zret (v := false) dL_law_113 rfl rfl ⟨kb_ck hb (Nat.le_of_ble_eq_true rfl) (Nat.le_of_ble_eq_true rfl), kb_sk hb (Nat.le_of_ble_eq_true rfl) (Nat.le_of_ble_eq_true rfl)⟩
theorem v_L_law (rc21 : Nat → Nat → Int32 → Mem → Option (Bool × Mem)) (h21 : ∀ (l0 : Nat) (l1 : Nat) (l2 : Int32) (M : Mem) (k n : Nat) (_ : kb 479432 3735806 20793 153878 23 k n), V mi_L_law 21 [(0, .ref l0), (1, .ref l1), (2, .int l2)] [] M k n (rc21 l0 l1 l2 M) wZ) (a0 : Nat) (M : Mem) : V mi_L_law 0 [(0, .ref a0)] [] M 0 0 (f_L_law rc21 a0 M) wZ := by
  unfold f_L_law
  refine V_new dL_law_0 rfl (ci := 10) (T := TX11) (N := 13) (fs := [.null, .null, .null, .null, .null, .null, .null, .null, .null, .null, .null, .int 0, .int 0]) (ty := tyX11) rfl cl_L_21 ins_X11 ini_X11 tyX11_ok (fun _ j hj => match j, hj with | 0, _ => rfl | 1, _ => rfl | 2, _ => rfl | 3, _ => rfl | 4, _ => rfl | 5, _ => rfl | 6, _ => rfl | 7, _ => rfl | 8, _ => rfl | 9, _ => rfl | 10, _ => rfl | 11, _ => rfl | 12, _ => rfl | j + 13, h => absurd h (by omega)) ⟨(Nat.le_of_ble_eq_true rfl), (Nat.le_of_ble_eq_true rfl)⟩ (fun r1 => ?_)
  refine V_dup dL_law_3 rfl rfl ?_
  refine V_cIwV (As := []) (k_X11_init r1 (mnew M (.inr (10, [.null, .null, .null, .null, .null, .null, .null, .null, .null, .null, .null, .int 0, .int 0])))) ok_X11_init im_X11_init ml_L_270 ⟨⟨(Nat.le_of_ble_eq_true rfl), (Nat.le_of_ble_eq_true rfl)⟩, (Nat.le_of_ble_eq_true rfl), (Nat.le_of_ble_eq_true rfl)⟩ rfl rfl dL_law_4 rfl rfl rfl (Nat.le_of_ble_eq_true rfl) rfl rfl (fun M3 => ?_)
  refine V_astore_n (L' := [(0, .ref a0), (1, .ref r1)]) dL_law_7 rfl (by decide) rfl ?_
  refine V_aload_n dL_law_8 rfl 1 rfl ?_
  refine V_aload_n dL_law_9 rfl 0 rfl ?_
  refine V_cSnZ (As := [.ref r1, .ref a0]) (k_L_load r1 a0 M3) ok_L_load sm_L_load ml_L_271 ⟨⟨(Nat.le_of_ble_eq_true rfl), (Nat.le_of_ble_eq_true rfl)⟩, (Nat.le_of_ble_eq_true rfl), (Nat.le_of_ble_eq_true rfl)⟩ dL_law_10 rfl rfl rfl (Nat.le_of_ble_eq_true rfl) rfl rfl (fun x4 M5 => ?_)
  refine V_ifz_ne (q := 18) (q2 := 16) dL_law_13 (by decide) rfl ?_ ?_
  · refine V_bipush (x := 50) dL_law_18 rfl rfl ?_
    refine V_istore_n (L' := [(0, .ref a0), (1, .ref r1), (2, .int 50)]) dL_law_20 rfl (by decide) rfl ?_
    exact h21 a0 r1 50 M5 1193 196612 ⟨(Nat.le_of_ble_eq_true rfl), (Nat.le_of_ble_eq_true rfl)⟩
  · refine V_iconst (x := 0) dL_law_16 rfl rfl ?_
    exact V_zret (v := false) dL_law_17 rfl rfl ⟨(Nat.le_of_ble_eq_true rfl), (Nat.le_of_ble_eq_true rfl)⟩
