def f_J0_coder_7d493 (this : Nat) (M : Mem) : Option Int32 :=
  obS M this (
    (sK M this).bind fun x1 =>
    gd (isB x1) (some x1)
  )
def f_J0_length_8abf5 (this : Nat) (M : Mem) : Option Int32 :=
  obS M this (
    (sV M this).bind fun x1 =>
    (bL M x1).bind fun x2 =>
    (f_J0_coder_7d493 this M).bind fun x3 =>
    some (x2 >>> (x3 &&& 31))
  )
def f_J0_isLatin1_aae02 (this : Nat) (M : Mem) : Option Bool :=
  obS M this (
    (sK M this).bind fun x1 =>
    if x1 = 0 then (
      some true
    ) else (
      some false
    )
  )
def f_J1_charAt_3b067 (a0 : Nat) (a1 : Int32) (M : Mem) : Option Int32 :=
  (bL M a0).bind fun x1 =>
  (pChk a1 x1).bind fun _ =>
  (bI M a0 a1).bind fun x2 =>
  gd (isC (((x2 &&& 255).toUInt32 % 65536).toInt32)) (some (((x2 &&& 255).toUInt32 % 65536).toInt32))
def f_J0_charAt_5068e (this : Nat) (a1 : Int32) (M : Mem) : Option Int32 :=
  obS M this (
    (f_J0_isLatin1_aae02 this M).bind fun x1 =>
    bif x1 then (
      (sV M this).bind fun x3 =>
      (f_J1_charAt_3b067 x3 a1 M).bind fun x4 =>
      gd (isC x4) (some x4)
    ) else (
      (sV M this).bind fun x2 =>
      none
    )
  )
def f_J5_init_d00df (this : Nat) (a1 : Int32) (M : Mem) : Option Mem :=
  ob M 12 this (
    gd (okN 1024 a1) ((alc M).bind fun r1 =>
    (pV (mnew M (.inl (2, (a1.toNatClampNeg, .inl (fun _ => 0))))) 12 0 this (.ref r1)).bind fun M2 =>
    gd (isB 0) ((pV M2 12 1 this (.int 0)).bind fun M3 =>
    some M3
    )
    )
  )
def f_J9_max_7cf53 (a0 : Int32) (a1 : Int32) (M : Mem) : Option Int32 :=
  if a0 < a1 then (
    some a1
  ) else (
    some a0
  )
def f_J8_newLength_cabcc_21 (l0 : Int32) (l1 : Int32) (M : Mem) : Option Int32 :=
  none
def f_J8_newLength_cabcc (a0 : Int32) (a1 : Int32) (a2 : Int32) (M : Mem) : Option Int32 :=
  (f_J9_max_7cf53 a1 a2 M).bind fun x1 =>
  if (a0 + x1) ≤ 0 then (
    f_J8_newLength_cabcc_21 a0 a1 M
  ) else (
    if 2147483639 < (a0 + x1) then (
      f_J8_newLength_cabcc_21 a0 a1 M
    ) else (
      some (a0 + x1)
    )
  )
def f_J5_newCapacity_0f7a4 (this : Nat) (a1 : Int32) (M : Mem) : Option Int32 :=
  ob M 12 this (
    (gR M 12 0 this).bind fun x1 =>
    (aL M x1).bind fun x2 =>
    (gI M 12 1 this).bind fun x3 =>
    (gI M 12 1 this).bind fun x4 =>
    (f_J8_newLength_cabcc x2 ((a1 <<< (x3 &&& 31)) - x2) (x2 + (2 <<< (x4 &&& 31))) M).bind fun x5 =>
    if x5 = 2147483647 then (
      none
    ) else (
      (gI M 12 1 this).bind fun x6 =>
      some (x5 >>> (x6 &&& 31))
    )
  )
def f_J9_min_7cf53 (a0 : Int32) (a1 : Int32) (M : Mem) : Option Int32 :=
  if a1 < a0 then (
    some a1
  ) else (
    some a0
  )
def f_J7_copyOf_9075b (a0 : Nat) (a1 : Int32) (M : Mem) : Option (Nat × Mem) :=
  (aL M a0).bind fun x1 =>
  if a1 = x1 then (
    (cln M 1024 a0).bind fun x6 =>
    (alc M).bind fun r7 =>
    gd (isBy (mnew M x6) r7) (
      some (r7, (mnew M x6))
    )
  ) else (
    gd (okN 1024 a1) ((alc M).bind fun r2 =>
    (aL (mnew M (.inl (2, (a1.toNatClampNeg, .inl (fun _ => 0))))) a0).bind fun x3 =>
    (f_J9_min_7cf53 x3 a1 (mnew M (.inl (2, (a1.toNatClampNeg, .inl (fun _ => 0)))))).bind fun x4 =>
    (bcp (mnew M (.inl (2, (a1.toNatClampNeg, .inl (fun _ => 0))))) a0 0 r2 0 x4).bind fun M5 =>
    some (r2, M5)
    )
  )
def f_J5_ensureCapacityInternal_d00df (this : Nat) (a1 : Int32) (M : Mem) : Option Mem :=
  ob M 12 this (
    (gR M 12 0 this).bind fun x1 =>
    (aL M x1).bind fun x2 =>
    (gI M 12 1 this).bind fun x3 =>
    if (a1 - (x2 >>> (x3 &&& 31))) ≤ 0 then (
      some M
    ) else (
      (gR M 12 0 this).bind fun x4 =>
      (f_J5_newCapacity_0f7a4 this a1 M).bind fun x5 =>
      (gI M 12 1 this).bind fun x6 =>
      (f_J7_copyOf_9075b x4 (x5 <<< (x6 &&& 31)) M).bind fun (x7, M8) =>
      (pV M8 12 0 this (.ref x7)).bind fun M9 =>
      some M9
    )
  )
def f_J5_inflateIfNeededFor_a7421 (this : Nat) (a1 : Nat) (M : Mem) : Option Mem :=
  ob M 12 this (
    (gI M 12 1 this).bind fun x1 =>
    (f_J0_coder_7d493 a1 M).bind fun x2 =>
    if x1 = x2 then (
      some M
    ) else (
      none
    )
  )
def f_J0_getBytes_840e7 (this : Nat) (a1 : Nat) (a2 : Int32) (a3 : Int32) (M : Mem) : Option Mem :=
  obS M this (
    (f_J0_coder_7d493 this M).bind fun x1 =>
    if x1 = a3 then (
      (sV M this).bind fun x5 =>
      (sV M this).bind fun x6 =>
      (bL M x6).bind fun x7 =>
      (bcp M x5 0 a1 (a2 <<< (a3 &&& 31)) x7).bind fun M8 =>
      some M8
    ) else (
      (sV M this).bind fun x2 =>
      (sV M this).bind fun x3 =>
      (bL M x3).bind fun x4 =>
      none
    )
  )
def f_J5_putStringAt_47b60 (this : Nat) (a1 : Int32) (a2 : Nat) (M : Mem) : Option Mem :=
  ob M 12 this (
    (f_J5_inflateIfNeededFor_a7421 this a2 M).bind fun M2 =>
    (gR M2 12 0 this).bind fun x3 =>
    (gI M2 12 1 this).bind fun x4 =>
    (f_J0_getBytes_840e7 a2 x3 a1 x4 M2).bind fun M6 =>
    some M6
  )
def f_J5_append_cf1ce (this : Nat) (a1 : Nat) (M : Mem) : Option (Nat × Mem) :=
  ob M 12 this (
    (f_J0_length_8abf5 a1 M).bind fun x1 =>
    (gI M 12 3 this).bind fun x2 =>
    (f_J5_ensureCapacityInternal_d00df this (x2 + x1) M).bind fun M4 =>
    (gI M4 12 3 this).bind fun x5 =>
    (f_J5_putStringAt_47b60 this x5 a1 M4).bind fun M7 =>
    (gI M7 12 3 this).bind fun x8 =>
    (pV M7 12 3 this (.int (x8 + x1))).bind fun M9 =>
    some (this, M9)
  )
def f_J4_append_15ec4 (this : Nat) (a1 : Nat) (M : Mem) : Option (Nat × Mem) :=
  ob M 12 this (
    (f_J5_append_cf1ce this a1 M).bind fun (x1, M2) =>
    some (this, M2)
  )
def f_J4_append_cf1ce (this : Nat) (a1 : Nat) (M : Mem) : Option (Nat × Mem) :=
  ob M 12 this (
    (f_J4_append_15ec4 this a1 M).bind fun (x1, M2) =>
    some (x1, M2)
  )
def f_J5_init_a7421_24 (this : Nat) (l1 : Nat) (s0 : Int32) (M : Mem) : Option Mem :=
  (f_J0_coder_7d493 l1 M).bind fun x2 =>
  gd (isB x2) ((pV M 12 1 this (.int x2)).bind fun M3 =>
  if x2 = 0 then (
    gd (okN 1024 s0) ((alc M3).bind fun r4 =>
    (pV (mnew M3 (.inl (2, (s0.toNatClampNeg, .inl (fun _ => 0))))) 12 0 this (.ref r4)).bind fun M5 =>
    (f_J4_append_cf1ce this l1 M5).bind fun (x6, M7) =>
    some M7
    )
  ) else (
    none
  )
  )
def f_J5_init_a7421 (this : Nat) (a1 : Nat) (M : Mem) : Option Mem :=
  ob M 12 this (
    (f_J0_length_8abf5 a1 M).bind fun x1 =>
    if 2147483631 ≤ x1 then (
      f_J5_init_a7421_24 this a1 2147483647 M
    ) else (
      f_J5_init_a7421_24 this a1 (x1 + 16) M
    )
  )
def f_J5_length_8abf5 (this : Nat) (M : Mem) : Option Int32 :=
  ob M 12 this (
    (gI M 12 3 this).bind fun x1 =>
    some x1
  )
def f_J5_isLatin1_aae02 (this : Nat) (M : Mem) : Option Bool :=
  ob M 12 this (
    (gI M 12 1 this).bind fun x1 =>
    if (x1 : Int32) = 0 then (
      some true
    ) else (
      some false
    )
  )
def f_J1_canEncode_fc78d (a0 : Int32) (M : Mem) : Option Bool :=
  if 255 < a0 then (
    some false
  ) else (
    some true
  )
def f_J5_append_3fe6f_45 (this : Nat) (l1 : Int32) (M : Mem) : Option (Nat × Mem) :=
  (f_J5_isLatin1_aae02 this M).bind fun x5 =>
  bif x5 then (
    none
  ) else (
    (gR M 12 0 this).bind fun x6 =>
    (gI M 12 3 this).bind fun x7 =>
    (pV M 12 3 this (.int (x7 + 1))).bind fun M8 =>
    none
  )
def f_J5_append_3fe6f (this : Nat) (a1 : Int32) (M : Mem) : Option (Nat × Mem) :=
  ob M 12 this (
    (gI M 12 3 this).bind fun x1 =>
    (f_J5_ensureCapacityInternal_d00df this (x1 + 1) M).bind fun M3 =>
    (f_J5_isLatin1_aae02 this M3).bind fun x4 =>
    bif x4 then (
      (f_J1_canEncode_fc78d a1 M3).bind fun x9 =>
      bif x9 then (
        (gR M3 12 0 this).bind fun x10 =>
        (gI M3 12 3 this).bind fun x11 =>
        (pV M3 12 3 this (.int (x11 + 1))).bind fun M12 =>
        (sI M12 2 x10 x11 (vp_nar .byte ((Int32.toInt8 a1).toInt32))).bind fun M13 =>
        some (this, M13)
      ) else (
        f_J5_append_3fe6f_45 this a1 M3
      )
    ) else (
      f_J5_append_3fe6f_45 this a1 M3
    )
  )
def f_J6_stringSize_0f7a4_16 : Nat → Int32 → Bool → Int32 → Int32 → Mem → Option Int32
  | 0 => fun _ _ _ _ _ => none
  | fu + 1 => fun l0 l1 l2 l3 M =>
    if 10 ≤ l3 then (
      some (10 + (b2i l1))
    ) else (
      if l0 ≤ l2 then (
        (f_J6_stringSize_0f7a4_16 fu) l0 l1 (10 * l2) (l3 + 1) M
      ) else (
        some (l3 + (b2i l1))
      )
    )
def f_J6_stringSize_0f7a4_11 (l0 : Int32) (l1 : Bool) (M : Mem) : Option Int32 :=
  f_J6_stringSize_0f7a4_16 FU l0 l1 (-10) 1 M
def f_J6_stringSize_0f7a4 (a0 : Int32) (M : Mem) : Option Int32 :=
  if a0 < 0 then (
    f_J6_stringSize_0f7a4_11 a0 true M
  ) else (
    f_J6_stringSize_0f7a4_11 (-a0) false M
  )
def f_J6_getChars_ba4f3_104 (l2 : Nat) (l5 : Int32) (l6 : Bool) (M : Mem) : Option (Int32 × Mem) :=
  bif l6 then (
    (sI M 2 l2 (l5 + (-1)) (vp_nar .byte 45)).bind fun M3 =>
    some ((l5 + (-1)), M3)
  ) else (
    some (l5, M)
  )
def f_J6_getChars_ba4f3_22 : Nat → Int32 → Nat → Int32 → Bool → Mem → Option (Int32 × Mem)
  | 0 => fun _ _ _ _ _ => none
  | fu + 1 => fun l0 l2 l5 l6 M =>
    if (-100) < l0 then (
      (bI M 90 (-l0)).bind fun x1 =>
      (sI M 2 l2 (l5 + (-1)) (vp_nar .byte x1)).bind fun M2 =>
      if (-9) ≤ l0 then (
        f_J6_getChars_ba4f3_104 l2 (l5 + (-1)) l6 M2
      ) else (
        (bI M2 91 (-l0)).bind fun x4 =>
        (sI M2 2 l2 ((l5 + (-1)) + (-1)) (vp_nar .byte x4)).bind fun M5 =>
        f_J6_getChars_ba4f3_104 l2 ((l5 + (-1)) + (-1)) l6 M5
      )
    ) else (
      (bI M 90 (((l0 / 100) * 100) - l0)).bind fun x6 =>
      (sI M 2 l2 (l5 + (-1)) (vp_nar .byte x6)).bind fun M7 =>
      (bI M7 91 (((l0 / 100) * 100) - l0)).bind fun x8 =>
      (sI M7 2 l2 ((l5 + (-1)) + (-1)) (vp_nar .byte x8)).bind fun M9 =>
      (f_J6_getChars_ba4f3_22 fu) (l0 / 100) l2 ((l5 + (-1)) + (-1)) l6 M9
    )
def f_J6_getChars_ba4f3_12 (l0 : Int32) (l2 : Nat) (l5 : Int32) (s0 : Bool) (M : Mem) : Option (Int32 × Mem) :=
  bif s0 then (
    f_J6_getChars_ba4f3_22 FU l0 l2 l5 s0 M
  ) else (
    f_J6_getChars_ba4f3_22 FU (-l0) l2 l5 s0 M
  )
def f_J6_getChars_ba4f3 (a0 : Int32) (a1 : Int32) (a2 : Nat) (M : Mem) : Option (Int32 × Mem) :=
  if 0 ≤ a0 then (
    f_J6_getChars_ba4f3_12 a0 a2 a1 false M
  ) else (
    f_J6_getChars_ba4f3_12 a0 a2 a1 true M
  )
def f_J5_append_c97b9 (this : Nat) (a1 : Int32) (M : Mem) : Option (Nat × Mem) :=
  ob M 12 this (
    (gI M 12 3 this).bind fun x1 =>
    (f_J6_stringSize_0f7a4 a1 M).bind fun x2 =>
    (f_J5_ensureCapacityInternal_d00df this (x1 + x2) M).bind fun M4 =>
    (f_J5_isLatin1_aae02 this M4).bind fun x5 =>
    bif x5 then (
      (gR M4 12 0 this).bind fun x7 =>
      (f_J6_getChars_ba4f3 a1 (x1 + x2) x7 M4).bind fun (x8, M9) =>
      (pV M9 12 3 this (.int (x1 + x2))).bind fun M10 =>
      some (this, M10)
    ) else (
      (gR M4 12 0 this).bind fun x6 =>
      none
    )
  )
def f_J5_getValue_6d5f1 (this : Nat) (M : Mem) : Option Nat :=
  ob M 12 this (
    (gR M 12 0 this).bind fun x1 =>
    some x1
  )
def f_J4_length_8abf5 (this : Nat) (M : Mem) : Option Int32 :=
  ob M 12 this (
    (f_J5_length_8abf5 this M).bind fun x1 =>
    some x1
  )
def f_J7_checkLength_df160 (a0 : Int32) (a1 : Int32) (M : Mem) : Option Mem :=
  if a0 ≤ a1 then (
    some M
  ) else (
    none
  )
def f_J7_copyOfRangeByte_39247 (a0 : Nat) (a1 : Int32) (a2 : Int32) (M : Mem) : Option (Nat × Mem) :=
  (f_J7_checkLength_df160 a1 a2 M).bind fun M2 =>
  gd (okN 1024 (a2 - a1)) ((alc M2).bind fun r3 =>
  (aL (mnew M2 (.inl (2, ((a2 - a1).toNatClampNeg, .inl (fun _ => 0))))) a0).bind fun x4 =>
  (f_J9_min_7cf53 (x4 - a1) (a2 - a1) (mnew M2 (.inl (2, ((a2 - a1).toNatClampNeg, .inl (fun _ => 0)))))).bind fun x5 =>
  (bcp (mnew M2 (.inl (2, ((a2 - a1).toNatClampNeg, .inl (fun _ => 0))))) a0 a1 r3 0 x5).bind fun M6 =>
  some (r3, M6)
  )
def f_J7_copyOfRange_39247_10 (l0 : Nat) (l1 : Int32) (l2 : Int32) (M : Mem) : Option (Nat × Mem) :=
  (f_J7_copyOfRangeByte_39247 l0 l1 l2 M).bind fun (x1, M2) =>
  some (x1, M2)
def f_J7_copyOfRange_39247 (a0 : Nat) (a1 : Int32) (a2 : Int32) (M : Mem) : Option (Nat × Mem) :=
  if a1 = 0 then (
    (aL M a0).bind fun x3 =>
    if a2 = x3 then (
      (cln M 1024 a0).bind fun x4 =>
      (alc M).bind fun r5 =>
      gd (isBy (mnew M x4) r5) (
        some (r5, (mnew M x4))
      )
    ) else (
      f_J7_copyOfRange_39247_10 a0 a1 a2 M
    )
  ) else (
    f_J7_copyOfRange_39247_10 a0 a1 a2 M
  )
def f_J0_init_db425_79 (this : Nat) (l3 : Nat) (l4 : Int32) (M : Mem) : Option Mem :=
  gd (isB 1) ((pV M 11 1 this (.int 1)).bind fun M5 =>
  (f_J7_copyOfRange_39247 l3 0 (l4 <<< (1 &&& 31)) M5).bind fun (x6, M7) =>
  (pV M7 11 0 this (.ref x6)).bind fun M8 =>
  some M8
  )
def f_J0_init_db425 (this : Nat) (a1 : Nat) (a2 : Option Nat) (M : Mem) : Option Mem :=
  ob M 11 this (
    (f_J5_getValue_6d5f1 a1 M).bind fun x1 =>
    (f_J4_length_8abf5 a1 M).bind fun x2 =>
    (f_J5_isLatin1_aae02 a1 M).bind fun x3 =>
    bif x3 then (
      gd (isB 0) ((pV M 11 1 this (.int 0)).bind fun M9 =>
      (f_J7_copyOfRange_39247 x1 0 x2 M9).bind fun (x10, M11) =>
      (pV M11 11 0 this (.ref x10)).bind fun M12 =>
      some M12
      )
    ) else (
      (gZ M 12 2 a1).bind fun x4 =>
      bif x4 then (
        none
      ) else (
        f_J0_init_db425_79 this x1 x2 M
      )
    )
  )
def f_J0_init_81219 (this : Nat) (a1 : Nat) (M : Mem) : Option Mem :=
  ob M 11 this (
    (f_J0_init_db425 this a1 none M).bind fun M2 =>
    some M2
  )
def f_J4_init_da8c8 (this : Nat) (M : Mem) : Option Mem :=
  ob M 12 this (
    (f_J5_init_d00df this 16 M).bind fun M2 =>
    some M2
  )
def f_J4_init_a7421 (this : Nat) (a1 : Nat) (M : Mem) : Option Mem :=
  ob M 12 this (
    (f_J5_init_a7421 this a1 M).bind fun M2 =>
    some M2
  )
def f_J4_append_cf468 (this : Nat) (a1 : Int32) (M : Mem) : Option (Nat × Mem) :=
  ob M 12 this (
    (f_J5_append_3fe6f this a1 M).bind fun (x1, M2) =>
    some (this, M2)
  )
def f_J4_append_bf812 (this : Nat) (a1 : Int32) (M : Mem) : Option (Nat × Mem) :=
  ob M 12 this (
    (f_J5_append_c97b9 this a1 M).bind fun (x1, M2) =>
    some (this, M2)
  )
def f_J4_toString_0e30d (this : Nat) (M : Mem) : Option (Nat × Mem) :=
  ob M 12 this (
    (alc M).bind fun r1 =>
    (f_J0_init_81219 r1 this (mnew M (.inr (11, [.null, .int 0, .int 0, .int 0])))).bind fun M3 =>
    some (r1, M3)
  )
theorem fz_J0_38 : (Cond.fieldLink RJ0 38 strT "COMPACT_STRINGS" "Z") ∈ cr_U := mem_U (i := 606) (by decide +kernel) rfl
theorem fs_J0_15 : (Cond.fieldLink RJ0 15 strT "coder" "B") ∈ cr_U := mem_U (i := 865) (by decide +kernel) rfl
theorem cw_J0_coder_7d493 : (Cond.code yJ0_coder_7d493 cJ0_coder_7d493 1 (some .byte)) ∈ cr_U := mem_U (i := 605) (by decide +kernel) rfl
theorem ini_J0 : (Cond.initialized RJ0) ∈ cr_U := mem_U (i := 39) (by decide +kernel) rfl
theorem fs_J0_9 : (Cond.fieldLink RJ0 9 strT "value" "[B") ∈ cr_U := mem_U (i := 864) (by decide +kernel) rfl
theorem ml_J0_335 : (Cond.methodLink RJ0 335 yJ0_coder_7d493) ∈ cr_U := mem_U (i := 602) (by decide +kernel) rfl
theorem im_J0_coder_7d493 : (Cond.instanceMethod yJ0_coder_7d493) ∈ cr_U := mem_U (i := 603) (by decide +kernel) rfl
theorem se_J0_coder_7d493 : (Cond.selects RJ0 yJ0_coder_7d493 yJ0_coder_7d493) ∈ cr_U := mem_U (i := 604) (by decide +kernel) rfl
theorem cw_J0_length_8abf5 : (Cond.code yJ0_length_8abf5 cJ0_length_8abf5 1 (some .int)) ∈ cr_U := mem_U (i := 601) (by decide +kernel) rfl
theorem cw_J0_isLatin1_aae02 : (Cond.code yJ0_isLatin1_aae02 cJ0_isLatin1_aae02 1 (some .boolean)) ∈ cr_U := mem_U (i := 905) (by decide +kernel) rfl
theorem cw_J1_charAt_3b067 : (Cond.code yJ1_charAt_3b067 cJ1_charAt_3b067 2 (some .char)) ∈ cr_U := mem_U (i := 908) (by decide +kernel) rfl
theorem ini_J1 : (Cond.initialized RJ1) ∈ cr_U := mem_U (i := 46) (by decide +kernel) rfl
theorem ml_J0_492 : (Cond.methodLink RJ0 492 yJ0_isLatin1_aae02) ∈ cr_U := mem_U (i := 902) (by decide +kernel) rfl
theorem im_J0_isLatin1_aae02 : (Cond.instanceMethod yJ0_isLatin1_aae02) ∈ cr_U := mem_U (i := 903) (by decide +kernel) rfl
theorem se_J0_isLatin1_aae02 : (Cond.selects RJ0 yJ0_isLatin1_aae02 yJ0_isLatin1_aae02) ∈ cr_U := mem_U (i := 904) (by decide +kernel) rfl
theorem ml_J0_495 : (Cond.methodLink RJ0 495 yJ1_charAt_3b067) ∈ cr_U := mem_U (i := 906) (by decide +kernel) rfl
theorem sm_J1_charAt_3b067 : (Cond.static yJ1_charAt_3b067) ∈ cr_U := mem_U (i := 907) (by decide +kernel) rfl
theorem cw_J0_charAt_5068e : (Cond.code yJ0_charAt_5068e cJ0_charAt_5068e 2 (some .char)) ∈ cr_U := mem_U (i := 901) (by decide +kernel) rfl
theorem fz_J5_18 : (Cond.fieldLink RJ5 18 strT "COMPACT_STRINGS" "Z") ∈ cr_U := mem_U (i := 674) (by decide +kernel) rfl
theorem fl_J5_15_w : (Cond.fieldLink RJ5 15 (TJ4 0).1 (TJ4 0).2.1 (TJ4 0).2.2.1) ∈ cr_U := mem_U (i := 734) (by decide +kernel) rfl
theorem fl_J5_15 : flk RJ5 15 (TJ4 0) := Or.inl fl_J5_15_w
theorem fl_J5_22_w : (Cond.fieldLink RJ5 22 (TJ4 1).1 (TJ4 1).2.1 (TJ4 1).2.2.1) ∈ cr_U := mem_U (i := 735) (by decide +kernel) rfl
theorem fl_J5_22 : flk RJ5 22 (TJ4 1) := Or.inl fl_J5_22_w
theorem ml_J5_3 : (Cond.methodLink RJ5 3 Lib.objectInit) ∈ cr_U := mem_U (i := 597) (by decide +kernel) rfl
theorem cw_J5_init_d00df : (Cond.code yJ5_init_d00df cJ5_init_d00df 2 (none)) ∈ cr_U := mem_U (i := 813) (by decide +kernel) rfl
theorem ini_J5 : (Cond.initialized RJ5) ∈ cr_U := mem_U (i := 37) (by decide +kernel) rfl
theorem cw_J9_max_7cf53 : (Cond.code yJ9_max_7cf53 cJ9_max_7cf53 2 (some .int)) ∈ cr_U := mem_U (i := 648) (by decide +kernel) rfl
theorem ini_J9 : (Cond.initialized RJ9) ∈ cr_U := mem_U (i := 42) (by decide +kernel) rfl
theorem ml_J8_194 : (Cond.methodLink RJ8 194 yJ9_max_7cf53) ∈ cr_U := mem_U (i := 646) (by decide +kernel) rfl
theorem sm_J9_max_7cf53 : (Cond.static yJ9_max_7cf53) ∈ cr_U := mem_U (i := 647) (by decide +kernel) rfl
theorem kc_J8_200 : (Cond.constant RJ8 200 2147483639) ∈ cr_U := mem_U (i := 649) (by decide +kernel) rfl
theorem cw_J8_newLength_cabcc : (Cond.code yJ8_newLength_cabcc cJ8_newLength_cabcc 4 (some .int)) ∈ cr_U := mem_U (i := 645) (by decide +kernel) rfl
theorem ini_J8 : (Cond.initialized RJ8) ∈ cr_U := mem_U (i := 41) (by decide +kernel) rfl
theorem ml_J5_114 : (Cond.methodLink RJ5 114 yJ8_newLength_cabcc) ∈ cr_U := mem_U (i := 643) (by decide +kernel) rfl
theorem sm_J8_newLength_cabcc : (Cond.static yJ8_newLength_cabcc) ∈ cr_U := mem_U (i := 644) (by decide +kernel) rfl
theorem kc_J5_39 : (Cond.constant RJ5 39 2147483647) ∈ cr_U := mem_U (i := 609) (by decide +kernel) rfl
theorem cw_J5_newCapacity_0f7a4 : (Cond.code yJ5_newCapacity_0f7a4 cJ5_newCapacity_0f7a4 6 (some .int)) ∈ cr_U := mem_U (i := 642) (by decide +kernel) rfl
theorem cw_J9_min_7cf53 : (Cond.code yJ9_min_7cf53 cJ9_min_7cf53 2 (some .int)) ∈ cr_U := mem_U (i := 665) (by decide +kernel) rfl
theorem ml_J7_304 : (Cond.methodLink RJ7 304 yJ9_min_7cf53) ∈ cr_U := mem_U (i := 663) (by decide +kernel) rfl
theorem sm_J9_min_7cf53 : (Cond.static yJ9_min_7cf53) ∈ cr_U := mem_U (i := 664) (by decide +kernel) rfl
theorem ml_J7_150 : (Cond.methodLink RJ7 150 arraycopyName) ∈ cr_U := mem_U (i := 666) (by decide +kernel) rfl
theorem nat_acp : (Cond.native arraycopyName) ∈ cr_U := mem_U (i := 668) (by decide +kernel) rfl
theorem sta_acp : (Cond.static arraycopyName) ∈ cr_U := mem_U (i := 667) (by decide +kernel) rfl
theorem ini_Sys : (Cond.initialized "java/lang/System") ∈ cr_U := mem_U (i := 44) (by decide +kernel) rfl
theorem ml_J7_310 : (Cond.methodLink RJ7 310 ⟨"[B", "clone", "()Ljava/lang/Object;"⟩) ∈ cr_U := mem_U (i := 656) (by decide +kernel) rfl
theorem cln_sm : (Cond.sameMethod "[B" "java/lang/Object" "clone" "()Ljava/lang/Object;") ∈ cr_U := mem_U (i := 657) (by decide +kernel) rfl
theorem cln_na : (Cond.native ⟨"java/lang/Object", "clone", "()Ljava/lang/Object;"⟩) ∈ cr_U := mem_U (i := 658) (by decide +kernel) rfl
theorem cln_im : (Cond.instanceMethod ⟨"java/lang/Object", "clone", "()Ljava/lang/Object;"⟩) ∈ cr_U := mem_U (i := 659) (by decide +kernel) rfl
theorem cln_se : (Cond.selects "[B" ⟨"[B", "clone", "()Ljava/lang/Object;"⟩ ⟨"java/lang/Object", "clone", "()Ljava/lang/Object;"⟩) ∈ cr_U := mem_U (i := 660) (by decide +kernel) rfl
theorem cln_ca : (Cond.castable "[B" "java/lang/Cloneable") ∈ lw_tbl := List.mem_of_getElem? (i := 661) (by decide +kernel)
theorem cl_J7_311 : (Cond.classLink RJ7 311 "[B") ∈ cr_U := mem_U (i := 662) (by decide +kernel) rfl
theorem cw_J7_copyOf_9075b : (Cond.code yJ7_copyOf_9075b cJ7_copyOf_9075b 3 (some (.array .byte))) ∈ cr_U := mem_U (i := 655) (by decide +kernel) rfl
theorem ini_J7 : (Cond.initialized RJ7) ∈ cr_U := mem_U (i := 43) (by decide +kernel) rfl
theorem ml_J5_104 : (Cond.methodLink RJ5 104 yJ5_newCapacity_0f7a4) ∈ cr_U := mem_U (i := 639) (by decide +kernel) rfl
theorem im_J5_newCapacity_0f7a4 : (Cond.instanceMethod yJ5_newCapacity_0f7a4) ∈ cr_U := mem_U (i := 641) (by decide +kernel) rfl
theorem pm_J5_newCapacity_0f7a4 : (Cond.privateMethod yJ5_newCapacity_0f7a4) ∈ lw_tbl := List.mem_of_getElem? (i := 640) (by decide +kernel)
theorem sm9_J5_newCapacity_0f7a4 : (Cond.sameMethod yJ5_newCapacity_0f7a4.cls yJ5_newCapacity_0f7a4.cls yJ5_newCapacity_0f7a4.name yJ5_newCapacity_0f7a4.desc) ∈ cr_U := mem_U (i := 1543) (by decide +kernel) rfl
theorem ins_J4 : (Cond.instantiable RJ4 4) ∈ cr_U := mem_U (i := 589) (by decide +kernel) rfl
theorem ml_J5_108 : (Cond.methodLink RJ5 108 yJ7_copyOf_9075b) ∈ cr_U := mem_U (i := 653) (by decide +kernel) rfl
theorem sm_J7_copyOf_9075b : (Cond.static yJ7_copyOf_9075b) ∈ cr_U := mem_U (i := 654) (by decide +kernel) rfl
theorem cw_J5_ensureCapacityInternal_d00df : (Cond.code yJ5_ensureCapacityInternal_d00df cJ5_ensureCapacityInternal_d00df 3 (none)) ∈ cr_U := mem_U (i := 638) (by decide +kernel) rfl
theorem ml_J5_40 : (Cond.methodLink RJ5 40 yJ0_coder_7d493) ∈ cr_U := mem_U (i := 610) (by decide +kernel) rfl
theorem cw_J5_inflateIfNeededFor_a7421 : (Cond.code yJ5_inflateIfNeededFor_a7421 cJ5_inflateIfNeededFor_a7421 2 (none)) ∈ cr_U := mem_U (i := 708) (by decide +kernel) rfl
theorem ml_J0_212 : (Cond.methodLink RJ0 212 arraycopyName) ∈ cr_U := mem_U (i := 732) (by decide +kernel) rfl
theorem cw_J0_getBytes_840e7 : (Cond.code yJ0_getBytes_840e7 cJ0_getBytes_840e7 4 (none)) ∈ cr_U := mem_U (i := 731) (by decide +kernel) rfl
theorem ml_J5_397 : (Cond.methodLink RJ5 397 yJ5_inflateIfNeededFor_a7421) ∈ cr_U := mem_U (i := 705) (by decide +kernel) rfl
theorem im_J5_inflateIfNeededFor_a7421 : (Cond.instanceMethod yJ5_inflateIfNeededFor_a7421) ∈ cr_U := mem_U (i := 707) (by decide +kernel) rfl
theorem pm_J5_inflateIfNeededFor_a7421 : (Cond.privateMethod yJ5_inflateIfNeededFor_a7421) ∈ lw_tbl := List.mem_of_getElem? (i := 706) (by decide +kernel)
theorem sm9_J5_inflateIfNeededFor_a7421 : (Cond.sameMethod yJ5_inflateIfNeededFor_a7421.cls yJ5_inflateIfNeededFor_a7421.cls yJ5_inflateIfNeededFor_a7421.name yJ5_inflateIfNeededFor_a7421.desc) ∈ cr_U := mem_U (i := 1545) (by decide +kernel) rfl
theorem ml_J5_399 : (Cond.methodLink RJ5 399 yJ0_getBytes_840e7) ∈ cr_U := mem_U (i := 728) (by decide +kernel) rfl
theorem im_J0_getBytes_840e7 : (Cond.instanceMethod yJ0_getBytes_840e7) ∈ cr_U := mem_U (i := 729) (by decide +kernel) rfl
theorem se_J0_getBytes_840e7 : (Cond.selects RJ0 yJ0_getBytes_840e7 yJ0_getBytes_840e7) ∈ cr_U := mem_U (i := 730) (by decide +kernel) rfl
theorem cw_J5_putStringAt_47b60 : (Cond.code yJ5_putStringAt_47b60 cJ5_putStringAt_47b60 3 (none)) ∈ cr_U := mem_U (i := 704) (by decide +kernel) rfl
theorem ml_J5_32 : (Cond.methodLink RJ5 32 yJ0_length_8abf5) ∈ cr_U := mem_U (i := 598) (by decide +kernel) rfl
theorem im_J0_length_8abf5 : (Cond.instanceMethod yJ0_length_8abf5) ∈ cr_U := mem_U (i := 599) (by decide +kernel) rfl
theorem se_J0_length_8abf5 : (Cond.selects RJ0 yJ0_length_8abf5 yJ0_length_8abf5) ∈ cr_U := mem_U (i := 600) (by decide +kernel) rfl
theorem fl_J5_79_w : (Cond.fieldLink RJ5 79 (TJ4 3).1 (TJ4 3).2.1 (TJ4 3).2.2.1) ∈ cr_U := mem_U (i := 737) (by decide +kernel) rfl
theorem fl_J5_79 : flk RJ5 79 (TJ4 3) := Or.inl fl_J5_79_w
theorem ml_J5_100 : (Cond.methodLink RJ5 100 yJ5_ensureCapacityInternal_d00df) ∈ cr_U := mem_U (i := 635) (by decide +kernel) rfl
theorem im_J5_ensureCapacityInternal_d00df : (Cond.instanceMethod yJ5_ensureCapacityInternal_d00df) ∈ cr_U := mem_U (i := 637) (by decide +kernel) rfl
theorem pm_J5_ensureCapacityInternal_d00df : (Cond.privateMethod yJ5_ensureCapacityInternal_d00df) ∈ lw_tbl := List.mem_of_getElem? (i := 636) (by decide +kernel)
theorem sm9_J5_ensureCapacityInternal_d00df : (Cond.sameMethod yJ5_ensureCapacityInternal_d00df.cls yJ5_ensureCapacityInternal_d00df.cls yJ5_ensureCapacityInternal_d00df.name yJ5_ensureCapacityInternal_d00df.desc) ∈ cr_U := mem_U (i := 1542) (by decide +kernel) rfl
theorem ml_J5_208 : (Cond.methodLink RJ5 208 yJ5_putStringAt_47b60) ∈ cr_U := mem_U (i := 701) (by decide +kernel) rfl
theorem im_J5_putStringAt_47b60 : (Cond.instanceMethod yJ5_putStringAt_47b60) ∈ cr_U := mem_U (i := 703) (by decide +kernel) rfl
theorem pm_J5_putStringAt_47b60 : (Cond.privateMethod yJ5_putStringAt_47b60) ∈ lw_tbl := List.mem_of_getElem? (i := 702) (by decide +kernel)
theorem sm9_J5_putStringAt_47b60 : (Cond.sameMethod yJ5_putStringAt_47b60.cls yJ5_putStringAt_47b60.cls yJ5_putStringAt_47b60.name yJ5_putStringAt_47b60.desc) ∈ cr_U := mem_U (i := 1544) (by decide +kernel) rfl
theorem cw_J5_append_cf1ce : (Cond.code yJ5_append_cf1ce cJ5_append_cf1ce 3 (some (.object "java/lang/AbstractStringBuilder"))) ∈ cr_U := mem_U (i := 630) (by decide +kernel) rfl
theorem ml_J4_29 : (Cond.methodLink RJ4 29 yJ5_append_cf1ce) ∈ cr_U := mem_U (i := 628) (by decide +kernel) rfl
theorem im_J5_append_cf1ce : (Cond.instanceMethod yJ5_append_cf1ce) ∈ cr_U := mem_U (i := 619) (by decide +kernel) rfl
theorem sm9_J5_append_cf1ce : (Cond.sameMethod yJ5_append_cf1ce.cls yJ5_append_cf1ce.cls yJ5_append_cf1ce.name yJ5_append_cf1ce.desc) ∈ cr_U := mem_U (i := 620) (by decide +kernel) rfl
theorem su9 : (Cond.superclass "java/lang/StringBuilder" "java/lang/AbstractStringBuilder") ∈ cr_U := mem_U (i := 629) (by decide +kernel) rfl
theorem cw_J4_append_15ec4 : (Cond.code yJ4_append_15ec4 cJ4_append_15ec4 2 (some (.object "java/lang/StringBuilder"))) ∈ cr_U := mem_U (i := 627) (by decide +kernel) rfl
theorem ini_J4 : (Cond.initialized RJ4) ∈ cr_U := mem_U (i := 38) (by decide +kernel) rfl
theorem ml_J4_23 : (Cond.methodLink RJ4 23 yJ4_append_15ec4) ∈ cr_U := mem_U (i := 624) (by decide +kernel) rfl
theorem im_J4_append_15ec4 : (Cond.instanceMethod yJ4_append_15ec4) ∈ cr_U := mem_U (i := 625) (by decide +kernel) rfl
theorem se_J4_append_15ec4 : (Cond.selects RJ4 yJ4_append_15ec4 yJ4_append_15ec4) ∈ cr_U := mem_U (i := 626) (by decide +kernel) rfl
theorem cw_J4_append_cf1ce : (Cond.code yJ4_append_cf1ce cJ4_append_cf1ce 2 (some (.object "java/lang/AbstractStringBuilder"))) ∈ cr_U := mem_U (i := 623) (by decide +kernel) rfl
theorem kc_J5_38 : (Cond.constant RJ5 38 2147483631) ∈ cr_U := mem_U (i := 608) (by decide +kernel) rfl
theorem ml_J5_43 : (Cond.methodLink RJ5 43 yJ5_append_cf1ce) ∈ cr_U := mem_U (i := 618) (by decide +kernel) rfl
theorem im_J4_append_cf1ce : (Cond.instanceMethod yJ4_append_cf1ce) ∈ cr_U := mem_U (i := 622) (by decide +kernel) rfl
theorem se_J5_append_cf1ce : (Cond.selects RJ4 yJ5_append_cf1ce yJ4_append_cf1ce) ∈ cr_U := mem_U (i := 621) (by decide +kernel) rfl
theorem cw_J5_init_a7421 : (Cond.code yJ5_init_a7421 cJ5_init_a7421 5 (none)) ∈ cr_U := mem_U (i := 596) (by decide +kernel) rfl
theorem cw_J5_length_8abf5 : (Cond.code yJ5_length_8abf5 cJ5_length_8abf5 1 (some .int)) ∈ cr_U := mem_U (i := 840) (by decide +kernel) rfl
theorem cw_J5_isLatin1_aae02 : (Cond.code yJ5_isLatin1_aae02 cJ5_isLatin1_aae02 1 (some .boolean)) ∈ cr_U := mem_U (i := 673) (by decide +kernel) rfl
theorem cw_J1_canEncode_fc78d : (Cond.code yJ1_canEncode_fc78d cJ1_canEncode_fc78d 1 (some .boolean)) ∈ cr_U := mem_U (i := 783) (by decide +kernel) rfl
theorem ml_J5_83 : (Cond.methodLink RJ5 83 yJ5_isLatin1_aae02) ∈ cr_U := mem_U (i := 669) (by decide +kernel) rfl
theorem im_J5_isLatin1_aae02 : (Cond.instanceMethod yJ5_isLatin1_aae02) ∈ cr_U := mem_U (i := 670) (by decide +kernel) rfl
theorem se_J5_isLatin1_aae02 : (Cond.selects RJ4 yJ5_isLatin1_aae02 yJ5_isLatin1_aae02) ∈ cr_U := mem_U (i := 672) (by decide +kernel) rfl
theorem ml_J5_191 : (Cond.methodLink RJ5 191 yJ1_canEncode_fc78d) ∈ cr_U := mem_U (i := 781) (by decide +kernel) rfl
theorem sm_J1_canEncode_fc78d : (Cond.static yJ1_canEncode_fc78d) ∈ cr_U := mem_U (i := 782) (by decide +kernel) rfl
theorem cw_J5_append_3fe6f : (Cond.code yJ5_append_3fe6f cJ5_append_3fe6f 2 (some (.object "java/lang/AbstractStringBuilder"))) ∈ cr_U := mem_U (i := 780) (by decide +kernel) rfl
theorem cw_J6_stringSize_0f7a4 : (Cond.code yJ6_stringSize_0f7a4 cJ6_stringSize_0f7a4 4 (some .int)) ∈ cr_U := mem_U (i := 755) (by decide +kernel) rfl
theorem ini_J6 : (Cond.initialized RJ6) ∈ cr_U := mem_U (i := 48) (by decide +kernel) rfl
theorem fz_J6_83 : (Cond.fieldLink RJ6 83 "java/lang/Integer" "DigitOnes" "[B") ∈ cr_U := mem_U (i := 759) (by decide +kernel) rfl
theorem fz_J6_87 : (Cond.fieldLink RJ6 87 "java/lang/Integer" "DigitTens" "[B") ∈ cr_U := mem_U (i := 761) (by decide +kernel) rfl
theorem cw_J6_getChars_ba4f3 : (Cond.code yJ6_getChars_ba4f3 cJ6_getChars_ba4f3 7 (some .int)) ∈ cr_U := mem_U (i := 758) (by decide +kernel) rfl
theorem ml_J5_245 : (Cond.methodLink RJ5 245 yJ6_stringSize_0f7a4) ∈ cr_U := mem_U (i := 753) (by decide +kernel) rfl
theorem sm_J6_stringSize_0f7a4 : (Cond.static yJ6_stringSize_0f7a4) ∈ cr_U := mem_U (i := 754) (by decide +kernel) rfl
theorem ml_J5_248 : (Cond.methodLink RJ5 248 yJ6_getChars_ba4f3) ∈ cr_U := mem_U (i := 756) (by decide +kernel) rfl
theorem sm_J6_getChars_ba4f3 : (Cond.static yJ6_getChars_ba4f3) ∈ cr_U := mem_U (i := 757) (by decide +kernel) rfl
theorem cw_J5_append_c97b9 : (Cond.code yJ5_append_c97b9 cJ5_append_c97b9 4 (some (.object "java/lang/AbstractStringBuilder"))) ∈ cr_U := mem_U (i := 752) (by decide +kernel) rfl
theorem cw_J5_getValue_6d5f1 : (Cond.code yJ5_getValue_6d5f1 cJ5_getValue_6d5f1 1 (some (.array .byte))) ∈ cr_U := mem_U (i := 832) (by decide +kernel) rfl
theorem ml_J4_343 : (Cond.methodLink RJ4 343 yJ5_length_8abf5) ∈ cr_U := mem_U (i := 839) (by decide +kernel) rfl
theorem im_J5_length_8abf5 : (Cond.instanceMethod yJ5_length_8abf5) ∈ cr_U := mem_U (i := 834) (by decide +kernel) rfl
theorem sm9_J5_length_8abf5 : (Cond.sameMethod yJ5_length_8abf5.cls yJ5_length_8abf5.cls yJ5_length_8abf5.name yJ5_length_8abf5.desc) ∈ cr_U := mem_U (i := 835) (by decide +kernel) rfl
theorem cw_J4_length_8abf5 : (Cond.code yJ4_length_8abf5 cJ4_length_8abf5 1 (some .int)) ∈ cr_U := mem_U (i := 838) (by decide +kernel) rfl
theorem cw_J7_checkLength_df160 : (Cond.code yJ7_checkLength_df160 cJ7_checkLength_df160 2 (none)) ∈ cr_U := mem_U (i := 850) (by decide +kernel) rfl
theorem ml_J7_343 : (Cond.methodLink RJ7 343 yJ7_checkLength_df160) ∈ cr_U := mem_U (i := 848) (by decide +kernel) rfl
theorem sm_J7_checkLength_df160 : (Cond.static yJ7_checkLength_df160) ∈ cr_U := mem_U (i := 849) (by decide +kernel) rfl
theorem cw_J7_copyOfRangeByte_39247 : (Cond.code yJ7_copyOfRangeByte_39247 cJ7_copyOfRangeByte_39247 5 (some (.array .byte))) ∈ cr_U := mem_U (i := 847) (by decide +kernel) rfl
theorem ml_J7_339 : (Cond.methodLink RJ7 339 yJ7_copyOfRangeByte_39247) ∈ cr_U := mem_U (i := 845) (by decide +kernel) rfl
theorem sm_J7_copyOfRangeByte_39247 : (Cond.static yJ7_copyOfRangeByte_39247) ∈ cr_U := mem_U (i := 846) (by decide +kernel) rfl
theorem cw_J7_copyOfRange_39247 : (Cond.code yJ7_copyOfRange_39247 cJ7_copyOfRange_39247 3 (some (.array .byte))) ∈ cr_U := mem_U (i := 844) (by decide +kernel) rfl
theorem ml_J0_552 : (Cond.methodLink RJ0 552 yJ5_getValue_6d5f1) ∈ cr_U := mem_U (i := 828) (by decide +kernel) rfl
theorem im_J5_getValue_6d5f1 : (Cond.instanceMethod yJ5_getValue_6d5f1) ∈ cr_U := mem_U (i := 829) (by decide +kernel) rfl
theorem se_J5_getValue_6d5f1 : (Cond.selects RJ4 yJ5_getValue_6d5f1 yJ5_getValue_6d5f1) ∈ cr_U := mem_U (i := 831) (by decide +kernel) rfl
theorem ml_J0_549 : (Cond.methodLink RJ0 549 yJ5_length_8abf5) ∈ cr_U := mem_U (i := 833) (by decide +kernel) rfl
theorem im_J4_length_8abf5 : (Cond.instanceMethod yJ4_length_8abf5) ∈ cr_U := mem_U (i := 837) (by decide +kernel) rfl
theorem se_J5_length_8abf5 : (Cond.selects RJ4 yJ5_length_8abf5 yJ4_length_8abf5) ∈ cr_U := mem_U (i := 836) (by decide +kernel) rfl
theorem ml_J0_1047 : (Cond.methodLink RJ0 1047 yJ5_isLatin1_aae02) ∈ cr_U := mem_U (i := 841) (by decide +kernel) rfl
theorem fl_J0_1048_w : (Cond.fieldLink RJ0 1048 (TJ4 2).1 (TJ4 2).2.1 (TJ4 2).2.2.1) ∈ cr_U := mem_U (i := 736) (by decide +kernel) rfl
theorem fl_J0_1048 : flk RJ0 1048 (TJ4 2) := Or.inl fl_J0_1048_w
theorem fl_J0_15_w : (Cond.fieldLink RJ0 15 (TJ0 1).1 (TJ0 1).2.1 (TJ0 1).2.2.1) ∈ cr_U := mem_U (i := 865) (by decide +kernel) rfl
theorem fl_J0_15 : flk RJ0 15 (TJ0 1) := Or.inl fl_J0_15_w
theorem ml_J0_54 : (Cond.methodLink RJ0 54 yJ7_copyOfRange_39247) ∈ cr_U := mem_U (i := 842) (by decide +kernel) rfl
theorem sm_J7_copyOfRange_39247 : (Cond.static yJ7_copyOfRange_39247) ∈ cr_U := mem_U (i := 843) (by decide +kernel) rfl
theorem fl_J0_9_w : (Cond.fieldLink RJ0 9 (TJ0 0).1 (TJ0 0).2.1 (TJ0 0).2.2.1) ∈ cr_U := mem_U (i := 864) (by decide +kernel) rfl
theorem fl_J0_9 : flk RJ0 9 (TJ0 0) := Or.inl fl_J0_9_w
theorem ml_J0_1 : (Cond.methodLink RJ0 1 Lib.objectInit) ∈ cr_U := mem_U (i := 827) (by decide +kernel) rfl
theorem cw_J0_init_db425 : (Cond.code yJ0_init_db425 cJ0_init_db425 5 (none)) ∈ cr_U := mem_U (i := 826) (by decide +kernel) rfl
theorem ml_J0_489 : (Cond.methodLink RJ0 489 yJ0_init_db425) ∈ cr_U := mem_U (i := 824) (by decide +kernel) rfl
theorem im_J0_init_db425 : (Cond.instanceMethod yJ0_init_db425) ∈ cr_U := mem_U (i := 825) (by decide +kernel) rfl
theorem cw_J0_init_81219 : (Cond.code yJ0_init_81219 cJ0_init_81219 2 (none)) ∈ cr_U := mem_U (i := 823) (by decide +kernel) rfl
theorem ml_J4_1 : (Cond.methodLink RJ4 1 yJ5_init_d00df) ∈ cr_U := mem_U (i := 811) (by decide +kernel) rfl
theorem im_J5_init_d00df : (Cond.instanceMethod yJ5_init_d00df) ∈ cr_U := mem_U (i := 812) (by decide +kernel) rfl
theorem cw_J4_init_da8c8 : (Cond.code yJ4_init_da8c8 cJ4_init_da8c8 1 (none)) ∈ cr_U := mem_U (i := 810) (by decide +kernel) rfl
theorem ml_J4_7 : (Cond.methodLink RJ4 7 yJ5_init_a7421) ∈ cr_U := mem_U (i := 594) (by decide +kernel) rfl
theorem im_J5_init_a7421 : (Cond.instanceMethod yJ5_init_a7421) ∈ cr_U := mem_U (i := 595) (by decide +kernel) rfl
theorem cw_J4_init_a7421 : (Cond.code yJ4_init_a7421 cJ4_init_a7421 2 (none)) ∈ cr_U := mem_U (i := 593) (by decide +kernel) rfl
theorem ml_J4_50 : (Cond.methodLink RJ4 50 yJ5_append_3fe6f) ∈ cr_U := mem_U (i := 778) (by decide +kernel) rfl
theorem im_J5_append_3fe6f : (Cond.instanceMethod yJ5_append_3fe6f) ∈ cr_U := mem_U (i := 779) (by decide +kernel) rfl
theorem sm9_J5_append_3fe6f : (Cond.sameMethod yJ5_append_3fe6f.cls yJ5_append_3fe6f.cls yJ5_append_3fe6f.name yJ5_append_3fe6f.desc) ∈ cr_U := mem_U (i := 1548) (by decide +kernel) rfl
theorem cw_J4_append_cf468 : (Cond.code yJ4_append_cf468 cJ4_append_cf468 2 (some (.object "java/lang/StringBuilder"))) ∈ cr_U := mem_U (i := 777) (by decide +kernel) rfl
theorem ml_J4_53 : (Cond.methodLink RJ4 53 yJ5_append_c97b9) ∈ cr_U := mem_U (i := 750) (by decide +kernel) rfl
theorem im_J5_append_c97b9 : (Cond.instanceMethod yJ5_append_c97b9) ∈ cr_U := mem_U (i := 751) (by decide +kernel) rfl
theorem sm9_J5_append_c97b9 : (Cond.sameMethod yJ5_append_c97b9.cls yJ5_append_c97b9.cls yJ5_append_c97b9.name yJ5_append_c97b9.desc) ∈ cr_U := mem_U (i := 1547) (by decide +kernel) rfl
theorem cw_J4_append_bf812 : (Cond.code yJ4_append_bf812 cJ4_append_bf812 2 (some (.object "java/lang/StringBuilder"))) ∈ cr_U := mem_U (i := 749) (by decide +kernel) rfl
theorem ml_J4_137 : (Cond.methodLink RJ4 137 yJ0_init_81219) ∈ cr_U := mem_U (i := 821) (by decide +kernel) rfl
theorem im_J0_init_81219 : (Cond.instanceMethod yJ0_init_81219) ∈ cr_U := mem_U (i := 822) (by decide +kernel) rfl
theorem cl_J4_18 : (Cond.classLink RJ4 18 RJ0) ∈ cr_U := mem_U (i := 819) (by decide +kernel) rfl
theorem ins_J0 : (Cond.instantiable RJ0 4) ∈ cr_U := mem_U (i := 820) (by decide +kernel) rfl
theorem cw_J4_toString_0e30d : (Cond.code yJ4_toString_0e30d cJ4_toString_0e30d 1 (some (.object "java/lang/String"))) ∈ cr_U := mem_U (i := 818) (by decide +kernel) rfl
theorem dJ0_coder_7d493_0 : decode cJ0_coder_7d493 0 = .ok (.getstatic 38, 3) := by decide +kernel
theorem dJ0_coder_7d493_3 : decode cJ0_coder_7d493 3 = .ok (.ifCond .eq 10, 3) := by decide +kernel
theorem dJ0_coder_7d493_6 : decode cJ0_coder_7d493 6 = .ok (.aload_n 0, 1) := by decide +kernel
theorem dJ0_coder_7d493_7 : decode cJ0_coder_7d493 7 = .ok (.getfield 15, 3) := by decide +kernel
theorem dJ0_coder_7d493_10 : decode cJ0_coder_7d493 10 = .ok (.goto 4, 3) := by decide +kernel
theorem dJ0_coder_7d493_13 : decode cJ0_coder_7d493 13 = .ok (.iconst 1, 1) := by decide +kernel
theorem dJ0_coder_7d493_14 : decode cJ0_coder_7d493 14 = .ok (.ireturn, 1) := by decide +kernel
def mi_J0_coder_7d493 : MI := (RJ0, yJ0_coder_7d493, cJ0_coder_7d493, 1, some .byte, [], { frames := 1, cells := 0, slots := 0, locals := 12 })
theorem ok_J0_coder_7d493 : mOK mi_J0_coder_7d493 0 := ⟨rfl, cw_J0_coder_7d493, ini_J0, ⟨rfl, by decide⟩, by decide, by decide, rfl⟩
theorem v_J0_coder_7d493 (this : Nat) (M : Mem) : V mi_J0_coder_7d493 0 [(0, .ref this)] [] M 0 0 (f_J0_coder_7d493 this M) (eI M) := by
  unfold f_J0_coder_7d493
  refine V_obS fun _ => ?_
  refine V_gets (v := .int 1) (fun G hG => (g_x hG).2.2.2.2.1) (Or.inl fz_J0_38) dJ0_coder_7d493_0 rfl ?_
  refine V_if_eq_f (q := 13) (q2 := 6) dJ0_coder_7d493_3 (by decide) rfl (by decide) ?_
  refine V_aload_n dJ0_coder_7d493_6 rfl 0 rfl ?_
  refine V_sCod fs_J0_15 dJ0_coder_7d493_7 rfl (fun x1 => ?_)
  refine V_goto (q := 14) dJ0_coder_7d493_10 (by decide) ?_
  refine V_gd fun hv => ?_
  exact V_bret dJ0_coder_7d493_14 rfl hv rfl ⟨(Nat.le_of_ble_eq_true rfl), (Nat.le_of_ble_eq_true rfl)⟩
theorem k_J0_coder_7d493 (this : Nat) (M : Mem) : K mi_J0_coder_7d493 [.ref this] M (f_J0_coder_7d493 this M) (eI M) := K_of_V ok_J0_coder_7d493 (Nat.le_of_ble_eq_true rfl) (v_J0_coder_7d493 this M)
theorem o_J0_coder_7d493 {this : Nat} {M : Mem} {x} (h : f_J0_coder_7d493 this M = some x) : isS M this = true := (obS_of h).1
theorem dJ0_length_8abf5_0 : decode cJ0_length_8abf5 0 = .ok (.aload_n 0, 1) := by decide +kernel
theorem dJ0_length_8abf5_1 : decode cJ0_length_8abf5 1 = .ok (.getfield 9, 3) := by decide +kernel
theorem dJ0_length_8abf5_4 : decode cJ0_length_8abf5 4 = .ok (.arraylength, 1) := by decide +kernel
theorem dJ0_length_8abf5_5 : decode cJ0_length_8abf5 5 = .ok (.aload_n 0, 1) := by decide +kernel
theorem dJ0_length_8abf5_6 : decode cJ0_length_8abf5 6 = .ok (.invokevirtual 335, 3) := by decide +kernel
theorem dJ0_length_8abf5_9 : decode cJ0_length_8abf5 9 = .ok (.ishr, 1) := by decide +kernel
theorem dJ0_length_8abf5_10 : decode cJ0_length_8abf5 10 = .ok (.ireturn, 1) := by decide +kernel
def mi_J0_length_8abf5 : MI := (RJ0, yJ0_length_8abf5, cJ0_length_8abf5, 1, some .int, [], { frames := 2, cells := 0, slots := 0, locals := 32 })
theorem ok_J0_length_8abf5 : mOK mi_J0_length_8abf5 0 := ⟨rfl, cw_J0_length_8abf5, ini_J0, ⟨rfl, by decide⟩, by decide, by decide, rfl⟩
theorem v_J0_length_8abf5 (this : Nat) (M : Mem) : V mi_J0_length_8abf5 0 [(0, .ref this)] [] M 0 0 (f_J0_length_8abf5 this M) (eI M) := by
  unfold f_J0_length_8abf5
  refine V_obS fun _ => ?_
  refine V_aload_n dJ0_length_8abf5_0 rfl 0 rfl ?_
  refine V_sVal fs_J0_9 dJ0_length_8abf5_1 rfl (fun x1 => ?_)
  refine V_bL dJ0_length_8abf5_4 rfl (fun x2 => ?_)
  refine V_aload_n dJ0_length_8abf5_5 rfl 0 rfl ?_
  refine V_cGeI (CRun.V (C := RJ0) (As := []) (k_J0_coder_7d493 this M) (fun _ h => RC.str (o_J0_coder_7d493 h)) ok_J0_coder_7d493 im_J0_coder_7d493 (selOK.of se_J0_coder_7d493) ml_J0_335 ⟨⟨(Nat.le_of_ble_eq_true rfl), (Nat.le_of_ble_eq_true rfl)⟩, (Nat.le_of_ble_eq_true rfl), (Nat.le_of_ble_eq_true rfl)⟩ dJ0_length_8abf5_6 rfl rfl (Nat.le_of_ble_eq_true rfl)) rfl rfl rfl (fun x3 => ?_)
  refine V_ishr dJ0_length_8abf5_9 rfl ?_
  exact V_iret dJ0_length_8abf5_10 rfl rfl ⟨(Nat.le_of_ble_eq_true rfl), (Nat.le_of_ble_eq_true rfl)⟩
theorem k_J0_length_8abf5 (this : Nat) (M : Mem) : K mi_J0_length_8abf5 [.ref this] M (f_J0_length_8abf5 this M) (eI M) := K_of_V ok_J0_length_8abf5 (Nat.le_of_ble_eq_true rfl) (v_J0_length_8abf5 this M)
theorem o_J0_length_8abf5 {this : Nat} {M : Mem} {x} (h : f_J0_length_8abf5 this M = some x) : isS M this = true := (obS_of h).1
theorem dJ0_isLatin1_aae02_0 : decode cJ0_isLatin1_aae02 0 = .ok (.getstatic 38, 3) := by decide +kernel
theorem dJ0_isLatin1_aae02_3 : decode cJ0_isLatin1_aae02 3 = .ok (.ifCond .eq 14, 3) := by decide +kernel
theorem dJ0_isLatin1_aae02_6 : decode cJ0_isLatin1_aae02 6 = .ok (.aload_n 0, 1) := by decide +kernel
theorem dJ0_isLatin1_aae02_7 : decode cJ0_isLatin1_aae02 7 = .ok (.getfield 15, 3) := by decide +kernel
theorem dJ0_isLatin1_aae02_10 : decode cJ0_isLatin1_aae02 10 = .ok (.ifCond .ne 7, 3) := by decide +kernel
theorem dJ0_isLatin1_aae02_13 : decode cJ0_isLatin1_aae02 13 = .ok (.iconst 1, 1) := by decide +kernel
theorem dJ0_isLatin1_aae02_14 : decode cJ0_isLatin1_aae02 14 = .ok (.goto 4, 3) := by decide +kernel
theorem dJ0_isLatin1_aae02_17 : decode cJ0_isLatin1_aae02 17 = .ok (.iconst 0, 1) := by decide +kernel
theorem dJ0_isLatin1_aae02_18 : decode cJ0_isLatin1_aae02 18 = .ok (.ireturn, 1) := by decide +kernel
def mi_J0_isLatin1_aae02 : MI := (RJ0, yJ0_isLatin1_aae02, cJ0_isLatin1_aae02, 1, some .boolean, [], { frames := 1, cells := 0, slots := 0, locals := 12 })
theorem ok_J0_isLatin1_aae02 : mOK mi_J0_isLatin1_aae02 0 := ⟨rfl, cw_J0_isLatin1_aae02, ini_J0, ⟨rfl, by decide⟩, by decide, by decide, rfl⟩
theorem v_J0_isLatin1_aae02 (this : Nat) (M : Mem) : V mi_J0_isLatin1_aae02 0 [(0, .ref this)] [] M 0 0 (f_J0_isLatin1_aae02 this M) (eZ M) := by
  unfold f_J0_isLatin1_aae02
  refine V_obS fun _ => ?_
  refine V_gets (v := .int 1) (fun G hG => (g_x hG).2.2.2.2.1) (Or.inl fz_J0_38) dJ0_isLatin1_aae02_0 rfl ?_
  refine V_if_eq_f (q := 17) (q2 := 6) dJ0_isLatin1_aae02_3 (by decide) rfl (by decide) ?_
  refine V_aload_n dJ0_isLatin1_aae02_6 rfl 0 rfl ?_
  refine V_sCod fs_J0_15 dJ0_isLatin1_aae02_7 rfl (fun x1 => ?_)
  refine V_if_ne (q := 17) (q2 := 13) dJ0_isLatin1_aae02_10 (by decide) rfl ?_ ?_
  · refine V_iconst (x := 0) dJ0_isLatin1_aae02_17 rfl rfl ?_
    exact V_zret (v := false) dJ0_isLatin1_aae02_18 rfl rfl ⟨(Nat.le_of_ble_eq_true rfl), (Nat.le_of_ble_eq_true rfl)⟩
  · refine V_iconst (x := 1) dJ0_isLatin1_aae02_13 rfl rfl ?_
    refine V_goto (q := 18) dJ0_isLatin1_aae02_14 (by decide) ?_
    exact V_zret (v := true) dJ0_isLatin1_aae02_18 rfl rfl ⟨(Nat.le_of_ble_eq_true rfl), (Nat.le_of_ble_eq_true rfl)⟩
theorem k_J0_isLatin1_aae02 (this : Nat) (M : Mem) : K mi_J0_isLatin1_aae02 [.ref this] M (f_J0_isLatin1_aae02 this M) (eZ M) := K_of_V ok_J0_isLatin1_aae02 (Nat.le_of_ble_eq_true rfl) (v_J0_isLatin1_aae02 this M)
theorem o_J0_isLatin1_aae02 {this : Nat} {M : Mem} {x} (h : f_J0_isLatin1_aae02 this M = some x) : isS M this = true := (obS_of h).1
theorem dJ1_charAt_3b067_0 : decode cJ1_charAt_3b067 0 = .ok (.iload_n 1, 1) := by decide +kernel
theorem dJ1_charAt_3b067_1 : decode cJ1_charAt_3b067 1 = .ok (.aload_n 0, 1) := by decide +kernel
theorem dJ1_charAt_3b067_2 : decode cJ1_charAt_3b067 2 = .ok (.arraylength, 1) := by decide +kernel
theorem dJ1_charAt_3b067_3 : decode cJ1_charAt_3b067 3 = .ok (.invokestatic 9, 3) := by decide +kernel
theorem dJ1_charAt_3b067_6 : decode cJ1_charAt_3b067 6 = .ok (.aload_n 0, 1) := by decide +kernel
theorem dJ1_charAt_3b067_7 : decode cJ1_charAt_3b067 7 = .ok (.iload_n 1, 1) := by decide +kernel
theorem dJ1_charAt_3b067_8 : decode cJ1_charAt_3b067 8 = .ok (.baload, 1) := by decide +kernel
theorem dJ1_charAt_3b067_9 : decode cJ1_charAt_3b067 9 = .ok (.sipush 255, 3) := by decide +kernel
theorem dJ1_charAt_3b067_12 : decode cJ1_charAt_3b067 12 = .ok (.iand, 1) := by decide +kernel
theorem dJ1_charAt_3b067_13 : decode cJ1_charAt_3b067 13 = .ok (.i2c, 1) := by decide +kernel
theorem dJ1_charAt_3b067_14 : decode cJ1_charAt_3b067 14 = .ok (.ireturn, 1) := by decide +kernel
def mi_J1_charAt_3b067 : MI := (RJ1, yJ1_charAt_3b067, cJ1_charAt_3b067, 2, some .char, [], { frames := 4, cells := 0, slots := 0, locals := 140 })
theorem ok_J1_charAt_3b067 : mOK mi_J1_charAt_3b067 2 := ⟨rfl, cw_J1_charAt_3b067, ini_J1, ⟨rfl, by decide⟩, by decide, by decide, rfl⟩
theorem v_J1_charAt_3b067 (a0 : Nat) (a1 : Int32) (M : Mem) : V mi_J1_charAt_3b067 0 [(0, .ref a0), (1, .int a1)] [] M 0 0 (f_J1_charAt_3b067 a0 a1 M) (eI M) := by
  unfold f_J1_charAt_3b067
  refine V_iload_n dJ1_charAt_3b067_0 rfl 1 rfl ?_
  refine V_aload_n dJ1_charAt_3b067_1 rfl 0 rfl ?_
  refine V_bL dJ1_charAt_3b067_2 rfl (fun x1 => ?_)
  refine V_chk ml_Sk_9 dJ1_charAt_3b067_3 rfl ⟨⟨(Nat.le_of_ble_eq_true rfl), (Nat.le_of_ble_eq_true rfl)⟩, (Nat.le_of_ble_eq_true rfl), (Nat.le_of_ble_eq_true rfl)⟩ (Nat.le_of_ble_eq_true rfl) ?_
  refine V_aload_n dJ1_charAt_3b067_6 rfl 0 rfl ?_
  refine V_iload_n dJ1_charAt_3b067_7 rfl 1 rfl ?_
  refine V_bI dJ1_charAt_3b067_8 rfl (fun x2 => ?_)
  refine V_sipush (x := 255) dJ1_charAt_3b067_9 rfl rfl ?_
  refine V_iand dJ1_charAt_3b067_12 rfl ?_
  refine V_i2c rfl dJ1_charAt_3b067_13 rfl ?_
  refine V_gd fun hv => ?_
  exact V_cret dJ1_charAt_3b067_14 rfl hv rfl ⟨(Nat.le_of_ble_eq_true rfl), (Nat.le_of_ble_eq_true rfl)⟩
theorem k_J1_charAt_3b067 (a0 : Nat) (a1 : Int32) (M : Mem) : K mi_J1_charAt_3b067 [.ref a0, .int a1] M (f_J1_charAt_3b067 a0 a1 M) (eI M) := K_of_V ok_J1_charAt_3b067 (Nat.le_of_ble_eq_true rfl) (v_J1_charAt_3b067 a0 a1 M)
theorem dJ0_charAt_5068e_0 : decode cJ0_charAt_5068e 0 = .ok (.aload_n 0, 1) := by decide +kernel
theorem dJ0_charAt_5068e_1 : decode cJ0_charAt_5068e 1 = .ok (.invokevirtual 492, 3) := by decide +kernel
theorem dJ0_charAt_5068e_4 : decode cJ0_charAt_5068e 4 = .ok (.ifCond .eq 12, 3) := by decide +kernel
theorem dJ0_charAt_5068e_7 : decode cJ0_charAt_5068e 7 = .ok (.aload_n 0, 1) := by decide +kernel
theorem dJ0_charAt_5068e_8 : decode cJ0_charAt_5068e 8 = .ok (.getfield 9, 3) := by decide +kernel
theorem dJ0_charAt_5068e_11 : decode cJ0_charAt_5068e 11 = .ok (.iload_n 1, 1) := by decide +kernel
theorem dJ0_charAt_5068e_12 : decode cJ0_charAt_5068e 12 = .ok (.invokestatic 495, 3) := by decide +kernel
theorem dJ0_charAt_5068e_15 : decode cJ0_charAt_5068e 15 = .ok (.ireturn, 1) := by decide +kernel
theorem dJ0_charAt_5068e_16 : decode cJ0_charAt_5068e 16 = .ok (.aload_n 0, 1) := by decide +kernel
theorem dJ0_charAt_5068e_17 : decode cJ0_charAt_5068e 17 = .ok (.getfield 9, 3) := by decide +kernel
theorem dJ0_charAt_5068e_20 : decode cJ0_charAt_5068e 20 = .ok (.iload_n 1, 1) := by decide +kernel
theorem dJ0_charAt_5068e_21 : decode cJ0_charAt_5068e 21 = .ok (.invokestatic 498, 3) := by decide +kernel
theorem dJ0_charAt_5068e_24 : decode cJ0_charAt_5068e 24 = .ok (.ireturn, 1) := by decide +kernel
def mi_J0_charAt_5068e : MI := (RJ0, yJ0_charAt_5068e, cJ0_charAt_5068e, 2, some .char, [], { frames := 5, cells := 0, slots := 0, locals := 161 })
theorem ok_J0_charAt_5068e : mOK mi_J0_charAt_5068e 1 := ⟨rfl, cw_J0_charAt_5068e, ini_J0, ⟨rfl, by decide⟩, by decide, by decide, rfl⟩
theorem v_J0_charAt_5068e (this : Nat) (a1 : Int32) (M : Mem) : V mi_J0_charAt_5068e 0 [(0, .ref this), (1, .int a1)] [] M 0 0 (f_J0_charAt_5068e this a1 M) (eI M) := by
  unfold f_J0_charAt_5068e
  refine V_obS fun _ => ?_
  refine V_aload_n dJ0_charAt_5068e_0 rfl 0 rfl ?_
  refine V_cGeZ (CRun.V (C := RJ0) (As := []) (k_J0_isLatin1_aae02 this M) (fun _ h => RC.str (o_J0_isLatin1_aae02 h)) ok_J0_isLatin1_aae02 im_J0_isLatin1_aae02 (selOK.of se_J0_isLatin1_aae02) ml_J0_492 ⟨⟨(Nat.le_of_ble_eq_true rfl), (Nat.le_of_ble_eq_true rfl)⟩, (Nat.le_of_ble_eq_true rfl), (Nat.le_of_ble_eq_true rfl)⟩ dJ0_charAt_5068e_1 rfl rfl (Nat.le_of_ble_eq_true rfl)) rfl rfl rfl (fun x1 => ?_)
  refine V_ifz_eq (q := 16) (q2 := 7) dJ0_charAt_5068e_4 (by decide) rfl ?_ ?_
  · refine V_aload_n dJ0_charAt_5068e_16 rfl 0 rfl ?_
    refine V_sVal fs_J0_9 dJ0_charAt_5068e_17 rfl (fun x2 => ?_)
    refine V_iload_n dJ0_charAt_5068e_20 rfl 1 rfl ?_
    exact V_none
  · refine V_aload_n dJ0_charAt_5068e_7 rfl 0 rfl ?_
    refine V_sVal fs_J0_9 dJ0_charAt_5068e_8 rfl (fun x3 => ?_)
    refine V_iload_n dJ0_charAt_5068e_11 rfl 1 rfl ?_
    refine V_cSeI (As := [.ref x3, .int a1]) (k_J1_charAt_3b067 x3 a1 M) ok_J1_charAt_3b067 sm_J1_charAt_3b067 ml_J0_495 ⟨⟨(Nat.le_of_ble_eq_true rfl), (Nat.le_of_ble_eq_true rfl)⟩, (Nat.le_of_ble_eq_true rfl), (Nat.le_of_ble_eq_true rfl)⟩ dJ0_charAt_5068e_12 rfl rfl rfl (Nat.le_of_ble_eq_true rfl) rfl rfl (fun x4 => ?_)
    refine V_gd fun hv => ?_
    exact V_cret dJ0_charAt_5068e_15 rfl hv rfl ⟨(Nat.le_of_ble_eq_true rfl), (Nat.le_of_ble_eq_true rfl)⟩
theorem k_J0_charAt_5068e (this : Nat) (a1 : Int32) (M : Mem) : K mi_J0_charAt_5068e [.ref this, .int a1] M (f_J0_charAt_5068e this a1 M) (eI M) := K_of_V ok_J0_charAt_5068e (Nat.le_of_ble_eq_true rfl) (v_J0_charAt_5068e this a1 M)
theorem o_J0_charAt_5068e {this : Nat} {a1 : Int32} {M : Mem} {x} (h : f_J0_charAt_5068e this a1 M = some x) : isS M this = true := (obS_of h).1
theorem dJ5_init_d00df_0 : decode cJ5_init_d00df 0 = .ok (.aload_n 0, 1) := by decide +kernel
theorem dJ5_init_d00df_1 : decode cJ5_init_d00df 1 = .ok (.invokespecial 3, 3) := by decide +kernel
theorem dJ5_init_d00df_4 : decode cJ5_init_d00df 4 = .ok (.getstatic 18, 3) := by decide +kernel
theorem dJ5_init_d00df_7 : decode cJ5_init_d00df 7 = .ok (.ifCond .eq 18, 3) := by decide +kernel
theorem dJ5_init_d00df_10 : decode cJ5_init_d00df 10 = .ok (.aload_n 0, 1) := by decide +kernel
theorem dJ5_init_d00df_11 : decode cJ5_init_d00df 11 = .ok (.iload_n 1, 1) := by decide +kernel
theorem dJ5_init_d00df_12 : decode cJ5_init_d00df 12 = .ok (.newarray .byte, 2) := by decide +kernel
theorem dJ5_init_d00df_14 : decode cJ5_init_d00df 14 = .ok (.putfield 15, 3) := by decide +kernel
theorem dJ5_init_d00df_17 : decode cJ5_init_d00df 17 = .ok (.aload_n 0, 1) := by decide +kernel
theorem dJ5_init_d00df_18 : decode cJ5_init_d00df 18 = .ok (.iconst 0, 1) := by decide +kernel
theorem dJ5_init_d00df_19 : decode cJ5_init_d00df 19 = .ok (.putfield 22, 3) := by decide +kernel
theorem dJ5_init_d00df_22 : decode cJ5_init_d00df 22 = .ok (.goto 16, 3) := by decide +kernel
theorem dJ5_init_d00df_25 : decode cJ5_init_d00df 25 = .ok (.aload_n 0, 1) := by decide +kernel
theorem dJ5_init_d00df_26 : decode cJ5_init_d00df 26 = .ok (.iload_n 1, 1) := by decide +kernel
theorem dJ5_init_d00df_27 : decode cJ5_init_d00df 27 = .ok (.invokestatic 26, 3) := by decide +kernel
theorem dJ5_init_d00df_30 : decode cJ5_init_d00df 30 = .ok (.putfield 15, 3) := by decide +kernel
theorem dJ5_init_d00df_33 : decode cJ5_init_d00df 33 = .ok (.aload_n 0, 1) := by decide +kernel
theorem dJ5_init_d00df_34 : decode cJ5_init_d00df 34 = .ok (.iconst 1, 1) := by decide +kernel
theorem dJ5_init_d00df_35 : decode cJ5_init_d00df 35 = .ok (.putfield 22, 3) := by decide +kernel
theorem dJ5_init_d00df_38 : decode cJ5_init_d00df 38 = .ok (.return_, 1) := by decide +kernel
def mi_J5_init_d00df : MI := (RJ5, yJ5_init_d00df, cJ5_init_d00df, 2, none, [], { frames := 1, cells := 1, slots := 1024, locals := 12 })
theorem ok_J5_init_d00df : mOK mi_J5_init_d00df 1 := ⟨rfl, cw_J5_init_d00df, ini_J5, ⟨rfl, by decide⟩, by decide, by decide, rfl⟩
theorem v_J5_init_d00df (this : Nat) (a1 : Int32) (M : Mem) : V mi_J5_init_d00df 0 [(0, .ref this), (1, .int a1)] [] M 0 0 (f_J5_init_d00df this a1 M) wV := by
  unfold f_J5_init_d00df
  refine V_ob fun _ _ => ?_
  refine V_aload_n dJ5_init_d00df_0 rfl 0 rfl ?_
  refine V_objInit ml_J5_3 dJ5_init_d00df_1 rfl ⟨(Nat.le_of_ble_eq_true rfl), (Nat.le_of_ble_eq_true rfl)⟩ ?_
  refine V_gets (v := .int 1) (fun G hG => (g_x hG).2.2.2.2.1) (Or.inl fz_J5_18) dJ5_init_d00df_4 rfl ?_
  refine V_if_eq_f (q := 25) (q2 := 10) dJ5_init_d00df_7 (by decide) rfl (by decide) ?_
  refine V_aload_n dJ5_init_d00df_10 rfl 0 rfl ?_
  refine V_iload_n dJ5_init_d00df_11 rfl 1 rfl ?_
  refine V_newarrayD dJ5_init_d00df_12 rfl (t := 2) (N := 1024) (x := fun m => (m, .inl (fun _ => 0))) rfl ar_2 (Nat.le_of_ble_eq_true rfl) (fun _ _ _ => rfl) (fun _ _ h => h) ⟨(Nat.le_of_ble_eq_true rfl), (Nat.le_of_ble_eq_true rfl)⟩ (fun r1 => ?_)
  refine V_putR dJ5_init_d00df_14 rfl (ci := 12) (T := TJ4) rfl (by decide) fl_J5_15 rfl rfl (fun _ => rfl) (fun _ => rfl) (fun M2 => ?_)
  refine V_aload_n dJ5_init_d00df_17 rfl 0 rfl ?_
  refine V_iconst (x := 0) dJ5_init_d00df_18 rfl rfl ?_
  refine V_putB dJ5_init_d00df_19 rfl (ci := 12) (T := TJ4) rfl (by decide) fl_J5_22 rfl rfl (fun M3 => ?_)
  refine V_goto (q := 38) dJ5_init_d00df_22 (by decide) ?_
  exact V_vret dJ5_init_d00df_38 rfl rfl ⟨(Nat.le_of_ble_eq_true rfl), (Nat.le_of_ble_eq_true rfl)⟩
theorem k_J5_init_d00df (this : Nat) (a1 : Int32) (M : Mem) : K mi_J5_init_d00df [.ref this, .int a1] M (f_J5_init_d00df this a1 M) wV := K_of_V ok_J5_init_d00df (Nat.le_of_ble_eq_true rfl) (v_J5_init_d00df this a1 M)
theorem o_J5_init_d00df {this : Nat} {a1 : Int32} {M : Mem} {x} (h : f_J5_init_d00df this a1 M = some x) : isO M 12 this = true := (ob_of h).1
theorem dJ9_max_7cf53_0 : decode cJ9_max_7cf53 0 = .ok (.iload_n 0, 1) := by decide +kernel
theorem dJ9_max_7cf53_1 : decode cJ9_max_7cf53 1 = .ok (.iload_n 1, 1) := by decide +kernel
theorem dJ9_max_7cf53_2 : decode cJ9_max_7cf53 2 = .ok (.if_icmp .lt 7, 3) := by decide +kernel
theorem dJ9_max_7cf53_5 : decode cJ9_max_7cf53 5 = .ok (.iload_n 0, 1) := by decide +kernel
theorem dJ9_max_7cf53_6 : decode cJ9_max_7cf53 6 = .ok (.goto 4, 3) := by decide +kernel
theorem dJ9_max_7cf53_9 : decode cJ9_max_7cf53 9 = .ok (.iload_n 1, 1) := by decide +kernel
theorem dJ9_max_7cf53_10 : decode cJ9_max_7cf53 10 = .ok (.ireturn, 1) := by decide +kernel
def mi_J9_max_7cf53 : MI := (RJ9, yJ9_max_7cf53, cJ9_max_7cf53, 2, some .int, [], { frames := 1, cells := 0, slots := 0, locals := 12 })
theorem ok_J9_max_7cf53 : mOK mi_J9_max_7cf53 2 := ⟨rfl, cw_J9_max_7cf53, ini_J9, ⟨rfl, by decide +kernel⟩, by decide, by decide, rfl⟩
theorem v_J9_max_7cf53 (a0 : Int32) (a1 : Int32) (M : Mem) : V mi_J9_max_7cf53 0 [(0, .int a0), (1, .int a1)] [] M 0 0 (f_J9_max_7cf53 a0 a1 M) (eI M) := by
  unfold f_J9_max_7cf53
  refine V_iload_n dJ9_max_7cf53_0 rfl 0 rfl ?_
  refine V_iload_n dJ9_max_7cf53_1 rfl 1 rfl ?_
  refine V_icmp_lt (q := 9) (q2 := 5) dJ9_max_7cf53_2 (by decide) rfl ?_ ?_
  · refine V_iload_n dJ9_max_7cf53_9 rfl 1 rfl ?_
    exact V_iret dJ9_max_7cf53_10 rfl rfl ⟨(Nat.le_of_ble_eq_true rfl), (Nat.le_of_ble_eq_true rfl)⟩
  · refine V_iload_n dJ9_max_7cf53_5 rfl 0 rfl ?_
    refine V_goto (q := 10) dJ9_max_7cf53_6 (by decide) ?_
    exact V_iret dJ9_max_7cf53_10 rfl rfl ⟨(Nat.le_of_ble_eq_true rfl), (Nat.le_of_ble_eq_true rfl)⟩
theorem k_J9_max_7cf53 (a0 : Int32) (a1 : Int32) (M : Mem) : K mi_J9_max_7cf53 [.int a0, .int a1] M (f_J9_max_7cf53 a0 a1 M) (eI M) := K_of_V ok_J9_max_7cf53 (Nat.le_of_ble_eq_true rfl) (v_J9_max_7cf53 a0 a1 M)
theorem dJ8_newLength_cabcc_0 : decode cJ8_newLength_cabcc 0 = .ok (.iload_n 0, 1) := by decide +kernel
theorem dJ8_newLength_cabcc_1 : decode cJ8_newLength_cabcc 1 = .ok (.iload_n 1, 1) := by decide +kernel
theorem dJ8_newLength_cabcc_2 : decode cJ8_newLength_cabcc 2 = .ok (.iload_n 2, 1) := by decide +kernel
theorem dJ8_newLength_cabcc_3 : decode cJ8_newLength_cabcc 3 = .ok (.invokestatic 194, 3) := by decide +kernel
theorem dJ8_newLength_cabcc_6 : decode cJ8_newLength_cabcc 6 = .ok (.iadd, 1) := by decide +kernel
theorem dJ8_newLength_cabcc_7 : decode cJ8_newLength_cabcc 7 = .ok (.istore_n 3, 1) := by decide +kernel
theorem dJ8_newLength_cabcc_8 : decode cJ8_newLength_cabcc 8 = .ok (.iconst 0, 1) := by decide +kernel
theorem dJ8_newLength_cabcc_9 : decode cJ8_newLength_cabcc 9 = .ok (.iload_n 3, 1) := by decide +kernel
theorem dJ8_newLength_cabcc_10 : decode cJ8_newLength_cabcc 10 = .ok (.if_icmp .ge 11, 3) := by decide +kernel
theorem dJ8_newLength_cabcc_13 : decode cJ8_newLength_cabcc 13 = .ok (.iload_n 3, 1) := by decide +kernel
theorem dJ8_newLength_cabcc_14 : decode cJ8_newLength_cabcc 14 = .ok (.ldc 200, 2) := by decide +kernel
theorem dJ8_newLength_cabcc_16 : decode cJ8_newLength_cabcc 16 = .ok (.if_icmp .gt 5, 3) := by decide +kernel
theorem dJ8_newLength_cabcc_19 : decode cJ8_newLength_cabcc 19 = .ok (.iload_n 3, 1) := by decide +kernel
theorem dJ8_newLength_cabcc_20 : decode cJ8_newLength_cabcc 20 = .ok (.ireturn, 1) := by decide +kernel
theorem dJ8_newLength_cabcc_21 : decode cJ8_newLength_cabcc 21 = .ok (.iload_n 0, 1) := by decide +kernel
theorem dJ8_newLength_cabcc_22 : decode cJ8_newLength_cabcc 22 = .ok (.iload_n 1, 1) := by decide +kernel
theorem dJ8_newLength_cabcc_23 : decode cJ8_newLength_cabcc 23 = .ok (.invokestatic 201, 3) := by decide +kernel
theorem dJ8_newLength_cabcc_26 : decode cJ8_newLength_cabcc 26 = .ok (.ireturn, 1) := by decide +kernel
def mi_J8_newLength_cabcc : MI := (RJ8, yJ8_newLength_cabcc, cJ8_newLength_cabcc, 4, some .int, [], { frames := 2, cells := 0, slots := 0, locals := 33 })
theorem ok_J8_newLength_cabcc : mOK mi_J8_newLength_cabcc 3 := ⟨rfl, cw_J8_newLength_cabcc, ini_J8, ⟨rfl, by decide⟩, by decide, by decide, rfl⟩
theorem v_J8_newLength_cabcc_21 (l0 : Int32) (l1 : Int32) (M : Mem) : V mi_J8_newLength_cabcc 21 [(0, .int l0), (1, .int l1)] [] M 0 0 (f_J8_newLength_cabcc_21 l0 l1 M) (eI M) := by
  unfold f_J8_newLength_cabcc_21
  refine V_iload_n dJ8_newLength_cabcc_21 rfl 0 rfl ?_
  refine V_iload_n dJ8_newLength_cabcc_22 rfl 1 rfl ?_
  exact V_none
theorem v_J8_newLength_cabcc (a0 : Int32) (a1 : Int32) (a2 : Int32) (M : Mem) : V mi_J8_newLength_cabcc 0 [(0, .int a0), (1, .int a1), (2, .int a2)] [] M 0 0 (f_J8_newLength_cabcc a0 a1 a2 M) (eI M) := by
  unfold f_J8_newLength_cabcc
  refine V_iload_n dJ8_newLength_cabcc_0 rfl 0 rfl ?_
  refine V_iload_n dJ8_newLength_cabcc_1 rfl 1 rfl ?_
  refine V_iload_n dJ8_newLength_cabcc_2 rfl 2 rfl ?_
  refine V_cSeI (As := [.int a1, .int a2]) (k_J9_max_7cf53 a1 a2 M) ok_J9_max_7cf53 sm_J9_max_7cf53 ml_J8_194 ⟨⟨(Nat.le_of_ble_eq_true rfl), (Nat.le_of_ble_eq_true rfl)⟩, (Nat.le_of_ble_eq_true rfl), (Nat.le_of_ble_eq_true rfl)⟩ dJ8_newLength_cabcc_3 rfl rfl rfl (Nat.le_of_ble_eq_true rfl) rfl rfl (fun x1 => ?_)
  refine V_iadd dJ8_newLength_cabcc_6 rfl ?_
  refine V_istore_n (L' := [(0, .int a0), (1, .int a1), (2, .int a2), (3, .int (a0 + x1))]) dJ8_newLength_cabcc_7 rfl (by decide) rfl ?_
  refine V_iconst (x := 0) dJ8_newLength_cabcc_8 rfl rfl ?_
  refine V_iload_n dJ8_newLength_cabcc_9 rfl 3 rfl ?_
  refine V_icmp_ge (q := 21) (q2 := 13) dJ8_newLength_cabcc_10 (by decide) rfl ?_ ?_
  · exact V_sub [0, 1] rfl (v_J8_newLength_cabcc_21 a0 a1 M)
  · refine V_iload_n dJ8_newLength_cabcc_13 rfl 3 rfl ?_
    refine V_ldc (x := 2147483639) kc_J8_200 dJ8_newLength_cabcc_14 rfl ?_
    refine V_icmp_gt (q := 21) (q2 := 19) dJ8_newLength_cabcc_16 (by decide) rfl ?_ ?_
    · exact V_sub [0, 1] rfl (v_J8_newLength_cabcc_21 a0 a1 M)
    · refine V_iload_n dJ8_newLength_cabcc_19 rfl 3 rfl ?_
      exact V_iret dJ8_newLength_cabcc_20 rfl rfl ⟨(Nat.le_of_ble_eq_true rfl), (Nat.le_of_ble_eq_true rfl)⟩
theorem k_J8_newLength_cabcc (a0 : Int32) (a1 : Int32) (a2 : Int32) (M : Mem) : K mi_J8_newLength_cabcc [.int a0, .int a1, .int a2] M (f_J8_newLength_cabcc a0 a1 a2 M) (eI M) := K_of_V ok_J8_newLength_cabcc (Nat.le_of_ble_eq_true rfl) (v_J8_newLength_cabcc a0 a1 a2 M)
theorem dJ5_newCapacity_0f7a4_0 : decode cJ5_newCapacity_0f7a4 0 = .ok (.aload_n 0, 1) := by decide +kernel
theorem dJ5_newCapacity_0f7a4_1 : decode cJ5_newCapacity_0f7a4 1 = .ok (.getfield 15, 3) := by decide +kernel
theorem dJ5_newCapacity_0f7a4_4 : decode cJ5_newCapacity_0f7a4 4 = .ok (.arraylength, 1) := by decide +kernel
theorem dJ5_newCapacity_0f7a4_5 : decode cJ5_newCapacity_0f7a4 5 = .ok (.istore_n 2, 1) := by decide +kernel
theorem dJ5_newCapacity_0f7a4_6 : decode cJ5_newCapacity_0f7a4 6 = .ok (.iload_n 1, 1) := by decide +kernel
theorem dJ5_newCapacity_0f7a4_7 : decode cJ5_newCapacity_0f7a4 7 = .ok (.aload_n 0, 1) := by decide +kernel
theorem dJ5_newCapacity_0f7a4_8 : decode cJ5_newCapacity_0f7a4 8 = .ok (.getfield 22, 3) := by decide +kernel
theorem dJ5_newCapacity_0f7a4_11 : decode cJ5_newCapacity_0f7a4 11 = .ok (.ishl, 1) := by decide +kernel
theorem dJ5_newCapacity_0f7a4_12 : decode cJ5_newCapacity_0f7a4 12 = .ok (.istore_n 3, 1) := by decide +kernel
theorem dJ5_newCapacity_0f7a4_13 : decode cJ5_newCapacity_0f7a4 13 = .ok (.iload_n 3, 1) := by decide +kernel
theorem dJ5_newCapacity_0f7a4_14 : decode cJ5_newCapacity_0f7a4 14 = .ok (.iload_n 2, 1) := by decide +kernel
theorem dJ5_newCapacity_0f7a4_15 : decode cJ5_newCapacity_0f7a4 15 = .ok (.isub, 1) := by decide +kernel
theorem dJ5_newCapacity_0f7a4_16 : decode cJ5_newCapacity_0f7a4 16 = .ok (.istore 4, 2) := by decide +kernel
theorem dJ5_newCapacity_0f7a4_18 : decode cJ5_newCapacity_0f7a4 18 = .ok (.iload_n 2, 1) := by decide +kernel
theorem dJ5_newCapacity_0f7a4_19 : decode cJ5_newCapacity_0f7a4 19 = .ok (.iload 4, 2) := by decide +kernel
theorem dJ5_newCapacity_0f7a4_21 : decode cJ5_newCapacity_0f7a4 21 = .ok (.iload_n 2, 1) := by decide +kernel
theorem dJ5_newCapacity_0f7a4_22 : decode cJ5_newCapacity_0f7a4 22 = .ok (.iconst 2, 1) := by decide +kernel
theorem dJ5_newCapacity_0f7a4_23 : decode cJ5_newCapacity_0f7a4 23 = .ok (.aload_n 0, 1) := by decide +kernel
theorem dJ5_newCapacity_0f7a4_24 : decode cJ5_newCapacity_0f7a4 24 = .ok (.getfield 22, 3) := by decide +kernel
theorem dJ5_newCapacity_0f7a4_27 : decode cJ5_newCapacity_0f7a4 27 = .ok (.ishl, 1) := by decide +kernel
theorem dJ5_newCapacity_0f7a4_28 : decode cJ5_newCapacity_0f7a4 28 = .ok (.iadd, 1) := by decide +kernel
theorem dJ5_newCapacity_0f7a4_29 : decode cJ5_newCapacity_0f7a4 29 = .ok (.invokestatic 114, 3) := by decide +kernel
theorem dJ5_newCapacity_0f7a4_32 : decode cJ5_newCapacity_0f7a4 32 = .ok (.istore 5, 2) := by decide +kernel
theorem dJ5_newCapacity_0f7a4_34 : decode cJ5_newCapacity_0f7a4 34 = .ok (.iload 5, 2) := by decide +kernel
theorem dJ5_newCapacity_0f7a4_36 : decode cJ5_newCapacity_0f7a4 36 = .ok (.ldc 39, 2) := by decide +kernel
theorem dJ5_newCapacity_0f7a4_38 : decode cJ5_newCapacity_0f7a4 38 = .ok (.if_icmp .ne 13, 3) := by decide +kernel
theorem dJ5_newCapacity_0f7a4_41 : decode cJ5_newCapacity_0f7a4 41 = .ok (.new 120, 3) := by decide +kernel
theorem dJ5_newCapacity_0f7a4_44 : decode cJ5_newCapacity_0f7a4 44 = .ok (.dup, 1) := by decide +kernel
theorem dJ5_newCapacity_0f7a4_45 : decode cJ5_newCapacity_0f7a4 45 = .ok (.ldc 122, 2) := by decide +kernel
theorem dJ5_newCapacity_0f7a4_47 : decode cJ5_newCapacity_0f7a4 47 = .ok (.invokespecial 124, 3) := by decide +kernel
theorem dJ5_newCapacity_0f7a4_50 : decode cJ5_newCapacity_0f7a4 50 = .ok (.athrow, 1) := by decide +kernel
theorem dJ5_newCapacity_0f7a4_51 : decode cJ5_newCapacity_0f7a4 51 = .ok (.iload 5, 2) := by decide +kernel
theorem dJ5_newCapacity_0f7a4_53 : decode cJ5_newCapacity_0f7a4 53 = .ok (.aload_n 0, 1) := by decide +kernel
theorem dJ5_newCapacity_0f7a4_54 : decode cJ5_newCapacity_0f7a4 54 = .ok (.getfield 22, 3) := by decide +kernel
theorem dJ5_newCapacity_0f7a4_57 : decode cJ5_newCapacity_0f7a4 57 = .ok (.ishr, 1) := by decide +kernel
theorem dJ5_newCapacity_0f7a4_58 : decode cJ5_newCapacity_0f7a4 58 = .ok (.ireturn, 1) := by decide +kernel
def mi_J5_newCapacity_0f7a4 : MI := (RJ5, yJ5_newCapacity_0f7a4, cJ5_newCapacity_0f7a4, 6, some .int, [], { frames := 3, cells := 0, slots := 0, locals := 56 })
theorem ok_J5_newCapacity_0f7a4 : mOK mi_J5_newCapacity_0f7a4 1 := ⟨rfl, cw_J5_newCapacity_0f7a4, ini_J5, ⟨rfl, by decide⟩, by decide, by decide, rfl⟩
theorem v_J5_newCapacity_0f7a4 (this : Nat) (a1 : Int32) (M : Mem) : V mi_J5_newCapacity_0f7a4 0 [(0, .ref this), (1, .int a1)] [] M 0 0 (f_J5_newCapacity_0f7a4 this a1 M) (eI M) := by
  unfold f_J5_newCapacity_0f7a4
  refine V_ob fun _ _ => ?_
  refine V_aload_n dJ5_newCapacity_0f7a4_0 rfl 0 rfl ?_
  refine V_getR dJ5_newCapacity_0f7a4_1 rfl (ci := 12) (T := TJ4) rfl (by decide) fl_J5_15 (fun x1 => ?_)
  refine V_arraylength dJ5_newCapacity_0f7a4_4 rfl (fun x2 => ?_)
  refine V_istore_n (L' := [(0, .ref this), (1, .int a1), (2, .int x2)]) dJ5_newCapacity_0f7a4_5 rfl (by decide) rfl ?_
  refine V_iload_n dJ5_newCapacity_0f7a4_6 rfl 1 rfl ?_
  refine V_aload_n dJ5_newCapacity_0f7a4_7 rfl 0 rfl ?_
  refine V_getI dJ5_newCapacity_0f7a4_8 rfl (ci := 12) (T := TJ4) rfl (by decide) fl_J5_22 (fun x3 => ?_)
  refine V_ishl dJ5_newCapacity_0f7a4_11 rfl ?_
  refine V_istore_n (L' := [(0, .ref this), (1, .int a1), (2, .int x2), (3, .int (a1 <<< (x3 &&& 31)))]) dJ5_newCapacity_0f7a4_12 rfl (by decide) rfl ?_
  refine V_iload_n dJ5_newCapacity_0f7a4_13 rfl 3 rfl ?_
  refine V_iload_n dJ5_newCapacity_0f7a4_14 rfl 2 rfl ?_
  refine V_isub dJ5_newCapacity_0f7a4_15 rfl ?_
  refine V_istore (L' := [(0, .ref this), (1, .int a1), (2, .int x2), (3, .int (a1 <<< (x3 &&& 31))), (4, .int ((a1 <<< (x3 &&& 31)) - x2))]) dJ5_newCapacity_0f7a4_16 rfl (by decide) rfl ?_
  refine V_iload_n dJ5_newCapacity_0f7a4_18 rfl 2 rfl ?_
  refine V_iload dJ5_newCapacity_0f7a4_19 rfl 4 rfl ?_
  refine V_iload_n dJ5_newCapacity_0f7a4_21 rfl 2 rfl ?_
  refine V_iconst (x := 2) dJ5_newCapacity_0f7a4_22 rfl rfl ?_
  refine V_aload_n dJ5_newCapacity_0f7a4_23 rfl 0 rfl ?_
  refine V_getI dJ5_newCapacity_0f7a4_24 rfl (ci := 12) (T := TJ4) rfl (by decide) fl_J5_22 (fun x4 => ?_)
  refine V_ishl dJ5_newCapacity_0f7a4_27 rfl ?_
  refine V_iadd dJ5_newCapacity_0f7a4_28 rfl ?_
  refine V_cSeI (As := [.int x2, .int ((a1 <<< (x3 &&& 31)) - x2), .int (x2 + (2 <<< (x4 &&& 31)))]) (k_J8_newLength_cabcc x2 ((a1 <<< (x3 &&& 31)) - x2) (x2 + (2 <<< (x4 &&& 31))) M) ok_J8_newLength_cabcc sm_J8_newLength_cabcc ml_J5_114 ⟨⟨(Nat.le_of_ble_eq_true rfl), (Nat.le_of_ble_eq_true rfl)⟩, (Nat.le_of_ble_eq_true rfl), (Nat.le_of_ble_eq_true rfl)⟩ dJ5_newCapacity_0f7a4_29 rfl rfl rfl (Nat.le_of_ble_eq_true rfl) rfl rfl (fun x5 => ?_)
  refine V_istore (L' := [(0, .ref this), (1, .int a1), (2, .int x2), (3, .int (a1 <<< (x3 &&& 31))), (4, .int ((a1 <<< (x3 &&& 31)) - x2)), (5, .int x5)]) dJ5_newCapacity_0f7a4_32 rfl (by decide) rfl ?_
  refine V_iload dJ5_newCapacity_0f7a4_34 rfl 5 rfl ?_
  refine V_ldc (x := 2147483647) kc_J5_39 dJ5_newCapacity_0f7a4_36 rfl ?_
  refine V_icmp_ne (q := 51) (q2 := 41) dJ5_newCapacity_0f7a4_38 (by decide) rfl ?_ ?_
  · refine V_iload dJ5_newCapacity_0f7a4_51 rfl 5 rfl ?_
    refine V_aload_n dJ5_newCapacity_0f7a4_53 rfl 0 rfl ?_
    refine V_getI dJ5_newCapacity_0f7a4_54 rfl (ci := 12) (T := TJ4) rfl (by decide) fl_J5_22 (fun x6 => ?_)
    refine V_ishr dJ5_newCapacity_0f7a4_57 rfl ?_
    exact V_iret dJ5_newCapacity_0f7a4_58 rfl rfl ⟨(Nat.le_of_ble_eq_true rfl), (Nat.le_of_ble_eq_true rfl)⟩
  · exact V_none
theorem k_J5_newCapacity_0f7a4 (this : Nat) (a1 : Int32) (M : Mem) : K mi_J5_newCapacity_0f7a4 [.ref this, .int a1] M (f_J5_newCapacity_0f7a4 this a1 M) (eI M) := K_of_V ok_J5_newCapacity_0f7a4 (Nat.le_of_ble_eq_true rfl) (v_J5_newCapacity_0f7a4 this a1 M)
theorem o_J5_newCapacity_0f7a4 {this : Nat} {a1 : Int32} {M : Mem} {x} (h : f_J5_newCapacity_0f7a4 this a1 M = some x) : isO M 12 this = true := (ob_of h).1
theorem dJ9_min_7cf53_0 : decode cJ9_min_7cf53 0 = .ok (.iload_n 0, 1) := by decide +kernel
theorem dJ9_min_7cf53_1 : decode cJ9_min_7cf53 1 = .ok (.iload_n 1, 1) := by decide +kernel
theorem dJ9_min_7cf53_2 : decode cJ9_min_7cf53 2 = .ok (.if_icmp .gt 7, 3) := by decide +kernel
theorem dJ9_min_7cf53_5 : decode cJ9_min_7cf53 5 = .ok (.iload_n 0, 1) := by decide +kernel
theorem dJ9_min_7cf53_6 : decode cJ9_min_7cf53 6 = .ok (.goto 4, 3) := by decide +kernel
theorem dJ9_min_7cf53_9 : decode cJ9_min_7cf53 9 = .ok (.iload_n 1, 1) := by decide +kernel
theorem dJ9_min_7cf53_10 : decode cJ9_min_7cf53 10 = .ok (.ireturn, 1) := by decide +kernel
def mi_J9_min_7cf53 : MI := (RJ9, yJ9_min_7cf53, cJ9_min_7cf53, 2, some .int, [], { frames := 1, cells := 0, slots := 0, locals := 12 })
theorem ok_J9_min_7cf53 : mOK mi_J9_min_7cf53 2 := ⟨rfl, cw_J9_min_7cf53, ini_J9, ⟨rfl, by decide +kernel⟩, by decide, by decide, rfl⟩
theorem v_J9_min_7cf53 (a0 : Int32) (a1 : Int32) (M : Mem) : V mi_J9_min_7cf53 0 [(0, .int a0), (1, .int a1)] [] M 0 0 (f_J9_min_7cf53 a0 a1 M) (eI M) := by
  unfold f_J9_min_7cf53
  refine V_iload_n dJ9_min_7cf53_0 rfl 0 rfl ?_
  refine V_iload_n dJ9_min_7cf53_1 rfl 1 rfl ?_
  refine V_icmp_gt (q := 9) (q2 := 5) dJ9_min_7cf53_2 (by decide) rfl ?_ ?_
  · refine V_iload_n dJ9_min_7cf53_9 rfl 1 rfl ?_
    exact V_iret dJ9_min_7cf53_10 rfl rfl ⟨(Nat.le_of_ble_eq_true rfl), (Nat.le_of_ble_eq_true rfl)⟩
  · refine V_iload_n dJ9_min_7cf53_5 rfl 0 rfl ?_
    refine V_goto (q := 10) dJ9_min_7cf53_6 (by decide) ?_
    exact V_iret dJ9_min_7cf53_10 rfl rfl ⟨(Nat.le_of_ble_eq_true rfl), (Nat.le_of_ble_eq_true rfl)⟩
theorem k_J9_min_7cf53 (a0 : Int32) (a1 : Int32) (M : Mem) : K mi_J9_min_7cf53 [.int a0, .int a1] M (f_J9_min_7cf53 a0 a1 M) (eI M) := K_of_V ok_J9_min_7cf53 (Nat.le_of_ble_eq_true rfl) (v_J9_min_7cf53 a0 a1 M)
theorem dJ7_copyOf_9075b_0 : decode cJ7_copyOf_9075b 0 = .ok (.iload_n 1, 1) := by decide +kernel
theorem dJ7_copyOf_9075b_1 : decode cJ7_copyOf_9075b 1 = .ok (.aload_n 0, 1) := by decide +kernel
theorem dJ7_copyOf_9075b_2 : decode cJ7_copyOf_9075b 2 = .ok (.arraylength, 1) := by decide +kernel
theorem dJ7_copyOf_9075b_3 : decode cJ7_copyOf_9075b 3 = .ok (.if_icmp .ne 11, 3) := by decide +kernel
theorem dJ7_copyOf_9075b_6 : decode cJ7_copyOf_9075b 6 = .ok (.aload_n 0, 1) := by decide +kernel
theorem dJ7_copyOf_9075b_7 : decode cJ7_copyOf_9075b 7 = .ok (.invokevirtual 310, 3) := by decide +kernel
theorem dJ7_copyOf_9075b_10 : decode cJ7_copyOf_9075b 10 = .ok (.checkcast 311, 3) := by decide +kernel
theorem dJ7_copyOf_9075b_13 : decode cJ7_copyOf_9075b 13 = .ok (.areturn, 1) := by decide +kernel
theorem dJ7_copyOf_9075b_14 : decode cJ7_copyOf_9075b 14 = .ok (.iload_n 1, 1) := by decide +kernel
theorem dJ7_copyOf_9075b_15 : decode cJ7_copyOf_9075b 15 = .ok (.newarray .byte, 2) := by decide +kernel
theorem dJ7_copyOf_9075b_17 : decode cJ7_copyOf_9075b 17 = .ok (.astore_n 2, 1) := by decide +kernel
theorem dJ7_copyOf_9075b_18 : decode cJ7_copyOf_9075b 18 = .ok (.aload_n 0, 1) := by decide +kernel
theorem dJ7_copyOf_9075b_19 : decode cJ7_copyOf_9075b 19 = .ok (.iconst 0, 1) := by decide +kernel
theorem dJ7_copyOf_9075b_20 : decode cJ7_copyOf_9075b 20 = .ok (.aload_n 2, 1) := by decide +kernel
theorem dJ7_copyOf_9075b_21 : decode cJ7_copyOf_9075b 21 = .ok (.iconst 0, 1) := by decide +kernel
theorem dJ7_copyOf_9075b_22 : decode cJ7_copyOf_9075b 22 = .ok (.aload_n 0, 1) := by decide +kernel
theorem dJ7_copyOf_9075b_23 : decode cJ7_copyOf_9075b 23 = .ok (.arraylength, 1) := by decide +kernel
theorem dJ7_copyOf_9075b_24 : decode cJ7_copyOf_9075b 24 = .ok (.iload_n 1, 1) := by decide +kernel
theorem dJ7_copyOf_9075b_25 : decode cJ7_copyOf_9075b 25 = .ok (.invokestatic 304, 3) := by decide +kernel
theorem dJ7_copyOf_9075b_28 : decode cJ7_copyOf_9075b 28 = .ok (.invokestatic 150, 3) := by decide +kernel
theorem dJ7_copyOf_9075b_31 : decode cJ7_copyOf_9075b 31 = .ok (.aload_n 2, 1) := by decide +kernel
theorem dJ7_copyOf_9075b_32 : decode cJ7_copyOf_9075b 32 = .ok (.areturn, 1) := by decide +kernel
def mi_J7_copyOf_9075b : MI := (RJ7, yJ7_copyOf_9075b, cJ7_copyOf_9075b, 3, some (.array .byte), [], { frames := 2, cells := 1, slots := 1024, locals := 60 })
theorem ok_J7_copyOf_9075b : mOK mi_J7_copyOf_9075b 2 := ⟨rfl, cw_J7_copyOf_9075b, ini_J7, ⟨rfl, by decide⟩, by decide, by decide, rfl⟩
theorem v_J7_copyOf_9075b (a0 : Nat) (a1 : Int32) (M : Mem) : V mi_J7_copyOf_9075b 0 [(0, .ref a0), (1, .int a1)] [] M 0 0 (f_J7_copyOf_9075b a0 a1 M) wR := by
  unfold f_J7_copyOf_9075b
  refine V_iload_n dJ7_copyOf_9075b_0 rfl 1 rfl ?_
  refine V_aload_n dJ7_copyOf_9075b_1 rfl 0 rfl ?_
  refine V_arraylength dJ7_copyOf_9075b_2 rfl (fun x1 => ?_)
  refine V_icmp_ne (q := 14) (q2 := 6) dJ7_copyOf_9075b_3 (by decide) rfl ?_ ?_
  · refine V_iload_n dJ7_copyOf_9075b_14 rfl 1 rfl ?_
    refine V_newarrayD dJ7_copyOf_9075b_15 rfl (t := 2) (N := 1024) (x := fun m => (m, .inl (fun _ => 0))) rfl ar_2 (Nat.le_of_ble_eq_true rfl) (fun _ _ _ => rfl) (fun _ _ h => h) ⟨(Nat.le_of_ble_eq_true rfl), (Nat.le_of_ble_eq_true rfl)⟩ (fun r2 => ?_)
    refine V_astore_n (L' := [(0, .ref a0), (1, .int a1), (2, .ref r2)]) dJ7_copyOf_9075b_17 rfl (by decide) rfl ?_
    refine V_aload_n dJ7_copyOf_9075b_18 rfl 0 rfl ?_
    refine V_iconst (x := 0) dJ7_copyOf_9075b_19 rfl rfl ?_
    refine V_aload_n dJ7_copyOf_9075b_20 rfl 2 rfl ?_
    refine V_iconst (x := 0) dJ7_copyOf_9075b_21 rfl rfl ?_
    refine V_aload_n dJ7_copyOf_9075b_22 rfl 0 rfl ?_
    refine V_arraylength dJ7_copyOf_9075b_23 rfl (fun x3 => ?_)
    refine V_iload_n dJ7_copyOf_9075b_24 rfl 1 rfl ?_
    refine V_cSeI (As := [.int x3, .int a1]) (k_J9_min_7cf53 x3 a1 (mnew M (.inl (2, (a1.toNatClampNeg, .inl (fun _ => 0)))))) ok_J9_min_7cf53 sm_J9_min_7cf53 ml_J7_304 ⟨⟨(Nat.le_of_ble_eq_true rfl), (Nat.le_of_ble_eq_true rfl)⟩, (Nat.le_of_ble_eq_true rfl), (Nat.le_of_ble_eq_true rfl)⟩ dJ7_copyOf_9075b_25 rfl rfl rfl (Nat.le_of_ble_eq_true rfl) rfl rfl (fun x4 => ?_)
    refine V_bcp ml_J7_150 nat_acp sta_acp ini_Sys dJ7_copyOf_9075b_28 rfl ⟨(Nat.le_of_ble_eq_true rfl), (Nat.le_of_ble_eq_true rfl)⟩ (Nat.le_of_ble_eq_true rfl) (fun M5 => ?_)
    refine V_aload_n dJ7_copyOf_9075b_31 rfl 2 rfl ?_
    exact V_aret (v := some r2) dJ7_copyOf_9075b_32 rfl (Or.inr ⟨_, rfl⟩) rfl ⟨(Nat.le_of_ble_eq_true rfl), (Nat.le_of_ble_eq_true rfl)⟩
  · refine V_aload_n dJ7_copyOf_9075b_6 rfl 0 rfl ?_
    refine V_cln ml_J7_310 cln_sm cln_na cln_im cln_se cln_ca dJ7_copyOf_9075b_7 rfl ⟨(Nat.le_of_ble_eq_true rfl), (Nat.le_of_ble_eq_true rfl)⟩ (Nat.le_of_ble_eq_true rfl) ⟨(Nat.le_of_ble_eq_true rfl), (Nat.le_of_ble_eq_true rfl)⟩ (fun x6 r7 => ?_)
    refine V_castB cl_J7_311 dJ7_copyOf_9075b_10 rfl ?_
    exact V_aret (v := some r7) dJ7_copyOf_9075b_13 rfl (Or.inr ⟨_, rfl⟩) rfl ⟨(Nat.le_of_ble_eq_true rfl), (Nat.le_of_ble_eq_true rfl)⟩
theorem k_J7_copyOf_9075b (a0 : Nat) (a1 : Int32) (M : Mem) : K mi_J7_copyOf_9075b [.ref a0, .int a1] M (f_J7_copyOf_9075b a0 a1 M) wR := K_of_V ok_J7_copyOf_9075b (Nat.le_of_ble_eq_true rfl) (v_J7_copyOf_9075b a0 a1 M)
theorem dJ5_ensureCapacityInternal_d00df_0 : decode cJ5_ensureCapacityInternal_d00df 0 = .ok (.aload_n 0, 1) := by decide +kernel
theorem dJ5_ensureCapacityInternal_d00df_1 : decode cJ5_ensureCapacityInternal_d00df 1 = .ok (.getfield 15, 3) := by decide +kernel
theorem dJ5_ensureCapacityInternal_d00df_4 : decode cJ5_ensureCapacityInternal_d00df 4 = .ok (.arraylength, 1) := by decide +kernel
theorem dJ5_ensureCapacityInternal_d00df_5 : decode cJ5_ensureCapacityInternal_d00df 5 = .ok (.aload_n 0, 1) := by decide +kernel
theorem dJ5_ensureCapacityInternal_d00df_6 : decode cJ5_ensureCapacityInternal_d00df 6 = .ok (.getfield 22, 3) := by decide +kernel
theorem dJ5_ensureCapacityInternal_d00df_9 : decode cJ5_ensureCapacityInternal_d00df 9 = .ok (.ishr, 1) := by decide +kernel
theorem dJ5_ensureCapacityInternal_d00df_10 : decode cJ5_ensureCapacityInternal_d00df 10 = .ok (.istore_n 2, 1) := by decide +kernel
theorem dJ5_ensureCapacityInternal_d00df_11 : decode cJ5_ensureCapacityInternal_d00df 11 = .ok (.iload_n 1, 1) := by decide +kernel
theorem dJ5_ensureCapacityInternal_d00df_12 : decode cJ5_ensureCapacityInternal_d00df 12 = .ok (.iload_n 2, 1) := by decide +kernel
theorem dJ5_ensureCapacityInternal_d00df_13 : decode cJ5_ensureCapacityInternal_d00df 13 = .ok (.isub, 1) := by decide +kernel
theorem dJ5_ensureCapacityInternal_d00df_14 : decode cJ5_ensureCapacityInternal_d00df 14 = .ok (.ifCond .le 24, 3) := by decide +kernel
theorem dJ5_ensureCapacityInternal_d00df_17 : decode cJ5_ensureCapacityInternal_d00df 17 = .ok (.aload_n 0, 1) := by decide +kernel
theorem dJ5_ensureCapacityInternal_d00df_18 : decode cJ5_ensureCapacityInternal_d00df 18 = .ok (.aload_n 0, 1) := by decide +kernel
theorem dJ5_ensureCapacityInternal_d00df_19 : decode cJ5_ensureCapacityInternal_d00df 19 = .ok (.getfield 15, 3) := by decide +kernel
theorem dJ5_ensureCapacityInternal_d00df_22 : decode cJ5_ensureCapacityInternal_d00df 22 = .ok (.aload_n 0, 1) := by decide +kernel
theorem dJ5_ensureCapacityInternal_d00df_23 : decode cJ5_ensureCapacityInternal_d00df 23 = .ok (.iload_n 1, 1) := by decide +kernel
theorem dJ5_ensureCapacityInternal_d00df_24 : decode cJ5_ensureCapacityInternal_d00df 24 = .ok (.invokevirtual 104, 3) := by decide +kernel
theorem dJ5_ensureCapacityInternal_d00df_27 : decode cJ5_ensureCapacityInternal_d00df 27 = .ok (.aload_n 0, 1) := by decide +kernel
theorem dJ5_ensureCapacityInternal_d00df_28 : decode cJ5_ensureCapacityInternal_d00df 28 = .ok (.getfield 22, 3) := by decide +kernel
theorem dJ5_ensureCapacityInternal_d00df_31 : decode cJ5_ensureCapacityInternal_d00df 31 = .ok (.ishl, 1) := by decide +kernel
theorem dJ5_ensureCapacityInternal_d00df_32 : decode cJ5_ensureCapacityInternal_d00df 32 = .ok (.invokestatic 108, 3) := by decide +kernel
theorem dJ5_ensureCapacityInternal_d00df_35 : decode cJ5_ensureCapacityInternal_d00df 35 = .ok (.putfield 15, 3) := by decide +kernel
theorem dJ5_ensureCapacityInternal_d00df_38 : decode cJ5_ensureCapacityInternal_d00df 38 = .ok (.return_, 1) := by decide +kernel
def mi_J5_ensureCapacityInternal_d00df : MI := (RJ5, yJ5_ensureCapacityInternal_d00df, cJ5_ensureCapacityInternal_d00df, 3, none, [], { frames := 4, cells := 1, slots := 1024, locals := 82 })
theorem ok_J5_ensureCapacityInternal_d00df : mOK mi_J5_ensureCapacityInternal_d00df 1 := ⟨rfl, cw_J5_ensureCapacityInternal_d00df, ini_J5, ⟨rfl, by decide⟩, by decide, by decide, rfl⟩
theorem v_J5_ensureCapacityInternal_d00df (this : Nat) (a1 : Int32) (M : Mem) : V mi_J5_ensureCapacityInternal_d00df 0 [(0, .ref this), (1, .int a1)] [] M 0 0 (f_J5_ensureCapacityInternal_d00df this a1 M) wV := by
  unfold f_J5_ensureCapacityInternal_d00df
  refine V_ob fun _ _ => ?_
  refine V_aload_n dJ5_ensureCapacityInternal_d00df_0 rfl 0 rfl ?_
  refine V_getR dJ5_ensureCapacityInternal_d00df_1 rfl (ci := 12) (T := TJ4) rfl (by decide) fl_J5_15 (fun x1 => ?_)
  refine V_arraylength dJ5_ensureCapacityInternal_d00df_4 rfl (fun x2 => ?_)
  refine V_aload_n dJ5_ensureCapacityInternal_d00df_5 rfl 0 rfl ?_
  refine V_getI dJ5_ensureCapacityInternal_d00df_6 rfl (ci := 12) (T := TJ4) rfl (by decide) fl_J5_22 (fun x3 => ?_)
  refine V_ishr dJ5_ensureCapacityInternal_d00df_9 rfl ?_
  refine V_istore_n (L' := [(0, .ref this), (1, .int a1), (2, .int (x2 >>> (x3 &&& 31)))]) dJ5_ensureCapacityInternal_d00df_10 rfl (by decide) rfl ?_
  refine V_iload_n dJ5_ensureCapacityInternal_d00df_11 rfl 1 rfl ?_
  refine V_iload_n dJ5_ensureCapacityInternal_d00df_12 rfl 2 rfl ?_
  refine V_isub dJ5_ensureCapacityInternal_d00df_13 rfl ?_
  refine V_if_le (q := 38) (q2 := 17) dJ5_ensureCapacityInternal_d00df_14 (by decide) rfl ?_ ?_
  · exact V_vret dJ5_ensureCapacityInternal_d00df_38 rfl rfl ⟨(Nat.le_of_ble_eq_true rfl), (Nat.le_of_ble_eq_true rfl)⟩
  · refine V_aload_n dJ5_ensureCapacityInternal_d00df_17 rfl 0 rfl ?_
    refine V_aload_n dJ5_ensureCapacityInternal_d00df_18 rfl 0 rfl ?_
    refine V_getR dJ5_ensureCapacityInternal_d00df_19 rfl (ci := 12) (T := TJ4) rfl (by decide) fl_J5_15 (fun x4 => ?_)
    refine V_aload_n dJ5_ensureCapacityInternal_d00df_22 rfl 0 rfl ?_
    refine V_iload_n dJ5_ensureCapacityInternal_d00df_23 rfl 1 rfl ?_
    refine V_cGeI (CRun.V (C := RJ4) (As := [.int a1]) (k_J5_newCapacity_0f7a4 this a1 M) (fun _ h => RC.obj (ci := 12) (T := TJ4) (N := 4) rfl (o_J5_newCapacity_0f7a4 h)) ok_J5_newCapacity_0f7a4 im_J5_newCapacity_0f7a4 (selOK.priv (N := 4) ins_J4 pm_J5_newCapacity_0f7a4 im_J5_newCapacity_0f7a4 sm9_J5_newCapacity_0f7a4) ml_J5_104 ⟨⟨(Nat.le_of_ble_eq_true rfl), (Nat.le_of_ble_eq_true rfl)⟩, (Nat.le_of_ble_eq_true rfl), (Nat.le_of_ble_eq_true rfl)⟩ dJ5_ensureCapacityInternal_d00df_24 rfl rfl (Nat.le_of_ble_eq_true rfl)) rfl rfl rfl (fun x5 => ?_)
    refine V_aload_n dJ5_ensureCapacityInternal_d00df_27 rfl 0 rfl ?_
    refine V_getI dJ5_ensureCapacityInternal_d00df_28 rfl (ci := 12) (T := TJ4) rfl (by decide) fl_J5_22 (fun x6 => ?_)
    refine V_ishl dJ5_ensureCapacityInternal_d00df_31 rfl ?_
    refine V_cSwR (As := [.ref x4, .int (x5 <<< (x6 &&& 31))]) (k_J7_copyOf_9075b x4 (x5 <<< (x6 &&& 31)) M) ok_J7_copyOf_9075b sm_J7_copyOf_9075b ml_J5_108 ⟨⟨(Nat.le_of_ble_eq_true rfl), (Nat.le_of_ble_eq_true rfl)⟩, (Nat.le_of_ble_eq_true rfl), (Nat.le_of_ble_eq_true rfl)⟩ dJ5_ensureCapacityInternal_d00df_32 rfl rfl rfl (Nat.le_of_ble_eq_true rfl) rfl rfl (fun x7 M8 => ?_)
    refine V_putR dJ5_ensureCapacityInternal_d00df_35 rfl (ci := 12) (T := TJ4) rfl (by decide) fl_J5_15 rfl rfl (fun _ => rfl) (fun _ => rfl) (fun M9 => ?_)
    exact V_vret dJ5_ensureCapacityInternal_d00df_38 rfl rfl ⟨(Nat.le_of_ble_eq_true rfl), (Nat.le_of_ble_eq_true rfl)⟩
theorem k_J5_ensureCapacityInternal_d00df (this : Nat) (a1 : Int32) (M : Mem) : K mi_J5_ensureCapacityInternal_d00df [.ref this, .int a1] M (f_J5_ensureCapacityInternal_d00df this a1 M) wV := K_of_V ok_J5_ensureCapacityInternal_d00df (Nat.le_of_ble_eq_true rfl) (v_J5_ensureCapacityInternal_d00df this a1 M)
theorem o_J5_ensureCapacityInternal_d00df {this : Nat} {a1 : Int32} {M : Mem} {x} (h : f_J5_ensureCapacityInternal_d00df this a1 M = some x) : isO M 12 this = true := (ob_of h).1
theorem dJ5_inflateIfNeededFor_a7421_0 : decode cJ5_inflateIfNeededFor_a7421 0 = .ok (.getstatic 18, 3) := by decide +kernel
theorem dJ5_inflateIfNeededFor_a7421_3 : decode cJ5_inflateIfNeededFor_a7421 3 = .ok (.ifCond .eq 18, 3) := by decide +kernel
theorem dJ5_inflateIfNeededFor_a7421_6 : decode cJ5_inflateIfNeededFor_a7421 6 = .ok (.aload_n 0, 1) := by decide +kernel
theorem dJ5_inflateIfNeededFor_a7421_7 : decode cJ5_inflateIfNeededFor_a7421 7 = .ok (.getfield 22, 3) := by decide +kernel
theorem dJ5_inflateIfNeededFor_a7421_10 : decode cJ5_inflateIfNeededFor_a7421 10 = .ok (.aload_n 1, 1) := by decide +kernel
theorem dJ5_inflateIfNeededFor_a7421_11 : decode cJ5_inflateIfNeededFor_a7421 11 = .ok (.invokevirtual 40, 3) := by decide +kernel
theorem dJ5_inflateIfNeededFor_a7421_14 : decode cJ5_inflateIfNeededFor_a7421 14 = .ok (.if_icmp .eq 7, 3) := by decide +kernel
theorem dJ5_inflateIfNeededFor_a7421_17 : decode cJ5_inflateIfNeededFor_a7421 17 = .ok (.aload_n 0, 1) := by decide +kernel
theorem dJ5_inflateIfNeededFor_a7421_18 : decode cJ5_inflateIfNeededFor_a7421 18 = .ok (.invokevirtual 195, 3) := by decide +kernel
theorem dJ5_inflateIfNeededFor_a7421_21 : decode cJ5_inflateIfNeededFor_a7421 21 = .ok (.return_, 1) := by decide +kernel
def mi_J5_inflateIfNeededFor_a7421 : MI := (RJ5, yJ5_inflateIfNeededFor_a7421, cJ5_inflateIfNeededFor_a7421, 2, none, [], { frames := 2, cells := 0, slots := 0, locals := 32 })
theorem ok_J5_inflateIfNeededFor_a7421 : mOK mi_J5_inflateIfNeededFor_a7421 1 := ⟨rfl, cw_J5_inflateIfNeededFor_a7421, ini_J5, ⟨rfl, by decide⟩, by decide, by decide, rfl⟩
theorem v_J5_inflateIfNeededFor_a7421 (this : Nat) (a1 : Nat) (M : Mem) : V mi_J5_inflateIfNeededFor_a7421 0 [(0, .ref this), (1, .ref a1)] [] M 0 0 (f_J5_inflateIfNeededFor_a7421 this a1 M) wV := by
  unfold f_J5_inflateIfNeededFor_a7421
  refine V_ob fun _ _ => ?_
  refine V_gets (v := .int 1) (fun G hG => (g_x hG).2.2.2.2.1) (Or.inl fz_J5_18) dJ5_inflateIfNeededFor_a7421_0 rfl ?_
  refine V_if_eq_f (q := 21) (q2 := 6) dJ5_inflateIfNeededFor_a7421_3 (by decide) rfl (by decide) ?_
  refine V_aload_n dJ5_inflateIfNeededFor_a7421_6 rfl 0 rfl ?_
  refine V_getI dJ5_inflateIfNeededFor_a7421_7 rfl (ci := 12) (T := TJ4) rfl (by decide) fl_J5_22 (fun x1 => ?_)
  refine V_aload_n dJ5_inflateIfNeededFor_a7421_10 rfl 1 rfl ?_
  refine V_cGeI (CRun.V (C := RJ0) (As := []) (k_J0_coder_7d493 a1 M) (fun _ h => RC.str (o_J0_coder_7d493 h)) ok_J0_coder_7d493 im_J0_coder_7d493 (selOK.of se_J0_coder_7d493) ml_J5_40 ⟨⟨(Nat.le_of_ble_eq_true rfl), (Nat.le_of_ble_eq_true rfl)⟩, (Nat.le_of_ble_eq_true rfl), (Nat.le_of_ble_eq_true rfl)⟩ dJ5_inflateIfNeededFor_a7421_11 rfl rfl (Nat.le_of_ble_eq_true rfl)) rfl rfl rfl (fun x2 => ?_)
  refine V_icmp_eq (q := 21) (q2 := 17) dJ5_inflateIfNeededFor_a7421_14 (by decide) rfl ?_ ?_
  · exact V_vret dJ5_inflateIfNeededFor_a7421_21 rfl rfl ⟨(Nat.le_of_ble_eq_true rfl), (Nat.le_of_ble_eq_true rfl)⟩
  · refine V_aload_n dJ5_inflateIfNeededFor_a7421_17 rfl 0 rfl ?_
    exact V_none
theorem k_J5_inflateIfNeededFor_a7421 (this : Nat) (a1 : Nat) (M : Mem) : K mi_J5_inflateIfNeededFor_a7421 [.ref this, .ref a1] M (f_J5_inflateIfNeededFor_a7421 this a1 M) wV := K_of_V ok_J5_inflateIfNeededFor_a7421 (Nat.le_of_ble_eq_true rfl) (v_J5_inflateIfNeededFor_a7421 this a1 M)
theorem o_J5_inflateIfNeededFor_a7421 {this : Nat} {a1 : Nat} {M : Mem} {x} (h : f_J5_inflateIfNeededFor_a7421 this a1 M = some x) : isO M 12 this = true := (ob_of h).1
theorem dJ0_getBytes_840e7_0 : decode cJ0_getBytes_840e7 0 = .ok (.aload_n 0, 1) := by decide +kernel
theorem dJ0_getBytes_840e7_1 : decode cJ0_getBytes_840e7 1 = .ok (.invokevirtual 335, 3) := by decide +kernel
theorem dJ0_getBytes_840e7_4 : decode cJ0_getBytes_840e7 4 = .ok (.iload_n 3, 1) := by decide +kernel
theorem dJ0_getBytes_840e7_5 : decode cJ0_getBytes_840e7 5 = .ok (.if_icmp .ne 23, 3) := by decide +kernel
theorem dJ0_getBytes_840e7_8 : decode cJ0_getBytes_840e7 8 = .ok (.aload_n 0, 1) := by decide +kernel
theorem dJ0_getBytes_840e7_9 : decode cJ0_getBytes_840e7 9 = .ok (.getfield 9, 3) := by decide +kernel
theorem dJ0_getBytes_840e7_12 : decode cJ0_getBytes_840e7 12 = .ok (.iconst 0, 1) := by decide +kernel
theorem dJ0_getBytes_840e7_13 : decode cJ0_getBytes_840e7 13 = .ok (.aload_n 1, 1) := by decide +kernel
theorem dJ0_getBytes_840e7_14 : decode cJ0_getBytes_840e7 14 = .ok (.iload_n 2, 1) := by decide +kernel
theorem dJ0_getBytes_840e7_15 : decode cJ0_getBytes_840e7 15 = .ok (.iload_n 3, 1) := by decide +kernel
theorem dJ0_getBytes_840e7_16 : decode cJ0_getBytes_840e7 16 = .ok (.ishl, 1) := by decide +kernel
theorem dJ0_getBytes_840e7_17 : decode cJ0_getBytes_840e7 17 = .ok (.aload_n 0, 1) := by decide +kernel
theorem dJ0_getBytes_840e7_18 : decode cJ0_getBytes_840e7 18 = .ok (.getfield 9, 3) := by decide +kernel
theorem dJ0_getBytes_840e7_21 : decode cJ0_getBytes_840e7 21 = .ok (.arraylength, 1) := by decide +kernel
theorem dJ0_getBytes_840e7_22 : decode cJ0_getBytes_840e7 22 = .ok (.invokestatic 212, 3) := by decide +kernel
theorem dJ0_getBytes_840e7_25 : decode cJ0_getBytes_840e7 25 = .ok (.goto 18, 3) := by decide +kernel
theorem dJ0_getBytes_840e7_28 : decode cJ0_getBytes_840e7 28 = .ok (.aload_n 0, 1) := by decide +kernel
theorem dJ0_getBytes_840e7_29 : decode cJ0_getBytes_840e7 29 = .ok (.getfield 9, 3) := by decide +kernel
theorem dJ0_getBytes_840e7_32 : decode cJ0_getBytes_840e7 32 = .ok (.iconst 0, 1) := by decide +kernel
theorem dJ0_getBytes_840e7_33 : decode cJ0_getBytes_840e7 33 = .ok (.aload_n 1, 1) := by decide +kernel
theorem dJ0_getBytes_840e7_34 : decode cJ0_getBytes_840e7 34 = .ok (.iload_n 2, 1) := by decide +kernel
theorem dJ0_getBytes_840e7_35 : decode cJ0_getBytes_840e7 35 = .ok (.aload_n 0, 1) := by decide +kernel
theorem dJ0_getBytes_840e7_36 : decode cJ0_getBytes_840e7 36 = .ok (.getfield 9, 3) := by decide +kernel
theorem dJ0_getBytes_840e7_39 : decode cJ0_getBytes_840e7 39 = .ok (.arraylength, 1) := by decide +kernel
theorem dJ0_getBytes_840e7_40 : decode cJ0_getBytes_840e7 40 = .ok (.invokestatic 106, 3) := by decide +kernel
theorem dJ0_getBytes_840e7_43 : decode cJ0_getBytes_840e7 43 = .ok (.return_, 1) := by decide +kernel
def mi_J0_getBytes_840e7 : MI := (RJ0, yJ0_getBytes_840e7, cJ0_getBytes_840e7, 4, none, [], { frames := 2, cells := 0, slots := 0, locals := 60 })
theorem ok_J0_getBytes_840e7 : mOK mi_J0_getBytes_840e7 3 := ⟨rfl, cw_J0_getBytes_840e7, ini_J0, ⟨rfl, by decide⟩, by decide, by decide, rfl⟩
theorem v_J0_getBytes_840e7 (this : Nat) (a1 : Nat) (a2 : Int32) (a3 : Int32) (M : Mem) : V mi_J0_getBytes_840e7 0 [(0, .ref this), (1, .ref a1), (2, .int a2), (3, .int a3)] [] M 0 0 (f_J0_getBytes_840e7 this a1 a2 a3 M) wV := by
  unfold f_J0_getBytes_840e7
  refine V_obS fun _ => ?_
  refine V_aload_n dJ0_getBytes_840e7_0 rfl 0 rfl ?_
  refine V_cGeI (CRun.V (C := RJ0) (As := []) (k_J0_coder_7d493 this M) (fun _ h => RC.str (o_J0_coder_7d493 h)) ok_J0_coder_7d493 im_J0_coder_7d493 (selOK.of se_J0_coder_7d493) ml_J0_335 ⟨⟨(Nat.le_of_ble_eq_true rfl), (Nat.le_of_ble_eq_true rfl)⟩, (Nat.le_of_ble_eq_true rfl), (Nat.le_of_ble_eq_true rfl)⟩ dJ0_getBytes_840e7_1 rfl rfl (Nat.le_of_ble_eq_true rfl)) rfl rfl rfl (fun x1 => ?_)
  refine V_iload_n dJ0_getBytes_840e7_4 rfl 3 rfl ?_
  refine V_icmp_ne (q := 28) (q2 := 8) dJ0_getBytes_840e7_5 (by decide) rfl ?_ ?_
  · refine V_aload_n dJ0_getBytes_840e7_28 rfl 0 rfl ?_
    refine V_sVal fs_J0_9 dJ0_getBytes_840e7_29 rfl (fun x2 => ?_)
    refine V_iconst (x := 0) dJ0_getBytes_840e7_32 rfl rfl ?_
    refine V_aload_n dJ0_getBytes_840e7_33 rfl 1 rfl ?_
    refine V_iload_n dJ0_getBytes_840e7_34 rfl 2 rfl ?_
    refine V_aload_n dJ0_getBytes_840e7_35 rfl 0 rfl ?_
    refine V_sVal fs_J0_9 dJ0_getBytes_840e7_36 rfl (fun x3 => ?_)
    refine V_bL dJ0_getBytes_840e7_39 rfl (fun x4 => ?_)
    exact V_none
  · refine V_aload_n dJ0_getBytes_840e7_8 rfl 0 rfl ?_
    refine V_sVal fs_J0_9 dJ0_getBytes_840e7_9 rfl (fun x5 => ?_)
    refine V_iconst (x := 0) dJ0_getBytes_840e7_12 rfl rfl ?_
    refine V_aload_n dJ0_getBytes_840e7_13 rfl 1 rfl ?_
    refine V_iload_n dJ0_getBytes_840e7_14 rfl 2 rfl ?_
    refine V_iload_n dJ0_getBytes_840e7_15 rfl 3 rfl ?_
    refine V_ishl dJ0_getBytes_840e7_16 rfl ?_
    refine V_aload_n dJ0_getBytes_840e7_17 rfl 0 rfl ?_
    refine V_sVal fs_J0_9 dJ0_getBytes_840e7_18 rfl (fun x6 => ?_)
    refine V_bL dJ0_getBytes_840e7_21 rfl (fun x7 => ?_)
    refine V_bcp ml_J0_212 nat_acp sta_acp ini_Sys dJ0_getBytes_840e7_22 rfl ⟨(Nat.le_of_ble_eq_true rfl), (Nat.le_of_ble_eq_true rfl)⟩ (Nat.le_of_ble_eq_true rfl) (fun M8 => ?_)
    refine V_goto (q := 43) dJ0_getBytes_840e7_25 (by decide) ?_
    exact V_vret dJ0_getBytes_840e7_43 rfl rfl ⟨(Nat.le_of_ble_eq_true rfl), (Nat.le_of_ble_eq_true rfl)⟩
theorem k_J0_getBytes_840e7 (this : Nat) (a1 : Nat) (a2 : Int32) (a3 : Int32) (M : Mem) : K mi_J0_getBytes_840e7 [.ref this, .ref a1, .int a2, .int a3] M (f_J0_getBytes_840e7 this a1 a2 a3 M) wV := K_of_V ok_J0_getBytes_840e7 (Nat.le_of_ble_eq_true rfl) (v_J0_getBytes_840e7 this a1 a2 a3 M)
theorem o_J0_getBytes_840e7 {this : Nat} {a1 : Nat} {a2 : Int32} {a3 : Int32} {M : Mem} {x} (h : f_J0_getBytes_840e7 this a1 a2 a3 M = some x) : isS M this = true := (obS_of h).1
theorem dJ5_putStringAt_47b60_0 : decode cJ5_putStringAt_47b60 0 = .ok (.aload_n 0, 1) := by decide +kernel
theorem dJ5_putStringAt_47b60_1 : decode cJ5_putStringAt_47b60 1 = .ok (.aload_n 2, 1) := by decide +kernel
theorem dJ5_putStringAt_47b60_2 : decode cJ5_putStringAt_47b60 2 = .ok (.invokevirtual 397, 3) := by decide +kernel
theorem dJ5_putStringAt_47b60_5 : decode cJ5_putStringAt_47b60 5 = .ok (.aload_n 2, 1) := by decide +kernel
theorem dJ5_putStringAt_47b60_6 : decode cJ5_putStringAt_47b60 6 = .ok (.aload_n 0, 1) := by decide +kernel
theorem dJ5_putStringAt_47b60_7 : decode cJ5_putStringAt_47b60 7 = .ok (.getfield 15, 3) := by decide +kernel
theorem dJ5_putStringAt_47b60_10 : decode cJ5_putStringAt_47b60 10 = .ok (.iload_n 1, 1) := by decide +kernel
theorem dJ5_putStringAt_47b60_11 : decode cJ5_putStringAt_47b60 11 = .ok (.aload_n 0, 1) := by decide +kernel
theorem dJ5_putStringAt_47b60_12 : decode cJ5_putStringAt_47b60 12 = .ok (.getfield 22, 3) := by decide +kernel
theorem dJ5_putStringAt_47b60_15 : decode cJ5_putStringAt_47b60 15 = .ok (.invokevirtual 399, 3) := by decide +kernel
theorem dJ5_putStringAt_47b60_18 : decode cJ5_putStringAt_47b60 18 = .ok (.return_, 1) := by decide +kernel
def mi_J5_putStringAt_47b60 : MI := (RJ5, yJ5_putStringAt_47b60, cJ5_putStringAt_47b60, 3, none, [], { frames := 3, cells := 0, slots := 0, locals := 83 })
theorem ok_J5_putStringAt_47b60 : mOK mi_J5_putStringAt_47b60 2 := ⟨rfl, cw_J5_putStringAt_47b60, ini_J5, ⟨rfl, by decide⟩, by decide, by decide, rfl⟩
theorem v_J5_putStringAt_47b60 (this : Nat) (a1 : Int32) (a2 : Nat) (M : Mem) : V mi_J5_putStringAt_47b60 0 [(0, .ref this), (1, .int a1), (2, .ref a2)] [] M 0 0 (f_J5_putStringAt_47b60 this a1 a2 M) wV := by
  unfold f_J5_putStringAt_47b60
  refine V_ob fun _ _ => ?_
  refine V_aload_n dJ5_putStringAt_47b60_0 rfl 0 rfl ?_
  refine V_aload_n dJ5_putStringAt_47b60_1 rfl 2 rfl ?_
  refine V_cGwV (CRun.V (C := RJ4) (As := [.ref a2]) (k_J5_inflateIfNeededFor_a7421 this a2 M) (fun _ h => RC.obj (ci := 12) (T := TJ4) (N := 4) rfl (o_J5_inflateIfNeededFor_a7421 h)) ok_J5_inflateIfNeededFor_a7421 im_J5_inflateIfNeededFor_a7421 (selOK.priv (N := 4) ins_J4 pm_J5_inflateIfNeededFor_a7421 im_J5_inflateIfNeededFor_a7421 sm9_J5_inflateIfNeededFor_a7421) ml_J5_397 ⟨⟨(Nat.le_of_ble_eq_true rfl), (Nat.le_of_ble_eq_true rfl)⟩, (Nat.le_of_ble_eq_true rfl), (Nat.le_of_ble_eq_true rfl)⟩ dJ5_putStringAt_47b60_2 rfl rfl (Nat.le_of_ble_eq_true rfl)) rfl rfl rfl (fun M2 => ?_)
  refine V_aload_n dJ5_putStringAt_47b60_5 rfl 2 rfl ?_
  refine V_aload_n dJ5_putStringAt_47b60_6 rfl 0 rfl ?_
  refine V_getR dJ5_putStringAt_47b60_7 rfl (ci := 12) (T := TJ4) rfl (by decide) fl_J5_15 (fun x3 => ?_)
  refine V_iload_n dJ5_putStringAt_47b60_10 rfl 1 rfl ?_
  refine V_aload_n dJ5_putStringAt_47b60_11 rfl 0 rfl ?_
  refine V_getI dJ5_putStringAt_47b60_12 rfl (ci := 12) (T := TJ4) rfl (by decide) fl_J5_22 (fun x4 => ?_)
  refine V_cGwV (CRun.V (C := RJ0) (As := [.ref x3, .int a1, .int x4]) (k_J0_getBytes_840e7 a2 x3 a1 x4 M2) (fun _ h => RC.str (o_J0_getBytes_840e7 h)) ok_J0_getBytes_840e7 im_J0_getBytes_840e7 (selOK.of se_J0_getBytes_840e7) ml_J5_399 ⟨⟨(Nat.le_of_ble_eq_true rfl), (Nat.le_of_ble_eq_true rfl)⟩, (Nat.le_of_ble_eq_true rfl), (Nat.le_of_ble_eq_true rfl)⟩ dJ5_putStringAt_47b60_15 rfl rfl (Nat.le_of_ble_eq_true rfl)) rfl rfl rfl (fun M6 => ?_)
  exact V_vret dJ5_putStringAt_47b60_18 rfl rfl ⟨(Nat.le_of_ble_eq_true rfl), (Nat.le_of_ble_eq_true rfl)⟩
theorem k_J5_putStringAt_47b60 (this : Nat) (a1 : Int32) (a2 : Nat) (M : Mem) : K mi_J5_putStringAt_47b60 [.ref this, .int a1, .ref a2] M (f_J5_putStringAt_47b60 this a1 a2 M) wV := K_of_V ok_J5_putStringAt_47b60 (Nat.le_of_ble_eq_true rfl) (v_J5_putStringAt_47b60 this a1 a2 M)
theorem o_J5_putStringAt_47b60 {this : Nat} {a1 : Int32} {a2 : Nat} {M : Mem} {x} (h : f_J5_putStringAt_47b60 this a1 a2 M = some x) : isO M 12 this = true := (ob_of h).1
theorem dJ5_append_cf1ce_0 : decode cJ5_append_cf1ce 0 = .ok (.aload_n 1, 1) := by decide +kernel
theorem dJ5_append_cf1ce_1 : decode cJ5_append_cf1ce 1 = .ok (.ifnonnull 8, 3) := by decide +kernel
theorem dJ5_append_cf1ce_4 : decode cJ5_append_cf1ce 4 = .ok (.aload_n 0, 1) := by decide +kernel
theorem dJ5_append_cf1ce_5 : decode cJ5_append_cf1ce 5 = .ok (.invokevirtual 204, 3) := by decide +kernel
theorem dJ5_append_cf1ce_8 : decode cJ5_append_cf1ce 8 = .ok (.areturn, 1) := by decide +kernel
theorem dJ5_append_cf1ce_9 : decode cJ5_append_cf1ce 9 = .ok (.aload_n 1, 1) := by decide +kernel
theorem dJ5_append_cf1ce_10 : decode cJ5_append_cf1ce 10 = .ok (.invokevirtual 32, 3) := by decide +kernel
theorem dJ5_append_cf1ce_13 : decode cJ5_append_cf1ce 13 = .ok (.istore_n 2, 1) := by decide +kernel
theorem dJ5_append_cf1ce_14 : decode cJ5_append_cf1ce 14 = .ok (.aload_n 0, 1) := by decide +kernel
theorem dJ5_append_cf1ce_15 : decode cJ5_append_cf1ce 15 = .ok (.aload_n 0, 1) := by decide +kernel
theorem dJ5_append_cf1ce_16 : decode cJ5_append_cf1ce 16 = .ok (.getfield 79, 3) := by decide +kernel
theorem dJ5_append_cf1ce_19 : decode cJ5_append_cf1ce 19 = .ok (.iload_n 2, 1) := by decide +kernel
theorem dJ5_append_cf1ce_20 : decode cJ5_append_cf1ce 20 = .ok (.iadd, 1) := by decide +kernel
theorem dJ5_append_cf1ce_21 : decode cJ5_append_cf1ce 21 = .ok (.invokevirtual 100, 3) := by decide +kernel
theorem dJ5_append_cf1ce_24 : decode cJ5_append_cf1ce 24 = .ok (.aload_n 0, 1) := by decide +kernel
theorem dJ5_append_cf1ce_25 : decode cJ5_append_cf1ce 25 = .ok (.aload_n 0, 1) := by decide +kernel
theorem dJ5_append_cf1ce_26 : decode cJ5_append_cf1ce 26 = .ok (.getfield 79, 3) := by decide +kernel
theorem dJ5_append_cf1ce_29 : decode cJ5_append_cf1ce 29 = .ok (.aload_n 1, 1) := by decide +kernel
theorem dJ5_append_cf1ce_30 : decode cJ5_append_cf1ce 30 = .ok (.invokevirtual 208, 3) := by decide +kernel
theorem dJ5_append_cf1ce_33 : decode cJ5_append_cf1ce 33 = .ok (.aload_n 0, 1) := by decide +kernel
theorem dJ5_append_cf1ce_34 : decode cJ5_append_cf1ce 34 = .ok (.dup, 1) := by decide +kernel
theorem dJ5_append_cf1ce_35 : decode cJ5_append_cf1ce 35 = .ok (.getfield 79, 3) := by decide +kernel
theorem dJ5_append_cf1ce_38 : decode cJ5_append_cf1ce 38 = .ok (.iload_n 2, 1) := by decide +kernel
theorem dJ5_append_cf1ce_39 : decode cJ5_append_cf1ce 39 = .ok (.iadd, 1) := by decide +kernel
theorem dJ5_append_cf1ce_40 : decode cJ5_append_cf1ce 40 = .ok (.putfield 79, 3) := by decide +kernel
theorem dJ5_append_cf1ce_43 : decode cJ5_append_cf1ce 43 = .ok (.aload_n 0, 1) := by decide +kernel
theorem dJ5_append_cf1ce_44 : decode cJ5_append_cf1ce 44 = .ok (.areturn, 1) := by decide +kernel
def mi_J5_append_cf1ce : MI := (RJ5, yJ5_append_cf1ce, cJ5_append_cf1ce, 3, some (.object "java/lang/AbstractStringBuilder"), [], { frames := 5, cells := 1, slots := 1024, locals := 105 })
theorem ok_J5_append_cf1ce : mOK mi_J5_append_cf1ce 1 := ⟨rfl, cw_J5_append_cf1ce, ini_J5, ⟨rfl, by decide⟩, by decide, by decide, rfl⟩
theorem v_J5_append_cf1ce (this : Nat) (a1 : Nat) (M : Mem) : V mi_J5_append_cf1ce 0 [(0, .ref this), (1, .ref a1)] [] M 0 0 (f_J5_append_cf1ce this a1 M) wR := by
  unfold f_J5_append_cf1ce
  refine V_ob fun _ _ => ?_
  refine V_aload_n dJ5_append_cf1ce_0 rfl 1 rfl ?_
  refine V_ifnonnull_r (q := 9) dJ5_append_cf1ce_1 (by decide) ?_
  refine V_aload_n dJ5_append_cf1ce_9 rfl 1 rfl ?_
  refine V_cGeI (CRun.V (C := RJ0) (As := []) (k_J0_length_8abf5 a1 M) (fun _ h => RC.str (o_J0_length_8abf5 h)) ok_J0_length_8abf5 im_J0_length_8abf5 (selOK.of se_J0_length_8abf5) ml_J5_32 ⟨⟨(Nat.le_of_ble_eq_true rfl), (Nat.le_of_ble_eq_true rfl)⟩, (Nat.le_of_ble_eq_true rfl), (Nat.le_of_ble_eq_true rfl)⟩ dJ5_append_cf1ce_10 rfl rfl (Nat.le_of_ble_eq_true rfl)) rfl rfl rfl (fun x1 => ?_)
  refine V_istore_n (L' := [(0, .ref this), (1, .ref a1), (2, .int x1)]) dJ5_append_cf1ce_13 rfl (by decide) rfl ?_
  refine V_aload_n dJ5_append_cf1ce_14 rfl 0 rfl ?_
  refine V_aload_n dJ5_append_cf1ce_15 rfl 0 rfl ?_
  refine V_getI dJ5_append_cf1ce_16 rfl (ci := 12) (T := TJ4) rfl (by decide) fl_J5_79 (fun x2 => ?_)
  refine V_iload_n dJ5_append_cf1ce_19 rfl 2 rfl ?_
  refine V_iadd dJ5_append_cf1ce_20 rfl ?_
  refine V_cGwV (CRun.V (C := RJ4) (As := [.int (x2 + x1)]) (k_J5_ensureCapacityInternal_d00df this (x2 + x1) M) (fun _ h => RC.obj (ci := 12) (T := TJ4) (N := 4) rfl (o_J5_ensureCapacityInternal_d00df h)) ok_J5_ensureCapacityInternal_d00df im_J5_ensureCapacityInternal_d00df (selOK.priv (N := 4) ins_J4 pm_J5_ensureCapacityInternal_d00df im_J5_ensureCapacityInternal_d00df sm9_J5_ensureCapacityInternal_d00df) ml_J5_100 ⟨⟨(Nat.le_of_ble_eq_true rfl), (Nat.le_of_ble_eq_true rfl)⟩, (Nat.le_of_ble_eq_true rfl), (Nat.le_of_ble_eq_true rfl)⟩ dJ5_append_cf1ce_21 rfl rfl (Nat.le_of_ble_eq_true rfl)) rfl rfl rfl (fun M4 => ?_)
  refine V_aload_n dJ5_append_cf1ce_24 rfl 0 rfl ?_
  refine V_aload_n dJ5_append_cf1ce_25 rfl 0 rfl ?_
  refine V_getI dJ5_append_cf1ce_26 rfl (ci := 12) (T := TJ4) rfl (by decide) fl_J5_79 (fun x5 => ?_)
  refine V_aload_n dJ5_append_cf1ce_29 rfl 1 rfl ?_
  refine V_cGwV (CRun.V (C := RJ4) (As := [.int x5, .ref a1]) (k_J5_putStringAt_47b60 this x5 a1 M4) (fun _ h => RC.obj (ci := 12) (T := TJ4) (N := 4) rfl (o_J5_putStringAt_47b60 h)) ok_J5_putStringAt_47b60 im_J5_putStringAt_47b60 (selOK.priv (N := 4) ins_J4 pm_J5_putStringAt_47b60 im_J5_putStringAt_47b60 sm9_J5_putStringAt_47b60) ml_J5_208 ⟨⟨(Nat.le_of_ble_eq_true rfl), (Nat.le_of_ble_eq_true rfl)⟩, (Nat.le_of_ble_eq_true rfl), (Nat.le_of_ble_eq_true rfl)⟩ dJ5_append_cf1ce_30 rfl rfl (Nat.le_of_ble_eq_true rfl)) rfl rfl rfl (fun M7 => ?_)
  refine V_aload_n dJ5_append_cf1ce_33 rfl 0 rfl ?_
  refine V_dup dJ5_append_cf1ce_34 rfl rfl ?_
  refine V_getI dJ5_append_cf1ce_35 rfl (ci := 12) (T := TJ4) rfl (by decide) fl_J5_79 (fun x8 => ?_)
  refine V_iload_n dJ5_append_cf1ce_38 rfl 2 rfl ?_
  refine V_iadd dJ5_append_cf1ce_39 rfl ?_
  refine V_putI dJ5_append_cf1ce_40 rfl (ci := 12) (T := TJ4) rfl (by decide) fl_J5_79 rfl rfl (fun M9 => ?_)
  refine V_aload_n dJ5_append_cf1ce_43 rfl 0 rfl ?_
  exact V_aret (v := some this) dJ5_append_cf1ce_44 rfl (Or.inl ⟨_, rfl⟩) rfl ⟨(Nat.le_of_ble_eq_true rfl), (Nat.le_of_ble_eq_true rfl)⟩
theorem k_J5_append_cf1ce (this : Nat) (a1 : Nat) (M : Mem) : K mi_J5_append_cf1ce [.ref this, .ref a1] M (f_J5_append_cf1ce this a1 M) wR := K_of_V ok_J5_append_cf1ce (Nat.le_of_ble_eq_true rfl) (v_J5_append_cf1ce this a1 M)
theorem o_J5_append_cf1ce {this : Nat} {a1 : Nat} {M : Mem} {x} (h : f_J5_append_cf1ce this a1 M = some x) : isO M 12 this = true := (ob_of h).1
theorem dJ4_append_15ec4_0 : decode cJ4_append_15ec4 0 = .ok (.aload_n 0, 1) := by decide +kernel
theorem dJ4_append_15ec4_1 : decode cJ4_append_15ec4 1 = .ok (.aload_n 1, 1) := by decide +kernel
theorem dJ4_append_15ec4_2 : decode cJ4_append_15ec4 2 = .ok (.invokespecial 29, 3) := by decide +kernel
theorem dJ4_append_15ec4_5 : decode cJ4_append_15ec4 5 = .ok (.pop, 1) := by decide +kernel
theorem dJ4_append_15ec4_6 : decode cJ4_append_15ec4 6 = .ok (.aload_n 0, 1) := by decide +kernel
theorem dJ4_append_15ec4_7 : decode cJ4_append_15ec4 7 = .ok (.areturn, 1) := by decide +kernel
def mi_J4_append_15ec4 : MI := (RJ4, yJ4_append_15ec4, cJ4_append_15ec4, 2, some (.object "java/lang/StringBuilder"), [], { frames := 6, cells := 1, slots := 1024, locals := 127 })
theorem ok_J4_append_15ec4 : mOK mi_J4_append_15ec4 1 := ⟨rfl, cw_J4_append_15ec4, ini_J4, ⟨rfl, by decide⟩, by decide, by decide, rfl⟩
theorem v_J4_append_15ec4 (this : Nat) (a1 : Nat) (M : Mem) : V mi_J4_append_15ec4 0 [(0, .ref this), (1, .ref a1)] [] M 0 0 (f_J4_append_15ec4 this a1 M) wR := by
  unfold f_J4_append_15ec4
  refine V_ob fun _ _ => ?_
  refine V_aload_n dJ4_append_15ec4_0 rfl 0 rfl ?_
  refine V_aload_n dJ4_append_15ec4_1 rfl 1 rfl ?_
  refine V_cGwR (CRun.S (As := [.ref a1]) (k_J5_append_cf1ce this a1 M) (fun _ h => o_J5_append_cf1ce h) (ci := 12) rfl ok_J5_append_cf1ce im_J5_append_cf1ce ml_J4_29 sm9_J5_append_cf1ce su9 (by decide) ⟨⟨(Nat.le_of_ble_eq_true rfl), (Nat.le_of_ble_eq_true rfl)⟩, (Nat.le_of_ble_eq_true rfl), (Nat.le_of_ble_eq_true rfl)⟩ dJ4_append_15ec4_2 rfl rfl (Nat.le_of_ble_eq_true rfl)) rfl rfl rfl (fun x1 M2 => ?_)
  refine V_pop dJ4_append_15ec4_5 rfl rfl ?_
  refine V_aload_n dJ4_append_15ec4_6 rfl 0 rfl ?_
  exact V_aret (v := some this) dJ4_append_15ec4_7 rfl (Or.inl ⟨_, rfl⟩) rfl ⟨(Nat.le_of_ble_eq_true rfl), (Nat.le_of_ble_eq_true rfl)⟩
theorem k_J4_append_15ec4 (this : Nat) (a1 : Nat) (M : Mem) : K mi_J4_append_15ec4 [.ref this, .ref a1] M (f_J4_append_15ec4 this a1 M) wR := K_of_V ok_J4_append_15ec4 (Nat.le_of_ble_eq_true rfl) (v_J4_append_15ec4 this a1 M)
theorem o_J4_append_15ec4 {this : Nat} {a1 : Nat} {M : Mem} {x} (h : f_J4_append_15ec4 this a1 M = some x) : isO M 12 this = true := (ob_of h).1
theorem dJ4_append_cf1ce_0 : decode cJ4_append_cf1ce 0 = .ok (.aload_n 0, 1) := by decide +kernel
theorem dJ4_append_cf1ce_1 : decode cJ4_append_cf1ce 1 = .ok (.aload_n 1, 1) := by decide +kernel
theorem dJ4_append_cf1ce_2 : decode cJ4_append_cf1ce 2 = .ok (.invokevirtual 23, 3) := by decide +kernel
theorem dJ4_append_cf1ce_5 : decode cJ4_append_cf1ce 5 = .ok (.areturn, 1) := by decide +kernel
def mi_J4_append_cf1ce : MI := (RJ4, yJ4_append_cf1ce, cJ4_append_cf1ce, 2, some (.object "java/lang/AbstractStringBuilder"), [], { frames := 7, cells := 1, slots := 1024, locals := 148 })
theorem ok_J4_append_cf1ce : mOK mi_J4_append_cf1ce 1 := ⟨rfl, cw_J4_append_cf1ce, ini_J4, ⟨rfl, by decide⟩, by decide, by decide, rfl⟩
theorem v_J4_append_cf1ce (this : Nat) (a1 : Nat) (M : Mem) : V mi_J4_append_cf1ce 0 [(0, .ref this), (1, .ref a1)] [] M 0 0 (f_J4_append_cf1ce this a1 M) wR := by
  unfold f_J4_append_cf1ce
  refine V_ob fun _ _ => ?_
  refine V_aload_n dJ4_append_cf1ce_0 rfl 0 rfl ?_
  refine V_aload_n dJ4_append_cf1ce_1 rfl 1 rfl ?_
  refine V_cGwR (CRun.V (C := RJ4) (As := [.ref a1]) (k_J4_append_15ec4 this a1 M) (fun _ h => RC.obj (ci := 12) (T := TJ4) (N := 4) rfl (o_J4_append_15ec4 h)) ok_J4_append_15ec4 im_J4_append_15ec4 (selOK.of se_J4_append_15ec4) ml_J4_23 ⟨⟨(Nat.le_of_ble_eq_true rfl), (Nat.le_of_ble_eq_true rfl)⟩, (Nat.le_of_ble_eq_true rfl), (Nat.le_of_ble_eq_true rfl)⟩ dJ4_append_cf1ce_2 rfl rfl (Nat.le_of_ble_eq_true rfl)) rfl rfl rfl (fun x1 M2 => ?_)
  exact V_aret (v := some x1) dJ4_append_cf1ce_5 rfl (Or.inl ⟨_, rfl⟩) rfl ⟨(Nat.le_of_ble_eq_true rfl), (Nat.le_of_ble_eq_true rfl)⟩
theorem k_J4_append_cf1ce (this : Nat) (a1 : Nat) (M : Mem) : K mi_J4_append_cf1ce [.ref this, .ref a1] M (f_J4_append_cf1ce this a1 M) wR := K_of_V ok_J4_append_cf1ce (Nat.le_of_ble_eq_true rfl) (v_J4_append_cf1ce this a1 M)
theorem o_J4_append_cf1ce {this : Nat} {a1 : Nat} {M : Mem} {x} (h : f_J4_append_cf1ce this a1 M = some x) : isO M 12 this = true := (ob_of h).1
theorem dJ5_init_a7421_0 : decode cJ5_init_a7421 0 = .ok (.aload_n 0, 1) := by decide +kernel
theorem dJ5_init_a7421_1 : decode cJ5_init_a7421 1 = .ok (.invokespecial 3, 3) := by decide +kernel
theorem dJ5_init_a7421_4 : decode cJ5_init_a7421 4 = .ok (.aload_n 1, 1) := by decide +kernel
theorem dJ5_init_a7421_5 : decode cJ5_init_a7421 5 = .ok (.invokevirtual 32, 3) := by decide +kernel
theorem dJ5_init_a7421_8 : decode cJ5_init_a7421 8 = .ok (.istore_n 2, 1) := by decide +kernel
theorem dJ5_init_a7421_9 : decode cJ5_init_a7421 9 = .ok (.iload_n 2, 1) := by decide +kernel
theorem dJ5_init_a7421_10 : decode cJ5_init_a7421 10 = .ok (.ldc 38, 2) := by decide +kernel
theorem dJ5_init_a7421_12 : decode cJ5_init_a7421 12 = .ok (.if_icmp .ge 10, 3) := by decide +kernel
theorem dJ5_init_a7421_15 : decode cJ5_init_a7421 15 = .ok (.iload_n 2, 1) := by decide +kernel
theorem dJ5_init_a7421_16 : decode cJ5_init_a7421 16 = .ok (.bipush 16, 2) := by decide +kernel
theorem dJ5_init_a7421_18 : decode cJ5_init_a7421 18 = .ok (.iadd, 1) := by decide +kernel
theorem dJ5_init_a7421_19 : decode cJ5_init_a7421 19 = .ok (.goto 5, 3) := by decide +kernel
theorem dJ5_init_a7421_22 : decode cJ5_init_a7421 22 = .ok (.ldc 39, 2) := by decide +kernel
theorem dJ5_init_a7421_24 : decode cJ5_init_a7421 24 = .ok (.istore_n 3, 1) := by decide +kernel
theorem dJ5_init_a7421_25 : decode cJ5_init_a7421 25 = .ok (.aload_n 1, 1) := by decide +kernel
theorem dJ5_init_a7421_26 : decode cJ5_init_a7421 26 = .ok (.invokevirtual 40, 3) := by decide +kernel
theorem dJ5_init_a7421_29 : decode cJ5_init_a7421 29 = .ok (.istore 4, 2) := by decide +kernel
theorem dJ5_init_a7421_31 : decode cJ5_init_a7421 31 = .ok (.aload_n 0, 1) := by decide +kernel
theorem dJ5_init_a7421_32 : decode cJ5_init_a7421 32 = .ok (.iload 4, 2) := by decide +kernel
theorem dJ5_init_a7421_34 : decode cJ5_init_a7421 34 = .ok (.putfield 22, 3) := by decide +kernel
theorem dJ5_init_a7421_37 : decode cJ5_init_a7421 37 = .ok (.aload_n 0, 1) := by decide +kernel
theorem dJ5_init_a7421_38 : decode cJ5_init_a7421 38 = .ok (.iload 4, 2) := by decide +kernel
theorem dJ5_init_a7421_40 : decode cJ5_init_a7421 40 = .ok (.ifCond .ne 9, 3) := by decide +kernel
theorem dJ5_init_a7421_43 : decode cJ5_init_a7421 43 = .ok (.iload_n 3, 1) := by decide +kernel
theorem dJ5_init_a7421_44 : decode cJ5_init_a7421 44 = .ok (.newarray .byte, 2) := by decide +kernel
theorem dJ5_init_a7421_46 : decode cJ5_init_a7421 46 = .ok (.goto 7, 3) := by decide +kernel
theorem dJ5_init_a7421_49 : decode cJ5_init_a7421 49 = .ok (.iload_n 3, 1) := by decide +kernel
theorem dJ5_init_a7421_50 : decode cJ5_init_a7421 50 = .ok (.invokestatic 26, 3) := by decide +kernel
theorem dJ5_init_a7421_53 : decode cJ5_init_a7421 53 = .ok (.putfield 15, 3) := by decide +kernel
theorem dJ5_init_a7421_56 : decode cJ5_init_a7421 56 = .ok (.aload_n 0, 1) := by decide +kernel
theorem dJ5_init_a7421_57 : decode cJ5_init_a7421 57 = .ok (.aload_n 1, 1) := by decide +kernel
theorem dJ5_init_a7421_58 : decode cJ5_init_a7421 58 = .ok (.invokevirtual 43, 3) := by decide +kernel
theorem dJ5_init_a7421_61 : decode cJ5_init_a7421 61 = .ok (.pop, 1) := by decide +kernel
theorem dJ5_init_a7421_62 : decode cJ5_init_a7421 62 = .ok (.return_, 1) := by decide +kernel
def mi_J5_init_a7421 : MI := (RJ5, yJ5_init_a7421, cJ5_init_a7421, 5, none, [], { frames := 8, cells := 2, slots := 2048, locals := 169 })
theorem ok_J5_init_a7421 : mOK mi_J5_init_a7421 1 := ⟨rfl, cw_J5_init_a7421, ini_J5, ⟨rfl, by decide⟩, by decide, by decide, rfl⟩
theorem v_J5_init_a7421_24 (this : Nat) (l1 : Nat) (s0 : Int32) (M : Mem) : V mi_J5_init_a7421 24 [(0, .ref this), (1, .ref l1)] [.int s0] M 0 0 (f_J5_init_a7421_24 this l1 s0 M) wV := by
  unfold f_J5_init_a7421_24
  refine V_istore_n (L' := [(0, .ref this), (1, .ref l1), (3, .int s0)]) dJ5_init_a7421_24 rfl (by decide) rfl ?_
  refine V_aload_n dJ5_init_a7421_25 rfl 1 rfl ?_
  refine V_cGeI (CRun.V (C := RJ0) (As := []) (k_J0_coder_7d493 l1 M) (fun _ h => RC.str (o_J0_coder_7d493 h)) ok_J0_coder_7d493 im_J0_coder_7d493 (selOK.of se_J0_coder_7d493) ml_J5_40 ⟨⟨(Nat.le_of_ble_eq_true rfl), (Nat.le_of_ble_eq_true rfl)⟩, (Nat.le_of_ble_eq_true rfl), (Nat.le_of_ble_eq_true rfl)⟩ dJ5_init_a7421_26 rfl rfl (Nat.le_of_ble_eq_true rfl)) rfl rfl rfl (fun x2 => ?_)
  refine V_istore (L' := [(0, .ref this), (1, .ref l1), (3, .int s0), (4, .int x2)]) dJ5_init_a7421_29 rfl (by decide) rfl ?_
  refine V_aload_n dJ5_init_a7421_31 rfl 0 rfl ?_
  refine V_iload dJ5_init_a7421_32 rfl 3 rfl ?_
  refine V_putB dJ5_init_a7421_34 rfl (ci := 12) (T := TJ4) rfl (by decide) fl_J5_22 rfl rfl (fun M3 => ?_)
  refine V_aload_n dJ5_init_a7421_37 rfl 0 rfl ?_
  refine V_iload dJ5_init_a7421_38 rfl 3 rfl ?_
  refine V_if_ne (q := 49) (q2 := 43) dJ5_init_a7421_40 (by decide) rfl ?_ ?_
  · refine V_iload_n dJ5_init_a7421_49 rfl 2 rfl ?_
    exact V_none
  · refine V_iload_n dJ5_init_a7421_43 rfl 2 rfl ?_
    refine V_newarrayD dJ5_init_a7421_44 rfl (t := 2) (N := 1024) (x := fun m => (m, .inl (fun _ => 0))) rfl ar_2 (Nat.le_of_ble_eq_true rfl) (fun _ _ _ => rfl) (fun _ _ h => h) ⟨(Nat.le_of_ble_eq_true rfl), (Nat.le_of_ble_eq_true rfl)⟩ (fun r4 => ?_)
    refine V_goto (q := 53) dJ5_init_a7421_46 (by decide) ?_
    refine V_putR dJ5_init_a7421_53 rfl (ci := 12) (T := TJ4) rfl (by decide) fl_J5_15 rfl rfl (fun _ => rfl) (fun _ => rfl) (fun M5 => ?_)
    refine V_aload_n dJ5_init_a7421_56 rfl 0 rfl ?_
    refine V_aload_n dJ5_init_a7421_57 rfl 1 rfl ?_
    refine V_cGwR (CRun.U (x := yJ5_append_cf1ce) (owner := "java/lang/AbstractStringBuilder") (As := [.ref l1]) (k_J4_append_cf1ce this l1 M5) (fun _ h => RC.obj (ci := 12) (T := TJ4) (N := 4) rfl (o_J4_append_cf1ce h)) ok_J4_append_cf1ce im_J4_append_cf1ce se_J5_append_cf1ce ml_J5_43 sm9_J5_append_cf1ce im_J5_append_cf1ce cw_J5_append_cf1ce ⟨by decide, by decide⟩ rfl ⟨⟨(Nat.le_of_ble_eq_true rfl), (Nat.le_of_ble_eq_true rfl)⟩, (Nat.le_of_ble_eq_true rfl), (Nat.le_of_ble_eq_true rfl)⟩ dJ5_init_a7421_58 rfl rfl (Nat.le_of_ble_eq_true rfl)) rfl rfl rfl (fun x6 M7 => ?_)
    refine V_pop dJ5_init_a7421_61 rfl rfl ?_
    exact V_vret dJ5_init_a7421_62 rfl rfl ⟨(Nat.le_of_ble_eq_true rfl), (Nat.le_of_ble_eq_true rfl)⟩
theorem v_J5_init_a7421 (this : Nat) (a1 : Nat) (M : Mem) : V mi_J5_init_a7421 0 [(0, .ref this), (1, .ref a1)] [] M 0 0 (f_J5_init_a7421 this a1 M) wV := by
  unfold f_J5_init_a7421
  refine V_ob fun _ _ => ?_
  refine V_aload_n dJ5_init_a7421_0 rfl 0 rfl ?_
  refine V_objInit ml_J5_3 dJ5_init_a7421_1 rfl ⟨(Nat.le_of_ble_eq_true rfl), (Nat.le_of_ble_eq_true rfl)⟩ ?_
  refine V_aload_n dJ5_init_a7421_4 rfl 1 rfl ?_
  refine V_cGeI (CRun.V (C := RJ0) (As := []) (k_J0_length_8abf5 a1 M) (fun _ h => RC.str (o_J0_length_8abf5 h)) ok_J0_length_8abf5 im_J0_length_8abf5 (selOK.of se_J0_length_8abf5) ml_J5_32 ⟨⟨(Nat.le_of_ble_eq_true rfl), (Nat.le_of_ble_eq_true rfl)⟩, (Nat.le_of_ble_eq_true rfl), (Nat.le_of_ble_eq_true rfl)⟩ dJ5_init_a7421_5 rfl rfl (Nat.le_of_ble_eq_true rfl)) rfl rfl rfl (fun x1 => ?_)
  refine V_istore_n (L' := [(0, .ref this), (1, .ref a1), (2, .int x1)]) dJ5_init_a7421_8 rfl (by decide) rfl ?_
  refine V_iload_n dJ5_init_a7421_9 rfl 2 rfl ?_
  refine V_ldc (x := 2147483631) kc_J5_38 dJ5_init_a7421_10 rfl ?_
  refine V_icmp_ge (q := 22) (q2 := 15) dJ5_init_a7421_12 (by decide) rfl ?_ ?_
  · refine V_ldc (x := 2147483647) kc_J5_39 dJ5_init_a7421_22 rfl ?_
    exact V_sub [0, 1] rfl (v_J5_init_a7421_24 this a1 2147483647 M)
  · refine V_iload_n dJ5_init_a7421_15 rfl 2 rfl ?_
    refine V_bipush (x := 16) dJ5_init_a7421_16 rfl rfl ?_
    refine V_iadd dJ5_init_a7421_18 rfl ?_
    refine V_goto (q := 24) dJ5_init_a7421_19 (by decide) ?_
    exact V_sub [0, 1] rfl (v_J5_init_a7421_24 this a1 (x1 + 16) M)
theorem k_J5_init_a7421 (this : Nat) (a1 : Nat) (M : Mem) : K mi_J5_init_a7421 [.ref this, .ref a1] M (f_J5_init_a7421 this a1 M) wV := K_of_V ok_J5_init_a7421 (Nat.le_of_ble_eq_true rfl) (v_J5_init_a7421 this a1 M)
theorem o_J5_init_a7421 {this : Nat} {a1 : Nat} {M : Mem} {x} (h : f_J5_init_a7421 this a1 M = some x) : isO M 12 this = true := (ob_of h).1
theorem dJ5_length_8abf5_0 : decode cJ5_length_8abf5 0 = .ok (.aload_n 0, 1) := by decide +kernel
theorem dJ5_length_8abf5_1 : decode cJ5_length_8abf5 1 = .ok (.getfield 79, 3) := by decide +kernel
theorem dJ5_length_8abf5_4 : decode cJ5_length_8abf5 4 = .ok (.ireturn, 1) := by decide +kernel
def mi_J5_length_8abf5 : MI := (RJ5, yJ5_length_8abf5, cJ5_length_8abf5, 1, some .int, [], { frames := 1, cells := 0, slots := 0, locals := 12 })
theorem ok_J5_length_8abf5 : mOK mi_J5_length_8abf5 0 := ⟨rfl, cw_J5_length_8abf5, ini_J5, ⟨rfl, by decide⟩, by decide, by decide, rfl⟩
theorem v_J5_length_8abf5 (this : Nat) (M : Mem) : V mi_J5_length_8abf5 0 [(0, .ref this)] [] M 0 0 (f_J5_length_8abf5 this M) (eI M) := by
  unfold f_J5_length_8abf5
  refine V_ob fun _ _ => ?_
  refine V_aload_n dJ5_length_8abf5_0 rfl 0 rfl ?_
  refine V_getI dJ5_length_8abf5_1 rfl (ci := 12) (T := TJ4) rfl (by decide) fl_J5_79 (fun x1 => ?_)
  exact V_iret dJ5_length_8abf5_4 rfl rfl ⟨(Nat.le_of_ble_eq_true rfl), (Nat.le_of_ble_eq_true rfl)⟩
theorem k_J5_length_8abf5 (this : Nat) (M : Mem) : K mi_J5_length_8abf5 [.ref this] M (f_J5_length_8abf5 this M) (eI M) := K_of_V ok_J5_length_8abf5 (Nat.le_of_ble_eq_true rfl) (v_J5_length_8abf5 this M)
theorem o_J5_length_8abf5 {this : Nat} {M : Mem} {x} (h : f_J5_length_8abf5 this M = some x) : isO M 12 this = true := (ob_of h).1
theorem dJ5_isLatin1_aae02_0 : decode cJ5_isLatin1_aae02 0 = .ok (.getstatic 18, 3) := by decide +kernel
theorem dJ5_isLatin1_aae02_3 : decode cJ5_isLatin1_aae02 3 = .ok (.ifCond .eq 14, 3) := by decide +kernel
theorem dJ5_isLatin1_aae02_6 : decode cJ5_isLatin1_aae02 6 = .ok (.aload_n 0, 1) := by decide +kernel
theorem dJ5_isLatin1_aae02_7 : decode cJ5_isLatin1_aae02 7 = .ok (.getfield 22, 3) := by decide +kernel
theorem dJ5_isLatin1_aae02_10 : decode cJ5_isLatin1_aae02 10 = .ok (.ifCond .ne 7, 3) := by decide +kernel
theorem dJ5_isLatin1_aae02_13 : decode cJ5_isLatin1_aae02 13 = .ok (.iconst 1, 1) := by decide +kernel
theorem dJ5_isLatin1_aae02_14 : decode cJ5_isLatin1_aae02 14 = .ok (.goto 4, 3) := by decide +kernel
theorem dJ5_isLatin1_aae02_17 : decode cJ5_isLatin1_aae02 17 = .ok (.iconst 0, 1) := by decide +kernel
theorem dJ5_isLatin1_aae02_18 : decode cJ5_isLatin1_aae02 18 = .ok (.ireturn, 1) := by decide +kernel
def mi_J5_isLatin1_aae02 : MI := (RJ5, yJ5_isLatin1_aae02, cJ5_isLatin1_aae02, 1, some .boolean, [], { frames := 1, cells := 0, slots := 0, locals := 12 })
theorem ok_J5_isLatin1_aae02 : mOK mi_J5_isLatin1_aae02 0 := ⟨rfl, cw_J5_isLatin1_aae02, ini_J5, ⟨rfl, by decide⟩, by decide, by decide, rfl⟩
theorem v_J5_isLatin1_aae02 (this : Nat) (M : Mem) : V mi_J5_isLatin1_aae02 0 [(0, .ref this)] [] M 0 0 (f_J5_isLatin1_aae02 this M) (eZ M) := by
  unfold f_J5_isLatin1_aae02
  refine V_ob fun _ _ => ?_
  refine V_gets (v := .int 1) (fun G hG => (g_x hG).2.2.2.2.1) (Or.inl fz_J5_18) dJ5_isLatin1_aae02_0 rfl ?_
  refine V_if_eq_f (q := 17) (q2 := 6) dJ5_isLatin1_aae02_3 (by decide) rfl (by decide) ?_
  refine V_aload_n dJ5_isLatin1_aae02_6 rfl 0 rfl ?_
  refine V_getI dJ5_isLatin1_aae02_7 rfl (ci := 12) (T := TJ4) rfl (by decide) fl_J5_22 (fun x1 => ?_)
  refine V_if_ne (q := 17) (q2 := 13) dJ5_isLatin1_aae02_10 (by decide) rfl ?_ ?_
  · refine V_iconst (x := 0) dJ5_isLatin1_aae02_17 rfl rfl ?_
    exact V_zret (v := false) dJ5_isLatin1_aae02_18 rfl rfl ⟨(Nat.le_of_ble_eq_true rfl), (Nat.le_of_ble_eq_true rfl)⟩
  · refine V_iconst (x := 1) dJ5_isLatin1_aae02_13 rfl rfl ?_
    refine V_goto (q := 18) dJ5_isLatin1_aae02_14 (by decide) ?_
    exact V_zret (v := true) dJ5_isLatin1_aae02_18 rfl rfl ⟨(Nat.le_of_ble_eq_true rfl), (Nat.le_of_ble_eq_true rfl)⟩
theorem k_J5_isLatin1_aae02 (this : Nat) (M : Mem) : K mi_J5_isLatin1_aae02 [.ref this] M (f_J5_isLatin1_aae02 this M) (eZ M) := K_of_V ok_J5_isLatin1_aae02 (Nat.le_of_ble_eq_true rfl) (v_J5_isLatin1_aae02 this M)
theorem o_J5_isLatin1_aae02 {this : Nat} {M : Mem} {x} (h : f_J5_isLatin1_aae02 this M = some x) : isO M 12 this = true := (ob_of h).1
theorem dJ1_canEncode_fc78d_0 : decode cJ1_canEncode_fc78d 0 = .ok (.iload_n 0, 1) := by decide +kernel
theorem dJ1_canEncode_fc78d_1 : decode cJ1_canEncode_fc78d 1 = .ok (.sipush 255, 3) := by decide +kernel
theorem dJ1_canEncode_fc78d_4 : decode cJ1_canEncode_fc78d 4 = .ok (.if_icmp .gt 7, 3) := by decide +kernel
theorem dJ1_canEncode_fc78d_7 : decode cJ1_canEncode_fc78d 7 = .ok (.iconst 1, 1) := by decide +kernel
theorem dJ1_canEncode_fc78d_8 : decode cJ1_canEncode_fc78d 8 = .ok (.goto 4, 3) := by decide +kernel
theorem dJ1_canEncode_fc78d_11 : decode cJ1_canEncode_fc78d 11 = .ok (.iconst 0, 1) := by decide +kernel
theorem dJ1_canEncode_fc78d_12 : decode cJ1_canEncode_fc78d 12 = .ok (.ireturn, 1) := by decide +kernel
def mi_J1_canEncode_fc78d : MI := (RJ1, yJ1_canEncode_fc78d, cJ1_canEncode_fc78d, 1, some .boolean, [], { frames := 1, cells := 0, slots := 0, locals := 12 })
theorem ok_J1_canEncode_fc78d : mOK mi_J1_canEncode_fc78d 1 := ⟨rfl, cw_J1_canEncode_fc78d, ini_J1, ⟨rfl, by decide⟩, by decide, by decide, rfl⟩
theorem v_J1_canEncode_fc78d (a0 : Int32) (M : Mem) : V mi_J1_canEncode_fc78d 0 [(0, .int a0)] [] M 0 0 (f_J1_canEncode_fc78d a0 M) (eZ M) := by
  unfold f_J1_canEncode_fc78d
  refine V_iload_n dJ1_canEncode_fc78d_0 rfl 0 rfl ?_
  refine V_sipush (x := 255) dJ1_canEncode_fc78d_1 rfl rfl ?_
  refine V_icmp_gt (q := 11) (q2 := 7) dJ1_canEncode_fc78d_4 (by decide) rfl ?_ ?_
  · refine V_iconst (x := 0) dJ1_canEncode_fc78d_11 rfl rfl ?_
    exact V_zret (v := false) dJ1_canEncode_fc78d_12 rfl rfl ⟨(Nat.le_of_ble_eq_true rfl), (Nat.le_of_ble_eq_true rfl)⟩
  · refine V_iconst (x := 1) dJ1_canEncode_fc78d_7 rfl rfl ?_
    refine V_goto (q := 12) dJ1_canEncode_fc78d_8 (by decide) ?_
    exact V_zret (v := true) dJ1_canEncode_fc78d_12 rfl rfl ⟨(Nat.le_of_ble_eq_true rfl), (Nat.le_of_ble_eq_true rfl)⟩
theorem k_J1_canEncode_fc78d (a0 : Int32) (M : Mem) : K mi_J1_canEncode_fc78d [.int a0] M (f_J1_canEncode_fc78d a0 M) (eZ M) := K_of_V ok_J1_canEncode_fc78d (Nat.le_of_ble_eq_true rfl) (v_J1_canEncode_fc78d a0 M)
theorem dJ5_append_3fe6f_0 : decode cJ5_append_3fe6f 0 = .ok (.aload_n 0, 1) := by decide +kernel
theorem dJ5_append_3fe6f_1 : decode cJ5_append_3fe6f 1 = .ok (.aload_n 0, 1) := by decide +kernel
theorem dJ5_append_3fe6f_2 : decode cJ5_append_3fe6f 2 = .ok (.getfield 79, 3) := by decide +kernel
theorem dJ5_append_3fe6f_5 : decode cJ5_append_3fe6f 5 = .ok (.iconst 1, 1) := by decide +kernel
theorem dJ5_append_3fe6f_6 : decode cJ5_append_3fe6f 6 = .ok (.iadd, 1) := by decide +kernel
theorem dJ5_append_3fe6f_7 : decode cJ5_append_3fe6f 7 = .ok (.invokevirtual 100, 3) := by decide +kernel
theorem dJ5_append_3fe6f_10 : decode cJ5_append_3fe6f 10 = .ok (.aload_n 0, 1) := by decide +kernel
theorem dJ5_append_3fe6f_11 : decode cJ5_append_3fe6f 11 = .ok (.invokevirtual 83, 3) := by decide +kernel
theorem dJ5_append_3fe6f_14 : decode cJ5_append_3fe6f 14 = .ok (.ifCond .eq 31, 3) := by decide +kernel
theorem dJ5_append_3fe6f_17 : decode cJ5_append_3fe6f 17 = .ok (.iload_n 1, 1) := by decide +kernel
theorem dJ5_append_3fe6f_18 : decode cJ5_append_3fe6f 18 = .ok (.invokestatic 191, 3) := by decide +kernel
theorem dJ5_append_3fe6f_21 : decode cJ5_append_3fe6f 21 = .ok (.ifCond .eq 24, 3) := by decide +kernel
theorem dJ5_append_3fe6f_24 : decode cJ5_append_3fe6f 24 = .ok (.aload_n 0, 1) := by decide +kernel
theorem dJ5_append_3fe6f_25 : decode cJ5_append_3fe6f 25 = .ok (.getfield 15, 3) := by decide +kernel
theorem dJ5_append_3fe6f_28 : decode cJ5_append_3fe6f 28 = .ok (.aload_n 0, 1) := by decide +kernel
theorem dJ5_append_3fe6f_29 : decode cJ5_append_3fe6f 29 = .ok (.dup, 1) := by decide +kernel
theorem dJ5_append_3fe6f_30 : decode cJ5_append_3fe6f 30 = .ok (.getfield 79, 3) := by decide +kernel
theorem dJ5_append_3fe6f_33 : decode cJ5_append_3fe6f 33 = .ok (.dup_x1, 1) := by decide +kernel
theorem dJ5_append_3fe6f_34 : decode cJ5_append_3fe6f 34 = .ok (.iconst 1, 1) := by decide +kernel
theorem dJ5_append_3fe6f_35 : decode cJ5_append_3fe6f 35 = .ok (.iadd, 1) := by decide +kernel
theorem dJ5_append_3fe6f_36 : decode cJ5_append_3fe6f 36 = .ok (.putfield 79, 3) := by decide +kernel
theorem dJ5_append_3fe6f_39 : decode cJ5_append_3fe6f 39 = .ok (.iload_n 1, 1) := by decide +kernel
theorem dJ5_append_3fe6f_40 : decode cJ5_append_3fe6f 40 = .ok (.i2b, 1) := by decide +kernel
theorem dJ5_append_3fe6f_41 : decode cJ5_append_3fe6f 41 = .ok (.bastore, 1) := by decide +kernel
theorem dJ5_append_3fe6f_42 : decode cJ5_append_3fe6f 42 = .ok (.goto 33, 3) := by decide +kernel
theorem dJ5_append_3fe6f_45 : decode cJ5_append_3fe6f 45 = .ok (.aload_n 0, 1) := by decide +kernel
theorem dJ5_append_3fe6f_46 : decode cJ5_append_3fe6f 46 = .ok (.invokevirtual 83, 3) := by decide +kernel
theorem dJ5_append_3fe6f_49 : decode cJ5_append_3fe6f 49 = .ok (.ifCond .eq 7, 3) := by decide +kernel
theorem dJ5_append_3fe6f_52 : decode cJ5_append_3fe6f 52 = .ok (.aload_n 0, 1) := by decide +kernel
theorem dJ5_append_3fe6f_53 : decode cJ5_append_3fe6f 53 = .ok (.invokevirtual 195, 3) := by decide +kernel
theorem dJ5_append_3fe6f_56 : decode cJ5_append_3fe6f 56 = .ok (.aload_n 0, 1) := by decide +kernel
theorem dJ5_append_3fe6f_57 : decode cJ5_append_3fe6f 57 = .ok (.getfield 15, 3) := by decide +kernel
theorem dJ5_append_3fe6f_60 : decode cJ5_append_3fe6f 60 = .ok (.aload_n 0, 1) := by decide +kernel
theorem dJ5_append_3fe6f_61 : decode cJ5_append_3fe6f 61 = .ok (.dup, 1) := by decide +kernel
theorem dJ5_append_3fe6f_62 : decode cJ5_append_3fe6f 62 = .ok (.getfield 79, 3) := by decide +kernel
theorem dJ5_append_3fe6f_65 : decode cJ5_append_3fe6f 65 = .ok (.dup_x1, 1) := by decide +kernel
theorem dJ5_append_3fe6f_66 : decode cJ5_append_3fe6f 66 = .ok (.iconst 1, 1) := by decide +kernel
theorem dJ5_append_3fe6f_67 : decode cJ5_append_3fe6f 67 = .ok (.iadd, 1) := by decide +kernel
theorem dJ5_append_3fe6f_68 : decode cJ5_append_3fe6f 68 = .ok (.putfield 79, 3) := by decide +kernel
theorem dJ5_append_3fe6f_71 : decode cJ5_append_3fe6f 71 = .ok (.iload_n 1, 1) := by decide +kernel
theorem dJ5_append_3fe6f_72 : decode cJ5_append_3fe6f 72 = .ok (.invokestatic 197, 3) := by decide +kernel
theorem dJ5_append_3fe6f_75 : decode cJ5_append_3fe6f 75 = .ok (.aload_n 0, 1) := by decide +kernel
theorem dJ5_append_3fe6f_76 : decode cJ5_append_3fe6f 76 = .ok (.areturn, 1) := by decide +kernel
def mi_J5_append_3fe6f : MI := (RJ5, yJ5_append_3fe6f, cJ5_append_3fe6f, 2, some (.object "java/lang/AbstractStringBuilder"), [], { frames := 5, cells := 1, slots := 1024, locals := 104 })
theorem ok_J5_append_3fe6f : mOK mi_J5_append_3fe6f 1 := ⟨rfl, cw_J5_append_3fe6f, ini_J5, ⟨rfl, by decide⟩, by decide, by decide, rfl⟩
theorem v_J5_append_3fe6f_45 (this : Nat) (l1 : Int32) (M : Mem) : V mi_J5_append_3fe6f 45 [(0, .ref this), (1, .int l1)] [] M 1 1024 (f_J5_append_3fe6f_45 this l1 M) wR := by
  unfold f_J5_append_3fe6f_45
  refine V_aload_n dJ5_append_3fe6f_45 rfl 0 rfl ?_
  refine V_cGeZ (CRun.V (C := RJ4) (As := []) (k_J5_isLatin1_aae02 this M) (fun _ h => RC.obj (ci := 12) (T := TJ4) (N := 4) rfl (o_J5_isLatin1_aae02 h)) ok_J5_isLatin1_aae02 im_J5_isLatin1_aae02 (selOK.of se_J5_isLatin1_aae02) ml_J5_83 ⟨⟨(Nat.le_of_ble_eq_true rfl), (Nat.le_of_ble_eq_true rfl)⟩, (Nat.le_of_ble_eq_true rfl), (Nat.le_of_ble_eq_true rfl)⟩ dJ5_append_3fe6f_46 rfl rfl (Nat.le_of_ble_eq_true rfl)) rfl rfl rfl (fun x5 => ?_)
  refine V_ifz_eq (q := 56) (q2 := 52) dJ5_append_3fe6f_49 (by decide) rfl ?_ ?_
  · refine V_aload_n dJ5_append_3fe6f_56 rfl 0 rfl ?_
    refine V_getR dJ5_append_3fe6f_57 rfl (ci := 12) (T := TJ4) rfl (by decide) fl_J5_15 (fun x6 => ?_)
    refine V_aload_n dJ5_append_3fe6f_60 rfl 0 rfl ?_
    refine V_dup dJ5_append_3fe6f_61 rfl rfl ?_
    refine V_getI dJ5_append_3fe6f_62 rfl (ci := 12) (T := TJ4) rfl (by decide) fl_J5_79 (fun x7 => ?_)
    refine V_dup_x1 dJ5_append_3fe6f_65 rfl rfl rfl ?_
    refine V_iconst (x := 1) dJ5_append_3fe6f_66 rfl rfl ?_
    refine V_iadd dJ5_append_3fe6f_67 rfl ?_
    refine V_putI dJ5_append_3fe6f_68 rfl (ci := 12) (T := TJ4) rfl (by decide) fl_J5_79 rfl rfl (fun M8 => ?_)
    refine V_iload_n dJ5_append_3fe6f_71 rfl 1 rfl ?_
    exact V_none
  · refine V_aload_n dJ5_append_3fe6f_52 rfl 0 rfl ?_
    exact V_none
theorem v_J5_append_3fe6f (this : Nat) (a1 : Int32) (M : Mem) : V mi_J5_append_3fe6f 0 [(0, .ref this), (1, .int a1)] [] M 0 0 (f_J5_append_3fe6f this a1 M) wR := by
  unfold f_J5_append_3fe6f
  refine V_ob fun _ _ => ?_
  refine V_aload_n dJ5_append_3fe6f_0 rfl 0 rfl ?_
  refine V_aload_n dJ5_append_3fe6f_1 rfl 0 rfl ?_
  refine V_getI dJ5_append_3fe6f_2 rfl (ci := 12) (T := TJ4) rfl (by decide) fl_J5_79 (fun x1 => ?_)
  refine V_iconst (x := 1) dJ5_append_3fe6f_5 rfl rfl ?_
  refine V_iadd dJ5_append_3fe6f_6 rfl ?_
  refine V_cGwV (CRun.V (C := RJ4) (As := [.int (x1 + 1)]) (k_J5_ensureCapacityInternal_d00df this (x1 + 1) M) (fun _ h => RC.obj (ci := 12) (T := TJ4) (N := 4) rfl (o_J5_ensureCapacityInternal_d00df h)) ok_J5_ensureCapacityInternal_d00df im_J5_ensureCapacityInternal_d00df (selOK.priv (N := 4) ins_J4 pm_J5_ensureCapacityInternal_d00df im_J5_ensureCapacityInternal_d00df sm9_J5_ensureCapacityInternal_d00df) ml_J5_100 ⟨⟨(Nat.le_of_ble_eq_true rfl), (Nat.le_of_ble_eq_true rfl)⟩, (Nat.le_of_ble_eq_true rfl), (Nat.le_of_ble_eq_true rfl)⟩ dJ5_append_3fe6f_7 rfl rfl (Nat.le_of_ble_eq_true rfl)) rfl rfl rfl (fun M3 => ?_)
  refine V_aload_n dJ5_append_3fe6f_10 rfl 0 rfl ?_
  refine V_cGeZ (CRun.V (C := RJ4) (As := []) (k_J5_isLatin1_aae02 this M3) (fun _ h => RC.obj (ci := 12) (T := TJ4) (N := 4) rfl (o_J5_isLatin1_aae02 h)) ok_J5_isLatin1_aae02 im_J5_isLatin1_aae02 (selOK.of se_J5_isLatin1_aae02) ml_J5_83 ⟨⟨(Nat.le_of_ble_eq_true rfl), (Nat.le_of_ble_eq_true rfl)⟩, (Nat.le_of_ble_eq_true rfl), (Nat.le_of_ble_eq_true rfl)⟩ dJ5_append_3fe6f_11 rfl rfl (Nat.le_of_ble_eq_true rfl)) rfl rfl rfl (fun x4 => ?_)
  refine V_ifz_eq (q := 45) (q2 := 17) dJ5_append_3fe6f_14 (by decide) rfl ?_ ?_
  · exact v_J5_append_3fe6f_45 this a1 M3
  · refine V_iload_n dJ5_append_3fe6f_17 rfl 1 rfl ?_
    refine V_cSeZ (As := [.int a1]) (k_J1_canEncode_fc78d a1 M3) ok_J1_canEncode_fc78d sm_J1_canEncode_fc78d ml_J5_191 ⟨⟨(Nat.le_of_ble_eq_true rfl), (Nat.le_of_ble_eq_true rfl)⟩, (Nat.le_of_ble_eq_true rfl), (Nat.le_of_ble_eq_true rfl)⟩ dJ5_append_3fe6f_18 rfl rfl rfl (Nat.le_of_ble_eq_true rfl) rfl rfl (fun x9 => ?_)
    refine V_ifz_eq (q := 45) (q2 := 24) dJ5_append_3fe6f_21 (by decide) rfl ?_ ?_
    · exact v_J5_append_3fe6f_45 this a1 M3
    · refine V_aload_n dJ5_append_3fe6f_24 rfl 0 rfl ?_
      refine V_getR dJ5_append_3fe6f_25 rfl (ci := 12) (T := TJ4) rfl (by decide) fl_J5_15 (fun x10 => ?_)
      refine V_aload_n dJ5_append_3fe6f_28 rfl 0 rfl ?_
      refine V_dup dJ5_append_3fe6f_29 rfl rfl ?_
      refine V_getI dJ5_append_3fe6f_30 rfl (ci := 12) (T := TJ4) rfl (by decide) fl_J5_79 (fun x11 => ?_)
      refine V_dup_x1 dJ5_append_3fe6f_33 rfl rfl rfl ?_
      refine V_iconst (x := 1) dJ5_append_3fe6f_34 rfl rfl ?_
      refine V_iadd dJ5_append_3fe6f_35 rfl ?_
      refine V_putI dJ5_append_3fe6f_36 rfl (ci := 12) (T := TJ4) rfl (by decide) fl_J5_79 rfl rfl (fun M12 => ?_)
      refine V_iload_n dJ5_append_3fe6f_39 rfl 1 rfl ?_
      refine V_i2b dJ5_append_3fe6f_40 rfl ?_
      refine V_bastore dJ5_append_3fe6f_41 rfl (fun M13 => ?_)
      refine V_goto (q := 75) dJ5_append_3fe6f_42 (by decide) ?_
      refine V_aload_n dJ5_append_3fe6f_75 rfl 0 rfl ?_
      exact V_aret (v := some this) dJ5_append_3fe6f_76 rfl (Or.inl ⟨_, rfl⟩) rfl ⟨(Nat.le_of_ble_eq_true rfl), (Nat.le_of_ble_eq_true rfl)⟩
theorem k_J5_append_3fe6f (this : Nat) (a1 : Int32) (M : Mem) : K mi_J5_append_3fe6f [.ref this, .int a1] M (f_J5_append_3fe6f this a1 M) wR := K_of_V ok_J5_append_3fe6f (Nat.le_of_ble_eq_true rfl) (v_J5_append_3fe6f this a1 M)
theorem o_J5_append_3fe6f {this : Nat} {a1 : Int32} {M : Mem} {x} (h : f_J5_append_3fe6f this a1 M = some x) : isO M 12 this = true := (ob_of h).1
theorem dJ6_stringSize_0f7a4_0 : decode cJ6_stringSize_0f7a4 0 = .ok (.iconst 1, 1) := by decide +kernel
theorem dJ6_stringSize_0f7a4_1 : decode cJ6_stringSize_0f7a4 1 = .ok (.istore_n 1, 1) := by decide +kernel
theorem dJ6_stringSize_0f7a4_2 : decode cJ6_stringSize_0f7a4 2 = .ok (.iload_n 0, 1) := by decide +kernel
theorem dJ6_stringSize_0f7a4_3 : decode cJ6_stringSize_0f7a4 3 = .ok (.ifCond .lt 8, 3) := by decide +kernel
theorem dJ6_stringSize_0f7a4_6 : decode cJ6_stringSize_0f7a4 6 = .ok (.iconst 0, 1) := by decide +kernel
theorem dJ6_stringSize_0f7a4_7 : decode cJ6_stringSize_0f7a4 7 = .ok (.istore_n 1, 1) := by decide +kernel
theorem dJ6_stringSize_0f7a4_8 : decode cJ6_stringSize_0f7a4 8 = .ok (.iload_n 0, 1) := by decide +kernel
theorem dJ6_stringSize_0f7a4_9 : decode cJ6_stringSize_0f7a4 9 = .ok (.ineg, 1) := by decide +kernel
theorem dJ6_stringSize_0f7a4_10 : decode cJ6_stringSize_0f7a4 10 = .ok (.istore_n 0, 1) := by decide +kernel
theorem dJ6_stringSize_0f7a4_11 : decode cJ6_stringSize_0f7a4 11 = .ok (.bipush (-10), 2) := by decide +kernel
theorem dJ6_stringSize_0f7a4_13 : decode cJ6_stringSize_0f7a4 13 = .ok (.istore_n 2, 1) := by decide +kernel
theorem dJ6_stringSize_0f7a4_14 : decode cJ6_stringSize_0f7a4 14 = .ok (.iconst 1, 1) := by decide +kernel
theorem dJ6_stringSize_0f7a4_15 : decode cJ6_stringSize_0f7a4 15 = .ok (.istore_n 3, 1) := by decide +kernel
theorem dJ6_stringSize_0f7a4_16 : decode cJ6_stringSize_0f7a4 16 = .ok (.iload_n 3, 1) := by decide +kernel
theorem dJ6_stringSize_0f7a4_17 : decode cJ6_stringSize_0f7a4 17 = .ok (.bipush 10, 2) := by decide +kernel
theorem dJ6_stringSize_0f7a4_19 : decode cJ6_stringSize_0f7a4 19 = .ok (.if_icmp .ge 23, 3) := by decide +kernel
theorem dJ6_stringSize_0f7a4_22 : decode cJ6_stringSize_0f7a4 22 = .ok (.iload_n 0, 1) := by decide +kernel
theorem dJ6_stringSize_0f7a4_23 : decode cJ6_stringSize_0f7a4 23 = .ok (.iload_n 2, 1) := by decide +kernel
theorem dJ6_stringSize_0f7a4_24 : decode cJ6_stringSize_0f7a4 24 = .ok (.if_icmp .le 7, 3) := by decide +kernel
theorem dJ6_stringSize_0f7a4_27 : decode cJ6_stringSize_0f7a4 27 = .ok (.iload_n 3, 1) := by decide +kernel
theorem dJ6_stringSize_0f7a4_28 : decode cJ6_stringSize_0f7a4 28 = .ok (.iload_n 1, 1) := by decide +kernel
theorem dJ6_stringSize_0f7a4_29 : decode cJ6_stringSize_0f7a4 29 = .ok (.iadd, 1) := by decide +kernel
theorem dJ6_stringSize_0f7a4_30 : decode cJ6_stringSize_0f7a4 30 = .ok (.ireturn, 1) := by decide +kernel
theorem dJ6_stringSize_0f7a4_31 : decode cJ6_stringSize_0f7a4 31 = .ok (.bipush 10, 2) := by decide +kernel
theorem dJ6_stringSize_0f7a4_33 : decode cJ6_stringSize_0f7a4 33 = .ok (.iload_n 2, 1) := by decide +kernel
theorem dJ6_stringSize_0f7a4_34 : decode cJ6_stringSize_0f7a4 34 = .ok (.imul, 1) := by decide +kernel
theorem dJ6_stringSize_0f7a4_35 : decode cJ6_stringSize_0f7a4 35 = .ok (.istore_n 2, 1) := by decide +kernel
theorem dJ6_stringSize_0f7a4_36 : decode cJ6_stringSize_0f7a4 36 = .ok (.iinc 3 1, 3) := by decide +kernel
theorem dJ6_stringSize_0f7a4_39 : decode cJ6_stringSize_0f7a4 39 = .ok (.goto (-23), 3) := by decide +kernel
theorem dJ6_stringSize_0f7a4_42 : decode cJ6_stringSize_0f7a4 42 = .ok (.bipush 10, 2) := by decide +kernel
theorem dJ6_stringSize_0f7a4_44 : decode cJ6_stringSize_0f7a4 44 = .ok (.iload_n 1, 1) := by decide +kernel
theorem dJ6_stringSize_0f7a4_45 : decode cJ6_stringSize_0f7a4 45 = .ok (.iadd, 1) := by decide +kernel
theorem dJ6_stringSize_0f7a4_46 : decode cJ6_stringSize_0f7a4 46 = .ok (.ireturn, 1) := by decide +kernel
def mi_J6_stringSize_0f7a4 : MI := (RJ6, yJ6_stringSize_0f7a4, cJ6_stringSize_0f7a4, 4, some .int, [], { frames := 1, cells := 0, slots := 0, locals := 12 })
theorem ok_J6_stringSize_0f7a4 : mOK mi_J6_stringSize_0f7a4 1 := ⟨rfl, cw_J6_stringSize_0f7a4, ini_J6, ⟨rfl, by decide⟩, by decide, by decide, rfl⟩
theorem v_J6_stringSize_0f7a4_16 : ∀ (fu : Nat) (l0 : Int32) (l1 : Bool) (l2 : Int32) (l3 : Int32) (M : Mem), V mi_J6_stringSize_0f7a4 16 [(0, .int l0), (1, .int (b2i l1)), (2, .int l2), (3, .int l3)] [] M 0 0 (f_J6_stringSize_0f7a4_16 fu l0 l1 l2 l3 M) (eI M) := by
  intro fu
  induction fu with
  | zero => intros; exact V_none
  | succ fu ih =>
    intro l0 l1 l2 l3 M
    show V mi_J6_stringSize_0f7a4 16 [(0, .int l0), (1, .int (b2i l1)), (2, .int l2), (3, .int l3)] [] M 0 0 (f_J6_stringSize_0f7a4_16 (fu + 1) l0 l1 l2 l3 M) (eI M)
    unfold f_J6_stringSize_0f7a4_16
    refine V_iload_n dJ6_stringSize_0f7a4_16 rfl 3 rfl ?_
    refine V_bipush (x := 10) dJ6_stringSize_0f7a4_17 rfl rfl ?_
    refine V_icmp_ge (q := 42) (q2 := 22) dJ6_stringSize_0f7a4_19 (by decide) rfl ?_ ?_
    · refine V_bipush (x := 10) dJ6_stringSize_0f7a4_42 rfl rfl ?_
      refine V_iload_n dJ6_stringSize_0f7a4_44 rfl 1 rfl ?_
      refine V_iadd dJ6_stringSize_0f7a4_45 rfl ?_
      exact V_iret dJ6_stringSize_0f7a4_46 rfl rfl ⟨(Nat.le_of_ble_eq_true rfl), (Nat.le_of_ble_eq_true rfl)⟩
    · refine V_iload_n dJ6_stringSize_0f7a4_22 rfl 0 rfl ?_
      refine V_iload_n dJ6_stringSize_0f7a4_23 rfl 2 rfl ?_
      refine V_icmp_le (q := 31) (q2 := 27) dJ6_stringSize_0f7a4_24 (by decide) rfl ?_ ?_
      · refine V_bipush (x := 10) dJ6_stringSize_0f7a4_31 rfl rfl ?_
        refine V_iload_n dJ6_stringSize_0f7a4_33 rfl 2 rfl ?_
        refine V_imul dJ6_stringSize_0f7a4_34 rfl ?_
        refine V_istore_n (L' := [(0, .int l0), (1, .int (b2i l1)), (2, .int (10 * l2)), (3, .int l3)]) dJ6_stringSize_0f7a4_35 rfl (by decide) rfl ?_
        refine V_iinc (y := (l3 + 1)) (L' := [(0, .int l0), (1, .int (b2i l1)), (2, .int (10 * l2)), (3, .int (l3 + 1))]) dJ6_stringSize_0f7a4_36 rfl 3 rfl rfl (by decide) rfl ?_
        refine V_goto (q := 16) dJ6_stringSize_0f7a4_39 (by decide) ?_
        exact ih l0 l1 (10 * l2) (l3 + 1) M
      · refine V_iload_n dJ6_stringSize_0f7a4_27 rfl 3 rfl ?_
        refine V_iload_n dJ6_stringSize_0f7a4_28 rfl 1 rfl ?_
        refine V_iadd dJ6_stringSize_0f7a4_29 rfl ?_
        exact V_iret dJ6_stringSize_0f7a4_30 rfl rfl ⟨(Nat.le_of_ble_eq_true rfl), (Nat.le_of_ble_eq_true rfl)⟩
theorem v_J6_stringSize_0f7a4_11 (l0 : Int32) (l1 : Bool) (M : Mem) : V mi_J6_stringSize_0f7a4 11 [(0, .int l0), (1, .int (b2i l1))] [] M 0 0 (f_J6_stringSize_0f7a4_11 l0 l1 M) (eI M) := by
  unfold f_J6_stringSize_0f7a4_11
  refine V_bipush (x := (-10)) dJ6_stringSize_0f7a4_11 rfl rfl ?_
  refine V_istore_n (L' := [(0, .int l0), (1, .int (b2i l1)), (2, .int (-10))]) dJ6_stringSize_0f7a4_13 rfl (by decide) rfl ?_
  refine V_iconst (x := 1) dJ6_stringSize_0f7a4_14 rfl rfl ?_
  refine V_istore_n (L' := [(0, .int l0), (1, .int (b2i l1)), (2, .int (-10)), (3, .int 1)]) dJ6_stringSize_0f7a4_15 rfl (by decide) rfl ?_
  exact v_J6_stringSize_0f7a4_16 FU l0 l1 (-10) 1 M
theorem v_J6_stringSize_0f7a4 (a0 : Int32) (M : Mem) : V mi_J6_stringSize_0f7a4 0 [(0, .int a0)] [] M 0 0 (f_J6_stringSize_0f7a4 a0 M) (eI M) := by
  unfold f_J6_stringSize_0f7a4
  refine V_iconst (x := 1) dJ6_stringSize_0f7a4_0 rfl rfl ?_
  refine V_istore_n (L' := [(0, .int a0), (1, .int 1)]) dJ6_stringSize_0f7a4_1 rfl (by decide) rfl ?_
  refine V_iload_n dJ6_stringSize_0f7a4_2 rfl 0 rfl ?_
  refine V_if_lt (q := 11) (q2 := 6) dJ6_stringSize_0f7a4_3 (by decide) rfl ?_ ?_
  · exact v_J6_stringSize_0f7a4_11 a0 true M
  · refine V_iconst (x := 0) dJ6_stringSize_0f7a4_6 rfl rfl ?_
    refine V_istore_n (L' := [(0, .int a0), (1, .int 0)]) dJ6_stringSize_0f7a4_7 rfl (by decide) rfl ?_
    refine V_iload_n dJ6_stringSize_0f7a4_8 rfl 0 rfl ?_
    refine V_ineg dJ6_stringSize_0f7a4_9 rfl ?_
    refine V_istore_n (L' := [(0, .int (-a0)), (1, .int 0)]) dJ6_stringSize_0f7a4_10 rfl (by decide) rfl ?_
    exact v_J6_stringSize_0f7a4_11 (-a0) false M
theorem k_J6_stringSize_0f7a4 (a0 : Int32) (M : Mem) : K mi_J6_stringSize_0f7a4 [.int a0] M (f_J6_stringSize_0f7a4 a0 M) (eI M) := K_of_V ok_J6_stringSize_0f7a4 (Nat.le_of_ble_eq_true rfl) (v_J6_stringSize_0f7a4 a0 M)
theorem dJ6_getChars_ba4f3_0 : decode cJ6_getChars_ba4f3 0 = .ok (.iload_n 1, 1) := by decide +kernel
theorem dJ6_getChars_ba4f3_1 : decode cJ6_getChars_ba4f3 1 = .ok (.istore 5, 2) := by decide +kernel
theorem dJ6_getChars_ba4f3_3 : decode cJ6_getChars_ba4f3 3 = .ok (.iload_n 0, 1) := by decide +kernel
theorem dJ6_getChars_ba4f3_4 : decode cJ6_getChars_ba4f3 4 = .ok (.ifCond .ge 7, 3) := by decide +kernel
theorem dJ6_getChars_ba4f3_7 : decode cJ6_getChars_ba4f3 7 = .ok (.iconst 1, 1) := by decide +kernel
theorem dJ6_getChars_ba4f3_8 : decode cJ6_getChars_ba4f3 8 = .ok (.goto 4, 3) := by decide +kernel
theorem dJ6_getChars_ba4f3_11 : decode cJ6_getChars_ba4f3 11 = .ok (.iconst 0, 1) := by decide +kernel
theorem dJ6_getChars_ba4f3_12 : decode cJ6_getChars_ba4f3 12 = .ok (.istore 6, 2) := by decide +kernel
theorem dJ6_getChars_ba4f3_14 : decode cJ6_getChars_ba4f3 14 = .ok (.iload 6, 2) := by decide +kernel
theorem dJ6_getChars_ba4f3_16 : decode cJ6_getChars_ba4f3 16 = .ok (.ifCond .ne 6, 3) := by decide +kernel
theorem dJ6_getChars_ba4f3_19 : decode cJ6_getChars_ba4f3 19 = .ok (.iload_n 0, 1) := by decide +kernel
theorem dJ6_getChars_ba4f3_20 : decode cJ6_getChars_ba4f3 20 = .ok (.ineg, 1) := by decide +kernel
theorem dJ6_getChars_ba4f3_21 : decode cJ6_getChars_ba4f3 21 = .ok (.istore_n 0, 1) := by decide +kernel
theorem dJ6_getChars_ba4f3_22 : decode cJ6_getChars_ba4f3 22 = .ok (.iload_n 0, 1) := by decide +kernel
theorem dJ6_getChars_ba4f3_23 : decode cJ6_getChars_ba4f3 23 = .ok (.bipush (-100), 2) := by decide +kernel
theorem dJ6_getChars_ba4f3_25 : decode cJ6_getChars_ba4f3 25 = .ok (.if_icmp .gt 47, 3) := by decide +kernel
theorem dJ6_getChars_ba4f3_28 : decode cJ6_getChars_ba4f3 28 = .ok (.iload_n 0, 1) := by decide +kernel
theorem dJ6_getChars_ba4f3_29 : decode cJ6_getChars_ba4f3 29 = .ok (.bipush 100, 2) := by decide +kernel
theorem dJ6_getChars_ba4f3_31 : decode cJ6_getChars_ba4f3 31 = .ok (.idiv, 1) := by decide +kernel
theorem dJ6_getChars_ba4f3_32 : decode cJ6_getChars_ba4f3 32 = .ok (.istore_n 3, 1) := by decide +kernel
theorem dJ6_getChars_ba4f3_33 : decode cJ6_getChars_ba4f3 33 = .ok (.iload_n 3, 1) := by decide +kernel
theorem dJ6_getChars_ba4f3_34 : decode cJ6_getChars_ba4f3 34 = .ok (.bipush 100, 2) := by decide +kernel
theorem dJ6_getChars_ba4f3_36 : decode cJ6_getChars_ba4f3 36 = .ok (.imul, 1) := by decide +kernel
theorem dJ6_getChars_ba4f3_37 : decode cJ6_getChars_ba4f3 37 = .ok (.iload_n 0, 1) := by decide +kernel
theorem dJ6_getChars_ba4f3_38 : decode cJ6_getChars_ba4f3 38 = .ok (.isub, 1) := by decide +kernel
theorem dJ6_getChars_ba4f3_39 : decode cJ6_getChars_ba4f3 39 = .ok (.istore 4, 2) := by decide +kernel
theorem dJ6_getChars_ba4f3_41 : decode cJ6_getChars_ba4f3 41 = .ok (.iload_n 3, 1) := by decide +kernel
theorem dJ6_getChars_ba4f3_42 : decode cJ6_getChars_ba4f3 42 = .ok (.istore_n 0, 1) := by decide +kernel
theorem dJ6_getChars_ba4f3_43 : decode cJ6_getChars_ba4f3 43 = .ok (.aload_n 2, 1) := by decide +kernel
theorem dJ6_getChars_ba4f3_44 : decode cJ6_getChars_ba4f3 44 = .ok (.iinc 5 (-1), 3) := by decide +kernel
theorem dJ6_getChars_ba4f3_47 : decode cJ6_getChars_ba4f3 47 = .ok (.iload 5, 2) := by decide +kernel
theorem dJ6_getChars_ba4f3_49 : decode cJ6_getChars_ba4f3 49 = .ok (.getstatic 83, 3) := by decide +kernel
theorem dJ6_getChars_ba4f3_52 : decode cJ6_getChars_ba4f3 52 = .ok (.iload 4, 2) := by decide +kernel
theorem dJ6_getChars_ba4f3_54 : decode cJ6_getChars_ba4f3 54 = .ok (.baload, 1) := by decide +kernel
theorem dJ6_getChars_ba4f3_55 : decode cJ6_getChars_ba4f3 55 = .ok (.bastore, 1) := by decide +kernel
theorem dJ6_getChars_ba4f3_56 : decode cJ6_getChars_ba4f3 56 = .ok (.aload_n 2, 1) := by decide +kernel
theorem dJ6_getChars_ba4f3_57 : decode cJ6_getChars_ba4f3 57 = .ok (.iinc 5 (-1), 3) := by decide +kernel
theorem dJ6_getChars_ba4f3_60 : decode cJ6_getChars_ba4f3 60 = .ok (.iload 5, 2) := by decide +kernel
theorem dJ6_getChars_ba4f3_62 : decode cJ6_getChars_ba4f3 62 = .ok (.getstatic 87, 3) := by decide +kernel
theorem dJ6_getChars_ba4f3_65 : decode cJ6_getChars_ba4f3 65 = .ok (.iload 4, 2) := by decide +kernel
theorem dJ6_getChars_ba4f3_67 : decode cJ6_getChars_ba4f3 67 = .ok (.baload, 1) := by decide +kernel
theorem dJ6_getChars_ba4f3_68 : decode cJ6_getChars_ba4f3 68 = .ok (.bastore, 1) := by decide +kernel
theorem dJ6_getChars_ba4f3_69 : decode cJ6_getChars_ba4f3 69 = .ok (.goto (-47), 3) := by decide +kernel
theorem dJ6_getChars_ba4f3_72 : decode cJ6_getChars_ba4f3 72 = .ok (.aload_n 2, 1) := by decide +kernel
theorem dJ6_getChars_ba4f3_73 : decode cJ6_getChars_ba4f3 73 = .ok (.iinc 5 (-1), 3) := by decide +kernel
theorem dJ6_getChars_ba4f3_76 : decode cJ6_getChars_ba4f3 76 = .ok (.iload 5, 2) := by decide +kernel
theorem dJ6_getChars_ba4f3_78 : decode cJ6_getChars_ba4f3 78 = .ok (.getstatic 83, 3) := by decide +kernel
theorem dJ6_getChars_ba4f3_81 : decode cJ6_getChars_ba4f3 81 = .ok (.iload_n 0, 1) := by decide +kernel
theorem dJ6_getChars_ba4f3_82 : decode cJ6_getChars_ba4f3 82 = .ok (.ineg, 1) := by decide +kernel
theorem dJ6_getChars_ba4f3_83 : decode cJ6_getChars_ba4f3 83 = .ok (.baload, 1) := by decide +kernel
theorem dJ6_getChars_ba4f3_84 : decode cJ6_getChars_ba4f3 84 = .ok (.bastore, 1) := by decide +kernel
theorem dJ6_getChars_ba4f3_85 : decode cJ6_getChars_ba4f3 85 = .ok (.iload_n 0, 1) := by decide +kernel
theorem dJ6_getChars_ba4f3_86 : decode cJ6_getChars_ba4f3 86 = .ok (.bipush (-9), 2) := by decide +kernel
theorem dJ6_getChars_ba4f3_88 : decode cJ6_getChars_ba4f3 88 = .ok (.if_icmp .ge 16, 3) := by decide +kernel
theorem dJ6_getChars_ba4f3_91 : decode cJ6_getChars_ba4f3 91 = .ok (.aload_n 2, 1) := by decide +kernel
theorem dJ6_getChars_ba4f3_92 : decode cJ6_getChars_ba4f3 92 = .ok (.iinc 5 (-1), 3) := by decide +kernel
theorem dJ6_getChars_ba4f3_95 : decode cJ6_getChars_ba4f3 95 = .ok (.iload 5, 2) := by decide +kernel
theorem dJ6_getChars_ba4f3_97 : decode cJ6_getChars_ba4f3 97 = .ok (.getstatic 87, 3) := by decide +kernel
theorem dJ6_getChars_ba4f3_100 : decode cJ6_getChars_ba4f3 100 = .ok (.iload_n 0, 1) := by decide +kernel
theorem dJ6_getChars_ba4f3_101 : decode cJ6_getChars_ba4f3 101 = .ok (.ineg, 1) := by decide +kernel
theorem dJ6_getChars_ba4f3_102 : decode cJ6_getChars_ba4f3 102 = .ok (.baload, 1) := by decide +kernel
theorem dJ6_getChars_ba4f3_103 : decode cJ6_getChars_ba4f3 103 = .ok (.bastore, 1) := by decide +kernel
theorem dJ6_getChars_ba4f3_104 : decode cJ6_getChars_ba4f3 104 = .ok (.iload 6, 2) := by decide +kernel
theorem dJ6_getChars_ba4f3_106 : decode cJ6_getChars_ba4f3 106 = .ok (.ifCond .eq 12, 3) := by decide +kernel
theorem dJ6_getChars_ba4f3_109 : decode cJ6_getChars_ba4f3 109 = .ok (.aload_n 2, 1) := by decide +kernel
theorem dJ6_getChars_ba4f3_110 : decode cJ6_getChars_ba4f3 110 = .ok (.iinc 5 (-1), 3) := by decide +kernel
theorem dJ6_getChars_ba4f3_113 : decode cJ6_getChars_ba4f3 113 = .ok (.iload 5, 2) := by decide +kernel
theorem dJ6_getChars_ba4f3_115 : decode cJ6_getChars_ba4f3 115 = .ok (.bipush 45, 2) := by decide +kernel
theorem dJ6_getChars_ba4f3_117 : decode cJ6_getChars_ba4f3 117 = .ok (.bastore, 1) := by decide +kernel
theorem dJ6_getChars_ba4f3_118 : decode cJ6_getChars_ba4f3 118 = .ok (.iload 5, 2) := by decide +kernel
theorem dJ6_getChars_ba4f3_120 : decode cJ6_getChars_ba4f3 120 = .ok (.ireturn, 1) := by decide +kernel
def mi_J6_getChars_ba4f3 : MI := (RJ6, yJ6_getChars_ba4f3, cJ6_getChars_ba4f3, 7, some .int, [], { frames := 1, cells := 0, slots := 0, locals := 12 })
theorem ok_J6_getChars_ba4f3 : mOK mi_J6_getChars_ba4f3 3 := ⟨rfl, cw_J6_getChars_ba4f3, ini_J6, ⟨rfl, by decide⟩, by decide, by decide, rfl⟩
theorem v_J6_getChars_ba4f3_104 (l2 : Nat) (l5 : Int32) (l6 : Bool) (M : Mem) : V mi_J6_getChars_ba4f3 104 [(2, .ref l2), (5, .int l5), (6, .int (b2i l6))] [] M 0 0 (f_J6_getChars_ba4f3_104 l2 l5 l6 M) wI := by
  unfold f_J6_getChars_ba4f3_104
  refine V_iload dJ6_getChars_ba4f3_104 rfl 2 rfl ?_
  refine V_ifz_eq (q := 118) (q2 := 109) dJ6_getChars_ba4f3_106 (by decide) rfl ?_ ?_
  · refine V_iload dJ6_getChars_ba4f3_118 rfl 1 rfl ?_
    exact V_iret dJ6_getChars_ba4f3_120 rfl rfl ⟨(Nat.le_of_ble_eq_true rfl), (Nat.le_of_ble_eq_true rfl)⟩
  · refine V_aload_n dJ6_getChars_ba4f3_109 rfl 0 rfl ?_
    refine V_iinc (y := (l5 + (-1))) (L' := [(2, .ref l2), (5, .int (l5 + (-1))), (6, .int (b2i l6))]) dJ6_getChars_ba4f3_110 rfl 1 rfl rfl (by decide) rfl ?_
    refine V_iload dJ6_getChars_ba4f3_113 rfl 1 rfl ?_
    refine V_bipush (x := 45) dJ6_getChars_ba4f3_115 rfl rfl ?_
    refine V_bastore dJ6_getChars_ba4f3_117 rfl (fun M3 => ?_)
    refine V_iload dJ6_getChars_ba4f3_118 rfl 1 rfl ?_
    exact V_iret dJ6_getChars_ba4f3_120 rfl rfl ⟨(Nat.le_of_ble_eq_true rfl), (Nat.le_of_ble_eq_true rfl)⟩
theorem v_J6_getChars_ba4f3_22 : ∀ (fu : Nat) (l0 : Int32) (l2 : Nat) (l5 : Int32) (l6 : Bool) (M : Mem), V mi_J6_getChars_ba4f3 22 [(0, .int l0), (2, .ref l2), (5, .int l5), (6, .int (b2i l6))] [] M 0 0 (f_J6_getChars_ba4f3_22 fu l0 l2 l5 l6 M) wI := by
  intro fu
  induction fu with
  | zero => intros; exact V_none
  | succ fu ih =>
    intro l0 l2 l5 l6 M
    show V mi_J6_getChars_ba4f3 22 [(0, .int l0), (2, .ref l2), (5, .int l5), (6, .int (b2i l6))] [] M 0 0 (f_J6_getChars_ba4f3_22 (fu + 1) l0 l2 l5 l6 M) wI
    unfold f_J6_getChars_ba4f3_22
    refine V_iload_n dJ6_getChars_ba4f3_22 rfl 0 rfl ?_
    refine V_bipush (x := (-100)) dJ6_getChars_ba4f3_23 rfl rfl ?_
    refine V_icmp_gt (q := 72) (q2 := 28) dJ6_getChars_ba4f3_25 (by decide) rfl ?_ ?_
    · refine V_aload_n dJ6_getChars_ba4f3_72 rfl 1 rfl ?_
      refine V_iinc (y := (l5 + (-1))) (L' := [(0, .int l0), (2, .ref l2), (5, .int (l5 + (-1))), (6, .int (b2i l6))]) dJ6_getChars_ba4f3_73 rfl 2 rfl rfl (by decide) rfl ?_
      refine V_iload dJ6_getChars_ba4f3_76 rfl 2 rfl ?_
      refine V_gets (v := .ref 90) dg_90 (Or.inl fz_J6_83) dJ6_getChars_ba4f3_78 rfl ?_
      refine V_iload_n dJ6_getChars_ba4f3_81 rfl 0 rfl ?_
      refine V_ineg dJ6_getChars_ba4f3_82 rfl ?_
      refine V_bI dJ6_getChars_ba4f3_83 rfl (fun x1 => ?_)
      refine V_bastore dJ6_getChars_ba4f3_84 rfl (fun M2 => ?_)
      refine V_iload_n dJ6_getChars_ba4f3_85 rfl 0 rfl ?_
      refine V_bipush (x := (-9)) dJ6_getChars_ba4f3_86 rfl rfl ?_
      refine V_icmp_ge (q := 104) (q2 := 91) dJ6_getChars_ba4f3_88 (by decide) rfl ?_ ?_
      · exact V_sub [1, 2, 3] rfl (v_J6_getChars_ba4f3_104 l2 (l5 + (-1)) l6 M2)
      · refine V_aload_n dJ6_getChars_ba4f3_91 rfl 1 rfl ?_
        refine V_iinc (y := ((l5 + (-1)) + (-1))) (L' := [(0, .int l0), (2, .ref l2), (5, .int ((l5 + (-1)) + (-1))), (6, .int (b2i l6))]) dJ6_getChars_ba4f3_92 rfl 2 rfl rfl (by decide) rfl ?_
        refine V_iload dJ6_getChars_ba4f3_95 rfl 2 rfl ?_
        refine V_gets (v := .ref 91) dg_91 (Or.inl fz_J6_87) dJ6_getChars_ba4f3_97 rfl ?_
        refine V_iload_n dJ6_getChars_ba4f3_100 rfl 0 rfl ?_
        refine V_ineg dJ6_getChars_ba4f3_101 rfl ?_
        refine V_bI dJ6_getChars_ba4f3_102 rfl (fun x4 => ?_)
        refine V_bastore dJ6_getChars_ba4f3_103 rfl (fun M5 => ?_)
        exact V_sub [1, 2, 3] rfl (v_J6_getChars_ba4f3_104 l2 ((l5 + (-1)) + (-1)) l6 M5)
    · refine V_iload_n dJ6_getChars_ba4f3_28 rfl 0 rfl ?_
      refine V_bipush (x := 100) dJ6_getChars_ba4f3_29 rfl rfl ?_
      refine V_idiv dJ6_getChars_ba4f3_31 rfl (by decide) ?_
      refine V_istore_n (L' := [(0, .int l0), (2, .ref l2), (3, .int (l0 / 100)), (5, .int l5), (6, .int (b2i l6))]) dJ6_getChars_ba4f3_32 rfl (by decide) rfl ?_
      refine V_iload_n dJ6_getChars_ba4f3_33 rfl 2 rfl ?_
      refine V_bipush (x := 100) dJ6_getChars_ba4f3_34 rfl rfl ?_
      refine V_imul dJ6_getChars_ba4f3_36 rfl ?_
      refine V_iload_n dJ6_getChars_ba4f3_37 rfl 0 rfl ?_
      refine V_isub dJ6_getChars_ba4f3_38 rfl ?_
      refine V_istore (L' := [(0, .int l0), (2, .ref l2), (3, .int (l0 / 100)), (4, .int (((l0 / 100) * 100) - l0)), (5, .int l5), (6, .int (b2i l6))]) dJ6_getChars_ba4f3_39 rfl (by decide) rfl ?_
      refine V_iload_n dJ6_getChars_ba4f3_41 rfl 2 rfl ?_
      refine V_istore_n (L' := [(0, .int (l0 / 100)), (2, .ref l2), (3, .int (l0 / 100)), (4, .int (((l0 / 100) * 100) - l0)), (5, .int l5), (6, .int (b2i l6))]) dJ6_getChars_ba4f3_42 rfl (by decide) rfl ?_
      refine V_aload_n dJ6_getChars_ba4f3_43 rfl 1 rfl ?_
      refine V_iinc (y := (l5 + (-1))) (L' := [(0, .int (l0 / 100)), (2, .ref l2), (3, .int (l0 / 100)), (4, .int (((l0 / 100) * 100) - l0)), (5, .int (l5 + (-1))), (6, .int (b2i l6))]) dJ6_getChars_ba4f3_44 rfl 4 rfl rfl (by decide) rfl ?_
      refine V_iload dJ6_getChars_ba4f3_47 rfl 4 rfl ?_
      refine V_gets (v := .ref 90) dg_90 (Or.inl fz_J6_83) dJ6_getChars_ba4f3_49 rfl ?_
      refine V_iload dJ6_getChars_ba4f3_52 rfl 3 rfl ?_
      refine V_bI dJ6_getChars_ba4f3_54 rfl (fun x6 => ?_)
      refine V_bastore dJ6_getChars_ba4f3_55 rfl (fun M7 => ?_)
      refine V_aload_n dJ6_getChars_ba4f3_56 rfl 1 rfl ?_
      refine V_iinc (y := ((l5 + (-1)) + (-1))) (L' := [(0, .int (l0 / 100)), (2, .ref l2), (3, .int (l0 / 100)), (4, .int (((l0 / 100) * 100) - l0)), (5, .int ((l5 + (-1)) + (-1))), (6, .int (b2i l6))]) dJ6_getChars_ba4f3_57 rfl 4 rfl rfl (by decide) rfl ?_
      refine V_iload dJ6_getChars_ba4f3_60 rfl 4 rfl ?_
      refine V_gets (v := .ref 91) dg_91 (Or.inl fz_J6_87) dJ6_getChars_ba4f3_62 rfl ?_
      refine V_iload dJ6_getChars_ba4f3_65 rfl 3 rfl ?_
      refine V_bI dJ6_getChars_ba4f3_67 rfl (fun x8 => ?_)
      refine V_bastore dJ6_getChars_ba4f3_68 rfl (fun M9 => ?_)
      refine V_goto (q := 22) dJ6_getChars_ba4f3_69 (by decide) ?_
      exact V_sub [0, 1, 4, 5] rfl (ih (l0 / 100) l2 ((l5 + (-1)) + (-1)) l6 M9)
theorem v_J6_getChars_ba4f3_12 (l0 : Int32) (l2 : Nat) (l5 : Int32) (s0 : Bool) (M : Mem) : V mi_J6_getChars_ba4f3 12 [(0, .int l0), (2, .ref l2), (5, .int l5)] [.int (b2i s0)] M 0 0 (f_J6_getChars_ba4f3_12 l0 l2 l5 s0 M) wI := by
  unfold f_J6_getChars_ba4f3_12
  refine V_istore (L' := [(0, .int l0), (2, .ref l2), (5, .int l5), (6, .int (b2i s0))]) dJ6_getChars_ba4f3_12 rfl (by decide) rfl ?_
  refine V_iload dJ6_getChars_ba4f3_14 rfl 3 rfl ?_
  refine V_ifz_ne (q := 22) (q2 := 19) dJ6_getChars_ba4f3_16 (by decide) rfl ?_ ?_
  · exact v_J6_getChars_ba4f3_22 FU l0 l2 l5 s0 M
  · refine V_iload_n dJ6_getChars_ba4f3_19 rfl 0 rfl ?_
    refine V_ineg dJ6_getChars_ba4f3_20 rfl ?_
    refine V_istore_n (L' := [(0, .int (-l0)), (2, .ref l2), (5, .int l5), (6, .int (b2i s0))]) dJ6_getChars_ba4f3_21 rfl (by decide) rfl ?_
    exact v_J6_getChars_ba4f3_22 FU (-l0) l2 l5 s0 M
theorem v_J6_getChars_ba4f3 (a0 : Int32) (a1 : Int32) (a2 : Nat) (M : Mem) : V mi_J6_getChars_ba4f3 0 [(0, .int a0), (1, .int a1), (2, .ref a2)] [] M 0 0 (f_J6_getChars_ba4f3 a0 a1 a2 M) wI := by
  unfold f_J6_getChars_ba4f3
  refine V_iload_n dJ6_getChars_ba4f3_0 rfl 1 rfl ?_
  refine V_istore (L' := [(0, .int a0), (1, .int a1), (2, .ref a2), (5, .int a1)]) dJ6_getChars_ba4f3_1 rfl (by decide) rfl ?_
  refine V_iload_n dJ6_getChars_ba4f3_3 rfl 0 rfl ?_
  refine V_if_ge (q := 11) (q2 := 7) dJ6_getChars_ba4f3_4 (by decide) rfl ?_ ?_
  · refine V_iconst (x := 0) dJ6_getChars_ba4f3_11 rfl rfl ?_
    exact V_sub [0, 2, 3] rfl (v_J6_getChars_ba4f3_12 a0 a2 a1 false M)
  · refine V_iconst (x := 1) dJ6_getChars_ba4f3_7 rfl rfl ?_
    refine V_goto (q := 12) dJ6_getChars_ba4f3_8 (by decide) ?_
    exact V_sub [0, 2, 3] rfl (v_J6_getChars_ba4f3_12 a0 a2 a1 true M)
theorem k_J6_getChars_ba4f3 (a0 : Int32) (a1 : Int32) (a2 : Nat) (M : Mem) : K mi_J6_getChars_ba4f3 [.int a0, .int a1, .ref a2] M (f_J6_getChars_ba4f3 a0 a1 a2 M) wI := K_of_V ok_J6_getChars_ba4f3 (Nat.le_of_ble_eq_true rfl) (v_J6_getChars_ba4f3 a0 a1 a2 M)
theorem dJ5_append_c97b9_0 : decode cJ5_append_c97b9 0 = .ok (.aload_n 0, 1) := by decide +kernel
theorem dJ5_append_c97b9_1 : decode cJ5_append_c97b9 1 = .ok (.getfield 79, 3) := by decide +kernel
theorem dJ5_append_c97b9_4 : decode cJ5_append_c97b9 4 = .ok (.istore_n 2, 1) := by decide +kernel
theorem dJ5_append_c97b9_5 : decode cJ5_append_c97b9 5 = .ok (.iload_n 2, 1) := by decide +kernel
theorem dJ5_append_c97b9_6 : decode cJ5_append_c97b9 6 = .ok (.iload_n 1, 1) := by decide +kernel
theorem dJ5_append_c97b9_7 : decode cJ5_append_c97b9 7 = .ok (.invokestatic 245, 3) := by decide +kernel
theorem dJ5_append_c97b9_10 : decode cJ5_append_c97b9 10 = .ok (.iadd, 1) := by decide +kernel
theorem dJ5_append_c97b9_11 : decode cJ5_append_c97b9 11 = .ok (.istore_n 3, 1) := by decide +kernel
theorem dJ5_append_c97b9_12 : decode cJ5_append_c97b9 12 = .ok (.aload_n 0, 1) := by decide +kernel
theorem dJ5_append_c97b9_13 : decode cJ5_append_c97b9 13 = .ok (.iload_n 3, 1) := by decide +kernel
theorem dJ5_append_c97b9_14 : decode cJ5_append_c97b9 14 = .ok (.invokevirtual 100, 3) := by decide +kernel
theorem dJ5_append_c97b9_17 : decode cJ5_append_c97b9 17 = .ok (.aload_n 0, 1) := by decide +kernel
theorem dJ5_append_c97b9_18 : decode cJ5_append_c97b9 18 = .ok (.invokevirtual 83, 3) := by decide +kernel
theorem dJ5_append_c97b9_21 : decode cJ5_append_c97b9 21 = .ok (.ifCond .eq 16, 3) := by decide +kernel
theorem dJ5_append_c97b9_24 : decode cJ5_append_c97b9 24 = .ok (.iload_n 1, 1) := by decide +kernel
theorem dJ5_append_c97b9_25 : decode cJ5_append_c97b9 25 = .ok (.iload_n 3, 1) := by decide +kernel
theorem dJ5_append_c97b9_26 : decode cJ5_append_c97b9 26 = .ok (.aload_n 0, 1) := by decide +kernel
theorem dJ5_append_c97b9_27 : decode cJ5_append_c97b9 27 = .ok (.getfield 15, 3) := by decide +kernel
theorem dJ5_append_c97b9_30 : decode cJ5_append_c97b9 30 = .ok (.invokestatic 248, 3) := by decide +kernel
theorem dJ5_append_c97b9_33 : decode cJ5_append_c97b9 33 = .ok (.pop, 1) := by decide +kernel
theorem dJ5_append_c97b9_34 : decode cJ5_append_c97b9 34 = .ok (.goto 14, 3) := by decide +kernel
theorem dJ5_append_c97b9_37 : decode cJ5_append_c97b9 37 = .ok (.iload_n 1, 1) := by decide +kernel
theorem dJ5_append_c97b9_38 : decode cJ5_append_c97b9 38 = .ok (.iload_n 2, 1) := by decide +kernel
theorem dJ5_append_c97b9_39 : decode cJ5_append_c97b9 39 = .ok (.iload_n 3, 1) := by decide +kernel
theorem dJ5_append_c97b9_40 : decode cJ5_append_c97b9 40 = .ok (.aload_n 0, 1) := by decide +kernel
theorem dJ5_append_c97b9_41 : decode cJ5_append_c97b9 41 = .ok (.getfield 15, 3) := by decide +kernel
theorem dJ5_append_c97b9_44 : decode cJ5_append_c97b9 44 = .ok (.invokestatic 251, 3) := by decide +kernel
theorem dJ5_append_c97b9_47 : decode cJ5_append_c97b9 47 = .ok (.pop, 1) := by decide +kernel
theorem dJ5_append_c97b9_48 : decode cJ5_append_c97b9 48 = .ok (.aload_n 0, 1) := by decide +kernel
theorem dJ5_append_c97b9_49 : decode cJ5_append_c97b9 49 = .ok (.iload_n 3, 1) := by decide +kernel
theorem dJ5_append_c97b9_50 : decode cJ5_append_c97b9 50 = .ok (.putfield 79, 3) := by decide +kernel
theorem dJ5_append_c97b9_53 : decode cJ5_append_c97b9 53 = .ok (.aload_n 0, 1) := by decide +kernel
theorem dJ5_append_c97b9_54 : decode cJ5_append_c97b9 54 = .ok (.areturn, 1) := by decide +kernel
def mi_J5_append_c97b9 : MI := (RJ5, yJ5_append_c97b9, cJ5_append_c97b9, 4, some (.object "java/lang/AbstractStringBuilder"), [], { frames := 5, cells := 1, slots := 1024, locals := 104 })
theorem ok_J5_append_c97b9 : mOK mi_J5_append_c97b9 1 := ⟨rfl, cw_J5_append_c97b9, ini_J5, ⟨rfl, by decide⟩, by decide, by decide, rfl⟩
theorem v_J5_append_c97b9 (this : Nat) (a1 : Int32) (M : Mem) : V mi_J5_append_c97b9 0 [(0, .ref this), (1, .int a1)] [] M 0 0 (f_J5_append_c97b9 this a1 M) wR := by
  unfold f_J5_append_c97b9
  refine V_ob fun _ _ => ?_
  refine V_aload_n dJ5_append_c97b9_0 rfl 0 rfl ?_
  refine V_getI dJ5_append_c97b9_1 rfl (ci := 12) (T := TJ4) rfl (by decide) fl_J5_79 (fun x1 => ?_)
  refine V_istore_n (L' := [(0, .ref this), (1, .int a1), (2, .int x1)]) dJ5_append_c97b9_4 rfl (by decide) rfl ?_
  refine V_iload_n dJ5_append_c97b9_5 rfl 2 rfl ?_
  refine V_iload_n dJ5_append_c97b9_6 rfl 1 rfl ?_
  refine V_cSeI (As := [.int a1]) (k_J6_stringSize_0f7a4 a1 M) ok_J6_stringSize_0f7a4 sm_J6_stringSize_0f7a4 ml_J5_245 ⟨⟨(Nat.le_of_ble_eq_true rfl), (Nat.le_of_ble_eq_true rfl)⟩, (Nat.le_of_ble_eq_true rfl), (Nat.le_of_ble_eq_true rfl)⟩ dJ5_append_c97b9_7 rfl rfl rfl (Nat.le_of_ble_eq_true rfl) rfl rfl (fun x2 => ?_)
  refine V_iadd dJ5_append_c97b9_10 rfl ?_
  refine V_istore_n (L' := [(0, .ref this), (1, .int a1), (2, .int x1), (3, .int (x1 + x2))]) dJ5_append_c97b9_11 rfl (by decide) rfl ?_
  refine V_aload_n dJ5_append_c97b9_12 rfl 0 rfl ?_
  refine V_iload_n dJ5_append_c97b9_13 rfl 3 rfl ?_
  refine V_cGwV (CRun.V (C := RJ4) (As := [.int (x1 + x2)]) (k_J5_ensureCapacityInternal_d00df this (x1 + x2) M) (fun _ h => RC.obj (ci := 12) (T := TJ4) (N := 4) rfl (o_J5_ensureCapacityInternal_d00df h)) ok_J5_ensureCapacityInternal_d00df im_J5_ensureCapacityInternal_d00df (selOK.priv (N := 4) ins_J4 pm_J5_ensureCapacityInternal_d00df im_J5_ensureCapacityInternal_d00df sm9_J5_ensureCapacityInternal_d00df) ml_J5_100 ⟨⟨(Nat.le_of_ble_eq_true rfl), (Nat.le_of_ble_eq_true rfl)⟩, (Nat.le_of_ble_eq_true rfl), (Nat.le_of_ble_eq_true rfl)⟩ dJ5_append_c97b9_14 rfl rfl (Nat.le_of_ble_eq_true rfl)) rfl rfl rfl (fun M4 => ?_)
  refine V_aload_n dJ5_append_c97b9_17 rfl 0 rfl ?_
  refine V_cGeZ (CRun.V (C := RJ4) (As := []) (k_J5_isLatin1_aae02 this M4) (fun _ h => RC.obj (ci := 12) (T := TJ4) (N := 4) rfl (o_J5_isLatin1_aae02 h)) ok_J5_isLatin1_aae02 im_J5_isLatin1_aae02 (selOK.of se_J5_isLatin1_aae02) ml_J5_83 ⟨⟨(Nat.le_of_ble_eq_true rfl), (Nat.le_of_ble_eq_true rfl)⟩, (Nat.le_of_ble_eq_true rfl), (Nat.le_of_ble_eq_true rfl)⟩ dJ5_append_c97b9_18 rfl rfl (Nat.le_of_ble_eq_true rfl)) rfl rfl rfl (fun x5 => ?_)
  refine V_ifz_eq (q := 37) (q2 := 24) dJ5_append_c97b9_21 (by decide) rfl ?_ ?_
  · refine V_iload_n dJ5_append_c97b9_37 rfl 1 rfl ?_
    refine V_iload_n dJ5_append_c97b9_38 rfl 2 rfl ?_
    refine V_iload_n dJ5_append_c97b9_39 rfl 3 rfl ?_
    refine V_aload_n dJ5_append_c97b9_40 rfl 0 rfl ?_
    refine V_getR dJ5_append_c97b9_41 rfl (ci := 12) (T := TJ4) rfl (by decide) fl_J5_15 (fun x6 => ?_)
    exact V_none
  · refine V_iload_n dJ5_append_c97b9_24 rfl 1 rfl ?_
    refine V_iload_n dJ5_append_c97b9_25 rfl 3 rfl ?_
    refine V_aload_n dJ5_append_c97b9_26 rfl 0 rfl ?_
    refine V_getR dJ5_append_c97b9_27 rfl (ci := 12) (T := TJ4) rfl (by decide) fl_J5_15 (fun x7 => ?_)
    refine V_cSwI (As := [.int a1, .int (x1 + x2), .ref x7]) (k_J6_getChars_ba4f3 a1 (x1 + x2) x7 M4) ok_J6_getChars_ba4f3 sm_J6_getChars_ba4f3 ml_J5_248 ⟨⟨(Nat.le_of_ble_eq_true rfl), (Nat.le_of_ble_eq_true rfl)⟩, (Nat.le_of_ble_eq_true rfl), (Nat.le_of_ble_eq_true rfl)⟩ dJ5_append_c97b9_30 rfl rfl rfl (Nat.le_of_ble_eq_true rfl) rfl rfl (fun x8 M9 => ?_)
    refine V_pop dJ5_append_c97b9_33 rfl rfl ?_
    refine V_goto (q := 48) dJ5_append_c97b9_34 (by decide) ?_
    refine V_aload_n dJ5_append_c97b9_48 rfl 0 rfl ?_
    refine V_iload_n dJ5_append_c97b9_49 rfl 3 rfl ?_
    refine V_putI dJ5_append_c97b9_50 rfl (ci := 12) (T := TJ4) rfl (by decide) fl_J5_79 rfl rfl (fun M10 => ?_)
    refine V_aload_n dJ5_append_c97b9_53 rfl 0 rfl ?_
    exact V_aret (v := some this) dJ5_append_c97b9_54 rfl (Or.inl ⟨_, rfl⟩) rfl ⟨(Nat.le_of_ble_eq_true rfl), (Nat.le_of_ble_eq_true rfl)⟩
theorem k_J5_append_c97b9 (this : Nat) (a1 : Int32) (M : Mem) : K mi_J5_append_c97b9 [.ref this, .int a1] M (f_J5_append_c97b9 this a1 M) wR := K_of_V ok_J5_append_c97b9 (Nat.le_of_ble_eq_true rfl) (v_J5_append_c97b9 this a1 M)
theorem o_J5_append_c97b9 {this : Nat} {a1 : Int32} {M : Mem} {x} (h : f_J5_append_c97b9 this a1 M = some x) : isO M 12 this = true := (ob_of h).1
theorem dJ5_getValue_6d5f1_0 : decode cJ5_getValue_6d5f1 0 = .ok (.aload_n 0, 1) := by decide +kernel
theorem dJ5_getValue_6d5f1_1 : decode cJ5_getValue_6d5f1 1 = .ok (.getfield 15, 3) := by decide +kernel
theorem dJ5_getValue_6d5f1_4 : decode cJ5_getValue_6d5f1 4 = .ok (.areturn, 1) := by decide +kernel
def mi_J5_getValue_6d5f1 : MI := (RJ5, yJ5_getValue_6d5f1, cJ5_getValue_6d5f1, 1, some (.array .byte), [], { frames := 1, cells := 0, slots := 0, locals := 12 })
theorem ok_J5_getValue_6d5f1 : mOK mi_J5_getValue_6d5f1 0 := ⟨rfl, cw_J5_getValue_6d5f1, ini_J5, ⟨rfl, by decide⟩, by decide, by decide, rfl⟩
theorem v_J5_getValue_6d5f1 (this : Nat) (M : Mem) : V mi_J5_getValue_6d5f1 0 [(0, .ref this)] [] M 0 0 (f_J5_getValue_6d5f1 this M) (eR M) := by
  unfold f_J5_getValue_6d5f1
  refine V_ob fun _ _ => ?_
  refine V_aload_n dJ5_getValue_6d5f1_0 rfl 0 rfl ?_
  refine V_getR dJ5_getValue_6d5f1_1 rfl (ci := 12) (T := TJ4) rfl (by decide) fl_J5_15 (fun x1 => ?_)
  exact V_aret (v := some x1) dJ5_getValue_6d5f1_4 rfl (Or.inr ⟨_, rfl⟩) rfl ⟨(Nat.le_of_ble_eq_true rfl), (Nat.le_of_ble_eq_true rfl)⟩
theorem k_J5_getValue_6d5f1 (this : Nat) (M : Mem) : K mi_J5_getValue_6d5f1 [.ref this] M (f_J5_getValue_6d5f1 this M) (eR M) := K_of_V ok_J5_getValue_6d5f1 (Nat.le_of_ble_eq_true rfl) (v_J5_getValue_6d5f1 this M)
theorem o_J5_getValue_6d5f1 {this : Nat} {M : Mem} {x} (h : f_J5_getValue_6d5f1 this M = some x) : isO M 12 this = true := (ob_of h).1
theorem dJ4_length_8abf5_0 : decode cJ4_length_8abf5 0 = .ok (.aload_n 0, 1) := by decide +kernel
theorem dJ4_length_8abf5_1 : decode cJ4_length_8abf5 1 = .ok (.invokespecial 343, 3) := by decide +kernel
theorem dJ4_length_8abf5_4 : decode cJ4_length_8abf5 4 = .ok (.ireturn, 1) := by decide +kernel
def mi_J4_length_8abf5 : MI := (RJ4, yJ4_length_8abf5, cJ4_length_8abf5, 1, some .int, [], { frames := 2, cells := 0, slots := 0, locals := 32 })
theorem ok_J4_length_8abf5 : mOK mi_J4_length_8abf5 0 := ⟨rfl, cw_J4_length_8abf5, ini_J4, ⟨rfl, by decide⟩, by decide, by decide, rfl⟩
theorem v_J4_length_8abf5 (this : Nat) (M : Mem) : V mi_J4_length_8abf5 0 [(0, .ref this)] [] M 0 0 (f_J4_length_8abf5 this M) (eI M) := by
  unfold f_J4_length_8abf5
  refine V_ob fun _ _ => ?_
  refine V_aload_n dJ4_length_8abf5_0 rfl 0 rfl ?_
  refine V_cGeI (CRun.S (As := []) (k_J5_length_8abf5 this M) (fun _ h => o_J5_length_8abf5 h) (ci := 12) rfl ok_J5_length_8abf5 im_J5_length_8abf5 ml_J4_343 sm9_J5_length_8abf5 su9 (by decide) ⟨⟨(Nat.le_of_ble_eq_true rfl), (Nat.le_of_ble_eq_true rfl)⟩, (Nat.le_of_ble_eq_true rfl), (Nat.le_of_ble_eq_true rfl)⟩ dJ4_length_8abf5_1 rfl rfl (Nat.le_of_ble_eq_true rfl)) rfl rfl rfl (fun x1 => ?_)
  exact V_iret dJ4_length_8abf5_4 rfl rfl ⟨(Nat.le_of_ble_eq_true rfl), (Nat.le_of_ble_eq_true rfl)⟩
theorem k_J4_length_8abf5 (this : Nat) (M : Mem) : K mi_J4_length_8abf5 [.ref this] M (f_J4_length_8abf5 this M) (eI M) := K_of_V ok_J4_length_8abf5 (Nat.le_of_ble_eq_true rfl) (v_J4_length_8abf5 this M)
theorem o_J4_length_8abf5 {this : Nat} {M : Mem} {x} (h : f_J4_length_8abf5 this M = some x) : isO M 12 this = true := (ob_of h).1
theorem dJ7_checkLength_df160_0 : decode cJ7_checkLength_df160 0 = .ok (.iload_n 1, 1) := by decide +kernel
theorem dJ7_checkLength_df160_1 : decode cJ7_checkLength_df160 1 = .ok (.iload_n 0, 1) := by decide +kernel
theorem dJ7_checkLength_df160_2 : decode cJ7_checkLength_df160 2 = .ok (.if_icmp .ge 35, 3) := by decide +kernel
theorem dJ7_checkLength_df160_5 : decode cJ7_checkLength_df160 5 = .ok (.new 43, 3) := by decide +kernel
theorem dJ7_checkLength_df160_8 : decode cJ7_checkLength_df160 8 = .ok (.dup, 1) := by decide +kernel
theorem dJ7_checkLength_df160_9 : decode cJ7_checkLength_df160 9 = .ok (.new 45, 3) := by decide +kernel
theorem dJ7_checkLength_df160_12 : decode cJ7_checkLength_df160 12 = .ok (.dup, 1) := by decide +kernel
theorem dJ7_checkLength_df160_13 : decode cJ7_checkLength_df160 13 = .ok (.invokespecial 47, 3) := by decide +kernel
theorem dJ7_checkLength_df160_16 : decode cJ7_checkLength_df160 16 = .ok (.iload_n 0, 1) := by decide +kernel
theorem dJ7_checkLength_df160_17 : decode cJ7_checkLength_df160 17 = .ok (.invokevirtual 54, 3) := by decide +kernel
theorem dJ7_checkLength_df160_20 : decode cJ7_checkLength_df160 20 = .ok (.ldc_w 337, 3) := by decide +kernel
theorem dJ7_checkLength_df160_23 : decode cJ7_checkLength_df160 23 = .ok (.invokevirtual 50, 3) := by decide +kernel
theorem dJ7_checkLength_df160_26 : decode cJ7_checkLength_df160 26 = .ok (.iload_n 1, 1) := by decide +kernel
theorem dJ7_checkLength_df160_27 : decode cJ7_checkLength_df160 27 = .ok (.invokevirtual 54, 3) := by decide +kernel
theorem dJ7_checkLength_df160_30 : decode cJ7_checkLength_df160 30 = .ok (.invokevirtual 61, 3) := by decide +kernel
theorem dJ7_checkLength_df160_33 : decode cJ7_checkLength_df160 33 = .ok (.invokespecial 65, 3) := by decide +kernel
theorem dJ7_checkLength_df160_36 : decode cJ7_checkLength_df160 36 = .ok (.athrow, 1) := by decide +kernel
theorem dJ7_checkLength_df160_37 : decode cJ7_checkLength_df160 37 = .ok (.return_, 1) := by decide +kernel
def mi_J7_checkLength_df160 : MI := (RJ7, yJ7_checkLength_df160, cJ7_checkLength_df160, 2, none, [], { frames := 1, cells := 0, slots := 0, locals := 12 })
theorem ok_J7_checkLength_df160 : mOK mi_J7_checkLength_df160 2 := ⟨rfl, cw_J7_checkLength_df160, ini_J7, ⟨rfl, by decide⟩, by decide, by decide, rfl⟩
theorem v_J7_checkLength_df160 (a0 : Int32) (a1 : Int32) (M : Mem) : V mi_J7_checkLength_df160 0 [(0, .int a0), (1, .int a1)] [] M 0 0 (f_J7_checkLength_df160 a0 a1 M) wV := by
  unfold f_J7_checkLength_df160
  refine V_iload_n dJ7_checkLength_df160_0 rfl 1 rfl ?_
  refine V_iload_n dJ7_checkLength_df160_1 rfl 0 rfl ?_
  refine V_icmp_ge (q := 37) (q2 := 5) dJ7_checkLength_df160_2 (by decide) rfl ?_ ?_
  · exact V_vret dJ7_checkLength_df160_37 rfl rfl ⟨(Nat.le_of_ble_eq_true rfl), (Nat.le_of_ble_eq_true rfl)⟩
  · exact V_none
theorem k_J7_checkLength_df160 (a0 : Int32) (a1 : Int32) (M : Mem) : K mi_J7_checkLength_df160 [.int a0, .int a1] M (f_J7_checkLength_df160 a0 a1 M) wV := K_of_V ok_J7_checkLength_df160 (Nat.le_of_ble_eq_true rfl) (v_J7_checkLength_df160 a0 a1 M)
theorem dJ7_copyOfRangeByte_39247_0 : decode cJ7_copyOfRangeByte_39247 0 = .ok (.iload_n 1, 1) := by decide +kernel
theorem dJ7_copyOfRangeByte_39247_1 : decode cJ7_copyOfRangeByte_39247 1 = .ok (.iload_n 2, 1) := by decide +kernel
theorem dJ7_copyOfRangeByte_39247_2 : decode cJ7_copyOfRangeByte_39247 2 = .ok (.invokestatic 343, 3) := by decide +kernel
theorem dJ7_copyOfRangeByte_39247_5 : decode cJ7_copyOfRangeByte_39247 5 = .ok (.iload_n 2, 1) := by decide +kernel
theorem dJ7_copyOfRangeByte_39247_6 : decode cJ7_copyOfRangeByte_39247 6 = .ok (.iload_n 1, 1) := by decide +kernel
theorem dJ7_copyOfRangeByte_39247_7 : decode cJ7_copyOfRangeByte_39247 7 = .ok (.isub, 1) := by decide +kernel
theorem dJ7_copyOfRangeByte_39247_8 : decode cJ7_copyOfRangeByte_39247 8 = .ok (.istore_n 3, 1) := by decide +kernel
theorem dJ7_copyOfRangeByte_39247_9 : decode cJ7_copyOfRangeByte_39247 9 = .ok (.iload_n 3, 1) := by decide +kernel
theorem dJ7_copyOfRangeByte_39247_10 : decode cJ7_copyOfRangeByte_39247 10 = .ok (.newarray .byte, 2) := by decide +kernel
theorem dJ7_copyOfRangeByte_39247_12 : decode cJ7_copyOfRangeByte_39247 12 = .ok (.astore 4, 2) := by decide +kernel
theorem dJ7_copyOfRangeByte_39247_14 : decode cJ7_copyOfRangeByte_39247 14 = .ok (.aload_n 0, 1) := by decide +kernel
theorem dJ7_copyOfRangeByte_39247_15 : decode cJ7_copyOfRangeByte_39247 15 = .ok (.iload_n 1, 1) := by decide +kernel
theorem dJ7_copyOfRangeByte_39247_16 : decode cJ7_copyOfRangeByte_39247 16 = .ok (.aload 4, 2) := by decide +kernel
theorem dJ7_copyOfRangeByte_39247_18 : decode cJ7_copyOfRangeByte_39247 18 = .ok (.iconst 0, 1) := by decide +kernel
theorem dJ7_copyOfRangeByte_39247_19 : decode cJ7_copyOfRangeByte_39247 19 = .ok (.aload_n 0, 1) := by decide +kernel
theorem dJ7_copyOfRangeByte_39247_20 : decode cJ7_copyOfRangeByte_39247 20 = .ok (.arraylength, 1) := by decide +kernel
theorem dJ7_copyOfRangeByte_39247_21 : decode cJ7_copyOfRangeByte_39247 21 = .ok (.iload_n 1, 1) := by decide +kernel
theorem dJ7_copyOfRangeByte_39247_22 : decode cJ7_copyOfRangeByte_39247 22 = .ok (.isub, 1) := by decide +kernel
theorem dJ7_copyOfRangeByte_39247_23 : decode cJ7_copyOfRangeByte_39247 23 = .ok (.iload_n 3, 1) := by decide +kernel
theorem dJ7_copyOfRangeByte_39247_24 : decode cJ7_copyOfRangeByte_39247 24 = .ok (.invokestatic 304, 3) := by decide +kernel
theorem dJ7_copyOfRangeByte_39247_27 : decode cJ7_copyOfRangeByte_39247 27 = .ok (.invokestatic 150, 3) := by decide +kernel
theorem dJ7_copyOfRangeByte_39247_30 : decode cJ7_copyOfRangeByte_39247 30 = .ok (.aload 4, 2) := by decide +kernel
theorem dJ7_copyOfRangeByte_39247_32 : decode cJ7_copyOfRangeByte_39247 32 = .ok (.areturn, 1) := by decide +kernel
def mi_J7_copyOfRangeByte_39247 : MI := (RJ7, yJ7_copyOfRangeByte_39247, cJ7_copyOfRangeByte_39247, 5, some (.array .byte), [], { frames := 2, cells := 1, slots := 1024, locals := 60 })
theorem ok_J7_copyOfRangeByte_39247 : mOK mi_J7_copyOfRangeByte_39247 3 := ⟨rfl, cw_J7_copyOfRangeByte_39247, ini_J7, ⟨rfl, by decide⟩, by decide, by decide, rfl⟩
theorem v_J7_copyOfRangeByte_39247 (a0 : Nat) (a1 : Int32) (a2 : Int32) (M : Mem) : V mi_J7_copyOfRangeByte_39247 0 [(0, .ref a0), (1, .int a1), (2, .int a2)] [] M 0 0 (f_J7_copyOfRangeByte_39247 a0 a1 a2 M) wR := by
  unfold f_J7_copyOfRangeByte_39247
  refine V_iload_n dJ7_copyOfRangeByte_39247_0 rfl 1 rfl ?_
  refine V_iload_n dJ7_copyOfRangeByte_39247_1 rfl 2 rfl ?_
  refine V_cSwV (As := [.int a1, .int a2]) (k_J7_checkLength_df160 a1 a2 M) ok_J7_checkLength_df160 sm_J7_checkLength_df160 ml_J7_343 ⟨⟨(Nat.le_of_ble_eq_true rfl), (Nat.le_of_ble_eq_true rfl)⟩, (Nat.le_of_ble_eq_true rfl), (Nat.le_of_ble_eq_true rfl)⟩ dJ7_copyOfRangeByte_39247_2 rfl rfl rfl (Nat.le_of_ble_eq_true rfl) rfl rfl (fun M2 => ?_)
  refine V_iload_n dJ7_copyOfRangeByte_39247_5 rfl 2 rfl ?_
  refine V_iload_n dJ7_copyOfRangeByte_39247_6 rfl 1 rfl ?_
  refine V_isub dJ7_copyOfRangeByte_39247_7 rfl ?_
  refine V_istore_n (L' := [(0, .ref a0), (1, .int a1), (2, .int a2), (3, .int (a2 - a1))]) dJ7_copyOfRangeByte_39247_8 rfl (by decide) rfl ?_
  refine V_iload_n dJ7_copyOfRangeByte_39247_9 rfl 3 rfl ?_
  refine V_newarrayD dJ7_copyOfRangeByte_39247_10 rfl (t := 2) (N := 1024) (x := fun m => (m, .inl (fun _ => 0))) rfl ar_2 (Nat.le_of_ble_eq_true rfl) (fun _ _ _ => rfl) (fun _ _ h => h) ⟨(Nat.le_of_ble_eq_true rfl), (Nat.le_of_ble_eq_true rfl)⟩ (fun r3 => ?_)
  refine V_astore (L' := [(0, .ref a0), (1, .int a1), (2, .int a2), (3, .int (a2 - a1)), (4, .ref r3)]) dJ7_copyOfRangeByte_39247_12 rfl (by decide) rfl ?_
  refine V_aload_n dJ7_copyOfRangeByte_39247_14 rfl 0 rfl ?_
  refine V_iload_n dJ7_copyOfRangeByte_39247_15 rfl 1 rfl ?_
  refine V_aload dJ7_copyOfRangeByte_39247_16 rfl 4 rfl ?_
  refine V_iconst (x := 0) dJ7_copyOfRangeByte_39247_18 rfl rfl ?_
  refine V_aload_n dJ7_copyOfRangeByte_39247_19 rfl 0 rfl ?_
  refine V_arraylength dJ7_copyOfRangeByte_39247_20 rfl (fun x4 => ?_)
  refine V_iload_n dJ7_copyOfRangeByte_39247_21 rfl 1 rfl ?_
  refine V_isub dJ7_copyOfRangeByte_39247_22 rfl ?_
  refine V_iload_n dJ7_copyOfRangeByte_39247_23 rfl 3 rfl ?_
  refine V_cSeI (As := [.int (x4 - a1), .int (a2 - a1)]) (k_J9_min_7cf53 (x4 - a1) (a2 - a1) (mnew M2 (.inl (2, ((a2 - a1).toNatClampNeg, .inl (fun _ => 0)))))) ok_J9_min_7cf53 sm_J9_min_7cf53 ml_J7_304 ⟨⟨(Nat.le_of_ble_eq_true rfl), (Nat.le_of_ble_eq_true rfl)⟩, (Nat.le_of_ble_eq_true rfl), (Nat.le_of_ble_eq_true rfl)⟩ dJ7_copyOfRangeByte_39247_24 rfl rfl rfl (Nat.le_of_ble_eq_true rfl) rfl rfl (fun x5 => ?_)
  refine V_bcp ml_J7_150 nat_acp sta_acp ini_Sys dJ7_copyOfRangeByte_39247_27 rfl ⟨(Nat.le_of_ble_eq_true rfl), (Nat.le_of_ble_eq_true rfl)⟩ (Nat.le_of_ble_eq_true rfl) (fun M6 => ?_)
  refine V_aload dJ7_copyOfRangeByte_39247_30 rfl 4 rfl ?_
  exact V_aret (v := some r3) dJ7_copyOfRangeByte_39247_32 rfl (Or.inr ⟨_, rfl⟩) rfl ⟨(Nat.le_of_ble_eq_true rfl), (Nat.le_of_ble_eq_true rfl)⟩
theorem k_J7_copyOfRangeByte_39247 (a0 : Nat) (a1 : Int32) (a2 : Int32) (M : Mem) : K mi_J7_copyOfRangeByte_39247 [.ref a0, .int a1, .int a2] M (f_J7_copyOfRangeByte_39247 a0 a1 a2 M) wR := K_of_V ok_J7_copyOfRangeByte_39247 (Nat.le_of_ble_eq_true rfl) (v_J7_copyOfRangeByte_39247 a0 a1 a2 M)
theorem dJ7_copyOfRange_39247_0 : decode cJ7_copyOfRange_39247 0 = .ok (.iload_n 1, 1) := by decide +kernel
theorem dJ7_copyOfRange_39247_1 : decode cJ7_copyOfRange_39247 1 = .ok (.ifCond .ne 9, 3) := by decide +kernel
theorem dJ7_copyOfRange_39247_4 : decode cJ7_copyOfRange_39247 4 = .ok (.iload_n 2, 1) := by decide +kernel
theorem dJ7_copyOfRange_39247_5 : decode cJ7_copyOfRange_39247 5 = .ok (.aload_n 0, 1) := by decide +kernel
theorem dJ7_copyOfRange_39247_6 : decode cJ7_copyOfRange_39247 6 = .ok (.arraylength, 1) := by decide +kernel
theorem dJ7_copyOfRange_39247_7 : decode cJ7_copyOfRange_39247 7 = .ok (.if_icmp .eq 10, 3) := by decide +kernel
theorem dJ7_copyOfRange_39247_10 : decode cJ7_copyOfRange_39247 10 = .ok (.aload_n 0, 1) := by decide +kernel
theorem dJ7_copyOfRange_39247_11 : decode cJ7_copyOfRange_39247 11 = .ok (.iload_n 1, 1) := by decide +kernel
theorem dJ7_copyOfRange_39247_12 : decode cJ7_copyOfRange_39247 12 = .ok (.iload_n 2, 1) := by decide +kernel
theorem dJ7_copyOfRange_39247_13 : decode cJ7_copyOfRange_39247 13 = .ok (.invokestatic 339, 3) := by decide +kernel
theorem dJ7_copyOfRange_39247_16 : decode cJ7_copyOfRange_39247 16 = .ok (.areturn, 1) := by decide +kernel
theorem dJ7_copyOfRange_39247_17 : decode cJ7_copyOfRange_39247 17 = .ok (.aload_n 0, 1) := by decide +kernel
theorem dJ7_copyOfRange_39247_18 : decode cJ7_copyOfRange_39247 18 = .ok (.invokevirtual 310, 3) := by decide +kernel
theorem dJ7_copyOfRange_39247_21 : decode cJ7_copyOfRange_39247 21 = .ok (.checkcast 311, 3) := by decide +kernel
theorem dJ7_copyOfRange_39247_24 : decode cJ7_copyOfRange_39247 24 = .ok (.areturn, 1) := by decide +kernel
def mi_J7_copyOfRange_39247 : MI := (RJ7, yJ7_copyOfRange_39247, cJ7_copyOfRange_39247, 3, some (.array .byte), [], { frames := 3, cells := 1, slots := 1024, locals := 84 })
theorem ok_J7_copyOfRange_39247 : mOK mi_J7_copyOfRange_39247 3 := ⟨rfl, cw_J7_copyOfRange_39247, ini_J7, ⟨rfl, by decide⟩, by decide, by decide, rfl⟩
theorem v_J7_copyOfRange_39247_10 (l0 : Nat) (l1 : Int32) (l2 : Int32) (M : Mem) : V mi_J7_copyOfRange_39247 10 [(0, .ref l0), (1, .int l1), (2, .int l2)] [] M 0 0 (f_J7_copyOfRange_39247_10 l0 l1 l2 M) wR := by
  unfold f_J7_copyOfRange_39247_10
  refine V_aload_n dJ7_copyOfRange_39247_10 rfl 0 rfl ?_
  refine V_iload_n dJ7_copyOfRange_39247_11 rfl 1 rfl ?_
  refine V_iload_n dJ7_copyOfRange_39247_12 rfl 2 rfl ?_
  refine V_cSwR (As := [.ref l0, .int l1, .int l2]) (k_J7_copyOfRangeByte_39247 l0 l1 l2 M) ok_J7_copyOfRangeByte_39247 sm_J7_copyOfRangeByte_39247 ml_J7_339 ⟨⟨(Nat.le_of_ble_eq_true rfl), (Nat.le_of_ble_eq_true rfl)⟩, (Nat.le_of_ble_eq_true rfl), (Nat.le_of_ble_eq_true rfl)⟩ dJ7_copyOfRange_39247_13 rfl rfl rfl (Nat.le_of_ble_eq_true rfl) rfl rfl (fun x1 M2 => ?_)
  exact V_aret (v := some x1) dJ7_copyOfRange_39247_16 rfl (Or.inr ⟨_, rfl⟩) rfl ⟨(Nat.le_of_ble_eq_true rfl), (Nat.le_of_ble_eq_true rfl)⟩
theorem v_J7_copyOfRange_39247 (a0 : Nat) (a1 : Int32) (a2 : Int32) (M : Mem) : V mi_J7_copyOfRange_39247 0 [(0, .ref a0), (1, .int a1), (2, .int a2)] [] M 0 0 (f_J7_copyOfRange_39247 a0 a1 a2 M) wR := by
  unfold f_J7_copyOfRange_39247
  refine V_iload_n dJ7_copyOfRange_39247_0 rfl 1 rfl ?_
  refine V_if_ne (q := 10) (q2 := 4) dJ7_copyOfRange_39247_1 (by decide) rfl ?_ ?_
  · exact v_J7_copyOfRange_39247_10 a0 a1 a2 M
  · refine V_iload_n dJ7_copyOfRange_39247_4 rfl 2 rfl ?_
    refine V_aload_n dJ7_copyOfRange_39247_5 rfl 0 rfl ?_
    refine V_arraylength dJ7_copyOfRange_39247_6 rfl (fun x3 => ?_)
    refine V_icmp_eq (q := 17) (q2 := 10) dJ7_copyOfRange_39247_7 (by decide) rfl ?_ ?_
    · refine V_aload_n dJ7_copyOfRange_39247_17 rfl 0 rfl ?_
      refine V_cln ml_J7_310 cln_sm cln_na cln_im cln_se cln_ca dJ7_copyOfRange_39247_18 rfl ⟨(Nat.le_of_ble_eq_true rfl), (Nat.le_of_ble_eq_true rfl)⟩ (Nat.le_of_ble_eq_true rfl) ⟨(Nat.le_of_ble_eq_true rfl), (Nat.le_of_ble_eq_true rfl)⟩ (fun x4 r5 => ?_)
      refine V_castB cl_J7_311 dJ7_copyOfRange_39247_21 rfl ?_
      exact V_aret (v := some r5) dJ7_copyOfRange_39247_24 rfl (Or.inr ⟨_, rfl⟩) rfl ⟨(Nat.le_of_ble_eq_true rfl), (Nat.le_of_ble_eq_true rfl)⟩
    · exact v_J7_copyOfRange_39247_10 a0 a1 a2 M
theorem k_J7_copyOfRange_39247 (a0 : Nat) (a1 : Int32) (a2 : Int32) (M : Mem) : K mi_J7_copyOfRange_39247 [.ref a0, .int a1, .int a2] M (f_J7_copyOfRange_39247 a0 a1 a2 M) wR := K_of_V ok_J7_copyOfRange_39247 (Nat.le_of_ble_eq_true rfl) (v_J7_copyOfRange_39247 a0 a1 a2 M)
theorem dJ0_init_db425_0 : decode cJ0_init_db425 0 = .ok (.aload_n 0, 1) := by decide +kernel
theorem dJ0_init_db425_1 : decode cJ0_init_db425 1 = .ok (.invokespecial 1, 3) := by decide +kernel
theorem dJ0_init_db425_4 : decode cJ0_init_db425 4 = .ok (.aload_n 1, 1) := by decide +kernel
theorem dJ0_init_db425_5 : decode cJ0_init_db425 5 = .ok (.invokevirtual 552, 3) := by decide +kernel
theorem dJ0_init_db425_8 : decode cJ0_init_db425 8 = .ok (.astore_n 3, 1) := by decide +kernel
theorem dJ0_init_db425_9 : decode cJ0_init_db425 9 = .ok (.aload_n 1, 1) := by decide +kernel
theorem dJ0_init_db425_10 : decode cJ0_init_db425 10 = .ok (.invokevirtual 549, 3) := by decide +kernel
theorem dJ0_init_db425_13 : decode cJ0_init_db425 13 = .ok (.istore 4, 2) := by decide +kernel
theorem dJ0_init_db425_15 : decode cJ0_init_db425 15 = .ok (.aload_n 1, 1) := by decide +kernel
theorem dJ0_init_db425_16 : decode cJ0_init_db425 16 = .ok (.invokevirtual 1047, 3) := by decide +kernel
theorem dJ0_init_db425_19 : decode cJ0_init_db425 19 = .ok (.ifCond .eq 22, 3) := by decide +kernel
theorem dJ0_init_db425_22 : decode cJ0_init_db425 22 = .ok (.aload_n 0, 1) := by decide +kernel
theorem dJ0_init_db425_23 : decode cJ0_init_db425 23 = .ok (.iconst 0, 1) := by decide +kernel
theorem dJ0_init_db425_24 : decode cJ0_init_db425 24 = .ok (.putfield 15, 3) := by decide +kernel
theorem dJ0_init_db425_27 : decode cJ0_init_db425 27 = .ok (.aload_n 0, 1) := by decide +kernel
theorem dJ0_init_db425_28 : decode cJ0_init_db425 28 = .ok (.aload_n 3, 1) := by decide +kernel
theorem dJ0_init_db425_29 : decode cJ0_init_db425 29 = .ok (.iconst 0, 1) := by decide +kernel
theorem dJ0_init_db425_30 : decode cJ0_init_db425 30 = .ok (.iload 4, 2) := by decide +kernel
theorem dJ0_init_db425_32 : decode cJ0_init_db425 32 = .ok (.invokestatic 54, 3) := by decide +kernel
theorem dJ0_init_db425_35 : decode cJ0_init_db425 35 = .ok (.putfield 9, 3) := by decide +kernel
theorem dJ0_init_db425_38 : decode cJ0_init_db425 38 = .ok (.goto 59, 3) := by decide +kernel
theorem dJ0_init_db425_41 : decode cJ0_init_db425 41 = .ok (.getstatic 38, 3) := by decide +kernel
theorem dJ0_init_db425_44 : decode cJ0_init_db425 44 = .ok (.ifCond .eq 35, 3) := by decide +kernel
theorem dJ0_init_db425_47 : decode cJ0_init_db425 47 = .ok (.aload_n 1, 1) := by decide +kernel
theorem dJ0_init_db425_48 : decode cJ0_init_db425 48 = .ok (.getfield 1048, 3) := by decide +kernel
theorem dJ0_init_db425_51 : decode cJ0_init_db425 51 = .ok (.ifCond .eq 28, 3) := by decide +kernel
theorem dJ0_init_db425_54 : decode cJ0_init_db425 54 = .ok (.aload_n 0, 1) := by decide +kernel
theorem dJ0_init_db425_55 : decode cJ0_init_db425 55 = .ok (.aload_n 3, 1) := by decide +kernel
theorem dJ0_init_db425_56 : decode cJ0_init_db425 56 = .ok (.iconst 0, 1) := by decide +kernel
theorem dJ0_init_db425_57 : decode cJ0_init_db425 57 = .ok (.iload 4, 2) := by decide +kernel
theorem dJ0_init_db425_59 : decode cJ0_init_db425 59 = .ok (.invokestatic 1051, 3) := by decide +kernel
theorem dJ0_init_db425_62 : decode cJ0_init_db425 62 = .ok (.putfield 9, 3) := by decide +kernel
theorem dJ0_init_db425_65 : decode cJ0_init_db425 65 = .ok (.aload_n 0, 1) := by decide +kernel
theorem dJ0_init_db425_66 : decode cJ0_init_db425 66 = .ok (.aload_n 0, 1) := by decide +kernel
theorem dJ0_init_db425_67 : decode cJ0_init_db425 67 = .ok (.getfield 9, 3) := by decide +kernel
theorem dJ0_init_db425_70 : decode cJ0_init_db425 70 = .ok (.iload 4, 2) := by decide +kernel
theorem dJ0_init_db425_72 : decode cJ0_init_db425 72 = .ok (.invokestatic 47, 3) := by decide +kernel
theorem dJ0_init_db425_75 : decode cJ0_init_db425 75 = .ok (.putfield 15, 3) := by decide +kernel
theorem dJ0_init_db425_78 : decode cJ0_init_db425 78 = .ok (.return_, 1) := by decide +kernel
theorem dJ0_init_db425_79 : decode cJ0_init_db425 79 = .ok (.aload_n 0, 1) := by decide +kernel
theorem dJ0_init_db425_80 : decode cJ0_init_db425 80 = .ok (.iconst 1, 1) := by decide +kernel
theorem dJ0_init_db425_81 : decode cJ0_init_db425 81 = .ok (.putfield 15, 3) := by decide +kernel
theorem dJ0_init_db425_84 : decode cJ0_init_db425 84 = .ok (.aload_n 0, 1) := by decide +kernel
theorem dJ0_init_db425_85 : decode cJ0_init_db425 85 = .ok (.aload_n 3, 1) := by decide +kernel
theorem dJ0_init_db425_86 : decode cJ0_init_db425 86 = .ok (.iconst 0, 1) := by decide +kernel
theorem dJ0_init_db425_87 : decode cJ0_init_db425 87 = .ok (.iload 4, 2) := by decide +kernel
theorem dJ0_init_db425_89 : decode cJ0_init_db425 89 = .ok (.iconst 1, 1) := by decide +kernel
theorem dJ0_init_db425_90 : decode cJ0_init_db425 90 = .ok (.ishl, 1) := by decide +kernel
theorem dJ0_init_db425_91 : decode cJ0_init_db425 91 = .ok (.invokestatic 54, 3) := by decide +kernel
theorem dJ0_init_db425_94 : decode cJ0_init_db425 94 = .ok (.putfield 9, 3) := by decide +kernel
theorem dJ0_init_db425_97 : decode cJ0_init_db425 97 = .ok (.return_, 1) := by decide +kernel
def mi_J0_init_db425 : MI := (RJ0, yJ0_init_db425, cJ0_init_db425, 5, none, [], { frames := 4, cells := 1, slots := 1024, locals := 106 })
theorem ok_J0_init_db425 : mOK mi_J0_init_db425 2 := ⟨rfl, cw_J0_init_db425, ini_J0, ⟨rfl, by decide⟩, by decide, by decide, rfl⟩
theorem v_J0_init_db425_79 (this : Nat) (l3 : Nat) (l4 : Int32) (M : Mem) : V mi_J0_init_db425 79 [(0, .ref this), (3, .ref l3), (4, .int l4)] [] M 0 0 (f_J0_init_db425_79 this l3 l4 M) wV := by
  unfold f_J0_init_db425_79
  refine V_aload_n dJ0_init_db425_79 rfl 0 rfl ?_
  refine V_iconst (x := 1) dJ0_init_db425_80 rfl rfl ?_
  refine V_putFB dJ0_init_db425_81 rfl (ci := 11) (T := TJ0) rfl (by decide) fl_J0_15_w rfl rfl rfl rfl (fun M5 => ?_)
  refine V_aload_n dJ0_init_db425_84 rfl 0 rfl ?_
  refine V_aload_n dJ0_init_db425_85 rfl 1 rfl ?_
  refine V_iconst (x := 0) dJ0_init_db425_86 rfl rfl ?_
  refine V_iload dJ0_init_db425_87 rfl 2 rfl ?_
  refine V_iconst (x := 1) dJ0_init_db425_89 rfl rfl ?_
  refine V_ishl dJ0_init_db425_90 rfl ?_
  refine V_cSwR (As := [.ref l3, .int 0, .int (l4 <<< (1 &&& 31))]) (k_J7_copyOfRange_39247 l3 0 (l4 <<< (1 &&& 31)) M5) ok_J7_copyOfRange_39247 sm_J7_copyOfRange_39247 ml_J0_54 ⟨⟨(Nat.le_of_ble_eq_true rfl), (Nat.le_of_ble_eq_true rfl)⟩, (Nat.le_of_ble_eq_true rfl), (Nat.le_of_ble_eq_true rfl)⟩ dJ0_init_db425_91 rfl rfl rfl (Nat.le_of_ble_eq_true rfl) rfl rfl (fun x6 M7 => ?_)
  refine V_putFR dJ0_init_db425_94 rfl (ci := 11) (T := TJ0) rfl (by decide) fl_J0_9_w rfl rfl rfl rfl (fun _ => rfl) (fun _ => rfl) (fun M8 => ?_)
  exact V_vret dJ0_init_db425_97 rfl rfl ⟨(Nat.le_of_ble_eq_true rfl), (Nat.le_of_ble_eq_true rfl)⟩
theorem v_J0_init_db425 (this : Nat) (a1 : Nat) (a2 : Option Nat) (M : Mem) : V mi_J0_init_db425 0 [(0, .ref this), (1, .ref a1), (2, va_rf a2)] [] M 0 0 (f_J0_init_db425 this a1 a2 M) wV := by
  unfold f_J0_init_db425
  refine V_ob fun _ _ => ?_
  refine V_aload_n dJ0_init_db425_0 rfl 0 rfl ?_
  refine V_objInit ml_J0_1 dJ0_init_db425_1 rfl ⟨(Nat.le_of_ble_eq_true rfl), (Nat.le_of_ble_eq_true rfl)⟩ ?_
  refine V_aload_n dJ0_init_db425_4 rfl 1 rfl ?_
  refine V_cGeR (CRun.V (C := RJ4) (As := []) (k_J5_getValue_6d5f1 a1 M) (fun _ h => RC.obj (ci := 12) (T := TJ4) (N := 4) rfl (o_J5_getValue_6d5f1 h)) ok_J5_getValue_6d5f1 im_J5_getValue_6d5f1 (selOK.of se_J5_getValue_6d5f1) ml_J0_552 ⟨⟨(Nat.le_of_ble_eq_true rfl), (Nat.le_of_ble_eq_true rfl)⟩, (Nat.le_of_ble_eq_true rfl), (Nat.le_of_ble_eq_true rfl)⟩ dJ0_init_db425_5 rfl rfl (Nat.le_of_ble_eq_true rfl)) rfl rfl rfl (fun x1 => ?_)
  refine V_astore_n (L' := [(0, .ref this), (1, .ref a1), (2, va_rf a2), (3, .ref x1)]) dJ0_init_db425_8 rfl (by decide) (by rcases (a2 : Option Nat) with _ | _ <;> rfl) ?_
  refine V_aload_n dJ0_init_db425_9 rfl 1 rfl ?_
  refine V_cGeI (CRun.U (x := yJ5_length_8abf5) (owner := "java/lang/AbstractStringBuilder") (As := []) (k_J4_length_8abf5 a1 M) (fun _ h => RC.obj (ci := 12) (T := TJ4) (N := 4) rfl (o_J4_length_8abf5 h)) ok_J4_length_8abf5 im_J4_length_8abf5 se_J5_length_8abf5 ml_J0_549 sm9_J5_length_8abf5 im_J5_length_8abf5 cw_J5_length_8abf5 ⟨by decide, by decide⟩ rfl ⟨⟨(Nat.le_of_ble_eq_true rfl), (Nat.le_of_ble_eq_true rfl)⟩, (Nat.le_of_ble_eq_true rfl), (Nat.le_of_ble_eq_true rfl)⟩ dJ0_init_db425_10 rfl rfl (Nat.le_of_ble_eq_true rfl)) rfl rfl rfl (fun x2 => ?_)
  refine V_istore (L' := [(0, .ref this), (1, .ref a1), (2, va_rf a2), (3, .ref x1), (4, .int x2)]) dJ0_init_db425_13 rfl (by decide) (by rcases (a2 : Option Nat) with _ | _ <;> rfl) ?_
  refine V_aload_n dJ0_init_db425_15 rfl 1 rfl ?_
  refine V_cGeZ (CRun.V (C := RJ4) (As := []) (k_J5_isLatin1_aae02 a1 M) (fun _ h => RC.obj (ci := 12) (T := TJ4) (N := 4) rfl (o_J5_isLatin1_aae02 h)) ok_J5_isLatin1_aae02 im_J5_isLatin1_aae02 (selOK.of se_J5_isLatin1_aae02) ml_J0_1047 ⟨⟨(Nat.le_of_ble_eq_true rfl), (Nat.le_of_ble_eq_true rfl)⟩, (Nat.le_of_ble_eq_true rfl), (Nat.le_of_ble_eq_true rfl)⟩ dJ0_init_db425_16 rfl rfl (Nat.le_of_ble_eq_true rfl)) rfl rfl rfl (fun x3 => ?_)
  refine V_ifz_eq (q := 41) (q2 := 22) dJ0_init_db425_19 (by decide) rfl ?_ ?_
  · refine V_gets (v := .int 1) (fun G hG => (g_x hG).2.2.2.2.1) (Or.inl fz_J0_38) dJ0_init_db425_41 rfl ?_
    refine V_if_eq_f (q := 79) (q2 := 47) dJ0_init_db425_44 (by decide) rfl (by decide) ?_
    refine V_aload_n dJ0_init_db425_47 rfl 1 rfl ?_
    refine V_getZ dJ0_init_db425_48 rfl (ci := 12) (T := TJ4) rfl (by decide) fl_J0_1048 (fun x4 => ?_)
    refine V_ifz_eq (q := 79) (q2 := 54) dJ0_init_db425_51 (by decide) rfl ?_ ?_
    · exact V_sub [0, 3, 4] rfl (v_J0_init_db425_79 this x1 x2 M)
    · refine V_aload_n dJ0_init_db425_54 rfl 0 rfl ?_
      refine V_aload_n dJ0_init_db425_55 rfl 3 rfl ?_
      refine V_iconst (x := 0) dJ0_init_db425_56 rfl rfl ?_
      refine V_iload dJ0_init_db425_57 rfl 4 rfl ?_
      exact V_none
  · refine V_aload_n dJ0_init_db425_22 rfl 0 rfl ?_
    refine V_iconst (x := 0) dJ0_init_db425_23 rfl rfl ?_
    refine V_putFB dJ0_init_db425_24 rfl (ci := 11) (T := TJ0) rfl (by decide) fl_J0_15_w rfl rfl rfl rfl (fun M9 => ?_)
    refine V_aload_n dJ0_init_db425_27 rfl 0 rfl ?_
    refine V_aload_n dJ0_init_db425_28 rfl 3 rfl ?_
    refine V_iconst (x := 0) dJ0_init_db425_29 rfl rfl ?_
    refine V_iload dJ0_init_db425_30 rfl 4 rfl ?_
    refine V_cSwR (As := [.ref x1, .int 0, .int x2]) (k_J7_copyOfRange_39247 x1 0 x2 M9) ok_J7_copyOfRange_39247 sm_J7_copyOfRange_39247 ml_J0_54 ⟨⟨(Nat.le_of_ble_eq_true rfl), (Nat.le_of_ble_eq_true rfl)⟩, (Nat.le_of_ble_eq_true rfl), (Nat.le_of_ble_eq_true rfl)⟩ dJ0_init_db425_32 rfl rfl rfl (Nat.le_of_ble_eq_true rfl) rfl rfl (fun x10 M11 => ?_)
    refine V_putFR dJ0_init_db425_35 rfl (ci := 11) (T := TJ0) rfl (by decide) fl_J0_9_w rfl rfl rfl rfl (fun _ => rfl) (fun _ => rfl) (fun M12 => ?_)
    refine V_goto (q := 97) dJ0_init_db425_38 (by decide) ?_
    exact V_vret dJ0_init_db425_97 rfl rfl ⟨(Nat.le_of_ble_eq_true rfl), (Nat.le_of_ble_eq_true rfl)⟩
theorem k_J0_init_db425 (this : Nat) (a1 : Nat) (a2 : Option Nat) (M : Mem) : K mi_J0_init_db425 [.ref this, .ref a1, va_rf a2] M (f_J0_init_db425 this a1 a2 M) wV := by rcases a2 with _ | _ <;> exact K_of_V ok_J0_init_db425 (Nat.le_of_ble_eq_true rfl) (v_J0_init_db425 this a1 _ M)
theorem o_J0_init_db425 {this : Nat} {a1 : Nat} {a2 : Option Nat} {M : Mem} {x} (h : f_J0_init_db425 this a1 a2 M = some x) : isO M 11 this = true := (ob_of h).1
theorem dJ0_init_81219_0 : decode cJ0_init_81219 0 = .ok (.aload_n 0, 1) := by decide +kernel
theorem dJ0_init_81219_1 : decode cJ0_init_81219 1 = .ok (.aload_n 1, 1) := by decide +kernel
theorem dJ0_init_81219_2 : decode cJ0_init_81219 2 = .ok (.aconst_null, 1) := by decide +kernel
theorem dJ0_init_81219_3 : decode cJ0_init_81219 3 = .ok (.invokespecial 489, 3) := by decide +kernel
theorem dJ0_init_81219_6 : decode cJ0_init_81219 6 = .ok (.return_, 1) := by decide +kernel
def mi_J0_init_81219 : MI := (RJ0, yJ0_init_81219, cJ0_init_81219, 2, none, [], { frames := 5, cells := 1, slots := 1024, locals := 130 })
theorem ok_J0_init_81219 : mOK mi_J0_init_81219 1 := ⟨rfl, cw_J0_init_81219, ini_J0, ⟨rfl, by decide⟩, by decide, by decide, rfl⟩
theorem v_J0_init_81219 (this : Nat) (a1 : Nat) (M : Mem) : V mi_J0_init_81219 0 [(0, .ref this), (1, .ref a1)] [] M 0 0 (f_J0_init_81219 this a1 M) wV := by
  unfold f_J0_init_81219
  refine V_ob fun _ _ => ?_
  refine V_aload_n dJ0_init_81219_0 rfl 0 rfl ?_
  refine V_aload_n dJ0_init_81219_1 rfl 1 rfl ?_
  refine V_null dJ0_init_81219_2 rfl ?_
  refine V_cIwV (As := [.ref a1, va_rf none]) (k_J0_init_db425 this a1 none M) ok_J0_init_db425 im_J0_init_db425 ml_J0_489 ⟨⟨(Nat.le_of_ble_eq_true rfl), (Nat.le_of_ble_eq_true rfl)⟩, (Nat.le_of_ble_eq_true rfl), (Nat.le_of_ble_eq_true rfl)⟩ rfl rfl dJ0_init_81219_3 rfl rfl rfl (Nat.le_of_ble_eq_true rfl) rfl rfl (fun M2 => ?_)
  exact V_vret dJ0_init_81219_6 rfl rfl ⟨(Nat.le_of_ble_eq_true rfl), (Nat.le_of_ble_eq_true rfl)⟩
theorem k_J0_init_81219 (this : Nat) (a1 : Nat) (M : Mem) : K mi_J0_init_81219 [.ref this, .ref a1] M (f_J0_init_81219 this a1 M) wV := K_of_V ok_J0_init_81219 (Nat.le_of_ble_eq_true rfl) (v_J0_init_81219 this a1 M)
theorem o_J0_init_81219 {this : Nat} {a1 : Nat} {M : Mem} {x} (h : f_J0_init_81219 this a1 M = some x) : isO M 11 this = true := (ob_of h).1
theorem dJ4_init_da8c8_0 : decode cJ4_init_da8c8 0 = .ok (.aload_n 0, 1) := by decide +kernel
theorem dJ4_init_da8c8_1 : decode cJ4_init_da8c8 1 = .ok (.bipush 16, 2) := by decide +kernel
theorem dJ4_init_da8c8_3 : decode cJ4_init_da8c8 3 = .ok (.invokespecial 1, 3) := by decide +kernel
theorem dJ4_init_da8c8_6 : decode cJ4_init_da8c8 6 = .ok (.return_, 1) := by decide +kernel
def mi_J4_init_da8c8 : MI := (RJ4, yJ4_init_da8c8, cJ4_init_da8c8, 1, none, [], { frames := 2, cells := 1, slots := 1024, locals := 33 })
theorem ok_J4_init_da8c8 : mOK mi_J4_init_da8c8 0 := ⟨rfl, cw_J4_init_da8c8, ini_J4, ⟨rfl, by decide⟩, by decide, by decide, rfl⟩
theorem v_J4_init_da8c8 (this : Nat) (M : Mem) : V mi_J4_init_da8c8 0 [(0, .ref this)] [] M 0 0 (f_J4_init_da8c8 this M) wV := by
  unfold f_J4_init_da8c8
  refine V_ob fun _ _ => ?_
  refine V_aload_n dJ4_init_da8c8_0 rfl 0 rfl ?_
  refine V_bipush (x := 16) dJ4_init_da8c8_1 rfl rfl ?_
  refine V_cIwV (As := [.int 16]) (k_J5_init_d00df this 16 M) ok_J5_init_d00df im_J5_init_d00df ml_J4_1 ⟨⟨(Nat.le_of_ble_eq_true rfl), (Nat.le_of_ble_eq_true rfl)⟩, (Nat.le_of_ble_eq_true rfl), (Nat.le_of_ble_eq_true rfl)⟩ rfl rfl dJ4_init_da8c8_3 rfl rfl rfl (Nat.le_of_ble_eq_true rfl) rfl rfl (fun M2 => ?_)
  exact V_vret dJ4_init_da8c8_6 rfl rfl ⟨(Nat.le_of_ble_eq_true rfl), (Nat.le_of_ble_eq_true rfl)⟩
theorem k_J4_init_da8c8 (this : Nat) (M : Mem) : K mi_J4_init_da8c8 [.ref this] M (f_J4_init_da8c8 this M) wV := K_of_V ok_J4_init_da8c8 (Nat.le_of_ble_eq_true rfl) (v_J4_init_da8c8 this M)
theorem o_J4_init_da8c8 {this : Nat} {M : Mem} {x} (h : f_J4_init_da8c8 this M = some x) : isO M 12 this = true := (ob_of h).1
theorem dJ4_init_a7421_0 : decode cJ4_init_a7421 0 = .ok (.aload_n 0, 1) := by decide +kernel
theorem dJ4_init_a7421_1 : decode cJ4_init_a7421 1 = .ok (.aload_n 1, 1) := by decide +kernel
theorem dJ4_init_a7421_2 : decode cJ4_init_a7421 2 = .ok (.invokespecial 7, 3) := by decide +kernel
theorem dJ4_init_a7421_5 : decode cJ4_init_a7421 5 = .ok (.return_, 1) := by decide +kernel
def mi_J4_init_a7421 : MI := (RJ4, yJ4_init_a7421, cJ4_init_a7421, 2, none, [], { frames := 9, cells := 2, slots := 2048, locals := 193 })
theorem ok_J4_init_a7421 : mOK mi_J4_init_a7421 1 := ⟨rfl, cw_J4_init_a7421, ini_J4, ⟨rfl, by decide⟩, by decide, by decide, rfl⟩
theorem v_J4_init_a7421 (this : Nat) (a1 : Nat) (M : Mem) : V mi_J4_init_a7421 0 [(0, .ref this), (1, .ref a1)] [] M 0 0 (f_J4_init_a7421 this a1 M) wV := by
  unfold f_J4_init_a7421
  refine V_ob fun _ _ => ?_
  refine V_aload_n dJ4_init_a7421_0 rfl 0 rfl ?_
  refine V_aload_n dJ4_init_a7421_1 rfl 1 rfl ?_
  refine V_cIwV (As := [.ref a1]) (k_J5_init_a7421 this a1 M) ok_J5_init_a7421 im_J5_init_a7421 ml_J4_7 ⟨⟨(Nat.le_of_ble_eq_true rfl), (Nat.le_of_ble_eq_true rfl)⟩, (Nat.le_of_ble_eq_true rfl), (Nat.le_of_ble_eq_true rfl)⟩ rfl rfl dJ4_init_a7421_2 rfl rfl rfl (Nat.le_of_ble_eq_true rfl) rfl rfl (fun M2 => ?_)
  exact V_vret dJ4_init_a7421_5 rfl rfl ⟨(Nat.le_of_ble_eq_true rfl), (Nat.le_of_ble_eq_true rfl)⟩
theorem k_J4_init_a7421 (this : Nat) (a1 : Nat) (M : Mem) : K mi_J4_init_a7421 [.ref this, .ref a1] M (f_J4_init_a7421 this a1 M) wV := K_of_V ok_J4_init_a7421 (Nat.le_of_ble_eq_true rfl) (v_J4_init_a7421 this a1 M)
theorem o_J4_init_a7421 {this : Nat} {a1 : Nat} {M : Mem} {x} (h : f_J4_init_a7421 this a1 M = some x) : isO M 12 this = true := (ob_of h).1
theorem dJ4_append_cf468_0 : decode cJ4_append_cf468 0 = .ok (.aload_n 0, 1) := by decide +kernel
theorem dJ4_append_cf468_1 : decode cJ4_append_cf468 1 = .ok (.iload_n 1, 1) := by decide +kernel
theorem dJ4_append_cf468_2 : decode cJ4_append_cf468 2 = .ok (.invokespecial 50, 3) := by decide +kernel
theorem dJ4_append_cf468_5 : decode cJ4_append_cf468 5 = .ok (.pop, 1) := by decide +kernel
theorem dJ4_append_cf468_6 : decode cJ4_append_cf468 6 = .ok (.aload_n 0, 1) := by decide +kernel
theorem dJ4_append_cf468_7 : decode cJ4_append_cf468 7 = .ok (.areturn, 1) := by decide +kernel
def mi_J4_append_cf468 : MI := (RJ4, yJ4_append_cf468, cJ4_append_cf468, 2, some (.object "java/lang/StringBuilder"), [], { frames := 6, cells := 1, slots := 1024, locals := 125 })
theorem ok_J4_append_cf468 : mOK mi_J4_append_cf468 1 := ⟨rfl, cw_J4_append_cf468, ini_J4, ⟨rfl, by decide⟩, by decide, by decide, rfl⟩
theorem v_J4_append_cf468 (this : Nat) (a1 : Int32) (M : Mem) : V mi_J4_append_cf468 0 [(0, .ref this), (1, .int a1)] [] M 0 0 (f_J4_append_cf468 this a1 M) wR := by
  unfold f_J4_append_cf468
  refine V_ob fun _ _ => ?_
  refine V_aload_n dJ4_append_cf468_0 rfl 0 rfl ?_
  refine V_iload_n dJ4_append_cf468_1 rfl 1 rfl ?_
  refine V_cGwR (CRun.S (As := [.int a1]) (k_J5_append_3fe6f this a1 M) (fun _ h => o_J5_append_3fe6f h) (ci := 12) rfl ok_J5_append_3fe6f im_J5_append_3fe6f ml_J4_50 sm9_J5_append_3fe6f su9 (by decide) ⟨⟨(Nat.le_of_ble_eq_true rfl), (Nat.le_of_ble_eq_true rfl)⟩, (Nat.le_of_ble_eq_true rfl), (Nat.le_of_ble_eq_true rfl)⟩ dJ4_append_cf468_2 rfl rfl (Nat.le_of_ble_eq_true rfl)) rfl rfl rfl (fun x1 M2 => ?_)
  refine V_pop dJ4_append_cf468_5 rfl rfl ?_
  refine V_aload_n dJ4_append_cf468_6 rfl 0 rfl ?_
  exact V_aret (v := some this) dJ4_append_cf468_7 rfl (Or.inl ⟨_, rfl⟩) rfl ⟨(Nat.le_of_ble_eq_true rfl), (Nat.le_of_ble_eq_true rfl)⟩
theorem k_J4_append_cf468 (this : Nat) (a1 : Int32) (M : Mem) : K mi_J4_append_cf468 [.ref this, .int a1] M (f_J4_append_cf468 this a1 M) wR := K_of_V ok_J4_append_cf468 (Nat.le_of_ble_eq_true rfl) (v_J4_append_cf468 this a1 M)
theorem o_J4_append_cf468 {this : Nat} {a1 : Int32} {M : Mem} {x} (h : f_J4_append_cf468 this a1 M = some x) : isO M 12 this = true := (ob_of h).1
theorem dJ4_append_bf812_0 : decode cJ4_append_bf812 0 = .ok (.aload_n 0, 1) := by decide +kernel
theorem dJ4_append_bf812_1 : decode cJ4_append_bf812 1 = .ok (.iload_n 1, 1) := by decide +kernel
theorem dJ4_append_bf812_2 : decode cJ4_append_bf812 2 = .ok (.invokespecial 53, 3) := by decide +kernel
theorem dJ4_append_bf812_5 : decode cJ4_append_bf812 5 = .ok (.pop, 1) := by decide +kernel
theorem dJ4_append_bf812_6 : decode cJ4_append_bf812 6 = .ok (.aload_n 0, 1) := by decide +kernel
theorem dJ4_append_bf812_7 : decode cJ4_append_bf812 7 = .ok (.areturn, 1) := by decide +kernel
def mi_J4_append_bf812 : MI := (RJ4, yJ4_append_bf812, cJ4_append_bf812, 2, some (.object "java/lang/StringBuilder"), [], { frames := 6, cells := 1, slots := 1024, locals := 127 })
theorem ok_J4_append_bf812 : mOK mi_J4_append_bf812 1 := ⟨rfl, cw_J4_append_bf812, ini_J4, ⟨rfl, by decide⟩, by decide, by decide, rfl⟩
theorem v_J4_append_bf812 (this : Nat) (a1 : Int32) (M : Mem) : V mi_J4_append_bf812 0 [(0, .ref this), (1, .int a1)] [] M 0 0 (f_J4_append_bf812 this a1 M) wR := by
  unfold f_J4_append_bf812
  refine V_ob fun _ _ => ?_
  refine V_aload_n dJ4_append_bf812_0 rfl 0 rfl ?_
  refine V_iload_n dJ4_append_bf812_1 rfl 1 rfl ?_
  refine V_cGwR (CRun.S (As := [.int a1]) (k_J5_append_c97b9 this a1 M) (fun _ h => o_J5_append_c97b9 h) (ci := 12) rfl ok_J5_append_c97b9 im_J5_append_c97b9 ml_J4_53 sm9_J5_append_c97b9 su9 (by decide) ⟨⟨(Nat.le_of_ble_eq_true rfl), (Nat.le_of_ble_eq_true rfl)⟩, (Nat.le_of_ble_eq_true rfl), (Nat.le_of_ble_eq_true rfl)⟩ dJ4_append_bf812_2 rfl rfl (Nat.le_of_ble_eq_true rfl)) rfl rfl rfl (fun x1 M2 => ?_)
  refine V_pop dJ4_append_bf812_5 rfl rfl ?_
  refine V_aload_n dJ4_append_bf812_6 rfl 0 rfl ?_
  exact V_aret (v := some this) dJ4_append_bf812_7 rfl (Or.inl ⟨_, rfl⟩) rfl ⟨(Nat.le_of_ble_eq_true rfl), (Nat.le_of_ble_eq_true rfl)⟩
theorem k_J4_append_bf812 (this : Nat) (a1 : Int32) (M : Mem) : K mi_J4_append_bf812 [.ref this, .int a1] M (f_J4_append_bf812 this a1 M) wR := K_of_V ok_J4_append_bf812 (Nat.le_of_ble_eq_true rfl) (v_J4_append_bf812 this a1 M)
theorem o_J4_append_bf812 {this : Nat} {a1 : Int32} {M : Mem} {x} (h : f_J4_append_bf812 this a1 M = some x) : isO M 12 this = true := (ob_of h).1
theorem dJ4_toString_0e30d_0 : decode cJ4_toString_0e30d 0 = .ok (.new 18, 3) := by decide +kernel
theorem dJ4_toString_0e30d_3 : decode cJ4_toString_0e30d 3 = .ok (.dup, 1) := by decide +kernel
theorem dJ4_toString_0e30d_4 : decode cJ4_toString_0e30d 4 = .ok (.aload_n 0, 1) := by decide +kernel
theorem dJ4_toString_0e30d_5 : decode cJ4_toString_0e30d 5 = .ok (.invokespecial 137, 3) := by decide +kernel
theorem dJ4_toString_0e30d_8 : decode cJ4_toString_0e30d 8 = .ok (.areturn, 1) := by decide +kernel
def mi_J4_toString_0e30d : MI := (RJ4, yJ4_toString_0e30d, cJ4_toString_0e30d, 1, some (.object "java/lang/String"), [], { frames := 6, cells := 2, slots := 1028, locals := 151 })
theorem ok_J4_toString_0e30d : mOK mi_J4_toString_0e30d 0 := ⟨rfl, cw_J4_toString_0e30d, ini_J4, ⟨rfl, by decide⟩, by decide, by decide, rfl⟩
theorem v_J4_toString_0e30d (this : Nat) (M : Mem) : V mi_J4_toString_0e30d 0 [(0, .ref this)] [] M 0 0 (f_J4_toString_0e30d this M) wR := by
  unfold f_J4_toString_0e30d
  refine V_ob fun _ _ => ?_
  refine V_new dJ4_toString_0e30d_0 rfl (ci := 11) (T := TJ0) (N := 4) (fs := [.null, .int 0, .int 0, .int 0]) (ty := tyJ0) rfl cl_J4_18 ins_J0 ini_J0 tyJ0_ok (fun _ j hj => match j, hj with | 0, _ => rfl | 1, _ => rfl | 2, _ => rfl | 3, _ => rfl | j + 4, h => absurd h (by omega)) ⟨(Nat.le_of_ble_eq_true rfl), (Nat.le_of_ble_eq_true rfl)⟩ (fun r1 => ?_)
  refine V_dup dJ4_toString_0e30d_3 rfl rfl ?_
  refine V_aload_n dJ4_toString_0e30d_4 rfl 0 rfl ?_
  refine V_cIwV (As := [.ref this]) (k_J0_init_81219 r1 this (mnew M (.inr (11, [.null, .int 0, .int 0, .int 0])))) ok_J0_init_81219 im_J0_init_81219 ml_J4_137 ⟨⟨(Nat.le_of_ble_eq_true rfl), (Nat.le_of_ble_eq_true rfl)⟩, (Nat.le_of_ble_eq_true rfl), (Nat.le_of_ble_eq_true rfl)⟩ rfl rfl dJ4_toString_0e30d_5 rfl rfl rfl (Nat.le_of_ble_eq_true rfl) rfl rfl (fun M3 => ?_)
  exact V_aret (v := some r1) dJ4_toString_0e30d_8 rfl (Or.inl ⟨_, rfl⟩) rfl ⟨(Nat.le_of_ble_eq_true rfl), (Nat.le_of_ble_eq_true rfl)⟩
theorem k_J4_toString_0e30d (this : Nat) (M : Mem) : K mi_J4_toString_0e30d [.ref this] M (f_J4_toString_0e30d this M) wR := K_of_V ok_J4_toString_0e30d (Nat.le_of_ble_eq_true rfl) (v_J4_toString_0e30d this M)
theorem o_J4_toString_0e30d {this : Nat} {M : Mem} {x} (h : f_J4_toString_0e30d this M = some x) : isO M 12 this = true := (ob_of h).1
