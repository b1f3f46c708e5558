def f_X5_init_30 (this : Nat) (M : Mem) : Option Mem :=
  ob M 4 this (
    (alc M).bind fun r1 =>
    (pV (mnew M (.inl (0, (30, .inl (fun _ => 0))))) 4 0 this (.ref r1)).bind fun M2 =>
    (pV M2 4 1 this (.int 0)).bind fun M3 =>
    some M3
  )
def f_X0_init (this : Nat) (M : Mem) : Option Mem :=
  ob M 0 this (
    (pV M 0 0 this (.long 0)).bind fun M1 =>
    (pV M1 0 1 this (.int 1)).bind fun M2 =>
    (alc M2).bind fun r3 =>
    (f_X5_init_30 r3 (mnew M2 (.inr (4, [.null, .int 0])))).bind fun M5 =>
    (pV M5 0 2 this (.ref r3)).bind fun M6 =>
    (alc M6).bind fun r7 =>
    (f_X5_init_30 r7 (mnew M6 (.inr (4, [.null, .int 0])))).bind fun M9 =>
    (pV M9 0 3 this (.ref r7)).bind fun M10 =>
    (alc M10).bind fun r11 =>
    (f_X5_init_30 r11 (mnew M10 (.inr (4, [.null, .int 0])))).bind fun M13 =>
    (pV M13 0 4 this (.ref r11)).bind fun M14 =>
    some M14
  )
def f_X0_begin (this : Nat) (a1 : Int64) (M : Mem) : Option Mem :=
  ob M 0 this (
    (pV M 0 0 this (.long a1)).bind fun M1 =>
    (pV M1 0 1 this (.int 1)).bind fun M2 =>
    (gR M2 0 2 this).bind fun x3 =>
    (f_X5_clear x3 M2).bind fun M5 =>
    (gR M5 0 3 this).bind fun x6 =>
    (f_X5_clear x6 M5).bind fun M8 =>
    (gR M8 0 4 this).bind fun x9 =>
    (f_X5_clear x9 M8).bind fun M11 =>
    some M11
  )
def f_X0_takeFrom (this : Nat) (a1 : Nat) (M : Mem) : Option Mem :=
  ob M 0 this (
    (gJ M 0 0 a1).bind fun x1 =>
    (pV M 0 0 this (.long x1)).bind fun M2 =>
    (gI M2 0 1 a1).bind fun x3 =>
    (pV M2 0 1 this (.int x3)).bind fun M4 =>
    (gR M4 0 2 this).bind fun x5 =>
    (gR M4 0 2 a1).bind fun x6 =>
    (f_X5_takeFrom x5 x6 M4).bind fun M8 =>
    (gR M8 0 3 this).bind fun x9 =>
    (gR M8 0 3 a1).bind fun x10 =>
    (f_X5_takeFrom x9 x10 M8).bind fun M12 =>
    (gR M12 0 4 this).bind fun x13 =>
    (gR M12 0 4 a1).bind fun x14 =>
    (f_X5_takeFrom x13 x14 M12).bind fun M16 =>
    some M16
  )
def f_X0_size (this : Nat) (M : Mem) : Option Int32 :=
  ob M 0 this (
    (gR M 0 2 this).bind fun x1 =>
    (f_X5_size x1 M).bind fun x2 =>
    some x2
  )
def f_X0_indexOfUid (this : Nat) (a1 : Int32) (M : Mem) : Option Int32 :=
  ob M 0 this (
    (gR M 0 2 this).bind fun x1 =>
    (f_X5_find x1 a1 M).bind fun x2 =>
    some x2
  )
def f_X0_addMessage (this : Nat) (a1 : Int32) (a2 : Int32) (M : Mem) : Option Mem :=
  ob M 0 this (
    (gR M 0 2 this).bind fun x1 =>
    (gI M 0 1 this).bind fun x2 =>
    (f_X5_add x1 x2 M).bind fun M4 =>
    (gR M4 0 3 this).bind fun x5 =>
    (f_X5_add x5 a1 M4).bind fun M7 =>
    (gR M7 0 4 this).bind fun x8 =>
    (f_X5_add x8 a2 M7).bind fun M10 =>
    (gI M10 0 1 this).bind fun x11 =>
    (pV M10 0 1 this (.int (x11 + 1))).bind fun M12 =>
    some M12
  )
def f_X0_removeMessage (this : Nat) (a1 : Int32) (M : Mem) : Option Mem :=
  ob M 0 this (
    (gR M 0 2 this).bind fun x1 =>
    (f_X5_removeAt x1 a1 M).bind fun M3 =>
    (gR M3 0 3 this).bind fun x4 =>
    (f_X5_removeAt x4 a1 M3).bind fun M6 =>
    (gR M6 0 4 this).bind fun x7 =>
    (f_X5_removeAt x7 a1 M6).bind fun M9 =>
    some M9
  )
def f_X0_removeDeleted_62 (rc10 : Nat → Int32 → Int32 → Int32 → Int32 → Mem → Option (Int32 × Mem)) (this : Nat) (l1 : Int32) (l2 : Int32) (l3 : Int32) (l4 : Int32) (M : Mem) : Option (Int32 × Mem) :=
  rc10 this l1 l2 l3 (l4 + (-1)) M
def f_X0_removeDeleted_10 : Nat → Nat → Int32 → Int32 → Int32 → Int32 → Mem → Option (Int32 × Mem)
  | 0 => fun _ _ _ _ _ _ => none
  | fu + 1 => fun this l1 l2 l3 l4 M =>
    if l4 < 0 then (
      some (l3, M)
    ) else (
      (gR M 0 2 this).bind fun x2 =>
      (f_X5_get x2 l4 M).bind fun x3 =>
      (gR M 0 4 this).bind fun x4 =>
      (f_X5_get x4 l4 M).bind fun x5 =>
      if (x5 &&& 8) = 0 then (
        f_X0_removeDeleted_62 (f_X0_removeDeleted_10 fu) this l1 l2 l3 l4 M
      ) else (
        if x3 < l1 then (
          f_X0_removeDeleted_62 (f_X0_removeDeleted_10 fu) this l1 l2 l3 l4 M
        ) else (
          if l2 < x3 then (
            f_X0_removeDeleted_62 (f_X0_removeDeleted_10 fu) this l1 l2 l3 l4 M
          ) else (
            (f_X0_removeMessage this l4 M).bind fun M7 =>
            f_X0_removeDeleted_62 (f_X0_removeDeleted_10 fu) this l1 l2 (l3 + 1) l4 M7
          )
        )
      )
    )
def f_X0_removeDeleted (this : Nat) (a1 : Int32) (a2 : Int32) (M : Mem) : Option (Int32 × Mem) :=
  ob M 0 this (
    (f_X0_size this M).bind fun x1 =>
    f_X0_removeDeleted_10 FU this a1 a2 0 (x1 - 1) M
  )
def f_X0_changeFlags_50 (this : Nat) (l1 : Int32) (l4 : Int32) (s0 : Int32) (M : Mem) : Option (Bool × Mem) :=
  (gR M 0 4 this).bind fun x4 =>
  (f_X5_set x4 l1 s0 M).bind fun M6 =>
  if s0 = l4 then (
    some (false, M6)
  ) else (
    some (true, M6)
  )
def f_X0_changeFlags (this : Nat) (a1 : Int32) (a2 : Int32) (a3 : Int32) (M : Mem) : Option (Bool × Mem) :=
  ob M 0 this (
    if a1 < 0 then (
      some (false, M)
    ) else (
      (f_X0_size this M).bind fun x1 =>
      if a1 < x1 then (
        (gR M 0 4 this).bind fun x2 =>
        (f_X5_get x2 a1 M).bind fun x3 =>
        if a2 = 0 then (
          f_X0_changeFlags_50 this a1 x3 a3 M
        ) else (
          if a2 = 1 then (
            f_X0_changeFlags_50 this a1 x3 (x3 ||| a3) M
          ) else (
            f_X0_changeFlags_50 this a1 x3 (x3 &&& (a3 ^^^ (-1))) M
          )
        )
      ) else (
        some (false, M)
      )
    )
  )
def f_X0_sumOfSizes_4 : Nat → Nat → Int32 → Int32 → Mem → Option Int32
  | 0 => fun _ _ _ _ => none
  | fu + 1 => fun this l1 l2 M =>
    (f_X0_size this M).bind fun x1 =>
    if x1 ≤ l2 then (
      some l1
    ) else (
      (gR M 0 3 this).bind fun x2 =>
      (f_X5_get x2 l2 M).bind fun x3 =>
      (f_X0_sumOfSizes_4 fu) this (l1 + x3) (l2 + 1) M
    )
def f_X0_sumOfSizes (this : Nat) (M : Mem) : Option Int32 :=
  ob M 0 this (
    f_X0_sumOfSizes_4 FU this 0 0 M
  )
def f_X0_withFlag_34 (rc4 : Nat → Int32 → Int32 → Int32 → Mem → Option Int32) (this : Nat) (l1 : Int32) (l2 : Int32) (l3 : Int32) (M : Mem) : Option Int32 :=
  rc4 this l1 l2 (l3 + 1) M
def f_X0_withFlag_4 : Nat → Nat → Int32 → Int32 → Int32 → Mem → Option Int32
  | 0 => fun _ _ _ _ _ => none
  | fu + 1 => fun this l1 l2 l3 M =>
    (gR M 0 2 this).bind fun x1 =>
    (f_X5_size x1 M).bind fun x2 =>
    if x2 ≤ l3 then (
      some l2
    ) else (
      (gR M 0 4 this).bind fun x3 =>
      (f_X5_get x3 l3 M).bind fun x4 =>
      if (x4 &&& l1) = 0 then (
        f_X0_withFlag_34 (f_X0_withFlag_4 fu) this l1 l2 l3 M
      ) else (
        f_X0_withFlag_34 (f_X0_withFlag_4 fu) this l1 (l2 ||| (1 <<< (l3 &&& 31))) l3 M
      )
    )
def f_X0_withFlag (this : Nat) (a1 : Int32) (M : Mem) : Option Int32 :=
  ob M 0 this (
    f_X0_withFlag_4 FU this a1 0 0 M
  )
theorem fl_X0_9_w : (Cond.fieldLink RX0 9 (TX0 0).1 (TX0 0).2.1 (TX0 0).2.2.1) ∈ cr_U := mem_U (i := 107) (by decide +kernel) rfl
theorem fl_X0_9 : flk RX0 9 (TX0 0) := Or.inl fl_X0_9_w
theorem fl_X0_15_w : (Cond.fieldLink RX0 15 (TX0 1).1 (TX0 1).2.1 (TX0 1).2.2.1) ∈ cr_U := mem_U (i := 109) (by decide +kernel) rfl
theorem fl_X0_15 : flk RX0 15 (TX0 1) := Or.inl fl_X0_15_w
theorem ar_0 : (Cond.arrayClass (newarray.typeOf .int)) ∈ cr_U := mem_U (i := 106) (by decide +kernel) rfl
theorem ml_X5_3 : (Cond.methodLink RX5 3 Lib.objectInit) ∈ cr_U := mem_U (i := 98) (by decide +kernel) rfl
theorem cw_X5_init : (Cond.code yX5_init cX5_init 2 (none)) ∈ cr_U := mem_U (i := 97) (by decide +kernel) rfl
theorem ml_X0_21 : (Cond.methodLink RX0 21 yX5_init) ∈ cr_U := mem_U (i := 95) (by decide +kernel) rfl
theorem im_X5_init : (Cond.instanceMethod yX5_init) ∈ cr_U := mem_U (i := 96) (by decide +kernel) rfl
theorem fl_X0_24_w : (Cond.fieldLink RX0 24 (TX0 2).1 (TX0 2).2.1 (TX0 2).2.2.1) ∈ cr_U := mem_U (i := 111) (by decide +kernel) rfl
theorem fl_X0_24 : flk RX0 24 (TX0 2) := Or.inl fl_X0_24_w
theorem fl_X0_28_w : (Cond.fieldLink RX0 28 (TX0 3).1 (TX0 3).2.1 (TX0 3).2.2.1) ∈ cr_U := mem_U (i := 114) (by decide +kernel) rfl
theorem fl_X0_28 : flk RX0 28 (TX0 3) := Or.inl fl_X0_28_w
theorem fl_X0_31_w : (Cond.fieldLink RX0 31 (TX0 4).1 (TX0 4).2.1 (TX0 4).2.2.1) ∈ cr_U := mem_U (i := 117) (by decide +kernel) rfl
theorem fl_X0_31 : flk RX0 31 (TX0 4) := Or.inl fl_X0_31_w
theorem cl_X0_19 : (Cond.classLink RX0 19 RX5) ∈ cr_U := mem_U (i := 93) (by decide +kernel) rfl
theorem ins_X5 : (Cond.instantiable RX5 2) ∈ cr_U := mem_U (i := 94) (by decide +kernel) rfl
theorem ml_X0_3 : (Cond.methodLink RX0 3 Lib.objectInit) ∈ cr_U := mem_U (i := 92) (by decide +kernel) rfl
theorem cw_X0_init : (Cond.code yX0_init cX0_init 1 (none)) ∈ cr_U := mem_U (i := 91) (by decide +kernel) rfl
theorem ini_X0 : (Cond.initialized RX0) ∈ cr_U := mem_U (i := 29) (by decide +kernel) rfl
theorem ml_X0_34 : (Cond.methodLink RX0 34 yX5_clear) ∈ cr_U := mem_U (i := 1064) (by decide +kernel) rfl
theorem cw_X0_begin : (Cond.code yX0_begin cX0_begin 3 (none)) ∈ cr_U := mem_U (i := 1063) (by decide +kernel) rfl
theorem ml_X0_37 : (Cond.methodLink RX0 37 yX5_takeFrom) ∈ cr_U := mem_U (i := 1189) (by decide +kernel) rfl
theorem im_X5_takeFrom : (Cond.instanceMethod yX5_takeFrom) ∈ cr_U := mem_U (i := 1190) (by decide +kernel) rfl
theorem se_X5_takeFrom : (Cond.selects RX5 yX5_takeFrom yX5_takeFrom) ∈ cr_U := mem_U (i := 1191) (by decide +kernel) rfl
theorem cw_X0_takeFrom : (Cond.code yX0_takeFrom cX0_takeFrom 2 (none)) ∈ cr_U := mem_U (i := 1188) (by decide +kernel) rfl
theorem ml_X0_41 : (Cond.methodLink RX0 41 yX5_size) ∈ cr_U := mem_U (i := 383) (by decide +kernel) rfl
theorem im_X5_size : (Cond.instanceMethod yX5_size) ∈ cr_U := mem_U (i := 384) (by decide +kernel) rfl
theorem se_X5_size : (Cond.selects RX5 yX5_size yX5_size) ∈ cr_U := mem_U (i := 385) (by decide +kernel) rfl
theorem cw_X0_size : (Cond.code yX0_size cX0_size 1 (some .int)) ∈ cr_U := mem_U (i := 382) (by decide +kernel) rfl
theorem ml_X0_45 : (Cond.methodLink RX0 45 yX5_find) ∈ cr_U := mem_U (i := 522) (by decide +kernel) rfl
theorem im_X5_find : (Cond.instanceMethod yX5_find) ∈ cr_U := mem_U (i := 523) (by decide +kernel) rfl
theorem se_X5_find : (Cond.selects RX5 yX5_find yX5_find) ∈ cr_U := mem_U (i := 524) (by decide +kernel) rfl
theorem cw_X0_indexOfUid : (Cond.code yX0_indexOfUid cX0_indexOfUid 2 (some .int)) ∈ cr_U := mem_U (i := 521) (by decide +kernel) rfl
theorem ml_X0_49 : (Cond.methodLink RX0 49 yX5_add) ∈ cr_U := mem_U (i := 1099) (by decide +kernel) rfl
theorem cw_X0_addMessage : (Cond.code yX0_addMessage cX0_addMessage 3 (none)) ∈ cr_U := mem_U (i := 1098) (by decide +kernel) rfl
theorem ml_X0_52 : (Cond.methodLink RX0 52 yX5_removeAt) ∈ cr_U := mem_U (i := 1424) (by decide +kernel) rfl
theorem im_X5_removeAt : (Cond.instanceMethod yX5_removeAt) ∈ cr_U := mem_U (i := 1318) (by decide +kernel) rfl
theorem se_X5_removeAt : (Cond.selects RX5 yX5_removeAt yX5_removeAt) ∈ cr_U := mem_U (i := 1319) (by decide +kernel) rfl
theorem cw_X0_removeMessage : (Cond.code yX0_removeMessage cX0_removeMessage 2 (none)) ∈ cr_U := mem_U (i := 1423) (by decide +kernel) rfl
theorem ml_X0_55 : (Cond.methodLink RX0 55 yX0_size) ∈ cr_U := mem_U (i := 1228) (by decide +kernel) rfl
theorem im_X0_size : (Cond.instanceMethod yX0_size) ∈ cr_U := mem_U (i := 380) (by decide +kernel) rfl
theorem se_X0_size : (Cond.selects RX0 yX0_size yX0_size) ∈ cr_U := mem_U (i := 381) (by decide +kernel) rfl
theorem ml_X0_56 : (Cond.methodLink RX0 56 yX5_get) ∈ cr_U := mem_U (i := 1229) (by decide +kernel) rfl
theorem ml_X0_59 : (Cond.methodLink RX0 59 yX0_removeMessage) ∈ cr_U := mem_U (i := 1420) (by decide +kernel) rfl
theorem im_X0_removeMessage : (Cond.instanceMethod yX0_removeMessage) ∈ cr_U := mem_U (i := 1421) (by decide +kernel) rfl
theorem se_X0_removeMessage : (Cond.selects RX0 yX0_removeMessage yX0_removeMessage) ∈ cr_U := mem_U (i := 1422) (by decide +kernel) rfl
theorem cw_X0_removeDeleted : (Cond.code yX0_removeDeleted cX0_removeDeleted 6 (some .int)) ∈ cr_U := mem_U (i := 1419) (by decide +kernel) rfl
theorem ml_X0_62 : (Cond.methodLink RX0 62 yX5_set) ∈ cr_U := mem_U (i := 1384) (by decide +kernel) rfl
theorem cw_X0_changeFlags : (Cond.code yX0_changeFlags cX0_changeFlags 6 (some .boolean)) ∈ cr_U := mem_U (i := 1383) (by decide +kernel) rfl
theorem cw_X0_sumOfSizes : (Cond.code yX0_sumOfSizes cX0_sumOfSizes 3 (some .int)) ∈ cr_U := mem_U (i := 1227) (by decide +kernel) rfl
theorem cw_X0_withFlag : (Cond.code yX0_withFlag cX0_withFlag 4 (some .int)) ∈ cr_U := mem_U (i := 1233) (by decide +kernel) rfl
theorem dX5_init_0 : decode cX5_init 0 = .ok (.aload_n 0, 1) := by decide +kernel
theorem dX5_init_1 : decode cX5_init 1 = .ok (.invokespecial 3, 3) := by decide +kernel
theorem dX5_init_4 : decode cX5_init 4 = .ok (.aload_n 0, 1) := by decide +kernel
theorem dX5_init_5 : decode cX5_init 5 = .ok (.iload_n 1, 1) := by decide +kernel
theorem dX5_init_6 : decode cX5_init 6 = .ok (.ifCond .ge 7, 3) := by decide +kernel
theorem dX5_init_9 : decode cX5_init 9 = .ok (.iconst 0, 1) := by decide +kernel
theorem dX5_init_10 : decode cX5_init 10 = .ok (.goto 4, 3) := by decide +kernel
theorem dX5_init_13 : decode cX5_init 13 = .ok (.iload_n 1, 1) := by decide +kernel
theorem dX5_init_14 : decode cX5_init 14 = .ok (.newarray .int, 2) := by decide +kernel
theorem dX5_init_16 : decode cX5_init 16 = .ok (.putfield 9, 3) := by decide +kernel
theorem dX5_init_19 : decode cX5_init 19 = .ok (.aload_n 0, 1) := by decide +kernel
theorem dX5_init_20 : decode cX5_init 20 = .ok (.iconst 0, 1) := by decide +kernel
theorem dX5_init_21 : decode cX5_init 21 = .ok (.putfield 15, 3) := by decide +kernel
theorem dX5_init_24 : decode cX5_init 24 = .ok (.return_, 1) := by decide +kernel
def mi_X5_init_30 : MI := (RX5, yX5_init, cX5_init, 2, none, [], { frames := 1, cells := 1, slots := 30, locals := 12 })
theorem ok_X5_init_30 : mOK mi_X5_init_30 1 := ⟨rfl, cw_X5_init, ini_X5, ⟨rfl, by decide⟩, by decide, by decide, rfl⟩
theorem v_X5_init_30 (this : Nat) (M : Mem) : V mi_X5_init_30 0 [(0, .ref this), (1, .int 30)] [] M 0 0 (f_X5_init_30 this M) wV := by
  unfold f_X5_init_30
  refine V_ob fun _ _ => ?_
  refine V_aload_n dX5_init_0 rfl 0 rfl ?_
  refine V_objInit ml_X5_3 dX5_init_1 rfl ⟨(Nat.le_of_ble_eq_true rfl), (Nat.le_of_ble_eq_true rfl)⟩ ?_
  refine V_aload_n dX5_init_4 rfl 0 rfl ?_
  refine V_iload_n dX5_init_5 rfl 1 rfl ?_
  refine V_if_ge_t (q := 13) (q2 := 9) dX5_init_6 (by decide) rfl (by decide) ?_
  refine V_iload_n dX5_init_13 rfl 1 rfl ?_
  refine V_newarray dX5_init_14 rfl (t := 0) (N := 30) (x := (30, .inl (fun _ => 0))) rfl ar_0 (by decide) rfl (Nat.le_of_ble_eq_true rfl) (fun _ _ => rfl) (fun _ _ h => h) ⟨(Nat.le_of_ble_eq_true rfl), (Nat.le_of_ble_eq_true rfl)⟩ (fun r1 => ?_)
  refine V_putFR dX5_init_16 rfl (ci := 4) (T := TX5) rfl (by decide) fl_X5_9_w rfl rfl rfl rfl (fun _ => rfl) (fun _ => rfl) (fun M2 => ?_)
  refine V_aload_n dX5_init_19 rfl 0 rfl ?_
  refine V_iconst (x := 0) dX5_init_20 rfl rfl ?_
  refine V_putI dX5_init_21 rfl (ci := 4) (T := TX5) rfl (by decide) fl_X5_15 rfl rfl (fun M3 => ?_)
  exact V_vret dX5_init_24 rfl rfl ⟨(Nat.le_of_ble_eq_true rfl), (Nat.le_of_ble_eq_true rfl)⟩
theorem k_X5_init_30 (this : Nat) (M : Mem) : K mi_X5_init_30 [.ref this, .int 30] M (f_X5_init_30 this M) wV := K_of_V ok_X5_init_30 (Nat.le_of_ble_eq_true rfl) (v_X5_init_30 this M)
theorem o_X5_init_30 {this : Nat} {M : Mem} {x} (h : f_X5_init_30 this M = some x) : isO M 4 this = true := (ob_of h).1
theorem dX0_init_0 : decode cX0_init 0 = .ok (.aload_n 0, 1) := by decide +kernel
theorem dX0_init_1 : decode cX0_init 1 = .ok (.invokespecial 3, 3) := by decide +kernel
theorem dX0_init_4 : decode cX0_init 4 = .ok (.aload_n 0, 1) := by decide +kernel
theorem dX0_init_5 : decode cX0_init 5 = .ok (.lconst 0, 1) := by decide +kernel
theorem dX0_init_6 : decode cX0_init 6 = .ok (.putfield 9, 3) := by decide +kernel
theorem dX0_init_9 : decode cX0_init 9 = .ok (.aload_n 0, 1) := by decide +kernel
theorem dX0_init_10 : decode cX0_init 10 = .ok (.iconst 1, 1) := by decide +kernel
theorem dX0_init_11 : decode cX0_init 11 = .ok (.putfield 15, 3) := by decide +kernel
theorem dX0_init_14 : decode cX0_init 14 = .ok (.aload_n 0, 1) := by decide +kernel
theorem dX0_init_15 : decode cX0_init 15 = .ok (.new 19, 3) := by decide +kernel
theorem dX0_init_18 : decode cX0_init 18 = .ok (.dup, 1) := by decide +kernel
theorem dX0_init_19 : decode cX0_init 19 = .ok (.bipush 30, 2) := by decide +kernel
theorem dX0_init_21 : decode cX0_init 21 = .ok (.invokespecial 21, 3) := by decide +kernel
theorem dX0_init_24 : decode cX0_init 24 = .ok (.putfield 24, 3) := by decide +kernel
theorem dX0_init_27 : decode cX0_init 27 = .ok (.aload_n 0, 1) := by decide +kernel
theorem dX0_init_28 : decode cX0_init 28 = .ok (.new 19, 3) := by decide +kernel
theorem dX0_init_31 : decode cX0_init 31 = .ok (.dup, 1) := by decide +kernel
theorem dX0_init_32 : decode cX0_init 32 = .ok (.bipush 30, 2) := by decide +kernel
theorem dX0_init_34 : decode cX0_init 34 = .ok (.invokespecial 21, 3) := by decide +kernel
theorem dX0_init_37 : decode cX0_init 37 = .ok (.putfield 28, 3) := by decide +kernel
theorem dX0_init_40 : decode cX0_init 40 = .ok (.aload_n 0, 1) := by decide +kernel
theorem dX0_init_41 : decode cX0_init 41 = .ok (.new 19, 3) := by decide +kernel
theorem dX0_init_44 : decode cX0_init 44 = .ok (.dup, 1) := by decide +kernel
theorem dX0_init_45 : decode cX0_init 45 = .ok (.bipush 30, 2) := by decide +kernel
theorem dX0_init_47 : decode cX0_init 47 = .ok (.invokespecial 21, 3) := by decide +kernel
theorem dX0_init_50 : decode cX0_init 50 = .ok (.putfield 31, 3) := by decide +kernel
theorem dX0_init_53 : decode cX0_init 53 = .ok (.return_, 1) := by decide +kernel
def mi_X0_init : MI := (RX0, yX0_init, cX0_init, 1, none, [], { frames := 3, cells := 6, slots := 96, locals := 60 })
theorem ok_X0_init : mOK mi_X0_init 0 := ⟨rfl, cw_X0_init, ini_X0, ⟨rfl, by decide⟩, by decide, by decide, rfl⟩
theorem v_X0_init (this : Nat) (M : Mem) : V mi_X0_init 0 [(0, .ref this)] [] M 0 0 (f_X0_init this M) wV := by
  unfold f_X0_init
  refine V_ob fun _ _ => ?_
  refine V_aload_n dX0_init_0 rfl 0 rfl ?_
  refine V_objInit ml_X0_3 dX0_init_1 rfl ⟨(Nat.le_of_ble_eq_true rfl), (Nat.le_of_ble_eq_true rfl)⟩ ?_
  refine V_aload_n dX0_init_4 rfl 0 rfl ?_
  refine V_lconst (x := 0) dX0_init_5 rfl rfl ?_
  refine V_putJ dX0_init_6 rfl (ci := 0) (T := TX0) rfl (by decide) fl_X0_9 rfl rfl (fun M1 => ?_)
  refine V_aload_n dX0_init_9 rfl 0 rfl ?_
  refine V_iconst (x := 1) dX0_init_10 rfl rfl ?_
  refine V_putI dX0_init_11 rfl (ci := 0) (T := TX0) rfl (by decide) fl_X0_15 rfl rfl (fun M2 => ?_)
  refine V_aload_n dX0_init_14 rfl 0 rfl ?_
  refine V_new dX0_init_15 rfl (ci := 4) (T := TX5) (N := 2) (fs := [.null, .int 0]) (ty := tyX5) rfl cl_X0_19 ins_X5 ini_X5 tyX5_ok (fun _ j hj => match j, hj with | 0, _ => rfl | 1, _ => rfl | j + 2, h => absurd h (by omega)) ⟨(Nat.le_of_ble_eq_true rfl), (Nat.le_of_ble_eq_true rfl)⟩ (fun r3 => ?_)
  refine V_dup dX0_init_18 rfl rfl ?_
  refine V_bipush (x := 30) dX0_init_19 rfl rfl ?_
  refine V_cIwV (As := [.int 30]) (k_X5_init_30 r3 (mnew M2 (.inr (4, [.null, .int 0])))) ok_X5_init_30 im_X5_init ml_X0_21 ⟨⟨(Nat.le_of_ble_eq_true rfl), (Nat.le_of_ble_eq_true rfl)⟩, (Nat.le_of_ble_eq_true rfl), (Nat.le_of_ble_eq_true rfl)⟩ rfl rfl dX0_init_21 rfl rfl rfl (Nat.le_of_ble_eq_true rfl) rfl rfl (fun M5 => ?_)
  refine V_putFR dX0_init_24 rfl (ci := 0) (T := TX0) rfl (by decide) fl_X0_24_w rfl rfl rfl rfl (fun _ => rfl) (fun _ => rfl) (fun M6 => ?_)
  refine V_aload_n dX0_init_27 rfl 0 rfl ?_
  refine V_new dX0_init_28 rfl (ci := 4) (T := TX5) (N := 2) (fs := [.null, .int 0]) (ty := tyX5) rfl cl_X0_19 ins_X5 ini_X5 tyX5_ok (fun _ j hj => match j, hj with | 0, _ => rfl | 1, _ => rfl | j + 2, h => absurd h (by omega)) ⟨(Nat.le_of_ble_eq_true rfl), (Nat.le_of_ble_eq_true rfl)⟩ (fun r7 => ?_)
  refine V_dup dX0_init_31 rfl rfl ?_
  refine V_bipush (x := 30) dX0_init_32 rfl rfl ?_
  refine V_cIwV (As := [.int 30]) (k_X5_init_30 r7 (mnew M6 (.inr (4, [.null, .int 0])))) ok_X5_init_30 im_X5_init ml_X0_21 ⟨⟨(Nat.le_of_ble_eq_true rfl), (Nat.le_of_ble_eq_true rfl)⟩, (Nat.le_of_ble_eq_true rfl), (Nat.le_of_ble_eq_true rfl)⟩ rfl rfl dX0_init_34 rfl rfl rfl (Nat.le_of_ble_eq_true rfl) rfl rfl (fun M9 => ?_)
  refine V_putFR dX0_init_37 rfl (ci := 0) (T := TX0) rfl (by decide) fl_X0_28_w rfl rfl rfl rfl (fun _ => rfl) (fun _ => rfl) (fun M10 => ?_)
  refine V_aload_n dX0_init_40 rfl 0 rfl ?_
  refine V_new dX0_init_41 rfl (ci := 4) (T := TX5) (N := 2) (fs := [.null, .int 0]) (ty := tyX5) rfl cl_X0_19 ins_X5 ini_X5 tyX5_ok (fun _ j hj => match j, hj with | 0, _ => rfl | 1, _ => rfl | j + 2, h => absurd h (by omega)) ⟨(Nat.le_of_ble_eq_true rfl), (Nat.le_of_ble_eq_true rfl)⟩ (fun r11 => ?_)
  refine V_dup dX0_init_44 rfl rfl ?_
  refine V_bipush (x := 30) dX0_init_45 rfl rfl ?_
  refine V_cIwV (As := [.int 30]) (k_X5_init_30 r11 (mnew M10 (.inr (4, [.null, .int 0])))) ok_X5_init_30 im_X5_init ml_X0_21 ⟨⟨(Nat.le_of_ble_eq_true rfl), (Nat.le_of_ble_eq_true rfl)⟩, (Nat.le_of_ble_eq_true rfl), (Nat.le_of_ble_eq_true rfl)⟩ rfl rfl dX0_init_47 rfl rfl rfl (Nat.le_of_ble_eq_true rfl) rfl rfl (fun M13 => ?_)
  refine V_putFR dX0_init_50 rfl (ci := 0) (T := TX0) rfl (by decide) fl_X0_31_w rfl rfl rfl rfl (fun _ => rfl) (fun _ => rfl) (fun M14 => ?_)
  exact V_vret dX0_init_53 rfl rfl ⟨(Nat.le_of_ble_eq_true rfl), (Nat.le_of_ble_eq_true rfl)⟩
theorem k_X0_init (this : Nat) (M : Mem) : K mi_X0_init [.ref this] M (f_X0_init this M) wV := K_of_V ok_X0_init (Nat.le_of_ble_eq_true rfl) (v_X0_init this M)
theorem o_X0_init {this : Nat} {M : Mem} {x} (h : f_X0_init this M = some x) : isO M 0 this = true := (ob_of h).1
theorem dX0_begin_0 : decode cX0_begin 0 = .ok (.aload_n 0, 1) := by decide +kernel
theorem dX0_begin_1 : decode cX0_begin 1 = .ok (.lload_n 1, 1) := by decide +kernel
theorem dX0_begin_2 : decode cX0_begin 2 = .ok (.putfield 9, 3) := by decide +kernel
theorem dX0_begin_5 : decode cX0_begin 5 = .ok (.aload_n 0, 1) := by decide +kernel
theorem dX0_begin_6 : decode cX0_begin 6 = .ok (.iconst 1, 1) := by decide +kernel
theorem dX0_begin_7 : decode cX0_begin 7 = .ok (.putfield 15, 3) := by decide +kernel
theorem dX0_begin_10 : decode cX0_begin 10 = .ok (.aload_n 0, 1) := by decide +kernel
theorem dX0_begin_11 : decode cX0_begin 11 = .ok (.getfield 24, 3) := by decide +kernel
theorem dX0_begin_14 : decode cX0_begin 14 = .ok (.invokevirtual 34, 3) := by decide +kernel
theorem dX0_begin_17 : decode cX0_begin 17 = .ok (.aload_n 0, 1) := by decide +kernel
theorem dX0_begin_18 : decode cX0_begin 18 = .ok (.getfield 28, 3) := by decide +kernel
theorem dX0_begin_21 : decode cX0_begin 21 = .ok (.invokevirtual 34, 3) := by decide +kernel
theorem dX0_begin_24 : decode cX0_begin 24 = .ok (.aload_n 0, 1) := by decide +kernel
theorem dX0_begin_25 : decode cX0_begin 25 = .ok (.getfield 31, 3) := by decide +kernel
theorem dX0_begin_28 : decode cX0_begin 28 = .ok (.invokevirtual 34, 3) := by decide +kernel
theorem dX0_begin_31 : decode cX0_begin 31 = .ok (.return_, 1) := by decide +kernel
def mi_X0_begin : MI := (RX0, yX0_begin, cX0_begin, 3, none, [], { frames := 2, cells := 0, slots := 0, locals := 32 })
theorem ok_X0_begin : mOK mi_X0_begin 1 := ⟨rfl, cw_X0_begin, ini_X0, ⟨rfl, by decide⟩, by decide, by decide, rfl⟩
theorem v_X0_begin (this : Nat) (a1 : Int64) (M : Mem) : V mi_X0_begin 0 [(0, .ref this), (1, .long a1)] [] M 0 0 (f_X0_begin this a1 M) wV := by
  unfold f_X0_begin
  refine V_ob fun _ _ => ?_
  refine V_aload_n dX0_begin_0 rfl 0 rfl ?_
  refine V_lload_n dX0_begin_1 rfl 1 rfl ?_
  refine V_putJ dX0_begin_2 rfl (ci := 0) (T := TX0) rfl (by decide) fl_X0_9 rfl rfl (fun M1 => ?_)
  refine V_aload_n dX0_begin_5 rfl 0 rfl ?_
  refine V_iconst (x := 1) dX0_begin_6 rfl rfl ?_
  refine V_putI dX0_begin_7 rfl (ci := 0) (T := TX0) rfl (by decide) fl_X0_15 rfl rfl (fun M2 => ?_)
  refine V_aload_n dX0_begin_10 rfl 0 rfl ?_
  refine V_getR dX0_begin_11 rfl (ci := 0) (T := TX0) rfl (by decide) fl_X0_24 (fun x3 => ?_)
  refine V_cVwV (As := []) (k_X5_clear x3 M2) (fun _ h => o_X5_clear h) ok_X5_clear im_X5_clear se_X5_clear rfl (ci := 4) rfl ml_X0_34 ⟨⟨(Nat.le_of_ble_eq_true rfl), (Nat.le_of_ble_eq_true rfl)⟩, (Nat.le_of_ble_eq_true rfl), (Nat.le_of_ble_eq_true rfl)⟩ dX0_begin_14 rfl rfl rfl (Nat.le_of_ble_eq_true rfl) rfl rfl (fun M5 => ?_)
  refine V_aload_n dX0_begin_17 rfl 0 rfl ?_
  refine V_getR dX0_begin_18 rfl (ci := 0) (T := TX0) rfl (by decide) fl_X0_28 (fun x6 => ?_)
  refine V_cVwV (As := []) (k_X5_clear x6 M5) (fun _ h => o_X5_clear h) ok_X5_clear im_X5_clear se_X5_clear rfl (ci := 4) rfl ml_X0_34 ⟨⟨(Nat.le_of_ble_eq_true rfl), (Nat.le_of_ble_eq_true rfl)⟩, (Nat.le_of_ble_eq_true rfl), (Nat.le_of_ble_eq_true rfl)⟩ dX0_begin_21 rfl rfl rfl (Nat.le_of_ble_eq_true rfl) rfl rfl (fun M8 => ?_)
  refine V_aload_n dX0_begin_24 rfl 0 rfl ?_
  refine V_getR dX0_begin_25 rfl (ci := 0) (T := TX0) rfl (by decide) fl_X0_31 (fun x9 => ?_)
  refine V_cVwV (As := []) (k_X5_clear x9 M8) (fun _ h => o_X5_clear h) ok_X5_clear im_X5_clear se_X5_clear rfl (ci := 4) rfl ml_X0_34 ⟨⟨(Nat.le_of_ble_eq_true rfl), (Nat.le_of_ble_eq_true rfl)⟩, (Nat.le_of_ble_eq_true rfl), (Nat.le_of_ble_eq_true rfl)⟩ dX0_begin_28 rfl rfl rfl (Nat.le_of_ble_eq_true rfl) rfl rfl (fun M11 => ?_)
  exact V_vret dX0_begin_31 rfl rfl ⟨(Nat.le_of_ble_eq_true rfl), (Nat.le_of_ble_eq_true rfl)⟩
theorem k_X0_begin (this : Nat) (a1 : Int64) (M : Mem) : K mi_X0_begin [.ref this, .long a1] M (f_X0_begin this a1 M) wV := K_of_V ok_X0_begin (Nat.le_of_ble_eq_true rfl) (v_X0_begin this a1 M)
theorem o_X0_begin {this : Nat} {a1 : Int64} {M : Mem} {x} (h : f_X0_begin this a1 M = some x) : isO M 0 this = true := (ob_of h).1
theorem dX0_takeFrom_0 : decode cX0_takeFrom 0 = .ok (.aload_n 0, 1) := by decide +kernel
theorem dX0_takeFrom_1 : decode cX0_takeFrom 1 = .ok (.aload_n 1, 1) := by decide +kernel
theorem dX0_takeFrom_2 : decode cX0_takeFrom 2 = .ok (.getfield 9, 3) := by decide +kernel
theorem dX0_takeFrom_5 : decode cX0_takeFrom 5 = .ok (.putfield 9, 3) := by decide +kernel
theorem dX0_takeFrom_8 : decode cX0_takeFrom 8 = .ok (.aload_n 0, 1) := by decide +kernel
theorem dX0_takeFrom_9 : decode cX0_takeFrom 9 = .ok (.aload_n 1, 1) := by decide +kernel
theorem dX0_takeFrom_10 : decode cX0_takeFrom 10 = .ok (.getfield 15, 3) := by decide +kernel
theorem dX0_takeFrom_13 : decode cX0_takeFrom 13 = .ok (.putfield 15, 3) := by decide +kernel
theorem dX0_takeFrom_16 : decode cX0_takeFrom 16 = .ok (.aload_n 0, 1) := by decide +kernel
theorem dX0_takeFrom_17 : decode cX0_takeFrom 17 = .ok (.getfield 24, 3) := by decide +kernel
theorem dX0_takeFrom_20 : decode cX0_takeFrom 20 = .ok (.aload_n 1, 1) := by decide +kernel
theorem dX0_takeFrom_21 : decode cX0_takeFrom 21 = .ok (.getfield 24, 3) := by decide +kernel
theorem dX0_takeFrom_24 : decode cX0_takeFrom 24 = .ok (.invokevirtual 37, 3) := by decide +kernel
theorem dX0_takeFrom_27 : decode cX0_takeFrom 27 = .ok (.aload_n 0, 1) := by decide +kernel
theorem dX0_takeFrom_28 : decode cX0_takeFrom 28 = .ok (.getfield 28, 3) := by decide +kernel
theorem dX0_takeFrom_31 : decode cX0_takeFrom 31 = .ok (.aload_n 1, 1) := by decide +kernel
theorem dX0_takeFrom_32 : decode cX0_takeFrom 32 = .ok (.getfield 28, 3) := by decide +kernel
theorem dX0_takeFrom_35 : decode cX0_takeFrom 35 = .ok (.invokevirtual 37, 3) := by decide +kernel
theorem dX0_takeFrom_38 : decode cX0_takeFrom 38 = .ok (.aload_n 0, 1) := by decide +kernel
theorem dX0_takeFrom_39 : decode cX0_takeFrom 39 = .ok (.getfield 31, 3) := by decide +kernel
theorem dX0_takeFrom_42 : decode cX0_takeFrom 42 = .ok (.aload_n 1, 1) := by decide +kernel
theorem dX0_takeFrom_43 : decode cX0_takeFrom 43 = .ok (.getfield 31, 3) := by decide +kernel
theorem dX0_takeFrom_46 : decode cX0_takeFrom 46 = .ok (.invokevirtual 37, 3) := by decide +kernel
theorem dX0_takeFrom_49 : decode cX0_takeFrom 49 = .ok (.return_, 1) := by decide +kernel
def mi_X0_takeFrom : MI := (RX0, yX0_takeFrom, cX0_takeFrom, 2, none, [], { frames := 2, cells := 0, slots := 0, locals := 34 })
theorem ok_X0_takeFrom : mOK mi_X0_takeFrom 1 := ⟨rfl, cw_X0_takeFrom, ini_X0, ⟨rfl, by decide⟩, by decide, by decide, rfl⟩
theorem v_X0_takeFrom (this : Nat) (a1 : Nat) (M : Mem) : V mi_X0_takeFrom 0 [(0, .ref this), (1, .ref a1)] [] M 0 0 (f_X0_takeFrom this a1 M) wV := by
  unfold f_X0_takeFrom
  refine V_ob fun _ _ => ?_
  refine V_aload_n dX0_takeFrom_0 rfl 0 rfl ?_
  refine V_aload_n dX0_takeFrom_1 rfl 1 rfl ?_
  refine V_getJ dX0_takeFrom_2 rfl (ci := 0) (T := TX0) rfl (by decide) fl_X0_9 (fun x1 => ?_)
  refine V_putJ dX0_takeFrom_5 rfl (ci := 0) (T := TX0) rfl (by decide) fl_X0_9 rfl rfl (fun M2 => ?_)
  refine V_aload_n dX0_takeFrom_8 rfl 0 rfl ?_
  refine V_aload_n dX0_takeFrom_9 rfl 1 rfl ?_
  refine V_getI dX0_takeFrom_10 rfl (ci := 0) (T := TX0) rfl (by decide) fl_X0_15 (fun x3 => ?_)
  refine V_putI dX0_takeFrom_13 rfl (ci := 0) (T := TX0) rfl (by decide) fl_X0_15 rfl rfl (fun M4 => ?_)
  refine V_aload_n dX0_takeFrom_16 rfl 0 rfl ?_
  refine V_getR dX0_takeFrom_17 rfl (ci := 0) (T := TX0) rfl (by decide) fl_X0_24 (fun x5 => ?_)
  refine V_aload_n dX0_takeFrom_20 rfl 1 rfl ?_
  refine V_getR dX0_takeFrom_21 rfl (ci := 0) (T := TX0) rfl (by decide) fl_X0_24 (fun x6 => ?_)
  refine V_cVwV (As := [.ref x6]) (k_X5_takeFrom x5 x6 M4) (fun _ h => o_X5_takeFrom h) ok_X5_takeFrom im_X5_takeFrom se_X5_takeFrom rfl (ci := 4) rfl ml_X0_37 ⟨⟨(Nat.le_of_ble_eq_true rfl), (Nat.le_of_ble_eq_true rfl)⟩, (Nat.le_of_ble_eq_true rfl), (Nat.le_of_ble_eq_true rfl)⟩ dX0_takeFrom_24 rfl rfl rfl (Nat.le_of_ble_eq_true rfl) rfl rfl (fun M8 => ?_)
  refine V_aload_n dX0_takeFrom_27 rfl 0 rfl ?_
  refine V_getR dX0_takeFrom_28 rfl (ci := 0) (T := TX0) rfl (by decide) fl_X0_28 (fun x9 => ?_)
  refine V_aload_n dX0_takeFrom_31 rfl 1 rfl ?_
  refine V_getR dX0_takeFrom_32 rfl (ci := 0) (T := TX0) rfl (by decide) fl_X0_28 (fun x10 => ?_)
  refine V_cVwV (As := [.ref x10]) (k_X5_takeFrom x9 x10 M8) (fun _ h => o_X5_takeFrom h) ok_X5_takeFrom im_X5_takeFrom se_X5_takeFrom rfl (ci := 4) rfl ml_X0_37 ⟨⟨(Nat.le_of_ble_eq_true rfl), (Nat.le_of_ble_eq_true rfl)⟩, (Nat.le_of_ble_eq_true rfl), (Nat.le_of_ble_eq_true rfl)⟩ dX0_takeFrom_35 rfl rfl rfl (Nat.le_of_ble_eq_true rfl) rfl rfl (fun M12 => ?_)
  refine V_aload_n dX0_takeFrom_38 rfl 0 rfl ?_
  refine V_getR dX0_takeFrom_39 rfl (ci := 0) (T := TX0) rfl (by decide) fl_X0_31 (fun x13 => ?_)
  refine V_aload_n dX0_takeFrom_42 rfl 1 rfl ?_
  refine V_getR dX0_takeFrom_43 rfl (ci := 0) (T := TX0) rfl (by decide) fl_X0_31 (fun x14 => ?_)
  refine V_cVwV (As := [.ref x14]) (k_X5_takeFrom x13 x14 M12) (fun _ h => o_X5_takeFrom h) ok_X5_takeFrom im_X5_takeFrom se_X5_takeFrom rfl (ci := 4) rfl ml_X0_37 ⟨⟨(Nat.le_of_ble_eq_true rfl), (Nat.le_of_ble_eq_true rfl)⟩, (Nat.le_of_ble_eq_true rfl), (Nat.le_of_ble_eq_true rfl)⟩ dX0_takeFrom_46 rfl rfl rfl (Nat.le_of_ble_eq_true rfl) rfl rfl (fun M16 => ?_)
  exact V_vret dX0_takeFrom_49 rfl rfl ⟨(Nat.le_of_ble_eq_true rfl), (Nat.le_of_ble_eq_true rfl)⟩
theorem k_X0_takeFrom (this : Nat) (a1 : Nat) (M : Mem) : K mi_X0_takeFrom [.ref this, .ref a1] M (f_X0_takeFrom this a1 M) wV := K_of_V ok_X0_takeFrom (Nat.le_of_ble_eq_true rfl) (v_X0_takeFrom this a1 M)
theorem o_X0_takeFrom {this : Nat} {a1 : Nat} {M : Mem} {x} (h : f_X0_takeFrom this a1 M = some x) : isO M 0 this = true := (ob_of h).1
theorem dX0_size_0 : decode cX0_size 0 = .ok (.aload_n 0, 1) := by decide +kernel
theorem dX0_size_1 : decode cX0_size 1 = .ok (.getfield 24, 3) := by decide +kernel
theorem dX0_size_4 : decode cX0_size 4 = .ok (.invokevirtual 41, 3) := by decide +kernel
theorem dX0_size_7 : decode cX0_size 7 = .ok (.ireturn, 1) := by decide +kernel
def mi_X0_size : MI := (RX0, yX0_size, cX0_size, 1, some .int, [], { frames := 2, cells := 0, slots := 0, locals := 32 })
theorem ok_X0_size : mOK mi_X0_size 0 := ⟨rfl, cw_X0_size, ini_X0, ⟨rfl, by decide⟩, by decide, by decide, rfl⟩
theorem v_X0_size (this : Nat) (M : Mem) : V mi_X0_size 0 [(0, .ref this)] [] M 0 0 (f_X0_size this M) (eI M) := by
  unfold f_X0_size
  refine V_ob fun _ _ => ?_
  refine V_aload_n dX0_size_0 rfl 0 rfl ?_
  refine V_getR dX0_size_1 rfl (ci := 0) (T := TX0) rfl (by decide) fl_X0_24 (fun x1 => ?_)
  refine V_cVeI (As := []) (k_X5_size x1 M) (fun _ h => o_X5_size h) ok_X5_size im_X5_size se_X5_size rfl (ci := 4) rfl ml_X0_41 ⟨⟨(Nat.le_of_ble_eq_true rfl), (Nat.le_of_ble_eq_true rfl)⟩, (Nat.le_of_ble_eq_true rfl), (Nat.le_of_ble_eq_true rfl)⟩ dX0_size_4 rfl rfl rfl (Nat.le_of_ble_eq_true rfl) rfl rfl (fun x2 => ?_)
  exact V_iret dX0_size_7 rfl rfl ⟨(Nat.le_of_ble_eq_true rfl), (Nat.le_of_ble_eq_true rfl)⟩
theorem k_X0_size (this : Nat) (M : Mem) : K mi_X0_size [.ref this] M (f_X0_size this M) (eI M) := K_of_V ok_X0_size (Nat.le_of_ble_eq_true rfl) (v_X0_size this M)
theorem o_X0_size {this : Nat} {M : Mem} {x} (h : f_X0_size this M = some x) : isO M 0 this = true := (ob_of h).1
theorem dX0_indexOfUid_0 : decode cX0_indexOfUid 0 = .ok (.aload_n 0, 1) := by decide +kernel
theorem dX0_indexOfUid_1 : decode cX0_indexOfUid 1 = .ok (.getfield 24, 3) := by decide +kernel
theorem dX0_indexOfUid_4 : decode cX0_indexOfUid 4 = .ok (.iload_n 1, 1) := by decide +kernel
theorem dX0_indexOfUid_5 : decode cX0_indexOfUid 5 = .ok (.invokevirtual 45, 3) := by decide +kernel
theorem dX0_indexOfUid_8 : decode cX0_indexOfUid 8 = .ok (.ireturn, 1) := by decide +kernel
def mi_X0_indexOfUid : MI := (RX0, yX0_indexOfUid, cX0_indexOfUid, 2, some .int, [], { frames := 2, cells := 0, slots := 0, locals := 34 })
theorem ok_X0_indexOfUid : mOK mi_X0_indexOfUid 1 := ⟨rfl, cw_X0_indexOfUid, ini_X0, ⟨rfl, by decide⟩, by decide, by decide, rfl⟩
theorem v_X0_indexOfUid (this : Nat) (a1 : Int32) (M : Mem) : V mi_X0_indexOfUid 0 [(0, .ref this), (1, .int a1)] [] M 0 0 (f_X0_indexOfUid this a1 M) (eI M) := by
  unfold f_X0_indexOfUid
  refine V_ob fun _ _ => ?_
  refine V_aload_n dX0_indexOfUid_0 rfl 0 rfl ?_
  refine V_getR dX0_indexOfUid_1 rfl (ci := 0) (T := TX0) rfl (by decide) fl_X0_24 (fun x1 => ?_)
  refine V_iload_n dX0_indexOfUid_4 rfl 1 rfl ?_
  refine V_cVeI (As := [.int a1]) (k_X5_find x1 a1 M) (fun _ h => o_X5_find h) ok_X5_find im_X5_find se_X5_find rfl (ci := 4) rfl ml_X0_45 ⟨⟨(Nat.le_of_ble_eq_true rfl), (Nat.le_of_ble_eq_true rfl)⟩, (Nat.le_of_ble_eq_true rfl), (Nat.le_of_ble_eq_true rfl)⟩ dX0_indexOfUid_5 rfl rfl rfl (Nat.le_of_ble_eq_true rfl) rfl rfl (fun x2 => ?_)
  exact V_iret dX0_indexOfUid_8 rfl rfl ⟨(Nat.le_of_ble_eq_true rfl), (Nat.le_of_ble_eq_true rfl)⟩
theorem k_X0_indexOfUid (this : Nat) (a1 : Int32) (M : Mem) : K mi_X0_indexOfUid [.ref this, .int a1] M (f_X0_indexOfUid this a1 M) (eI M) := K_of_V ok_X0_indexOfUid (Nat.le_of_ble_eq_true rfl) (v_X0_indexOfUid this a1 M)
theorem o_X0_indexOfUid {this : Nat} {a1 : Int32} {M : Mem} {x} (h : f_X0_indexOfUid this a1 M = some x) : isO M 0 this = true := (ob_of h).1
theorem dX0_addMessage_0 : decode cX0_addMessage 0 = .ok (.aload_n 0, 1) := by decide +kernel
theorem dX0_addMessage_1 : decode cX0_addMessage 1 = .ok (.getfield 24, 3) := by decide +kernel
theorem dX0_addMessage_4 : decode cX0_addMessage 4 = .ok (.aload_n 0, 1) := by decide +kernel
theorem dX0_addMessage_5 : decode cX0_addMessage 5 = .ok (.getfield 15, 3) := by decide +kernel
theorem dX0_addMessage_8 : decode cX0_addMessage 8 = .ok (.invokevirtual 49, 3) := by decide +kernel
theorem dX0_addMessage_11 : decode cX0_addMessage 11 = .ok (.aload_n 0, 1) := by decide +kernel
theorem dX0_addMessage_12 : decode cX0_addMessage 12 = .ok (.getfield 28, 3) := by decide +kernel
theorem dX0_addMessage_15 : decode cX0_addMessage 15 = .ok (.iload_n 1, 1) := by decide +kernel
theorem dX0_addMessage_16 : decode cX0_addMessage 16 = .ok (.invokevirtual 49, 3) := by decide +kernel
theorem dX0_addMessage_19 : decode cX0_addMessage 19 = .ok (.aload_n 0, 1) := by decide +kernel
theorem dX0_addMessage_20 : decode cX0_addMessage 20 = .ok (.getfield 31, 3) := by decide +kernel
theorem dX0_addMessage_23 : decode cX0_addMessage 23 = .ok (.iload_n 2, 1) := by decide +kernel
theorem dX0_addMessage_24 : decode cX0_addMessage 24 = .ok (.invokevirtual 49, 3) := by decide +kernel
theorem dX0_addMessage_27 : decode cX0_addMessage 27 = .ok (.aload_n 0, 1) := by decide +kernel
theorem dX0_addMessage_28 : decode cX0_addMessage 28 = .ok (.dup, 1) := by decide +kernel
theorem dX0_addMessage_29 : decode cX0_addMessage 29 = .ok (.getfield 15, 3) := by decide +kernel
theorem dX0_addMessage_32 : decode cX0_addMessage 32 = .ok (.iconst 1, 1) := by decide +kernel
theorem dX0_addMessage_33 : decode cX0_addMessage 33 = .ok (.iadd, 1) := by decide +kernel
theorem dX0_addMessage_34 : decode cX0_addMessage 34 = .ok (.putfield 15, 3) := by decide +kernel
theorem dX0_addMessage_37 : decode cX0_addMessage 37 = .ok (.return_, 1) := by decide +kernel
def mi_X0_addMessage : MI := (RX0, yX0_addMessage, cX0_addMessage, 3, none, [], { frames := 2, cells := 0, slots := 0, locals := 33 })
theorem ok_X0_addMessage : mOK mi_X0_addMessage 2 := ⟨rfl, cw_X0_addMessage, ini_X0, ⟨rfl, by decide⟩, by decide, by decide, rfl⟩
theorem v_X0_addMessage (this : Nat) (a1 : Int32) (a2 : Int32) (M : Mem) : V mi_X0_addMessage 0 [(0, .ref this), (1, .int a1), (2, .int a2)] [] M 0 0 (f_X0_addMessage this a1 a2 M) wV := by
  unfold f_X0_addMessage
  refine V_ob fun _ _ => ?_
  refine V_aload_n dX0_addMessage_0 rfl 0 rfl ?_
  refine V_getR dX0_addMessage_1 rfl (ci := 0) (T := TX0) rfl (by decide) fl_X0_24 (fun x1 => ?_)
  refine V_aload_n dX0_addMessage_4 rfl 0 rfl ?_
  refine V_getI dX0_addMessage_5 rfl (ci := 0) (T := TX0) rfl (by decide) fl_X0_15 (fun x2 => ?_)
  refine V_cVwV (As := [.int x2]) (k_X5_add x1 x2 M) (fun _ h => o_X5_add h) ok_X5_add im_X5_add se_X5_add rfl (ci := 4) rfl ml_X0_49 ⟨⟨(Nat.le_of_ble_eq_true rfl), (Nat.le_of_ble_eq_true rfl)⟩, (Nat.le_of_ble_eq_true rfl), (Nat.le_of_ble_eq_true rfl)⟩ dX0_addMessage_8 rfl rfl rfl (Nat.le_of_ble_eq_true rfl) rfl rfl (fun M4 => ?_)
  refine V_aload_n dX0_addMessage_11 rfl 0 rfl ?_
  refine V_getR dX0_addMessage_12 rfl (ci := 0) (T := TX0) rfl (by decide) fl_X0_28 (fun x5 => ?_)
  refine V_iload_n dX0_addMessage_15 rfl 1 rfl ?_
  refine V_cVwV (As := [.int a1]) (k_X5_add x5 a1 M4) (fun _ h => o_X5_add h) ok_X5_add im_X5_add se_X5_add rfl (ci := 4) rfl ml_X0_49 ⟨⟨(Nat.le_of_ble_eq_true rfl), (Nat.le_of_ble_eq_true rfl)⟩, (Nat.le_of_ble_eq_true rfl), (Nat.le_of_ble_eq_true rfl)⟩ dX0_addMessage_16 rfl rfl rfl (Nat.le_of_ble_eq_true rfl) rfl rfl (fun M7 => ?_)
  refine V_aload_n dX0_addMessage_19 rfl 0 rfl ?_
  refine V_getR dX0_addMessage_20 rfl (ci := 0) (T := TX0) rfl (by decide) fl_X0_31 (fun x8 => ?_)
  refine V_iload_n dX0_addMessage_23 rfl 2 rfl ?_
  refine V_cVwV (As := [.int a2]) (k_X5_add x8 a2 M7) (fun _ h => o_X5_add h) ok_X5_add im_X5_add se_X5_add rfl (ci := 4) rfl ml_X0_49 ⟨⟨(Nat.le_of_ble_eq_true rfl), (Nat.le_of_ble_eq_true rfl)⟩, (Nat.le_of_ble_eq_true rfl), (Nat.le_of_ble_eq_true rfl)⟩ dX0_addMessage_24 rfl rfl rfl (Nat.le_of_ble_eq_true rfl) rfl rfl (fun M10 => ?_)
  refine V_aload_n dX0_addMessage_27 rfl 0 rfl ?_
  refine V_dup dX0_addMessage_28 rfl rfl ?_
  refine V_getI dX0_addMessage_29 rfl (ci := 0) (T := TX0) rfl (by decide) fl_X0_15 (fun x11 => ?_)
  refine V_iconst (x := 1) dX0_addMessage_32 rfl rfl ?_
  refine V_iadd dX0_addMessage_33 rfl ?_
  refine V_putI dX0_addMessage_34 rfl (ci := 0) (T := TX0) rfl (by decide) fl_X0_15 rfl rfl (fun M12 => ?_)
  exact V_vret dX0_addMessage_37 rfl rfl ⟨(Nat.le_of_ble_eq_true rfl), (Nat.le_of_ble_eq_true rfl)⟩
theorem k_X0_addMessage (this : Nat) (a1 : Int32) (a2 : Int32) (M : Mem) : K mi_X0_addMessage [.ref this, .int a1, .int a2] M (f_X0_addMessage this a1 a2 M) wV := K_of_V ok_X0_addMessage (Nat.le_of_ble_eq_true rfl) (v_X0_addMessage this a1 a2 M)
theorem o_X0_addMessage {this : Nat} {a1 : Int32} {a2 : Int32} {M : Mem} {x} (h : f_X0_addMessage this a1 a2 M = some x) : isO M 0 this = true := (ob_of h).1
theorem dX0_removeMessage_0 : decode cX0_removeMessage 0 = .ok (.aload_n 0, 1) := by decide +kernel
theorem dX0_removeMessage_1 : decode cX0_removeMessage 1 = .ok (.getfield 24, 3) := by decide +kernel
theorem dX0_removeMessage_4 : decode cX0_removeMessage 4 = .ok (.iload_n 1, 1) := by decide +kernel
theorem dX0_removeMessage_5 : decode cX0_removeMessage 5 = .ok (.invokevirtual 52, 3) := by decide +kernel
theorem dX0_removeMessage_8 : decode cX0_removeMessage 8 = .ok (.aload_n 0, 1) := by decide +kernel
theorem dX0_removeMessage_9 : decode cX0_removeMessage 9 = .ok (.getfield 28, 3) := by decide +kernel
theorem dX0_removeMessage_12 : decode cX0_removeMessage 12 = .ok (.iload_n 1, 1) := by decide +kernel
theorem dX0_removeMessage_13 : decode cX0_removeMessage 13 = .ok (.invokevirtual 52, 3) := by decide +kernel
theorem dX0_removeMessage_16 : decode cX0_removeMessage 16 = .ok (.aload_n 0, 1) := by decide +kernel
theorem dX0_removeMessage_17 : decode cX0_removeMessage 17 = .ok (.getfield 31, 3) := by decide +kernel
theorem dX0_removeMessage_20 : decode cX0_removeMessage 20 = .ok (.iload_n 1, 1) := by decide +kernel
theorem dX0_removeMessage_21 : decode cX0_removeMessage 21 = .ok (.invokevirtual 52, 3) := by decide +kernel
theorem dX0_removeMessage_24 : decode cX0_removeMessage 24 = .ok (.return_, 1) := by decide +kernel
def mi_X0_removeMessage : MI := (RX0, yX0_removeMessage, cX0_removeMessage, 2, none, [], { frames := 3, cells := 0, slots := 0, locals := 56 })
theorem ok_X0_removeMessage : mOK mi_X0_removeMessage 1 := ⟨rfl, cw_X0_removeMessage, ini_X0, ⟨rfl, by decide⟩, by decide, by decide, rfl⟩
theorem v_X0_removeMessage (this : Nat) (a1 : Int32) (M : Mem) : V mi_X0_removeMessage 0 [(0, .ref this), (1, .int a1)] [] M 0 0 (f_X0_removeMessage this a1 M) wV := by
  unfold f_X0_removeMessage
  refine V_ob fun _ _ => ?_
  refine V_aload_n dX0_removeMessage_0 rfl 0 rfl ?_
  refine V_getR dX0_removeMessage_1 rfl (ci := 0) (T := TX0) rfl (by decide) fl_X0_24 (fun x1 => ?_)
  refine V_iload_n dX0_removeMessage_4 rfl 1 rfl ?_
  refine V_cVwV (As := [.int a1]) (k_X5_removeAt x1 a1 M) (fun _ h => o_X5_removeAt h) ok_X5_removeAt im_X5_removeAt se_X5_removeAt rfl (ci := 4) rfl ml_X0_52 ⟨⟨(Nat.le_of_ble_eq_true rfl), (Nat.le_of_ble_eq_true rfl)⟩, (Nat.le_of_ble_eq_true rfl), (Nat.le_of_ble_eq_true rfl)⟩ dX0_removeMessage_5 rfl rfl rfl (Nat.le_of_ble_eq_true rfl) rfl rfl (fun M3 => ?_)
  refine V_aload_n dX0_removeMessage_8 rfl 0 rfl ?_
  refine V_getR dX0_removeMessage_9 rfl (ci := 0) (T := TX0) rfl (by decide) fl_X0_28 (fun x4 => ?_)
  refine V_iload_n dX0_removeMessage_12 rfl 1 rfl ?_
  refine V_cVwV (As := [.int a1]) (k_X5_removeAt x4 a1 M3) (fun _ h => o_X5_removeAt h) ok_X5_removeAt im_X5_removeAt se_X5_removeAt rfl (ci := 4) rfl ml_X0_52 ⟨⟨(Nat.le_of_ble_eq_true rfl), (Nat.le_of_ble_eq_true rfl)⟩, (Nat.le_of_ble_eq_true rfl), (Nat.le_of_ble_eq_true rfl)⟩ dX0_removeMessage_13 rfl rfl rfl (Nat.le_of_ble_eq_true rfl) rfl rfl (fun M6 => ?_)
  refine V_aload_n dX0_removeMessage_16 rfl 0 rfl ?_
  refine V_getR dX0_removeMessage_17 rfl (ci := 0) (T := TX0) rfl (by decide) fl_X0_31 (fun x7 => ?_)
  refine V_iload_n dX0_removeMessage_20 rfl 1 rfl ?_
  refine V_cVwV (As := [.int a1]) (k_X5_removeAt x7 a1 M6) (fun _ h => o_X5_removeAt h) ok_X5_removeAt im_X5_removeAt se_X5_removeAt rfl (ci := 4) rfl ml_X0_52 ⟨⟨(Nat.le_of_ble_eq_true rfl), (Nat.le_of_ble_eq_true rfl)⟩, (Nat.le_of_ble_eq_true rfl), (Nat.le_of_ble_eq_true rfl)⟩ dX0_removeMessage_21 rfl rfl rfl (Nat.le_of_ble_eq_true rfl) rfl rfl (fun M9 => ?_)
  exact V_vret dX0_removeMessage_24 rfl rfl ⟨(Nat.le_of_ble_eq_true rfl), (Nat.le_of_ble_eq_true rfl)⟩
theorem k_X0_removeMessage (this : Nat) (a1 : Int32) (M : Mem) : K mi_X0_removeMessage [.ref this, .int a1] M (f_X0_removeMessage this a1 M) wV := K_of_V ok_X0_removeMessage (Nat.le_of_ble_eq_true rfl) (v_X0_removeMessage this a1 M)
theorem o_X0_removeMessage {this : Nat} {a1 : Int32} {M : Mem} {x} (h : f_X0_removeMessage this a1 M = some x) : isO M 0 this = true := (ob_of h).1
theorem dX0_removeDeleted_0 : decode cX0_removeDeleted 0 = .ok (.iconst 0, 1) := by decide +kernel
theorem dX0_removeDeleted_1 : decode cX0_removeDeleted 1 = .ok (.istore_n 3, 1) := by decide +kernel
theorem dX0_removeDeleted_2 : decode cX0_removeDeleted 2 = .ok (.aload_n 0, 1) := by decide +kernel
theorem dX0_removeDeleted_3 : decode cX0_removeDeleted 3 = .ok (.invokevirtual 55, 3) := by decide +kernel
theorem dX0_removeDeleted_6 : decode cX0_removeDeleted 6 = .ok (.iconst 1, 1) := by decide +kernel
theorem dX0_removeDeleted_7 : decode cX0_removeDeleted 7 = .ok (.isub, 1) := by decide +kernel
theorem dX0_removeDeleted_8 : decode cX0_removeDeleted 8 = .ok (.istore 4, 2) := by decide +kernel
theorem dX0_removeDeleted_10 : decode cX0_removeDeleted 10 = .ok (.iload 4, 2) := by decide +kernel
theorem dX0_removeDeleted_12 : decode cX0_removeDeleted 12 = .ok (.ifCond .lt 56, 3) := by decide +kernel
theorem dX0_removeDeleted_15 : decode cX0_removeDeleted 15 = .ok (.aload_n 0, 1) := by decide +kernel
theorem dX0_removeDeleted_16 : decode cX0_removeDeleted 16 = .ok (.getfield 24, 3) := by decide +kernel
theorem dX0_removeDeleted_19 : decode cX0_removeDeleted 19 = .ok (.iload 4, 2) := by decide +kernel
theorem dX0_removeDeleted_21 : decode cX0_removeDeleted 21 = .ok (.invokevirtual 56, 3) := by decide +kernel
theorem dX0_removeDeleted_24 : decode cX0_removeDeleted 24 = .ok (.istore 5, 2) := by decide +kernel
theorem dX0_removeDeleted_26 : decode cX0_removeDeleted 26 = .ok (.aload_n 0, 1) := by decide +kernel
theorem dX0_removeDeleted_27 : decode cX0_removeDeleted 27 = .ok (.getfield 31, 3) := by decide +kernel
theorem dX0_removeDeleted_30 : decode cX0_removeDeleted 30 = .ok (.iload 4, 2) := by decide +kernel
theorem dX0_removeDeleted_32 : decode cX0_removeDeleted 32 = .ok (.invokevirtual 56, 3) := by decide +kernel
theorem dX0_removeDeleted_35 : decode cX0_removeDeleted 35 = .ok (.bipush 8, 2) := by decide +kernel
theorem dX0_removeDeleted_37 : decode cX0_removeDeleted 37 = .ok (.iand, 1) := by decide +kernel
theorem dX0_removeDeleted_38 : decode cX0_removeDeleted 38 = .ok (.ifCond .eq 24, 3) := by decide +kernel
theorem dX0_removeDeleted_41 : decode cX0_removeDeleted 41 = .ok (.iload 5, 2) := by decide +kernel
theorem dX0_removeDeleted_43 : decode cX0_removeDeleted 43 = .ok (.iload_n 1, 1) := by decide +kernel
theorem dX0_removeDeleted_44 : decode cX0_removeDeleted 44 = .ok (.if_icmp .lt 18, 3) := by decide +kernel
theorem dX0_removeDeleted_47 : decode cX0_removeDeleted 47 = .ok (.iload 5, 2) := by decide +kernel
theorem dX0_removeDeleted_49 : decode cX0_removeDeleted 49 = .ok (.iload_n 2, 1) := by decide +kernel
theorem dX0_removeDeleted_50 : decode cX0_removeDeleted 50 = .ok (.if_icmp .gt 12, 3) := by decide +kernel
theorem dX0_removeDeleted_53 : decode cX0_removeDeleted 53 = .ok (.aload_n 0, 1) := by decide +kernel
theorem dX0_removeDeleted_54 : decode cX0_removeDeleted 54 = .ok (.iload 4, 2) := by decide +kernel
theorem dX0_removeDeleted_56 : decode cX0_removeDeleted 56 = .ok (.invokevirtual 59, 3) := by decide +kernel
theorem dX0_removeDeleted_59 : decode cX0_removeDeleted 59 = .ok (.iinc 3 1, 3) := by decide +kernel
theorem dX0_removeDeleted_62 : decode cX0_removeDeleted 62 = .ok (.iinc 4 (-1), 3) := by decide +kernel
theorem dX0_removeDeleted_65 : decode cX0_removeDeleted 65 = .ok (.goto (-55), 3) := by decide +kernel
theorem dX0_removeDeleted_68 : decode cX0_removeDeleted 68 = .ok (.iload_n 3, 1) := by decide +kernel
theorem dX0_removeDeleted_69 : decode cX0_removeDeleted 69 = .ok (.ireturn, 1) := by decide +kernel
def mi_X0_removeDeleted : MI := (RX0, yX0_removeDeleted, cX0_removeDeleted, 6, some .int, [], { frames := 4, cells := 0, slots := 0, locals := 77 })
theorem ok_X0_removeDeleted : mOK mi_X0_removeDeleted 2 := ⟨rfl, cw_X0_removeDeleted, ini_X0, ⟨rfl, by decide⟩, by decide, by decide, rfl⟩
theorem v_X0_removeDeleted_62 (rc10 : Nat → Int32 → Int32 → Int32 → Int32 → Mem → Option (Int32 × Mem)) (h10 : ∀ (l0 : Nat) (l1 : Int32) (l2 : Int32) (l3 : Int32) (l4 : Int32) (M : Mem), V mi_X0_removeDeleted 10 [(0, .ref l0), (1, .int l1), (2, .int l2), (3, .int l3), (4, .int l4)] [] M 0 0 (rc10 l0 l1 l2 l3 l4 M) wI) (this : Nat) (l1 : Int32) (l2 : Int32) (l3 : Int32) (l4 : Int32) (M : Mem) : V mi_X0_removeDeleted 62 [(0, .ref this), (1, .int l1), (2, .int l2), (3, .int l3), (4, .int l4)] [] M 0 0 (f_X0_removeDeleted_62 rc10 this l1 l2 l3 l4 M) wI := by
  unfold f_X0_removeDeleted_62
  refine V_iinc (y := (l4 + (-1))) (L' := [(0, .ref this), (1, .int l1), (2, .int l2), (3, .int l3), (4, .int (l4 + (-1)))]) dX0_removeDeleted_62 rfl 4 rfl rfl (by decide) rfl ?_
  refine V_goto (q := 10) dX0_removeDeleted_65 (by decide) ?_
  exact h10 this l1 l2 l3 (l4 + (-1)) M
theorem v_X0_removeDeleted_10 : ∀ (fu : Nat) (this : Nat) (l1 : Int32) (l2 : Int32) (l3 : Int32) (l4 : Int32) (M : Mem), V mi_X0_removeDeleted 10 [(0, .ref this), (1, .int l1), (2, .int l2), (3, .int l3), (4, .int l4)] [] M 0 0 (f_X0_removeDeleted_10 fu this l1 l2 l3 l4 M) wI := by
  intro fu
  induction fu with
  | zero => intros; exact V_none
  | succ fu ih =>
    intro this l1 l2 l3 l4 M
    show V mi_X0_removeDeleted 10 [(0, .ref this), (1, .int l1), (2, .int l2), (3, .int l3), (4, .int l4)] [] M 0 0 (f_X0_removeDeleted_10 (fu + 1) this l1 l2 l3 l4 M) wI
    unfold f_X0_removeDeleted_10
    refine V_iload dX0_removeDeleted_10 rfl 4 rfl ?_
    refine V_if_lt (q := 68) (q2 := 15) dX0_removeDeleted_12 (by decide) rfl ?_ ?_
    · refine V_iload_n dX0_removeDeleted_68 rfl 3 rfl ?_
      exact V_iret dX0_removeDeleted_69 rfl rfl ⟨(Nat.le_of_ble_eq_true rfl), (Nat.le_of_ble_eq_true rfl)⟩
    · refine V_aload_n dX0_removeDeleted_15 rfl 0 rfl ?_
      refine V_getR dX0_removeDeleted_16 rfl (ci := 0) (T := TX0) rfl (by decide) fl_X0_24 (fun x2 => ?_)
      refine V_iload dX0_removeDeleted_19 rfl 4 rfl ?_
      refine V_cVeI (As := [.int l4]) (k_X5_get x2 l4 M) (fun _ h => o_X5_get h) ok_X5_get im_X5_get se_X5_get rfl (ci := 4) rfl ml_X0_56 ⟨⟨(Nat.le_of_ble_eq_true rfl), (Nat.le_of_ble_eq_true rfl)⟩, (Nat.le_of_ble_eq_true rfl), (Nat.le_of_ble_eq_true rfl)⟩ dX0_removeDeleted_21 rfl rfl rfl (Nat.le_of_ble_eq_true rfl) rfl rfl (fun x3 => ?_)
      refine V_istore (L' := [(0, .ref this), (1, .int l1), (2, .int l2), (3, .int l3), (4, .int l4), (5, .int x3)]) dX0_removeDeleted_24 rfl (by decide) rfl ?_
      refine V_aload_n dX0_removeDeleted_26 rfl 0 rfl ?_
      refine V_getR dX0_removeDeleted_27 rfl (ci := 0) (T := TX0) rfl (by decide) fl_X0_31 (fun x4 => ?_)
      refine V_iload dX0_removeDeleted_30 rfl 4 rfl ?_
      refine V_cVeI (As := [.int l4]) (k_X5_get x4 l4 M) (fun _ h => o_X5_get h) ok_X5_get im_X5_get se_X5_get rfl (ci := 4) rfl ml_X0_56 ⟨⟨(Nat.le_of_ble_eq_true rfl), (Nat.le_of_ble_eq_true rfl)⟩, (Nat.le_of_ble_eq_true rfl), (Nat.le_of_ble_eq_true rfl)⟩ dX0_removeDeleted_32 rfl rfl rfl (Nat.le_of_ble_eq_true rfl) rfl rfl (fun x5 => ?_)
      refine V_bipush (x := 8) dX0_removeDeleted_35 rfl rfl ?_
      refine V_iand dX0_removeDeleted_37 rfl ?_
      refine V_if_eq (q := 62) (q2 := 41) dX0_removeDeleted_38 (by decide) rfl ?_ ?_
      · exact V_sub [0, 1, 2, 3, 4] rfl (v_X0_removeDeleted_62 (f_X0_removeDeleted_10 fu) ih this l1 l2 l3 l4 M)
      · refine V_iload dX0_removeDeleted_41 rfl 5 rfl ?_
        refine V_iload_n dX0_removeDeleted_43 rfl 1 rfl ?_
        refine V_icmp_lt (q := 62) (q2 := 47) dX0_removeDeleted_44 (by decide) rfl ?_ ?_
        · exact V_sub [0, 1, 2, 3, 4] rfl (v_X0_removeDeleted_62 (f_X0_removeDeleted_10 fu) ih this l1 l2 l3 l4 M)
        · refine V_iload dX0_removeDeleted_47 rfl 5 rfl ?_
          refine V_iload_n dX0_removeDeleted_49 rfl 2 rfl ?_
          refine V_icmp_gt (q := 62) (q2 := 53) dX0_removeDeleted_50 (by decide) rfl ?_ ?_
          · exact V_sub [0, 1, 2, 3, 4] rfl (v_X0_removeDeleted_62 (f_X0_removeDeleted_10 fu) ih this l1 l2 l3 l4 M)
          · refine V_aload_n dX0_removeDeleted_53 rfl 0 rfl ?_
            refine V_iload dX0_removeDeleted_54 rfl 4 rfl ?_
            refine V_cVwV (As := [.int l4]) (k_X0_removeMessage this l4 M) (fun _ h => o_X0_removeMessage h) ok_X0_removeMessage im_X0_removeMessage se_X0_removeMessage rfl (ci := 0) rfl ml_X0_59 ⟨⟨(Nat.le_of_ble_eq_true rfl), (Nat.le_of_ble_eq_true rfl)⟩, (Nat.le_of_ble_eq_true rfl), (Nat.le_of_ble_eq_true rfl)⟩ dX0_removeDeleted_56 rfl rfl rfl (Nat.le_of_ble_eq_true rfl) rfl rfl (fun M7 => ?_)
            refine V_iinc (y := (l3 + 1)) (L' := [(0, .ref this), (1, .int l1), (2, .int l2), (3, .int (l3 + 1)), (4, .int l4), (5, .int x3)]) dX0_removeDeleted_59 rfl 3 rfl rfl (by decide) rfl ?_
            exact V_sub [0, 1, 2, 3, 4] rfl (v_X0_removeDeleted_62 (f_X0_removeDeleted_10 fu) ih this l1 l2 (l3 + 1) l4 M7)
theorem v_X0_removeDeleted (this : Nat) (a1 : Int32) (a2 : Int32) (M : Mem) : V mi_X0_removeDeleted 0 [(0, .ref this), (1, .int a1), (2, .int a2)] [] M 0 0 (f_X0_removeDeleted this a1 a2 M) wI := by
  unfold f_X0_removeDeleted
  refine V_ob fun _ _ => ?_
  refine V_iconst (x := 0) dX0_removeDeleted_0 rfl rfl ?_
  refine V_istore_n (L' := [(0, .ref this), (1, .int a1), (2, .int a2), (3, .int 0)]) dX0_removeDeleted_1 rfl (by decide) rfl ?_
  refine V_aload_n dX0_removeDeleted_2 rfl 0 rfl ?_
  refine V_cVeI (As := []) (k_X0_size this M) (fun _ h => o_X0_size h) ok_X0_size im_X0_size se_X0_size rfl (ci := 0) rfl ml_X0_55 ⟨⟨(Nat.le_of_ble_eq_true rfl), (Nat.le_of_ble_eq_true rfl)⟩, (Nat.le_of_ble_eq_true rfl), (Nat.le_of_ble_eq_true rfl)⟩ dX0_removeDeleted_3 rfl rfl rfl (Nat.le_of_ble_eq_true rfl) rfl rfl (fun x1 => ?_)
  refine V_iconst (x := 1) dX0_removeDeleted_6 rfl rfl ?_
  refine V_isub dX0_removeDeleted_7 rfl ?_
  refine V_istore (L' := [(0, .ref this), (1, .int a1), (2, .int a2), (3, .int 0), (4, .int (x1 - 1))]) dX0_removeDeleted_8 rfl (by decide) rfl ?_
  exact v_X0_removeDeleted_10 FU this a1 a2 0 (x1 - 1) M
theorem k_X0_removeDeleted (this : Nat) (a1 : Int32) (a2 : Int32) (M : Mem) : K mi_X0_removeDeleted [.ref this, .int a1, .int a2] M (f_X0_removeDeleted this a1 a2 M) wI := K_of_V ok_X0_removeDeleted (Nat.le_of_ble_eq_true rfl) (v_X0_removeDeleted this a1 a2 M)
theorem o_X0_removeDeleted {this : Nat} {a1 : Int32} {a2 : Int32} {M : Mem} {x} (h : f_X0_removeDeleted this a1 a2 M = some x) : isO M 0 this = true := (ob_of h).1
theorem dX0_changeFlags_0 : decode cX0_changeFlags 0 = .ok (.iload_n 1, 1) := by decide +kernel
theorem dX0_changeFlags_1 : decode cX0_changeFlags 1 = .ok (.ifCond .lt 11, 3) := by decide +kernel
theorem dX0_changeFlags_4 : decode cX0_changeFlags 4 = .ok (.iload_n 1, 1) := by decide +kernel
theorem dX0_changeFlags_5 : decode cX0_changeFlags 5 = .ok (.aload_n 0, 1) := by decide +kernel
theorem dX0_changeFlags_6 : decode cX0_changeFlags 6 = .ok (.invokevirtual 55, 3) := by decide +kernel
theorem dX0_changeFlags_9 : decode cX0_changeFlags 9 = .ok (.if_icmp .lt 5, 3) := by decide +kernel
theorem dX0_changeFlags_12 : decode cX0_changeFlags 12 = .ok (.iconst 0, 1) := by decide +kernel
theorem dX0_changeFlags_13 : decode cX0_changeFlags 13 = .ok (.ireturn, 1) := by decide +kernel
theorem dX0_changeFlags_14 : decode cX0_changeFlags 14 = .ok (.aload_n 0, 1) := by decide +kernel
theorem dX0_changeFlags_15 : decode cX0_changeFlags 15 = .ok (.getfield 31, 3) := by decide +kernel
theorem dX0_changeFlags_18 : decode cX0_changeFlags 18 = .ok (.iload_n 1, 1) := by decide +kernel
theorem dX0_changeFlags_19 : decode cX0_changeFlags 19 = .ok (.invokevirtual 56, 3) := by decide +kernel
theorem dX0_changeFlags_22 : decode cX0_changeFlags 22 = .ok (.istore 4, 2) := by decide +kernel
theorem dX0_changeFlags_24 : decode cX0_changeFlags 24 = .ok (.iload_n 2, 1) := by decide +kernel
theorem dX0_changeFlags_25 : decode cX0_changeFlags 25 = .ok (.ifCond .ne 7, 3) := by decide +kernel
theorem dX0_changeFlags_28 : decode cX0_changeFlags 28 = .ok (.iload_n 3, 1) := by decide +kernel
theorem dX0_changeFlags_29 : decode cX0_changeFlags 29 = .ok (.goto 21, 3) := by decide +kernel
theorem dX0_changeFlags_32 : decode cX0_changeFlags 32 = .ok (.iload_n 2, 1) := by decide +kernel
theorem dX0_changeFlags_33 : decode cX0_changeFlags 33 = .ok (.iconst 1, 1) := by decide +kernel
theorem dX0_changeFlags_34 : decode cX0_changeFlags 34 = .ok (.if_icmp .ne 10, 3) := by decide +kernel
theorem dX0_changeFlags_37 : decode cX0_changeFlags 37 = .ok (.iload 4, 2) := by decide +kernel
theorem dX0_changeFlags_39 : decode cX0_changeFlags 39 = .ok (.iload_n 3, 1) := by decide +kernel
theorem dX0_changeFlags_40 : decode cX0_changeFlags 40 = .ok (.ior, 1) := by decide +kernel
theorem dX0_changeFlags_41 : decode cX0_changeFlags 41 = .ok (.goto 9, 3) := by decide +kernel
theorem dX0_changeFlags_44 : decode cX0_changeFlags 44 = .ok (.iload 4, 2) := by decide +kernel
theorem dX0_changeFlags_46 : decode cX0_changeFlags 46 = .ok (.iload_n 3, 1) := by decide +kernel
theorem dX0_changeFlags_47 : decode cX0_changeFlags 47 = .ok (.iconst (-1), 1) := by decide +kernel
theorem dX0_changeFlags_48 : decode cX0_changeFlags 48 = .ok (.ixor, 1) := by decide +kernel
theorem dX0_changeFlags_49 : decode cX0_changeFlags 49 = .ok (.iand, 1) := by decide +kernel
theorem dX0_changeFlags_50 : decode cX0_changeFlags 50 = .ok (.istore 5, 2) := by decide +kernel
theorem dX0_changeFlags_52 : decode cX0_changeFlags 52 = .ok (.aload_n 0, 1) := by decide +kernel
theorem dX0_changeFlags_53 : decode cX0_changeFlags 53 = .ok (.getfield 31, 3) := by decide +kernel
theorem dX0_changeFlags_56 : decode cX0_changeFlags 56 = .ok (.iload_n 1, 1) := by decide +kernel
theorem dX0_changeFlags_57 : decode cX0_changeFlags 57 = .ok (.iload 5, 2) := by decide +kernel
theorem dX0_changeFlags_59 : decode cX0_changeFlags 59 = .ok (.invokevirtual 62, 3) := by decide +kernel
theorem dX0_changeFlags_62 : decode cX0_changeFlags 62 = .ok (.iload 5, 2) := by decide +kernel
theorem dX0_changeFlags_64 : decode cX0_changeFlags 64 = .ok (.iload 4, 2) := by decide +kernel
theorem dX0_changeFlags_66 : decode cX0_changeFlags 66 = .ok (.if_icmp .eq 7, 3) := by decide +kernel
theorem dX0_changeFlags_69 : decode cX0_changeFlags 69 = .ok (.iconst 1, 1) := by decide +kernel
theorem dX0_changeFlags_70 : decode cX0_changeFlags 70 = .ok (.goto 4, 3) := by decide +kernel
theorem dX0_changeFlags_73 : decode cX0_changeFlags 73 = .ok (.iconst 0, 1) := by decide +kernel
theorem dX0_changeFlags_74 : decode cX0_changeFlags 74 = .ok (.ireturn, 1) := by decide +kernel
def mi_X0_changeFlags : MI := (RX0, yX0_changeFlags, cX0_changeFlags, 6, some .boolean, [], { frames := 3, cells := 0, slots := 0, locals := 52 })
theorem ok_X0_changeFlags : mOK mi_X0_changeFlags 3 := ⟨rfl, cw_X0_changeFlags, ini_X0, ⟨rfl, by decide⟩, by decide, by decide, rfl⟩
theorem v_X0_changeFlags_50 (this : Nat) (l1 : Int32) (l4 : Int32) (s0 : Int32) (M : Mem) : V mi_X0_changeFlags 50 [(0, .ref this), (1, .int l1), (4, .int l4)] [.int s0] M 0 0 (f_X0_changeFlags_50 this l1 l4 s0 M) wZ := by
  unfold f_X0_changeFlags_50
  refine V_istore (L' := [(0, .ref this), (1, .int l1), (4, .int l4), (5, .int s0)]) dX0_changeFlags_50 rfl (by decide) rfl ?_
  refine V_aload_n dX0_changeFlags_52 rfl 0 rfl ?_
  refine V_getR dX0_changeFlags_53 rfl (ci := 0) (T := TX0) rfl (by decide) fl_X0_31 (fun x4 => ?_)
  refine V_iload_n dX0_changeFlags_56 rfl 1 rfl ?_
  refine V_iload dX0_changeFlags_57 rfl 3 rfl ?_
  refine V_cVwV (As := [.int l1, .int s0]) (k_X5_set x4 l1 s0 M) (fun _ h => o_X5_set h) ok_X5_set im_X5_set se_X5_set rfl (ci := 4) rfl ml_X0_62 ⟨⟨(Nat.le_of_ble_eq_true rfl), (Nat.le_of_ble_eq_true rfl)⟩, (Nat.le_of_ble_eq_true rfl), (Nat.le_of_ble_eq_true rfl)⟩ dX0_changeFlags_59 rfl rfl rfl (Nat.le_of_ble_eq_true rfl) rfl rfl (fun M6 => ?_)
  refine V_iload dX0_changeFlags_62 rfl 3 rfl ?_
  refine V_iload dX0_changeFlags_64 rfl 2 rfl ?_
  refine V_icmp_eq (q := 73) (q2 := 69) dX0_changeFlags_66 (by decide) rfl ?_ ?_
  · refine V_iconst (x := 0) dX0_changeFlags_73 rfl rfl ?_
    exact V_zret (v := false) dX0_changeFlags_74 rfl rfl ⟨(Nat.le_of_ble_eq_true rfl), (Nat.le_of_ble_eq_true rfl)⟩
  · refine V_iconst (x := 1) dX0_changeFlags_69 rfl rfl ?_
    refine V_goto (q := 74) dX0_changeFlags_70 (by decide) ?_
    exact V_zret (v := true) dX0_changeFlags_74 rfl rfl ⟨(Nat.le_of_ble_eq_true rfl), (Nat.le_of_ble_eq_true rfl)⟩
theorem v_X0_changeFlags (this : Nat) (a1 : Int32) (a2 : Int32) (a3 : Int32) (M : Mem) : V mi_X0_changeFlags 0 [(0, .ref this), (1, .int a1), (2, .int a2), (3, .int a3)] [] M 0 0 (f_X0_changeFlags this a1 a2 a3 M) wZ := by
  unfold f_X0_changeFlags
  refine V_ob fun _ _ => ?_
  refine V_iload_n dX0_changeFlags_0 rfl 1 rfl ?_
  refine V_if_lt (q := 12) (q2 := 4) dX0_changeFlags_1 (by decide) rfl ?_ ?_
  · refine V_iconst (x := 0) dX0_changeFlags_12 rfl rfl ?_
    exact V_zret (v := false) dX0_changeFlags_13 rfl rfl ⟨(Nat.le_of_ble_eq_true rfl), (Nat.le_of_ble_eq_true rfl)⟩
  · refine V_iload_n dX0_changeFlags_4 rfl 1 rfl ?_
    refine V_aload_n dX0_changeFlags_5 rfl 0 rfl ?_
    refine V_cVeI (As := []) (k_X0_size this M) (fun _ h => o_X0_size h) ok_X0_size im_X0_size se_X0_size rfl (ci := 0) rfl ml_X0_55 ⟨⟨(Nat.le_of_ble_eq_true rfl), (Nat.le_of_ble_eq_true rfl)⟩, (Nat.le_of_ble_eq_true rfl), (Nat.le_of_ble_eq_true rfl)⟩ dX0_changeFlags_6 rfl rfl rfl (Nat.le_of_ble_eq_true rfl) rfl rfl (fun x1 => ?_)
    refine V_icmp_lt (q := 14) (q2 := 12) dX0_changeFlags_9 (by decide) rfl ?_ ?_
    · refine V_aload_n dX0_changeFlags_14 rfl 0 rfl ?_
      refine V_getR dX0_changeFlags_15 rfl (ci := 0) (T := TX0) rfl (by decide) fl_X0_31 (fun x2 => ?_)
      refine V_iload_n dX0_changeFlags_18 rfl 1 rfl ?_
      refine V_cVeI (As := [.int a1]) (k_X5_get x2 a1 M) (fun _ h => o_X5_get h) ok_X5_get im_X5_get se_X5_get rfl (ci := 4) rfl ml_X0_56 ⟨⟨(Nat.le_of_ble_eq_true rfl), (Nat.le_of_ble_eq_true rfl)⟩, (Nat.le_of_ble_eq_true rfl), (Nat.le_of_ble_eq_true rfl)⟩ dX0_changeFlags_19 rfl rfl rfl (Nat.le_of_ble_eq_true rfl) rfl rfl (fun x3 => ?_)
      refine V_istore (L' := [(0, .ref this), (1, .int a1), (2, .int a2), (3, .int a3), (4, .int x3)]) dX0_changeFlags_22 rfl (by decide) rfl ?_
      refine V_iload_n dX0_changeFlags_24 rfl 2 rfl ?_
      refine V_if_ne (q := 32) (q2 := 28) dX0_changeFlags_25 (by decide) rfl ?_ ?_
      · refine V_iload_n dX0_changeFlags_32 rfl 2 rfl ?_
        refine V_iconst (x := 1) dX0_changeFlags_33 rfl rfl ?_
        refine V_icmp_ne (q := 44) (q2 := 37) dX0_changeFlags_34 (by decide) rfl ?_ ?_
        · refine V_iload dX0_changeFlags_44 rfl 4 rfl ?_
          refine V_iload_n dX0_changeFlags_46 rfl 3 rfl ?_
          refine V_iconst (x := (-1)) dX0_changeFlags_47 rfl rfl ?_
          refine V_ixor dX0_changeFlags_48 rfl ?_
          refine V_iand dX0_changeFlags_49 rfl ?_
          exact V_sub [0, 1, 4] rfl (v_X0_changeFlags_50 this a1 x3 (x3 &&& (a3 ^^^ (-1))) M)
        · refine V_iload dX0_changeFlags_37 rfl 4 rfl ?_
          refine V_iload_n dX0_changeFlags_39 rfl 3 rfl ?_
          refine V_ior dX0_changeFlags_40 rfl ?_
          refine V_goto (q := 50) dX0_changeFlags_41 (by decide) ?_
          exact V_sub [0, 1, 4] rfl (v_X0_changeFlags_50 this a1 x3 (x3 ||| a3) M)
      · refine V_iload_n dX0_changeFlags_28 rfl 3 rfl ?_
        refine V_goto (q := 50) dX0_changeFlags_29 (by decide) ?_
        exact V_sub [0, 1, 4] rfl (v_X0_changeFlags_50 this a1 x3 a3 M)
    · refine V_iconst (x := 0) dX0_changeFlags_12 rfl rfl ?_
      exact V_zret (v := false) dX0_changeFlags_13 rfl rfl ⟨(Nat.le_of_ble_eq_true rfl), (Nat.le_of_ble_eq_true rfl)⟩
theorem k_X0_changeFlags (this : Nat) (a1 : Int32) (a2 : Int32) (a3 : Int32) (M : Mem) : K mi_X0_changeFlags [.ref this, .int a1, .int a2, .int a3] M (f_X0_changeFlags this a1 a2 a3 M) wZ := K_of_V ok_X0_changeFlags (Nat.le_of_ble_eq_true rfl) (v_X0_changeFlags this a1 a2 a3 M)
theorem o_X0_changeFlags {this : Nat} {a1 : Int32} {a2 : Int32} {a3 : Int32} {M : Mem} {x} (h : f_X0_changeFlags this a1 a2 a3 M = some x) : isO M 0 this = true := (ob_of h).1
theorem dX0_sumOfSizes_0 : decode cX0_sumOfSizes 0 = .ok (.iconst 0, 1) := by decide +kernel
theorem dX0_sumOfSizes_1 : decode cX0_sumOfSizes 1 = .ok (.istore_n 1, 1) := by decide +kernel
theorem dX0_sumOfSizes_2 : decode cX0_sumOfSizes 2 = .ok (.iconst 0, 1) := by decide +kernel
theorem dX0_sumOfSizes_3 : decode cX0_sumOfSizes 3 = .ok (.istore_n 2, 1) := by decide +kernel
theorem dX0_sumOfSizes_4 : decode cX0_sumOfSizes 4 = .ok (.iload_n 2, 1) := by decide +kernel
theorem dX0_sumOfSizes_5 : decode cX0_sumOfSizes 5 = .ok (.aload_n 0, 1) := by decide +kernel
theorem dX0_sumOfSizes_6 : decode cX0_sumOfSizes 6 = .ok (.invokevirtual 55, 3) := by decide +kernel
theorem dX0_sumOfSizes_9 : decode cX0_sumOfSizes 9 = .ok (.if_icmp .ge 20, 3) := by decide +kernel
theorem dX0_sumOfSizes_12 : decode cX0_sumOfSizes 12 = .ok (.iload_n 1, 1) := by decide +kernel
theorem dX0_sumOfSizes_13 : decode cX0_sumOfSizes 13 = .ok (.aload_n 0, 1) := by decide +kernel
theorem dX0_sumOfSizes_14 : decode cX0_sumOfSizes 14 = .ok (.getfield 28, 3) := by decide +kernel
theorem dX0_sumOfSizes_17 : decode cX0_sumOfSizes 17 = .ok (.iload_n 2, 1) := by decide +kernel
theorem dX0_sumOfSizes_18 : decode cX0_sumOfSizes 18 = .ok (.invokevirtual 56, 3) := by decide +kernel
theorem dX0_sumOfSizes_21 : decode cX0_sumOfSizes 21 = .ok (.iadd, 1) := by decide +kernel
theorem dX0_sumOfSizes_22 : decode cX0_sumOfSizes 22 = .ok (.istore_n 1, 1) := by decide +kernel
theorem dX0_sumOfSizes_23 : decode cX0_sumOfSizes 23 = .ok (.iinc 2 1, 3) := by decide +kernel
theorem dX0_sumOfSizes_26 : decode cX0_sumOfSizes 26 = .ok (.goto (-22), 3) := by decide +kernel
theorem dX0_sumOfSizes_29 : decode cX0_sumOfSizes 29 = .ok (.iload_n 1, 1) := by decide +kernel
theorem dX0_sumOfSizes_30 : decode cX0_sumOfSizes 30 = .ok (.ireturn, 1) := by decide +kernel
def mi_X0_sumOfSizes : MI := (RX0, yX0_sumOfSizes, cX0_sumOfSizes, 3, some .int, [], { frames := 3, cells := 0, slots := 0, locals := 52 })
theorem ok_X0_sumOfSizes : mOK mi_X0_sumOfSizes 0 := ⟨rfl, cw_X0_sumOfSizes, ini_X0, ⟨rfl, by decide⟩, by decide, by decide, rfl⟩
theorem v_X0_sumOfSizes_4 : ∀ (fu : Nat) (this : Nat) (l1 : Int32) (l2 : Int32) (M : Mem), V mi_X0_sumOfSizes 4 [(0, .ref this), (1, .int l1), (2, .int l2)] [] M 0 0 (f_X0_sumOfSizes_4 fu this l1 l2 M) (eI M) := by
  intro fu
  induction fu with
  | zero => intros; exact V_none
  | succ fu ih =>
    intro this l1 l2 M
    show V mi_X0_sumOfSizes 4 [(0, .ref this), (1, .int l1), (2, .int l2)] [] M 0 0 (f_X0_sumOfSizes_4 (fu + 1) this l1 l2 M) (eI M)
    unfold f_X0_sumOfSizes_4
    refine V_iload_n dX0_sumOfSizes_4 rfl 2 rfl ?_
    refine V_aload_n dX0_sumOfSizes_5 rfl 0 rfl ?_
    refine V_cVeI (As := []) (k_X0_size this M) (fun _ h => o_X0_size h) ok_X0_size im_X0_size se_X0_size rfl (ci := 0) rfl ml_X0_55 ⟨⟨(Nat.le_of_ble_eq_true rfl), (Nat.le_of_ble_eq_true rfl)⟩, (Nat.le_of_ble_eq_true rfl), (Nat.le_of_ble_eq_true rfl)⟩ dX0_sumOfSizes_6 rfl rfl rfl (Nat.le_of_ble_eq_true rfl) rfl rfl (fun x1 => ?_)
    refine V_icmp_ge (q := 29) (q2 := 12) dX0_sumOfSizes_9 (by decide) rfl ?_ ?_
    · refine V_iload_n dX0_sumOfSizes_29 rfl 1 rfl ?_
      exact V_iret dX0_sumOfSizes_30 rfl rfl ⟨(Nat.le_of_ble_eq_true rfl), (Nat.le_of_ble_eq_true rfl)⟩
    · refine V_iload_n dX0_sumOfSizes_12 rfl 1 rfl ?_
      refine V_aload_n dX0_sumOfSizes_13 rfl 0 rfl ?_
      refine V_getR dX0_sumOfSizes_14 rfl (ci := 0) (T := TX0) rfl (by decide) fl_X0_28 (fun x2 => ?_)
      refine V_iload_n dX0_sumOfSizes_17 rfl 2 rfl ?_
      refine V_cVeI (As := [.int l2]) (k_X5_get x2 l2 M) (fun _ h => o_X5_get h) ok_X5_get im_X5_get se_X5_get rfl (ci := 4) rfl ml_X0_56 ⟨⟨(Nat.le_of_ble_eq_true rfl), (Nat.le_of_ble_eq_true rfl)⟩, (Nat.le_of_ble_eq_true rfl), (Nat.le_of_ble_eq_true rfl)⟩ dX0_sumOfSizes_18 rfl rfl rfl (Nat.le_of_ble_eq_true rfl) rfl rfl (fun x3 => ?_)
      refine V_iadd dX0_sumOfSizes_21 rfl ?_
      refine V_istore_n (L' := [(0, .ref this), (1, .int (l1 + x3)), (2, .int l2)]) dX0_sumOfSizes_22 rfl (by decide) rfl ?_
      refine V_iinc (y := (l2 + 1)) (L' := [(0, .ref this), (1, .int (l1 + x3)), (2, .int (l2 + 1))]) dX0_sumOfSizes_23 rfl 2 rfl rfl (by decide) rfl ?_
      refine V_goto (q := 4) dX0_sumOfSizes_26 (by decide) ?_
      exact ih this (l1 + x3) (l2 + 1) M
theorem v_X0_sumOfSizes (this : Nat) (M : Mem) : V mi_X0_sumOfSizes 0 [(0, .ref this)] [] M 0 0 (f_X0_sumOfSizes this M) (eI M) := by
  unfold f_X0_sumOfSizes
  refine V_ob fun _ _ => ?_
  refine V_iconst (x := 0) dX0_sumOfSizes_0 rfl rfl ?_
  refine V_istore_n (L' := [(0, .ref this), (1, .int 0)]) dX0_sumOfSizes_1 rfl (by decide) rfl ?_
  refine V_iconst (x := 0) dX0_sumOfSizes_2 rfl rfl ?_
  refine V_istore_n (L' := [(0, .ref this), (1, .int 0), (2, .int 0)]) dX0_sumOfSizes_3 rfl (by decide) rfl ?_
  exact v_X0_sumOfSizes_4 FU this 0 0 M
theorem k_X0_sumOfSizes (this : Nat) (M : Mem) : K mi_X0_sumOfSizes [.ref this] M (f_X0_sumOfSizes this M) (eI M) := K_of_V ok_X0_sumOfSizes (Nat.le_of_ble_eq_true rfl) (v_X0_sumOfSizes this M)
theorem o_X0_sumOfSizes {this : Nat} {M : Mem} {x} (h : f_X0_sumOfSizes this M = some x) : isO M 0 this = true := (ob_of h).1
theorem dX0_withFlag_0 : decode cX0_withFlag 0 = .ok (.iconst 0, 1) := by decide +kernel
theorem dX0_withFlag_1 : decode cX0_withFlag 1 = .ok (.istore_n 2, 1) := by decide +kernel
theorem dX0_withFlag_2 : decode cX0_withFlag 2 = .ok (.iconst 0, 1) := by decide +kernel
theorem dX0_withFlag_3 : decode cX0_withFlag 3 = .ok (.istore_n 3, 1) := by decide +kernel
theorem dX0_withFlag_4 : decode cX0_withFlag 4 = .ok (.iload_n 3, 1) := by decide +kernel
theorem dX0_withFlag_5 : decode cX0_withFlag 5 = .ok (.aload_n 0, 1) := by decide +kernel
theorem dX0_withFlag_6 : decode cX0_withFlag 6 = .ok (.getfield 24, 3) := by decide +kernel
theorem dX0_withFlag_9 : decode cX0_withFlag 9 = .ok (.invokevirtual 41, 3) := by decide +kernel
theorem dX0_withFlag_12 : decode cX0_withFlag 12 = .ok (.if_icmp .ge 28, 3) := by decide +kernel
theorem dX0_withFlag_15 : decode cX0_withFlag 15 = .ok (.aload_n 0, 1) := by decide +kernel
theorem dX0_withFlag_16 : decode cX0_withFlag 16 = .ok (.getfield 31, 3) := by decide +kernel
theorem dX0_withFlag_19 : decode cX0_withFlag 19 = .ok (.iload_n 3, 1) := by decide +kernel
theorem dX0_withFlag_20 : decode cX0_withFlag 20 = .ok (.invokevirtual 56, 3) := by decide +kernel
theorem dX0_withFlag_23 : decode cX0_withFlag 23 = .ok (.iload_n 1, 1) := by decide +kernel
theorem dX0_withFlag_24 : decode cX0_withFlag 24 = .ok (.iand, 1) := by decide +kernel
theorem dX0_withFlag_25 : decode cX0_withFlag 25 = .ok (.ifCond .eq 9, 3) := by decide +kernel
theorem dX0_withFlag_28 : decode cX0_withFlag 28 = .ok (.iload_n 2, 1) := by decide +kernel
theorem dX0_withFlag_29 : decode cX0_withFlag 29 = .ok (.iconst 1, 1) := by decide +kernel
theorem dX0_withFlag_30 : decode cX0_withFlag 30 = .ok (.iload_n 3, 1) := by decide +kernel
theorem dX0_withFlag_31 : decode cX0_withFlag 31 = .ok (.ishl, 1) := by decide +kernel
theorem dX0_withFlag_32 : decode cX0_withFlag 32 = .ok (.ior, 1) := by decide +kernel
theorem dX0_withFlag_33 : decode cX0_withFlag 33 = .ok (.istore_n 2, 1) := by decide +kernel
theorem dX0_withFlag_34 : decode cX0_withFlag 34 = .ok (.iinc 3 1, 3) := by decide +kernel
theorem dX0_withFlag_37 : decode cX0_withFlag 37 = .ok (.goto (-33), 3) := by decide +kernel
theorem dX0_withFlag_40 : decode cX0_withFlag 40 = .ok (.iload_n 2, 1) := by decide +kernel
theorem dX0_withFlag_41 : decode cX0_withFlag 41 = .ok (.ireturn, 1) := by decide +kernel
def mi_X0_withFlag : MI := (RX0, yX0_withFlag, cX0_withFlag, 4, some .int, [], { frames := 2, cells := 0, slots := 0, locals := 33 })
theorem ok_X0_withFlag : mOK mi_X0_withFlag 1 := ⟨rfl, cw_X0_withFlag, ini_X0, ⟨rfl, by decide⟩, by decide, by decide, rfl⟩
theorem v_X0_withFlag_34 (rc4 : Nat → Int32 → Int32 → Int32 → Mem → Option Int32) (h4 : ∀ (l0 : Nat) (l1 : Int32) (l2 : Int32) (l3 : Int32) (M : Mem), V mi_X0_withFlag 4 [(0, .ref l0), (1, .int l1), (2, .int l2), (3, .int l3)] [] M 0 0 (rc4 l0 l1 l2 l3 M) (eI M)) (this : Nat) (l1 : Int32) (l2 : Int32) (l3 : Int32) (M : Mem) : V mi_X0_withFlag 34 [(0, .ref this), (1, .int l1), (2, .int l2), (3, .int l3)] [] M 0 0 (f_X0_withFlag_34 rc4 this l1 l2 l3 M) (eI M) := by
  unfold f_X0_withFlag_34
  refine V_iinc (y := (l3 + 1)) (L' := [(0, .ref this), (1, .int l1), (2, .int l2), (3, .int (l3 + 1))]) dX0_withFlag_34 rfl 3 rfl rfl (by decide) rfl ?_
  refine V_goto (q := 4) dX0_withFlag_37 (by decide) ?_
  exact h4 this l1 l2 (l3 + 1) M
theorem v_X0_withFlag_4 : ∀ (fu : Nat) (this : Nat) (l1 : Int32) (l2 : Int32) (l3 : Int32) (M : Mem), V mi_X0_withFlag 4 [(0, .ref this), (1, .int l1), (2, .int l2), (3, .int l3)] [] M 0 0 (f_X0_withFlag_4 fu this l1 l2 l3 M) (eI M) := by
  intro fu
  induction fu with
  | zero => intros; exact V_none
  | succ fu ih =>
    intro this l1 l2 l3 M
    show V mi_X0_withFlag 4 [(0, .ref this), (1, .int l1), (2, .int l2), (3, .int l3)] [] M 0 0 (f_X0_withFlag_4 (fu + 1) this l1 l2 l3 M) (eI M)
    unfold f_X0_withFlag_4
    refine V_iload_n dX0_withFlag_4 rfl 3 rfl ?_
    refine V_aload_n dX0_withFlag_5 rfl 0 rfl ?_
    refine V_getR dX0_withFlag_6 rfl (ci := 0) (T := TX0) rfl (by decide) fl_X0_24 (fun x1 => ?_)
    refine V_cVeI (As := []) (k_X5_size x1 M) (fun _ h => o_X5_size h) ok_X5_size im_X5_size se_X5_size rfl (ci := 4) rfl ml_X0_41 ⟨⟨(Nat.le_of_ble_eq_true rfl), (Nat.le_of_ble_eq_true rfl)⟩, (Nat.le_of_ble_eq_true rfl), (Nat.le_of_ble_eq_true rfl)⟩ dX0_withFlag_9 rfl rfl rfl (Nat.le_of_ble_eq_true rfl) rfl rfl (fun x2 => ?_)
    refine V_icmp_ge (q := 40) (q2 := 15) dX0_withFlag_12 (by decide) rfl ?_ ?_
    · refine V_iload_n dX0_withFlag_40 rfl 2 rfl ?_
      exact V_iret dX0_withFlag_41 rfl rfl ⟨(Nat.le_of_ble_eq_true rfl), (Nat.le_of_ble_eq_true rfl)⟩
    · refine V_aload_n dX0_withFlag_15 rfl 0 rfl ?_
      refine V_getR dX0_withFlag_16 rfl (ci := 0) (T := TX0) rfl (by decide) fl_X0_31 (fun x3 => ?_)
      refine V_iload_n dX0_withFlag_19 rfl 3 rfl ?_
      refine V_cVeI (As := [.int l3]) (k_X5_get x3 l3 M) (fun _ h => o_X5_get h) ok_X5_get im_X5_get se_X5_get rfl (ci := 4) rfl ml_X0_56 ⟨⟨(Nat.le_of_ble_eq_true rfl), (Nat.le_of_ble_eq_true rfl)⟩, (Nat.le_of_ble_eq_true rfl), (Nat.le_of_ble_eq_true rfl)⟩ dX0_withFlag_20 rfl rfl rfl (Nat.le_of_ble_eq_true rfl) rfl rfl (fun x4 => ?_)
      refine V_iload_n dX0_withFlag_23 rfl 1 rfl ?_
      refine V_iand dX0_withFlag_24 rfl ?_
      refine V_if_eq (q := 34) (q2 := 28) dX0_withFlag_25 (by decide) rfl ?_ ?_
      · exact v_X0_withFlag_34 (f_X0_withFlag_4 fu) ih this l1 l2 l3 M
      · refine V_iload_n dX0_withFlag_28 rfl 2 rfl ?_
        refine V_iconst (x := 1) dX0_withFlag_29 rfl rfl ?_
        refine V_iload_n dX0_withFlag_30 rfl 3 rfl ?_
        refine V_ishl dX0_withFlag_31 rfl ?_
        refine V_ior dX0_withFlag_32 rfl ?_
        refine V_istore_n (L' := [(0, .ref this), (1, .int l1), (2, .int (l2 ||| (1 <<< (l3 &&& 31)))), (3, .int l3)]) dX0_withFlag_33 rfl (by decide) rfl ?_
        exact v_X0_withFlag_34 (f_X0_withFlag_4 fu) ih this l1 (l2 ||| (1 <<< (l3 &&& 31))) l3 M
theorem v_X0_withFlag (this : Nat) (a1 : Int32) (M : Mem) : V mi_X0_withFlag 0 [(0, .ref this), (1, .int a1)] [] M 0 0 (f_X0_withFlag this a1 M) (eI M) := by
  unfold f_X0_withFlag
  refine V_ob fun _ _ => ?_
  refine V_iconst (x := 0) dX0_withFlag_0 rfl rfl ?_
  refine V_istore_n (L' := [(0, .ref this), (1, .int a1), (2, .int 0)]) dX0_withFlag_1 rfl (by decide) rfl ?_
  refine V_iconst (x := 0) dX0_withFlag_2 rfl rfl ?_
  refine V_istore_n (L' := [(0, .ref this), (1, .int a1), (2, .int 0), (3, .int 0)]) dX0_withFlag_3 rfl (by decide) rfl ?_
  exact v_X0_withFlag_4 FU this a1 0 0 M
theorem k_X0_withFlag (this : Nat) (a1 : Int32) (M : Mem) : K mi_X0_withFlag [.ref this, .int a1] M (f_X0_withFlag this a1 M) (eI M) := K_of_V ok_X0_withFlag (Nat.le_of_ble_eq_true rfl) (v_X0_withFlag this a1 M)
theorem o_X0_withFlag {this : Nat} {a1 : Int32} {M : Mem} {x} (h : f_X0_withFlag this a1 M = some x) : isO M 0 this = true := (ob_of h).1
