def f_X1_size (this : Nat) (M : Mem) : Option Int32 :=
  ob M 1 this (
    (gI M 1 1 this).bind fun x1 =>
    some x1
  )
def f_X1_get (this : Nat) (a1 : Int32) (M : Mem) : Option Int32 :=
  ob M 1 this (
    if a1 < 0 then (
      some (-1)
    ) else (
      (gI M 1 1 this).bind fun x1 =>
      if x1 ≤ a1 then (
        some (-1)
      ) else (
        (gR M 1 0 this).bind fun x2 =>
        (aL M x2).bind fun x3 =>
        if x3 ≤ a1 then (
          some (-1)
        ) else (
          (gR M 1 0 this).bind fun x4 =>
          (aI M 2 x4 a1).bind fun x5 =>
          some (x5 &&& 255)
        )
      )
    )
  )
def f_X1_cutTo (this : Nat) (a1 : Int32) (M : Mem) : Option Mem :=
  ob M 1 this (
    if a1 < 0 then (
      some M
    ) else (
      (gI M 1 1 this).bind fun x1 =>
      if x1 ≤ a1 then (
        some M
      ) else (
        (pV M 1 1 this (.int a1)).bind fun M2 =>
        some M2
      )
    )
  )
def f_X1_addByte (this : Nat) (a1 : Int32) (M : Mem) : Option Mem :=
  ob M 1 this (
    (gI M 1 1 this).bind fun x1 =>
    if (x1 : Int32) < 0 then (
      some M
    ) else (
      (gI M 1 1 this).bind fun x2 =>
      (gR M 1 0 this).bind fun x3 =>
      (aL M x3).bind fun x4 =>
      if x4 ≤ x2 then (
        some M
      ) else (
        (gR M 1 0 this).bind fun x5 =>
        (gI M 1 1 this).bind fun x6 =>
        (sI M 2 x5 x6 (vp_nar .byte ((Int32.toInt8 a1).toInt32))).bind fun M7 =>
        (gI M7 1 1 this).bind fun x8 =>
        (pV M7 1 1 this (.int (x8 + 1))).bind fun M9 =>
        some M9
      )
    )
  )
def f_X1_addFour (this : Nat) (a1 : Int32) (M : Mem) : Option Mem :=
  ob M 1 this (
    (f_X1_addByte this (a1 >>> (24 &&& 31)) M).bind fun M2 =>
    (f_X1_addByte this (a1 >>> (16 &&& 31)) M2).bind fun M4 =>
    (f_X1_addByte this (a1 >>> (8 &&& 31)) M4).bind fun M6 =>
    (f_X1_addByte this a1 M6).bind fun M8 =>
    some M8
  )
def f_X1_nameAt_20 : Nat → Nat → Int32 → Int64 → Int32 → Mem → Option Int64
  | 0 => fun _ _ _ _ _ => none
  | fu + 1 => fun this l2 l3 l5 M =>
    if l2 ≤ l5 then (
      some l3
    ) else (
      (f_X1_get this l5 M).bind fun x1 =>
      (f_X1_nameAt_20 fu) this l2 ((l3 <<< ((8 : Int32).toInt64 &&& 63)) ||| (Int32.toInt64 (x1 &&& 255))) (l5 + 1) M
    )
def f_X1_nameAt (this : Nat) (a1 : Int32) (a2 : Int32) (M : Mem) : Option Int64 :=
  ob M 1 this (
    if a2 ≤ a1 then (
      some 0
    ) else (
      if (a2 - a1) ≤ 6 then (
        f_X1_nameAt_20 FU this a2 1 a1 M
      ) else (
        some 0
      )
    )
  )
theorem fl_X1_15_w : (Cond.fieldLink RX1 15 (TX1 1).1 (TX1 1).2.1 (TX1 1).2.2.1) ∈ cr_U := mem_U (i := 73) (by decide +kernel) rfl
theorem fl_X1_15 : flk RX1 15 (TX1 1) := Or.inl fl_X1_15_w
theorem cw_X1_size : (Cond.code yX1_size cX1_size 1 (some .int)) ∈ cr_U := mem_U (i := 888) (by decide +kernel) rfl
theorem ini_X1 : (Cond.initialized RX1) ∈ cr_U := mem_U (i := 27) (by decide +kernel) rfl
theorem fl_X1_9_w : (Cond.fieldLink RX1 9 (TX1 0).1 (TX1 0).2.1 (TX1 0).2.2.1) ∈ cr_U := mem_U (i := 72) (by decide +kernel) rfl
theorem fl_X1_9 : flk RX1 9 (TX1 0) := Or.inl fl_X1_9_w
theorem cw_X1_get : (Cond.code yX1_get cX1_get 2 (some .int)) ∈ cr_U := mem_U (i := 966) (by decide +kernel) rfl
theorem cw_X1_cutTo : (Cond.code yX1_cutTo cX1_cutTo 2 (none)) ∈ cr_U := mem_U (i := 893) (by decide +kernel) rfl
theorem cw_X1_addByte : (Cond.code yX1_addByte cX1_addByte 2 (none)) ∈ cr_U := mem_U (i := 940) (by decide +kernel) rfl
theorem ml_X1_19 : (Cond.methodLink RX1 19 yX1_addByte) ∈ cr_U := mem_U (i := 937) (by decide +kernel) rfl
theorem im_X1_addByte : (Cond.instanceMethod yX1_addByte) ∈ cr_U := mem_U (i := 938) (by decide +kernel) rfl
theorem se_X1_addByte : (Cond.selects RX1 yX1_addByte yX1_addByte) ∈ cr_U := mem_U (i := 939) (by decide +kernel) rfl
theorem cw_X1_addFour : (Cond.code yX1_addFour cX1_addFour 2 (none)) ∈ cr_U := mem_U (i := 936) (by decide +kernel) rfl
theorem ml_X1_28 : (Cond.methodLink RX1 28 yX1_get) ∈ cr_U := mem_U (i := 978) (by decide +kernel) rfl
theorem im_X1_get : (Cond.instanceMethod yX1_get) ∈ cr_U := mem_U (i := 964) (by decide +kernel) rfl
theorem se_X1_get : (Cond.selects RX1 yX1_get yX1_get) ∈ cr_U := mem_U (i := 965) (by decide +kernel) rfl
theorem cw_X1_nameAt : (Cond.code yX1_nameAt cX1_nameAt 6 (some .long)) ∈ cr_U := mem_U (i := 977) (by decide +kernel) rfl
theorem dX1_size_0 : decode cX1_size 0 = .ok (.aload_n 0, 1) := by decide +kernel
theorem dX1_size_1 : decode cX1_size 1 = .ok (.getfield 15, 3) := by decide +kernel
theorem dX1_size_4 : decode cX1_size 4 = .ok (.ireturn, 1) := by decide +kernel
def mi_X1_size : MI := (RX1, yX1_size, cX1_size, 1, some .int, [], { frames := 1, cells := 0, slots := 0, locals := 12 })
theorem ok_X1_size : mOK mi_X1_size 0 := ⟨rfl, cw_X1_size, ini_X1, ⟨rfl, by decide⟩, by decide, by decide, rfl⟩
theorem v_X1_size (this : Nat) (M : Mem) : V mi_X1_size 0 [(0, .ref this)] [] M 0 0 (f_X1_size this M) (eI M) := by
  unfold f_X1_size
  refine V_ob fun _ _ => ?_
  refine V_aload_n dX1_size_0 rfl 0 rfl ?_
  refine V_getI dX1_size_1 rfl (ci := 1) (T := TX1) rfl (by decide) fl_X1_15 (fun x1 => ?_)
  exact V_iret dX1_size_4 rfl rfl ⟨(Nat.le_of_ble_eq_true rfl), (Nat.le_of_ble_eq_true rfl)⟩
theorem k_X1_size (this : Nat) (M : Mem) : K mi_X1_size [.ref this] M (f_X1_size this M) (eI M) := K_of_V ok_X1_size (Nat.le_of_ble_eq_true rfl) (v_X1_size this M)
theorem o_X1_size {this : Nat} {M : Mem} {x} (h : f_X1_size this M = some x) : isO M 1 this = true := (ob_of h).1
theorem dX1_get_0 : decode cX1_get 0 = .ok (.iload_n 1, 1) := by decide +kernel
theorem dX1_get_1 : decode cX1_get 1 = .ok (.ifCond .lt 33, 3) := by decide +kernel
theorem dX1_get_4 : decode cX1_get 4 = .ok (.iload_n 1, 1) := by decide +kernel
theorem dX1_get_5 : decode cX1_get 5 = .ok (.aload_n 0, 1) := by decide +kernel
theorem dX1_get_6 : decode cX1_get 6 = .ok (.getfield 15, 3) := by decide +kernel
theorem dX1_get_9 : decode cX1_get 9 = .ok (.if_icmp .ge 25, 3) := by decide +kernel
theorem dX1_get_12 : decode cX1_get 12 = .ok (.iload_n 1, 1) := by decide +kernel
theorem dX1_get_13 : decode cX1_get 13 = .ok (.aload_n 0, 1) := by decide +kernel
theorem dX1_get_14 : decode cX1_get 14 = .ok (.getfield 9, 3) := by decide +kernel
theorem dX1_get_17 : decode cX1_get 17 = .ok (.arraylength, 1) := by decide +kernel
theorem dX1_get_18 : decode cX1_get 18 = .ok (.if_icmp .ge 16, 3) := by decide +kernel
theorem dX1_get_21 : decode cX1_get 21 = .ok (.aload_n 0, 1) := by decide +kernel
theorem dX1_get_22 : decode cX1_get 22 = .ok (.getfield 9, 3) := by decide +kernel
theorem dX1_get_25 : decode cX1_get 25 = .ok (.iload_n 1, 1) := by decide +kernel
theorem dX1_get_26 : decode cX1_get 26 = .ok (.baload, 1) := by decide +kernel
theorem dX1_get_27 : decode cX1_get 27 = .ok (.sipush 255, 3) := by decide +kernel
theorem dX1_get_30 : decode cX1_get 30 = .ok (.iand, 1) := by decide +kernel
theorem dX1_get_31 : decode cX1_get 31 = .ok (.goto 4, 3) := by decide +kernel
theorem dX1_get_34 : decode cX1_get 34 = .ok (.iconst (-1), 1) := by decide +kernel
theorem dX1_get_35 : decode cX1_get 35 = .ok (.ireturn, 1) := by decide +kernel
def mi_X1_get : MI := (RX1, yX1_get, cX1_get, 2, some .int, [], { frames := 1, cells := 0, slots := 0, locals := 12 })
theorem ok_X1_get : mOK mi_X1_get 1 := ⟨rfl, cw_X1_get, ini_X1, ⟨rfl, by decide⟩, by decide, by decide, rfl⟩
theorem v_X1_get (this : Nat) (a1 : Int32) (M : Mem) : V mi_X1_get 0 [(0, .ref this), (1, .int a1)] [] M 0 0 (f_X1_get this a1 M) (eI M) := by
  unfold f_X1_get
  refine V_ob fun _ _ => ?_
  refine V_iload_n dX1_get_0 rfl 1 rfl ?_
  refine V_if_lt (q := 34) (q2 := 4) dX1_get_1 (by decide) rfl ?_ ?_
  · refine V_iconst (x := (-1)) dX1_get_34 rfl rfl ?_
    exact V_iret dX1_get_35 rfl rfl ⟨(Nat.le_of_ble_eq_true rfl), (Nat.le_of_ble_eq_true rfl)⟩
  · refine V_iload_n dX1_get_4 rfl 1 rfl ?_
    refine V_aload_n dX1_get_5 rfl 0 rfl ?_
    refine V_getI dX1_get_6 rfl (ci := 1) (T := TX1) rfl (by decide) fl_X1_15 (fun x1 => ?_)
    refine V_icmp_ge (q := 34) (q2 := 12) dX1_get_9 (by decide) rfl ?_ ?_
    · refine V_iconst (x := (-1)) dX1_get_34 rfl rfl ?_
      exact V_iret dX1_get_35 rfl rfl ⟨(Nat.le_of_ble_eq_true rfl), (Nat.le_of_ble_eq_true rfl)⟩
    · refine V_iload_n dX1_get_12 rfl 1 rfl ?_
      refine V_aload_n dX1_get_13 rfl 0 rfl ?_
      refine V_getR dX1_get_14 rfl (ci := 1) (T := TX1) rfl (by decide) fl_X1_9 (fun x2 => ?_)
      refine V_arraylength dX1_get_17 rfl (fun x3 => ?_)
      refine V_icmp_ge (q := 34) (q2 := 21) dX1_get_18 (by decide) rfl ?_ ?_
      · refine V_iconst (x := (-1)) dX1_get_34 rfl rfl ?_
        exact V_iret dX1_get_35 rfl rfl ⟨(Nat.le_of_ble_eq_true rfl), (Nat.le_of_ble_eq_true rfl)⟩
      · refine V_aload_n dX1_get_21 rfl 0 rfl ?_
        refine V_getR dX1_get_22 rfl (ci := 1) (T := TX1) rfl (by decide) fl_X1_9 (fun x4 => ?_)
        refine V_iload_n dX1_get_25 rfl 1 rfl ?_
        refine V_baload dX1_get_26 rfl (fun x5 => ?_)
        refine V_sipush (x := 255) dX1_get_27 rfl rfl ?_
        refine V_iand dX1_get_30 rfl ?_
        refine V_goto (q := 35) dX1_get_31 (by decide) ?_
        exact V_iret dX1_get_35 rfl rfl ⟨(Nat.le_of_ble_eq_true rfl), (Nat.le_of_ble_eq_true rfl)⟩
theorem k_X1_get (this : Nat) (a1 : Int32) (M : Mem) : K mi_X1_get [.ref this, .int a1] M (f_X1_get this a1 M) (eI M) := K_of_V ok_X1_get (Nat.le_of_ble_eq_true rfl) (v_X1_get this a1 M)
theorem o_X1_get {this : Nat} {a1 : Int32} {M : Mem} {x} (h : f_X1_get this a1 M = some x) : isO M 1 this = true := (ob_of h).1
theorem dX1_cutTo_0 : decode cX1_cutTo 0 = .ok (.iload_n 1, 1) := by decide +kernel
theorem dX1_cutTo_1 : decode cX1_cutTo 1 = .ok (.ifCond .lt 16, 3) := by decide +kernel
theorem dX1_cutTo_4 : decode cX1_cutTo 4 = .ok (.iload_n 1, 1) := by decide +kernel
theorem dX1_cutTo_5 : decode cX1_cutTo 5 = .ok (.aload_n 0, 1) := by decide +kernel
theorem dX1_cutTo_6 : decode cX1_cutTo 6 = .ok (.getfield 15, 3) := by decide +kernel
theorem dX1_cutTo_9 : decode cX1_cutTo 9 = .ok (.if_icmp .ge 8, 3) := by decide +kernel
theorem dX1_cutTo_12 : decode cX1_cutTo 12 = .ok (.aload_n 0, 1) := by decide +kernel
theorem dX1_cutTo_13 : decode cX1_cutTo 13 = .ok (.iload_n 1, 1) := by decide +kernel
theorem dX1_cutTo_14 : decode cX1_cutTo 14 = .ok (.putfield 15, 3) := by decide +kernel
theorem dX1_cutTo_17 : decode cX1_cutTo 17 = .ok (.return_, 1) := by decide +kernel
def mi_X1_cutTo : MI := (RX1, yX1_cutTo, cX1_cutTo, 2, none, [], { frames := 1, cells := 0, slots := 0, locals := 12 })
theorem ok_X1_cutTo : mOK mi_X1_cutTo 1 := ⟨rfl, cw_X1_cutTo, ini_X1, ⟨rfl, by decide⟩, by decide, by decide, rfl⟩
theorem v_X1_cutTo (this : Nat) (a1 : Int32) (M : Mem) : V mi_X1_cutTo 0 [(0, .ref this), (1, .int a1)] [] M 0 0 (f_X1_cutTo this a1 M) wV := by
  unfold f_X1_cutTo
  refine V_ob fun _ _ => ?_
  refine V_iload_n dX1_cutTo_0 rfl 1 rfl ?_
  refine V_if_lt (q := 17) (q2 := 4) dX1_cutTo_1 (by decide) rfl ?_ ?_
  · exact V_vret dX1_cutTo_17 rfl rfl ⟨(Nat.le_of_ble_eq_true rfl), (Nat.le_of_ble_eq_true rfl)⟩
  · refine V_iload_n dX1_cutTo_4 rfl 1 rfl ?_
    refine V_aload_n dX1_cutTo_5 rfl 0 rfl ?_
    refine V_getI dX1_cutTo_6 rfl (ci := 1) (T := TX1) rfl (by decide) fl_X1_15 (fun x1 => ?_)
    refine V_icmp_ge (q := 17) (q2 := 12) dX1_cutTo_9 (by decide) rfl ?_ ?_
    · exact V_vret dX1_cutTo_17 rfl rfl ⟨(Nat.le_of_ble_eq_true rfl), (Nat.le_of_ble_eq_true rfl)⟩
    · refine V_aload_n dX1_cutTo_12 rfl 0 rfl ?_
      refine V_iload_n dX1_cutTo_13 rfl 1 rfl ?_
      refine V_putI dX1_cutTo_14 rfl (ci := 1) (T := TX1) rfl (by decide) fl_X1_15 rfl rfl (fun M2 => ?_)
      exact V_vret dX1_cutTo_17 rfl rfl ⟨(Nat.le_of_ble_eq_true rfl), (Nat.le_of_ble_eq_true rfl)⟩
theorem k_X1_cutTo (this : Nat) (a1 : Int32) (M : Mem) : K mi_X1_cutTo [.ref this, .int a1] M (f_X1_cutTo this a1 M) wV := K_of_V ok_X1_cutTo (Nat.le_of_ble_eq_true rfl) (v_X1_cutTo this a1 M)
theorem o_X1_cutTo {this : Nat} {a1 : Int32} {M : Mem} {x} (h : f_X1_cutTo this a1 M = some x) : isO M 1 this = true := (ob_of h).1
theorem dX1_addByte_0 : decode cX1_addByte 0 = .ok (.aload_n 0, 1) := by decide +kernel
theorem dX1_addByte_1 : decode cX1_addByte 1 = .ok (.getfield 15, 3) := by decide +kernel
theorem dX1_addByte_4 : decode cX1_addByte 4 = .ok (.ifCond .lt 36, 3) := by decide +kernel
theorem dX1_addByte_7 : decode cX1_addByte 7 = .ok (.aload_n 0, 1) := by decide +kernel
theorem dX1_addByte_8 : decode cX1_addByte 8 = .ok (.getfield 15, 3) := by decide +kernel
theorem dX1_addByte_11 : decode cX1_addByte 11 = .ok (.aload_n 0, 1) := by decide +kernel
theorem dX1_addByte_12 : decode cX1_addByte 12 = .ok (.getfield 9, 3) := by decide +kernel
theorem dX1_addByte_15 : decode cX1_addByte 15 = .ok (.arraylength, 1) := by decide +kernel
theorem dX1_addByte_16 : decode cX1_addByte 16 = .ok (.if_icmp .ge 24, 3) := by decide +kernel
theorem dX1_addByte_19 : decode cX1_addByte 19 = .ok (.aload_n 0, 1) := by decide +kernel
theorem dX1_addByte_20 : decode cX1_addByte 20 = .ok (.getfield 9, 3) := by decide +kernel
theorem dX1_addByte_23 : decode cX1_addByte 23 = .ok (.aload_n 0, 1) := by decide +kernel
theorem dX1_addByte_24 : decode cX1_addByte 24 = .ok (.getfield 15, 3) := by decide +kernel
theorem dX1_addByte_27 : decode cX1_addByte 27 = .ok (.iload_n 1, 1) := by decide +kernel
theorem dX1_addByte_28 : decode cX1_addByte 28 = .ok (.i2b, 1) := by decide +kernel
theorem dX1_addByte_29 : decode cX1_addByte 29 = .ok (.bastore, 1) := by decide +kernel
theorem dX1_addByte_30 : decode cX1_addByte 30 = .ok (.aload_n 0, 1) := by decide +kernel
theorem dX1_addByte_31 : decode cX1_addByte 31 = .ok (.dup, 1) := by decide +kernel
theorem dX1_addByte_32 : decode cX1_addByte 32 = .ok (.getfield 15, 3) := by decide +kernel
theorem dX1_addByte_35 : decode cX1_addByte 35 = .ok (.iconst 1, 1) := by decide +kernel
theorem dX1_addByte_36 : decode cX1_addByte 36 = .ok (.iadd, 1) := by decide +kernel
theorem dX1_addByte_37 : decode cX1_addByte 37 = .ok (.putfield 15, 3) := by decide +kernel
theorem dX1_addByte_40 : decode cX1_addByte 40 = .ok (.return_, 1) := by decide +kernel
def mi_X1_addByte : MI := (RX1, yX1_addByte, cX1_addByte, 2, none, [], { frames := 1, cells := 0, slots := 0, locals := 12 })
theorem ok_X1_addByte : mOK mi_X1_addByte 1 := ⟨rfl, cw_X1_addByte, ini_X1, ⟨rfl, by decide⟩, by decide, by decide, rfl⟩
theorem v_X1_addByte (this : Nat) (a1 : Int32) (M : Mem) : V mi_X1_addByte 0 [(0, .ref this), (1, .int a1)] [] M 0 0 (f_X1_addByte this a1 M) wV := by
  unfold f_X1_addByte
  refine V_ob fun _ _ => ?_
  refine V_aload_n dX1_addByte_0 rfl 0 rfl ?_
  refine V_getI dX1_addByte_1 rfl (ci := 1) (T := TX1) rfl (by decide) fl_X1_15 (fun x1 => ?_)
  refine V_if_lt (q := 40) (q2 := 7) dX1_addByte_4 (by decide) rfl ?_ ?_
  · exact V_vret dX1_addByte_40 rfl rfl ⟨(Nat.le_of_ble_eq_true rfl), (Nat.le_of_ble_eq_true rfl)⟩
  · refine V_aload_n dX1_addByte_7 rfl 0 rfl ?_
    refine V_getI dX1_addByte_8 rfl (ci := 1) (T := TX1) rfl (by decide) fl_X1_15 (fun x2 => ?_)
    refine V_aload_n dX1_addByte_11 rfl 0 rfl ?_
    refine V_getR dX1_addByte_12 rfl (ci := 1) (T := TX1) rfl (by decide) fl_X1_9 (fun x3 => ?_)
    refine V_arraylength dX1_addByte_15 rfl (fun x4 => ?_)
    refine V_icmp_ge (q := 40) (q2 := 19) dX1_addByte_16 (by decide) rfl ?_ ?_
    · exact V_vret dX1_addByte_40 rfl rfl ⟨(Nat.le_of_ble_eq_true rfl), (Nat.le_of_ble_eq_true rfl)⟩
    · refine V_aload_n dX1_addByte_19 rfl 0 rfl ?_
      refine V_getR dX1_addByte_20 rfl (ci := 1) (T := TX1) rfl (by decide) fl_X1_9 (fun x5 => ?_)
      refine V_aload_n dX1_addByte_23 rfl 0 rfl ?_
      refine V_getI dX1_addByte_24 rfl (ci := 1) (T := TX1) rfl (by decide) fl_X1_15 (fun x6 => ?_)
      refine V_iload_n dX1_addByte_27 rfl 1 rfl ?_
      refine V_i2b dX1_addByte_28 rfl ?_
      refine V_bastore dX1_addByte_29 rfl (fun M7 => ?_)
      refine V_aload_n dX1_addByte_30 rfl 0 rfl ?_
      refine V_dup dX1_addByte_31 rfl rfl ?_
      refine V_getI dX1_addByte_32 rfl (ci := 1) (T := TX1) rfl (by decide) fl_X1_15 (fun x8 => ?_)
      refine V_iconst (x := 1) dX1_addByte_35 rfl rfl ?_
      refine V_iadd dX1_addByte_36 rfl ?_
      refine V_putI dX1_addByte_37 rfl (ci := 1) (T := TX1) rfl (by decide) fl_X1_15 rfl rfl (fun M9 => ?_)
      exact V_vret dX1_addByte_40 rfl rfl ⟨(Nat.le_of_ble_eq_true rfl), (Nat.le_of_ble_eq_true rfl)⟩
theorem k_X1_addByte (this : Nat) (a1 : Int32) (M : Mem) : K mi_X1_addByte [.ref this, .int a1] M (f_X1_addByte this a1 M) wV := K_of_V ok_X1_addByte (Nat.le_of_ble_eq_true rfl) (v_X1_addByte this a1 M)
theorem o_X1_addByte {this : Nat} {a1 : Int32} {M : Mem} {x} (h : f_X1_addByte this a1 M = some x) : isO M 1 this = true := (ob_of h).1
theorem dX1_addFour_0 : decode cX1_addFour 0 = .ok (.aload_n 0, 1) := by decide +kernel
theorem dX1_addFour_1 : decode cX1_addFour 1 = .ok (.iload_n 1, 1) := by decide +kernel
theorem dX1_addFour_2 : decode cX1_addFour 2 = .ok (.bipush 24, 2) := by decide +kernel
theorem dX1_addFour_4 : decode cX1_addFour 4 = .ok (.ishr, 1) := by decide +kernel
theorem dX1_addFour_5 : decode cX1_addFour 5 = .ok (.invokevirtual 19, 3) := by decide +kernel
theorem dX1_addFour_8 : decode cX1_addFour 8 = .ok (.aload_n 0, 1) := by decide +kernel
theorem dX1_addFour_9 : decode cX1_addFour 9 = .ok (.iload_n 1, 1) := by decide +kernel
theorem dX1_addFour_10 : decode cX1_addFour 10 = .ok (.bipush 16, 2) := by decide +kernel
theorem dX1_addFour_12 : decode cX1_addFour 12 = .ok (.ishr, 1) := by decide +kernel
theorem dX1_addFour_13 : decode cX1_addFour 13 = .ok (.invokevirtual 19, 3) := by decide +kernel
theorem dX1_addFour_16 : decode cX1_addFour 16 = .ok (.aload_n 0, 1) := by decide +kernel
theorem dX1_addFour_17 : decode cX1_addFour 17 = .ok (.iload_n 1, 1) := by decide +kernel
theorem dX1_addFour_18 : decode cX1_addFour 18 = .ok (.bipush 8, 2) := by decide +kernel
theorem dX1_addFour_20 : decode cX1_addFour 20 = .ok (.ishr, 1) := by decide +kernel
theorem dX1_addFour_21 : decode cX1_addFour 21 = .ok (.invokevirtual 19, 3) := by decide +kernel
theorem dX1_addFour_24 : decode cX1_addFour 24 = .ok (.aload_n 0, 1) := by decide +kernel
theorem dX1_addFour_25 : decode cX1_addFour 25 = .ok (.iload_n 1, 1) := by decide +kernel
theorem dX1_addFour_26 : decode cX1_addFour 26 = .ok (.invokevirtual 19, 3) := by decide +kernel
theorem dX1_addFour_29 : decode cX1_addFour 29 = .ok (.return_, 1) := by decide +kernel
def mi_X1_addFour : MI := (RX1, yX1_addFour, cX1_addFour, 2, none, [], { frames := 2, cells := 0, slots := 0, locals := 33 })
theorem ok_X1_addFour : mOK mi_X1_addFour 1 := ⟨rfl, cw_X1_addFour, ini_X1, ⟨rfl, by decide⟩, by decide, by decide, rfl⟩
theorem v_X1_addFour (this : Nat) (a1 : Int32) (M : Mem) : V mi_X1_addFour 0 [(0, .ref this), (1, .int a1)] [] M 0 0 (f_X1_addFour this a1 M) wV := by
  unfold f_X1_addFour
  refine V_ob fun _ _ => ?_
  refine V_aload_n dX1_addFour_0 rfl 0 rfl ?_
  refine V_iload_n dX1_addFour_1 rfl 1 rfl ?_
  refine V_bipush (x := 24) dX1_addFour_2 rfl rfl ?_
  refine V_ishr dX1_addFour_4 rfl ?_
  refine V_cVwV (As := [.int (a1 >>> (24 &&& 31))]) (k_X1_addByte this (a1 >>> (24 &&& 31)) M) (fun _ h => o_X1_addByte h) ok_X1_addByte im_X1_addByte se_X1_addByte rfl (ci := 1) rfl ml_X1_19 ⟨⟨(Nat.le_of_ble_eq_true rfl), (Nat.le_of_ble_eq_true rfl)⟩, (Nat.le_of_ble_eq_true rfl), (Nat.le_of_ble_eq_true rfl)⟩ dX1_addFour_5 rfl rfl rfl (Nat.le_of_ble_eq_true rfl) rfl rfl (fun M2 => ?_)
  refine V_aload_n dX1_addFour_8 rfl 0 rfl ?_
  refine V_iload_n dX1_addFour_9 rfl 1 rfl ?_
  refine V_bipush (x := 16) dX1_addFour_10 rfl rfl ?_
  refine V_ishr dX1_addFour_12 rfl ?_
  refine V_cVwV (As := [.int (a1 >>> (16 &&& 31))]) (k_X1_addByte this (a1 >>> (16 &&& 31)) M2) (fun _ h => o_X1_addByte h) ok_X1_addByte im_X1_addByte se_X1_addByte rfl (ci := 1) rfl ml_X1_19 ⟨⟨(Nat.le_of_ble_eq_true rfl), (Nat.le_of_ble_eq_true rfl)⟩, (Nat.le_of_ble_eq_true rfl), (Nat.le_of_ble_eq_true rfl)⟩ dX1_addFour_13 rfl rfl rfl (Nat.le_of_ble_eq_true rfl) rfl rfl (fun M4 => ?_)
  refine V_aload_n dX1_addFour_16 rfl 0 rfl ?_
  refine V_iload_n dX1_addFour_17 rfl 1 rfl ?_
  refine V_bipush (x := 8) dX1_addFour_18 rfl rfl ?_
  refine V_ishr dX1_addFour_20 rfl ?_
  refine V_cVwV (As := [.int (a1 >>> (8 &&& 31))]) (k_X1_addByte this (a1 >>> (8 &&& 31)) M4) (fun _ h => o_X1_addByte h) ok_X1_addByte im_X1_addByte se_X1_addByte rfl (ci := 1) rfl ml_X1_19 ⟨⟨(Nat.le_of_ble_eq_true rfl), (Nat.le_of_ble_eq_true rfl)⟩, (Nat.le_of_ble_eq_true rfl), (Nat.le_of_ble_eq_true rfl)⟩ dX1_addFour_21 rfl rfl rfl (Nat.le_of_ble_eq_true rfl) rfl rfl (fun M6 => ?_)
  refine V_aload_n dX1_addFour_24 rfl 0 rfl ?_
  refine V_iload_n dX1_addFour_25 rfl 1 rfl ?_
  refine V_cVwV (As := [.int a1]) (k_X1_addByte this a1 M6) (fun _ h => o_X1_addByte h) ok_X1_addByte im_X1_addByte se_X1_addByte rfl (ci := 1) rfl ml_X1_19 ⟨⟨(Nat.le_of_ble_eq_true rfl), (Nat.le_of_ble_eq_true rfl)⟩, (Nat.le_of_ble_eq_true rfl), (Nat.le_of_ble_eq_true rfl)⟩ dX1_addFour_26 rfl rfl rfl (Nat.le_of_ble_eq_true rfl) rfl rfl (fun M8 => ?_)
  exact V_vret dX1_addFour_29 rfl rfl ⟨(Nat.le_of_ble_eq_true rfl), (Nat.le_of_ble_eq_true rfl)⟩
theorem k_X1_addFour (this : Nat) (a1 : Int32) (M : Mem) : K mi_X1_addFour [.ref this, .int a1] M (f_X1_addFour this a1 M) wV := K_of_V ok_X1_addFour (Nat.le_of_ble_eq_true rfl) (v_X1_addFour this a1 M)
theorem o_X1_addFour {this : Nat} {a1 : Int32} {M : Mem} {x} (h : f_X1_addFour this a1 M = some x) : isO M 1 this = true := (ob_of h).1
theorem dX1_nameAt_0 : decode cX1_nameAt 0 = .ok (.iload_n 1, 1) := by decide +kernel
theorem dX1_nameAt_1 : decode cX1_nameAt 1 = .ok (.iload_n 2, 1) := by decide +kernel
theorem dX1_nameAt_2 : decode cX1_nameAt 2 = .ok (.if_icmp .ge 11, 3) := by decide +kernel
theorem dX1_nameAt_5 : decode cX1_nameAt 5 = .ok (.iload_n 2, 1) := by decide +kernel
theorem dX1_nameAt_6 : decode cX1_nameAt 6 = .ok (.iload_n 1, 1) := by decide +kernel
theorem dX1_nameAt_7 : decode cX1_nameAt 7 = .ok (.isub, 1) := by decide +kernel
theorem dX1_nameAt_8 : decode cX1_nameAt 8 = .ok (.bipush 6, 2) := by decide +kernel
theorem dX1_nameAt_10 : decode cX1_nameAt 10 = .ok (.if_icmp .le 5, 3) := by decide +kernel
theorem dX1_nameAt_13 : decode cX1_nameAt 13 = .ok (.lconst 0, 1) := by decide +kernel
theorem dX1_nameAt_14 : decode cX1_nameAt 14 = .ok (.lreturn, 1) := by decide +kernel
theorem dX1_nameAt_15 : decode cX1_nameAt 15 = .ok (.lconst 1, 1) := by decide +kernel
theorem dX1_nameAt_16 : decode cX1_nameAt 16 = .ok (.lstore_n 3, 1) := by decide +kernel
theorem dX1_nameAt_17 : decode cX1_nameAt 17 = .ok (.iload_n 1, 1) := by decide +kernel
theorem dX1_nameAt_18 : decode cX1_nameAt 18 = .ok (.istore 5, 2) := by decide +kernel
theorem dX1_nameAt_20 : decode cX1_nameAt 20 = .ok (.iload 5, 2) := by decide +kernel
theorem dX1_nameAt_22 : decode cX1_nameAt 22 = .ok (.iload_n 2, 1) := by decide +kernel
theorem dX1_nameAt_23 : decode cX1_nameAt 23 = .ok (.if_icmp .ge 26, 3) := by decide +kernel
theorem dX1_nameAt_26 : decode cX1_nameAt 26 = .ok (.lload_n 3, 1) := by decide +kernel
theorem dX1_nameAt_27 : decode cX1_nameAt 27 = .ok (.bipush 8, 2) := by decide +kernel
theorem dX1_nameAt_29 : decode cX1_nameAt 29 = .ok (.lshl, 1) := by decide +kernel
theorem dX1_nameAt_30 : decode cX1_nameAt 30 = .ok (.aload_n 0, 1) := by decide +kernel
theorem dX1_nameAt_31 : decode cX1_nameAt 31 = .ok (.iload 5, 2) := by decide +kernel
theorem dX1_nameAt_33 : decode cX1_nameAt 33 = .ok (.invokevirtual 28, 3) := by decide +kernel
theorem dX1_nameAt_36 : decode cX1_nameAt 36 = .ok (.sipush 255, 3) := by decide +kernel
theorem dX1_nameAt_39 : decode cX1_nameAt 39 = .ok (.iand, 1) := by decide +kernel
theorem dX1_nameAt_40 : decode cX1_nameAt 40 = .ok (.i2l, 1) := by decide +kernel
theorem dX1_nameAt_41 : decode cX1_nameAt 41 = .ok (.lor, 1) := by decide +kernel
theorem dX1_nameAt_42 : decode cX1_nameAt 42 = .ok (.lstore_n 3, 1) := by decide +kernel
theorem dX1_nameAt_43 : decode cX1_nameAt 43 = .ok (.iinc 5 1, 3) := by decide +kernel
theorem dX1_nameAt_46 : decode cX1_nameAt 46 = .ok (.goto (-26), 3) := by decide +kernel
theorem dX1_nameAt_49 : decode cX1_nameAt 49 = .ok (.lload_n 3, 1) := by decide +kernel
theorem dX1_nameAt_50 : decode cX1_nameAt 50 = .ok (.lreturn, 1) := by decide +kernel
def mi_X1_nameAt : MI := (RX1, yX1_nameAt, cX1_nameAt, 6, some .long, [], { frames := 2, cells := 0, slots := 0, locals := 33 })
theorem ok_X1_nameAt : mOK mi_X1_nameAt 2 := ⟨rfl, cw_X1_nameAt, ini_X1, ⟨rfl, by decide⟩, by decide, by decide, rfl⟩
theorem v_X1_nameAt_20 : ∀ (fu : Nat) (this : Nat) (l2 : Int32) (l3 : Int64) (l5 : Int32) (M : Mem), V mi_X1_nameAt 20 [(0, .ref this), (2, .int l2), (3, .long l3), (5, .int l5)] [] M 0 0 (f_X1_nameAt_20 fu this l2 l3 l5 M) (eJ M) := by
  intro fu
  induction fu with
  | zero => intros; exact V_none
  | succ fu ih =>
    intro this l2 l3 l5 M
    show V mi_X1_nameAt 20 [(0, .ref this), (2, .int l2), (3, .long l3), (5, .int l5)] [] M 0 0 (f_X1_nameAt_20 (fu + 1) this l2 l3 l5 M) (eJ M)
    unfold f_X1_nameAt_20
    refine V_iload dX1_nameAt_20 rfl 3 rfl ?_
    refine V_iload_n dX1_nameAt_22 rfl 1 rfl ?_
    refine V_icmp_ge (q := 49) (q2 := 26) dX1_nameAt_23 (by decide) rfl ?_ ?_
    · refine V_lload_n dX1_nameAt_49 rfl 2 rfl ?_
      exact V_lret dX1_nameAt_50 rfl rfl ⟨(Nat.le_of_ble_eq_true rfl), (Nat.le_of_ble_eq_true rfl)⟩
    · refine V_lload_n dX1_nameAt_26 rfl 2 rfl ?_
      refine V_bipush (x := 8) dX1_nameAt_27 rfl rfl ?_
      refine V_lshl dX1_nameAt_29 rfl ?_
      refine V_aload_n dX1_nameAt_30 rfl 0 rfl ?_
      refine V_iload dX1_nameAt_31 rfl 3 rfl ?_
      refine V_cVeI (As := [.int l5]) (k_X1_get this l5 M) (fun _ h => o_X1_get h) ok_X1_get im_X1_get se_X1_get rfl (ci := 1) rfl ml_X1_28 ⟨⟨(Nat.le_of_ble_eq_true rfl), (Nat.le_of_ble_eq_true rfl)⟩, (Nat.le_of_ble_eq_true rfl), (Nat.le_of_ble_eq_true rfl)⟩ dX1_nameAt_33 rfl rfl rfl (Nat.le_of_ble_eq_true rfl) rfl rfl (fun x1 => ?_)
      refine V_sipush (x := 255) dX1_nameAt_36 rfl rfl ?_
      refine V_iand dX1_nameAt_39 rfl ?_
      refine V_i2l dX1_nameAt_40 rfl ?_
      refine V_lor dX1_nameAt_41 rfl ?_
      refine V_lstore_n (L' := [(0, .ref this), (2, .int l2), (3, .long ((l3 <<< ((8 : Int32).toInt64 &&& 63)) ||| (Int32.toInt64 (x1 &&& 255)))), (5, .int l5)]) dX1_nameAt_42 rfl (by decide) rfl ?_
      refine V_iinc (y := (l5 + 1)) (L' := [(0, .ref this), (2, .int l2), (3, .long ((l3 <<< ((8 : Int32).toInt64 &&& 63)) ||| (Int32.toInt64 (x1 &&& 255)))), (5, .int (l5 + 1))]) dX1_nameAt_43 rfl 3 rfl rfl (by decide) rfl ?_
      refine V_goto (q := 20) dX1_nameAt_46 (by decide) ?_
      exact ih this l2 ((l3 <<< ((8 : Int32).toInt64 &&& 63)) ||| (Int32.toInt64 (x1 &&& 255))) (l5 + 1) M
theorem v_X1_nameAt (this : Nat) (a1 : Int32) (a2 : Int32) (M : Mem) : V mi_X1_nameAt 0 [(0, .ref this), (1, .int a1), (2, .int a2)] [] M 0 0 (f_X1_nameAt this a1 a2 M) (eJ M) := by
  unfold f_X1_nameAt
  refine V_ob fun _ _ => ?_
  refine V_iload_n dX1_nameAt_0 rfl 1 rfl ?_
  refine V_iload_n dX1_nameAt_1 rfl 2 rfl ?_
  refine V_icmp_ge (q := 13) (q2 := 5) dX1_nameAt_2 (by decide) rfl ?_ ?_
  · refine V_lconst (x := 0) dX1_nameAt_13 rfl rfl ?_
    exact V_lret dX1_nameAt_14 rfl rfl ⟨(Nat.le_of_ble_eq_true rfl), (Nat.le_of_ble_eq_true rfl)⟩
  · refine V_iload_n dX1_nameAt_5 rfl 2 rfl ?_
    refine V_iload_n dX1_nameAt_6 rfl 1 rfl ?_
    refine V_isub dX1_nameAt_7 rfl ?_
    refine V_bipush (x := 6) dX1_nameAt_8 rfl rfl ?_
    refine V_icmp_le (q := 15) (q2 := 13) dX1_nameAt_10 (by decide) rfl ?_ ?_
    · refine V_lconst (x := 1) dX1_nameAt_15 rfl rfl ?_
      refine V_lstore_n (L' := [(0, .ref this), (1, .int a1), (2, .int a2), (3, .long 1)]) dX1_nameAt_16 rfl (by decide) rfl ?_
      refine V_iload_n dX1_nameAt_17 rfl 1 rfl ?_
      refine V_istore (L' := [(0, .ref this), (1, .int a1), (2, .int a2), (3, .long 1), (5, .int a1)]) dX1_nameAt_18 rfl (by decide) rfl ?_
      exact V_sub [0, 2, 3, 4] rfl (v_X1_nameAt_20 FU this a2 1 a1 M)
    · refine V_lconst (x := 0) dX1_nameAt_13 rfl rfl ?_
      exact V_lret dX1_nameAt_14 rfl rfl ⟨(Nat.le_of_ble_eq_true rfl), (Nat.le_of_ble_eq_true rfl)⟩
theorem k_X1_nameAt (this : Nat) (a1 : Int32) (a2 : Int32) (M : Mem) : K mi_X1_nameAt [.ref this, .int a1, .int a2] M (f_X1_nameAt this a1 a2 M) (eJ M) := K_of_V ok_X1_nameAt (Nat.le_of_ble_eq_true rfl) (v_X1_nameAt this a1 a2 M)
theorem o_X1_nameAt {this : Nat} {a1 : Int32} {a2 : Int32} {M : Mem} {x} (h : f_X1_nameAt this a1 a2 M = some x) : isO M 1 this = true := (ob_of h).1
