def f_X2_init_43 (this : Nat) (M : Mem) : Option Mem :=
  (pV M 2 1 this (.int 0)).bind fun M5 =>
  (pV M5 2 2 this (.int 0)).bind fun M6 =>
  some M6
def f_X2_init (this : Nat) (M : Mem) : Option Mem :=
  ob M 2 this (
    (alc M).bind fun r1 =>
    (pV (mnew M (.inl (7, (6, .inr (.inr (.inr (.inr (fun _ => none)))))))) 2 0 this (.ref r1)).bind fun M2 =>
    (gR M2 2 0 this).bind fun x3 =>
    (aL M2 x3).bind fun x4 =>
    if x4 ≤ 0 then (
      f_X2_init_43 this M2
    ) else (
      (gR M2 2 0 this).bind fun x7 =>
      (alc M2).bind fun r8 =>
      (f_X8_init r8 (mnew M2 (.inr (7, [.int 0, .int 0, .int 0, .null, .null, .null])))).bind fun M10 =>
      ob M10 7 r8 ((sQ M10 7 x7 0 (some r8)).bind fun M11 =>
      (gR M11 2 0 this).bind fun x12 =>
      (aL M11 x12).bind fun x13 =>
      if x13 ≤ (0 + 1) then (
        f_X2_init_43 this M11
      ) else (
        (gR M11 2 0 this).bind fun x14 =>
        (alc M11).bind fun r15 =>
        (f_X8_init r15 (mnew M11 (.inr (7, [.int 0, .int 0, .int 0, .null, .null, .null])))).bind fun M17 =>
        ob M17 7 r15 ((sQ M17 7 x14 (0 + 1) (some r15)).bind fun M18 =>
        (gR M18 2 0 this).bind fun x19 =>
        (aL M18 x19).bind fun x20 =>
        if x20 ≤ ((0 + 1) + 1) then (
          f_X2_init_43 this M18
        ) else (
          (gR M18 2 0 this).bind fun x21 =>
          (alc M18).bind fun r22 =>
          (f_X8_init r22 (mnew M18 (.inr (7, [.int 0, .int 0, .int 0, .null, .null, .null])))).bind fun M24 =>
          ob M24 7 r22 ((sQ M24 7 x21 ((0 + 1) + 1) (some r22)).bind fun M25 =>
          (gR M25 2 0 this).bind fun x26 =>
          (aL M25 x26).bind fun x27 =>
          if x27 ≤ (((0 + 1) + 1) + 1) then (
            f_X2_init_43 this M25
          ) else (
            (gR M25 2 0 this).bind fun x28 =>
            (alc M25).bind fun r29 =>
            (f_X8_init r29 (mnew M25 (.inr (7, [.int 0, .int 0, .int 0, .null, .null, .null])))).bind fun M31 =>
            ob M31 7 r29 ((sQ M31 7 x28 (((0 + 1) + 1) + 1) (some r29)).bind fun M32 =>
            (gR M32 2 0 this).bind fun x33 =>
            (aL M32 x33).bind fun x34 =>
            if x34 ≤ ((((0 + 1) + 1) + 1) + 1) then (
              f_X2_init_43 this M32
            ) else (
              (gR M32 2 0 this).bind fun x35 =>
              (alc M32).bind fun r36 =>
              (f_X8_init r36 (mnew M32 (.inr (7, [.int 0, .int 0, .int 0, .null, .null, .null])))).bind fun M38 =>
              ob M38 7 r36 ((sQ M38 7 x35 ((((0 + 1) + 1) + 1) + 1) (some r36)).bind fun M39 =>
              (gR M39 2 0 this).bind fun x40 =>
              (aL M39 x40).bind fun x41 =>
              if x41 ≤ (((((0 + 1) + 1) + 1) + 1) + 1) then (
                f_X2_init_43 this M39
              ) else (
                (gR M39 2 0 this).bind fun x42 =>
                (alc M39).bind fun r43 =>
                (f_X8_init r43 (mnew M39 (.inr (7, [.int 0, .int 0, .int 0, .null, .null, .null])))).bind fun M45 =>
                ob M45 7 r43 ((sQ M45 7 x42 (((((0 + 1) + 1) + 1) + 1) + 1) (some r43)).bind fun M46 =>
                (gR M46 2 0 this).bind fun x47 =>
                (aL M46 x47).bind fun x48 =>
                if x48 ≤ ((((((0 + 1) + 1) + 1) + 1) + 1) + 1) then (
                  f_X2_init_43 this M46
                ) else (
                  (gR M46 2 0 this).bind fun x49 =>
                  (alc M46).bind fun r50 =>
                  (f_X8_init r50 (mnew M46 (.inr (7, [.int 0, .int 0, .int 0, .null, .null, .null])))).bind fun M52 =>
                  ob M52 7 r50 ((sQ M52 7 x49 ((((((0 + 1) + 1) + 1) + 1) + 1) + 1) (some r50)).bind fun M53 =>
                  none
                  )
                )
                )
              )
              )
            )
            )
          )
          )
        )
        )
      )
      )
    )
  )
def f_X2_placeAt (this : Nat) (a1 : Int32) (M : Mem) : Option (Option Nat) :=
  ob M 2 this (
    if a1 < 0 then (
      some none
    ) else (
      (gR M 2 0 this).bind fun x1 =>
      (aL M x1).bind fun x2 =>
      if x2 ≤ a1 then (
        some none
      ) else (
        (gR M 2 0 this).bind fun x3 =>
        (aQ M 7 x3 a1).bind fun x4 =>
        some x4
      )
    )
  )
def f_X2_remember_41 (this : Nat) (s0 : Nat) (s1 : Int32) (M : Mem) : Option Mem :=
  (pV M 2 1 s0 (.int s1)).bind fun M7 =>
  (gI M7 2 2 this).bind fun x8 =>
  if 6 ≤ (x8 : Int32) then (
    (pV M7 2 2 this (.int 6)).bind fun M9 =>
    some M9
  ) else (
    (gI M7 2 2 this).bind fun x10 =>
    (pV M7 2 2 this (.int (x10 + 1))).bind fun M11 =>
    some M11
  )
def f_X2_remember (this : Nat) (a1 : Nat) (M : Mem) : Option Mem :=
  ob M 2 this (
    (gI M 2 1 this).bind fun x1 =>
    (f_X2_placeAt this x1 M).bind fun x2 =>
    match x2 with
    | none => (
      some M
    )
    | some r3 => (
      (f_X8_takeFrom r3 a1 M).bind fun M5 =>
      (gI M5 2 1 this).bind fun x6 =>
      if 6 ≤ (x6 + 1) then (
        f_X2_remember_41 this this 0 M5
      ) else (
        (gI M5 2 1 this).bind fun x12 =>
        f_X2_remember_41 this this (x12 + 1) M5
      )
    )
  )
theorem fl_X2_11_w : (Cond.fieldLink RX2 11 (TX2 0).1 (TX2 0).2.1 (TX2 0).2.2.1) ∈ cr_U := mem_U (i := 208) (by decide +kernel) rfl
theorem fl_X2_11 : flk RX2 11 (TX2 0) := Or.inl fl_X2_11_w
theorem fl_X2_18_w : (Cond.fieldLink RX2 18 (TX2 1).1 (TX2 1).2.1 (TX2 1).2.2.1) ∈ cr_U := mem_U (i := 209) (by decide +kernel) rfl
theorem fl_X2_18 : flk RX2 18 (TX2 1) := Or.inl fl_X2_18_w
theorem fl_X2_22_w : (Cond.fieldLink RX2 22 (TX2 2).1 (TX2 2).2.1 (TX2 2).2.2.1) ∈ cr_U := mem_U (i := 210) (by decide +kernel) rfl
theorem fl_X2_22 : flk RX2 22 (TX2 2) := Or.inl fl_X2_22_w
theorem ml_X2_17 : (Cond.methodLink RX2 17 yX8_init) ∈ cr_U := mem_U (i := 207) (by decide +kernel) rfl
theorem im_X8_init : (Cond.instanceMethod yX8_init) ∈ cr_U := mem_U (i := 83) (by decide +kernel) rfl
theorem cl_X2_9 : (Cond.classLink RX2 9 RX8) ∈ cr_U := mem_U (i := 206) (by decide +kernel) rfl
theorem ins_X8 : (Cond.instantiable RX8 6) ∈ cr_U := mem_U (i := 81) (by decide +kernel) rfl
theorem ml_X2_3 : (Cond.methodLink RX2 3 Lib.objectInit) ∈ cr_U := mem_U (i := 205) (by decide +kernel) rfl
theorem cw_X2_init : (Cond.code yX2_init cX2_init 2 (none)) ∈ cr_U := mem_U (i := 204) (by decide +kernel) rfl
theorem ini_X2 : (Cond.initialized RX2) ∈ cr_U := mem_U (i := 32) (by decide +kernel) rfl
theorem cw_X2_placeAt : (Cond.code yX2_placeAt cX2_placeAt 2 (some (.object "MailSessions$State"))) ∈ cr_U := mem_U (i := 1178) (by decide +kernel) rfl
theorem ml_X2_25 : (Cond.methodLink RX2 25 yX2_placeAt) ∈ cr_U := mem_U (i := 1175) (by decide +kernel) rfl
theorem im_X2_placeAt : (Cond.instanceMethod yX2_placeAt) ∈ cr_U := mem_U (i := 1177) (by decide +kernel) rfl
theorem se_X2_placeAt : (Cond.selects RX2 yX2_placeAt yX2_placeAt) ∈ cr_U := mem_U (i := 18) (by decide +kernel) rfl
theorem ml_X2_29 : (Cond.methodLink RX2 29 yX8_takeFrom) ∈ cr_U := mem_U (i := 1179) (by decide +kernel) rfl
theorem im_X8_takeFrom : (Cond.instanceMethod yX8_takeFrom) ∈ cr_U := mem_U (i := 1180) (by decide +kernel) rfl
theorem se_X8_takeFrom : (Cond.selects RX8 yX8_takeFrom yX8_takeFrom) ∈ cr_U := mem_U (i := 1181) (by decide +kernel) rfl
theorem cw_X2_remember : (Cond.code yX2_remember cX2_remember 3 (none)) ∈ cr_U := mem_U (i := 1174) (by decide +kernel) rfl
theorem dX2_init_0 : decode cX2_init 0 = .ok (.aload_n 0, 1) := by decide +kernel
theorem dX2_init_1 : decode cX2_init 1 = .ok (.invokespecial 3, 3) := by decide +kernel
theorem dX2_init_4 : decode cX2_init 4 = .ok (.aload_n 0, 1) := by decide +kernel
theorem dX2_init_5 : decode cX2_init 5 = .ok (.bipush 6, 2) := by decide +kernel
theorem dX2_init_7 : decode cX2_init 7 = .ok (.anewarray 9, 3) := by decide +kernel
theorem dX2_init_10 : decode cX2_init 10 = .ok (.putfield 11, 3) := by decide +kernel
theorem dX2_init_13 : decode cX2_init 13 = .ok (.iconst 0, 1) := by decide +kernel
theorem dX2_init_14 : decode cX2_init 14 = .ok (.istore_n 1, 1) := by decide +kernel
theorem dX2_init_15 : decode cX2_init 15 = .ok (.iload_n 1, 1) := by decide +kernel
theorem dX2_init_16 : decode cX2_init 16 = .ok (.aload_n 0, 1) := by decide +kernel
theorem dX2_init_17 : decode cX2_init 17 = .ok (.getfield 11, 3) := by decide +kernel
theorem dX2_init_20 : decode cX2_init 20 = .ok (.arraylength, 1) := by decide +kernel
theorem dX2_init_21 : decode cX2_init 21 = .ok (.if_icmp .ge 22, 3) := by decide +kernel
theorem dX2_init_24 : decode cX2_init 24 = .ok (.aload_n 0, 1) := by decide +kernel
theorem dX2_init_25 : decode cX2_init 25 = .ok (.getfield 11, 3) := by decide +kernel
theorem dX2_init_28 : decode cX2_init 28 = .ok (.iload_n 1, 1) := by decide +kernel
theorem dX2_init_29 : decode cX2_init 29 = .ok (.new 9, 3) := by decide +kernel
theorem dX2_init_32 : decode cX2_init 32 = .ok (.dup, 1) := by decide +kernel
theorem dX2_init_33 : decode cX2_init 33 = .ok (.invokespecial 17, 3) := by decide +kernel
theorem dX2_init_36 : decode cX2_init 36 = .ok (.aastore, 1) := by decide +kernel
theorem dX2_init_37 : decode cX2_init 37 = .ok (.iinc 1 1, 3) := by decide +kernel
theorem dX2_init_40 : decode cX2_init 40 = .ok (.goto (-25), 3) := by decide +kernel
theorem dX2_init_43 : decode cX2_init 43 = .ok (.aload_n 0, 1) := by decide +kernel
theorem dX2_init_44 : decode cX2_init 44 = .ok (.iconst 0, 1) := by decide +kernel
theorem dX2_init_45 : decode cX2_init 45 = .ok (.putfield 18, 3) := by decide +kernel
theorem dX2_init_48 : decode cX2_init 48 = .ok (.aload_n 0, 1) := by decide +kernel
theorem dX2_init_49 : decode cX2_init 49 = .ok (.iconst 0, 1) := by decide +kernel
theorem dX2_init_50 : decode cX2_init 50 = .ok (.putfield 22, 3) := by decide +kernel
theorem dX2_init_53 : decode cX2_init 53 = .ok (.return_, 1) := by decide +kernel
def mi_X2_init : MI := (RX2, yX2_init, cX2_init, 2, none, [], { frames := 5, cells := 512, slots := 8497, locals := 101 })
theorem ok_X2_init : mOK mi_X2_init 0 := ⟨rfl, cw_X2_init, ini_X2, ⟨rfl, by decide⟩, by decide, by decide, rfl⟩
theorem v_X2_init_43 (this : Nat) (M : Mem) : V mi_X2_init 43 [(0, .ref this)] [] M 512 8497 (f_X2_init_43 this M) wV := by
  unfold f_X2_init_43
  refine V_aload_n dX2_init_43 rfl 0 rfl ?_
  refine V_iconst (x := 0) dX2_init_44 rfl rfl ?_
  refine V_putI dX2_init_45 rfl (ci := 2) (T := TX2) rfl (by decide) fl_X2_18 rfl rfl (fun M5 => ?_)
  refine V_aload_n dX2_init_48 rfl 0 rfl ?_
  refine V_iconst (x := 0) dX2_init_49 rfl rfl ?_
  refine V_putI dX2_init_50 rfl (ci := 2) (T := TX2) rfl (by decide) fl_X2_22 rfl rfl (fun M6 => ?_)
  exact V_vret dX2_init_53 rfl rfl ⟨(Nat.le_of_ble_eq_true rfl), (Nat.le_of_ble_eq_true rfl)⟩
theorem v_X2_init (this : Nat) (M : Mem) : V mi_X2_init 0 [(0, .ref this)] [] M 0 0 (f_X2_init this M) wV := by
  unfold f_X2_init
  refine V_ob fun _ _ => ?_
  refine V_aload_n dX2_init_0 rfl 0 rfl ?_
  refine V_objInit ml_X2_3 dX2_init_1 rfl ⟨(Nat.le_of_ble_eq_true rfl), (Nat.le_of_ble_eq_true rfl)⟩ ?_
  refine V_aload_n dX2_init_4 rfl 0 rfl ?_
  refine V_bipush (x := 6) dX2_init_5 rfl rfl ?_
  refine V_anewarray dX2_init_7 rfl (t := 7) (N := 6) rfl cl_X2_9 ao_7 (by decide) rfl (Nat.le_of_ble_eq_true rfl) ⟨(Nat.le_of_ble_eq_true rfl), (Nat.le_of_ble_eq_true rfl)⟩ (fun r1 => ?_)
  refine V_putFR dX2_init_10 rfl (ci := 2) (T := TX2) rfl (by decide) fl_X2_11_w rfl rfl rfl rfl (fun _ => rfl) (fun _ => rfl) (fun M2 => ?_)
  refine V_iconst (x := 0) dX2_init_13 rfl rfl ?_
  refine V_istore_n (L' := [(0, .ref this), (1, .int 0)]) dX2_init_14 rfl (by decide) rfl ?_
  refine V_iload_n dX2_init_15 rfl 1 rfl ?_
  refine V_aload_n dX2_init_16 rfl 0 rfl ?_
  refine V_getR dX2_init_17 rfl (ci := 2) (T := TX2) rfl (by decide) fl_X2_11 (fun x3 => ?_)
  refine V_arraylength dX2_init_20 rfl (fun x4 => ?_)
  refine V_icmp_ge (q := 43) (q2 := 24) dX2_init_21 (by decide) rfl ?_ ?_
  · exact V_sub [0] rfl (V_w (Nat.le_of_ble_eq_true rfl) (Nat.le_of_ble_eq_true rfl) (v_X2_init_43 this M2))
  · refine V_aload_n dX2_init_24 rfl 0 rfl ?_
    refine V_getR dX2_init_25 rfl (ci := 2) (T := TX2) rfl (by decide) fl_X2_11 (fun x7 => ?_)
    refine V_iload_n dX2_init_28 rfl 1 rfl ?_
    refine V_new dX2_init_29 rfl (ci := 7) (T := TX8) (N := 6) (fs := [.int 0, .int 0, .int 0, .null, .null, .null]) (ty := tyX8) rfl cl_X2_9 ins_X8 ini_X8 tyX8_ok (fun _ j hj => match j, hj with | 0, _ => rfl | 1, _ => rfl | 2, _ => rfl | 3, _ => rfl | 4, _ => rfl | 5, _ => rfl | j + 6, h => absurd h (by omega)) ⟨(Nat.le_of_ble_eq_true rfl), (Nat.le_of_ble_eq_true rfl)⟩ (fun r8 => ?_)
    refine V_dup dX2_init_32 rfl rfl ?_
    refine V_cIwV (As := []) (k_X8_init r8 (mnew M2 (.inr (7, [.int 0, .int 0, .int 0, .null, .null, .null])))) ok_X8_init im_X8_init ml_X2_17 ⟨⟨(Nat.le_of_ble_eq_true rfl), (Nat.le_of_ble_eq_true rfl)⟩, (Nat.le_of_ble_eq_true rfl), (Nat.le_of_ble_eq_true rfl)⟩ rfl rfl dX2_init_33 rfl rfl rfl (Nat.le_of_ble_eq_true rfl) rfl rfl (fun M10 => ?_)
    refine V_aastore dX2_init_36 rfl rfl (ci := 7) rfl (fun M11 => ?_)
    refine V_iinc (y := (0 + 1)) (L' := [(0, .ref this), (1, .int (0 + 1))]) dX2_init_37 rfl 1 rfl rfl (by decide) rfl ?_
    refine V_goto (q := 15) dX2_init_40 (by decide) ?_
    refine V_iload_n dX2_init_15 rfl 1 rfl ?_
    refine V_aload_n dX2_init_16 rfl 0 rfl ?_
    refine V_getR dX2_init_17 rfl (ci := 2) (T := TX2) rfl (by decide) fl_X2_11 (fun x12 => ?_)
    refine V_arraylength dX2_init_20 rfl (fun x13 => ?_)
    refine V_icmp_ge (q := 43) (q2 := 24) dX2_init_21 (by decide) rfl ?_ ?_
    · exact V_sub [0] rfl (V_w (Nat.le_of_ble_eq_true rfl) (Nat.le_of_ble_eq_true rfl) (v_X2_init_43 this M11))
    · refine V_aload_n dX2_init_24 rfl 0 rfl ?_
      refine V_getR dX2_init_25 rfl (ci := 2) (T := TX2) rfl (by decide) fl_X2_11 (fun x14 => ?_)
      refine V_iload_n dX2_init_28 rfl 1 rfl ?_
      refine V_new dX2_init_29 rfl (ci := 7) (T := TX8) (N := 6) (fs := [.int 0, .int 0, .int 0, .null, .null, .null]) (ty := tyX8) rfl cl_X2_9 ins_X8 ini_X8 tyX8_ok (fun _ j hj => match j, hj with | 0, _ => rfl | 1, _ => rfl | 2, _ => rfl | 3, _ => rfl | 4, _ => rfl | 5, _ => rfl | j + 6, h => absurd h (by omega)) ⟨(Nat.le_of_ble_eq_true rfl), (Nat.le_of_ble_eq_true rfl)⟩ (fun r15 => ?_)
      refine V_dup dX2_init_32 rfl rfl ?_
      refine V_cIwV (As := []) (k_X8_init r15 (mnew M11 (.inr (7, [.int 0, .int 0, .int 0, .null, .null, .null])))) ok_X8_init im_X8_init ml_X2_17 ⟨⟨(Nat.le_of_ble_eq_true rfl), (Nat.le_of_ble_eq_true rfl)⟩, (Nat.le_of_ble_eq_true rfl), (Nat.le_of_ble_eq_true rfl)⟩ rfl rfl dX2_init_33 rfl rfl rfl (Nat.le_of_ble_eq_true rfl) rfl rfl (fun M17 => ?_)
      refine V_aastore dX2_init_36 rfl rfl (ci := 7) rfl (fun M18 => ?_)
      refine V_iinc (y := ((0 + 1) + 1)) (L' := [(0, .ref this), (1, .int ((0 + 1) + 1))]) dX2_init_37 rfl 1 rfl rfl (by decide) rfl ?_
      refine V_goto (q := 15) dX2_init_40 (by decide) ?_
      refine V_iload_n dX2_init_15 rfl 1 rfl ?_
      refine V_aload_n dX2_init_16 rfl 0 rfl ?_
      refine V_getR dX2_init_17 rfl (ci := 2) (T := TX2) rfl (by decide) fl_X2_11 (fun x19 => ?_)
      refine V_arraylength dX2_init_20 rfl (fun x20 => ?_)
      refine V_icmp_ge (q := 43) (q2 := 24) dX2_init_21 (by decide) rfl ?_ ?_
      · exact V_sub [0] rfl (V_w (Nat.le_of_ble_eq_true rfl) (Nat.le_of_ble_eq_true rfl) (v_X2_init_43 this M18))
      · refine V_aload_n dX2_init_24 rfl 0 rfl ?_
        refine V_getR dX2_init_25 rfl (ci := 2) (T := TX2) rfl (by decide) fl_X2_11 (fun x21 => ?_)
        refine V_iload_n dX2_init_28 rfl 1 rfl ?_
        refine V_new dX2_init_29 rfl (ci := 7) (T := TX8) (N := 6) (fs := [.int 0, .int 0, .int 0, .null, .null, .null]) (ty := tyX8) rfl cl_X2_9 ins_X8 ini_X8 tyX8_ok (fun _ j hj => match j, hj with | 0, _ => rfl | 1, _ => rfl | 2, _ => rfl | 3, _ => rfl | 4, _ => rfl | 5, _ => rfl | j + 6, h => absurd h (by omega)) ⟨(Nat.le_of_ble_eq_true rfl), (Nat.le_of_ble_eq_true rfl)⟩ (fun r22 => ?_)
        refine V_dup dX2_init_32 rfl rfl ?_
        refine V_cIwV (As := []) (k_X8_init r22 (mnew M18 (.inr (7, [.int 0, .int 0, .int 0, .null, .null, .null])))) ok_X8_init im_X8_init ml_X2_17 ⟨⟨(Nat.le_of_ble_eq_true rfl), (Nat.le_of_ble_eq_true rfl)⟩, (Nat.le_of_ble_eq_true rfl), (Nat.le_of_ble_eq_true rfl)⟩ rfl rfl dX2_init_33 rfl rfl rfl (Nat.le_of_ble_eq_true rfl) rfl rfl (fun M24 => ?_)
        refine V_aastore dX2_init_36 rfl rfl (ci := 7) rfl (fun M25 => ?_)
        refine V_iinc (y := (((0 + 1) + 1) + 1)) (L' := [(0, .ref this), (1, .int (((0 + 1) + 1) + 1))]) dX2_init_37 rfl 1 rfl rfl (by decide) rfl ?_
        refine V_goto (q := 15) dX2_init_40 (by decide) ?_
        refine V_iload_n dX2_init_15 rfl 1 rfl ?_
        refine V_aload_n dX2_init_16 rfl 0 rfl ?_
        refine V_getR dX2_init_17 rfl (ci := 2) (T := TX2) rfl (by decide) fl_X2_11 (fun x26 => ?_)
        refine V_arraylength dX2_init_20 rfl (fun x27 => ?_)
        refine V_icmp_ge (q := 43) (q2 := 24) dX2_init_21 (by decide) rfl ?_ ?_
        · exact V_sub [0] rfl (V_w (Nat.le_of_ble_eq_true rfl) (Nat.le_of_ble_eq_true rfl) (v_X2_init_43 this M25))
        · refine V_aload_n dX2_init_24 rfl 0 rfl ?_
          refine V_getR dX2_init_25 rfl (ci := 2) (T := TX2) rfl (by decide) fl_X2_11 (fun x28 => ?_)
          refine V_iload_n dX2_init_28 rfl 1 rfl ?_
          refine V_new dX2_init_29 rfl (ci := 7) (T := TX8) (N := 6) (fs := [.int 0, .int 0, .int 0, .null, .null, .null]) (ty := tyX8) rfl cl_X2_9 ins_X8 ini_X8 tyX8_ok (fun _ j hj => match j, hj with | 0, _ => rfl | 1, _ => rfl | 2, _ => rfl | 3, _ => rfl | 4, _ => rfl | 5, _ => rfl | j + 6, h => absurd h (by omega)) ⟨(Nat.le_of_ble_eq_true rfl), (Nat.le_of_ble_eq_true rfl)⟩ (fun r29 => ?_)
          refine V_dup dX2_init_32 rfl rfl ?_
          refine V_cIwV (As := []) (k_X8_init r29 (mnew M25 (.inr (7, [.int 0, .int 0, .int 0, .null, .null, .null])))) ok_X8_init im_X8_init ml_X2_17 ⟨⟨(Nat.le_of_ble_eq_true rfl), (Nat.le_of_ble_eq_true rfl)⟩, (Nat.le_of_ble_eq_true rfl), (Nat.le_of_ble_eq_true rfl)⟩ rfl rfl dX2_init_33 rfl rfl rfl (Nat.le_of_ble_eq_true rfl) rfl rfl (fun M31 => ?_)
          refine V_aastore dX2_init_36 rfl rfl (ci := 7) rfl (fun M32 => ?_)
          refine V_iinc (y := ((((0 + 1) + 1) + 1) + 1)) (L' := [(0, .ref this), (1, .int ((((0 + 1) + 1) + 1) + 1))]) dX2_init_37 rfl 1 rfl rfl (by decide) rfl ?_
          refine V_goto (q := 15) dX2_init_40 (by decide) ?_
          refine V_iload_n dX2_init_15 rfl 1 rfl ?_
          refine V_aload_n dX2_init_16 rfl 0 rfl ?_
          refine V_getR dX2_init_17 rfl (ci := 2) (T := TX2) rfl (by decide) fl_X2_11 (fun x33 => ?_)
          refine V_arraylength dX2_init_20 rfl (fun x34 => ?_)
          refine V_icmp_ge (q := 43) (q2 := 24) dX2_init_21 (by decide) rfl ?_ ?_
          · exact V_sub [0] rfl (V_w (Nat.le_of_ble_eq_true rfl) (Nat.le_of_ble_eq_true rfl) (v_X2_init_43 this M32))
          · refine V_aload_n dX2_init_24 rfl 0 rfl ?_
            refine V_getR dX2_init_25 rfl (ci := 2) (T := TX2) rfl (by decide) fl_X2_11 (fun x35 => ?_)
            refine V_iload_n dX2_init_28 rfl 1 rfl ?_
            refine V_new dX2_init_29 rfl (ci := 7) (T := TX8) (N := 6) (fs := [.int 0, .int 0, .int 0, .null, .null, .null]) (ty := tyX8) rfl cl_X2_9 ins_X8 ini_X8 tyX8_ok (fun _ j hj => match j, hj with | 0, _ => rfl | 1, _ => rfl | 2, _ => rfl | 3, _ => rfl | 4, _ => rfl | 5, _ => rfl | j + 6, h => absurd h (by omega)) ⟨(Nat.le_of_ble_eq_true rfl), (Nat.le_of_ble_eq_true rfl)⟩ (fun r36 => ?_)
            refine V_dup dX2_init_32 rfl rfl ?_
            refine V_cIwV (As := []) (k_X8_init r36 (mnew M32 (.inr (7, [.int 0, .int 0, .int 0, .null, .null, .null])))) ok_X8_init im_X8_init ml_X2_17 ⟨⟨(Nat.le_of_ble_eq_true rfl), (Nat.le_of_ble_eq_true rfl)⟩, (Nat.le_of_ble_eq_true rfl), (Nat.le_of_ble_eq_true rfl)⟩ rfl rfl dX2_init_33 rfl rfl rfl (Nat.le_of_ble_eq_true rfl) rfl rfl (fun M38 => ?_)
            refine V_aastore dX2_init_36 rfl rfl (ci := 7) rfl (fun M39 => ?_)
            refine V_iinc (y := (((((0 + 1) + 1) + 1) + 1) + 1)) (L' := [(0, .ref this), (1, .int (((((0 + 1) + 1) + 1) + 1) + 1))]) dX2_init_37 rfl 1 rfl rfl (by decide) rfl ?_
            refine V_goto (q := 15) dX2_init_40 (by decide) ?_
            refine V_iload_n dX2_init_15 rfl 1 rfl ?_
            refine V_aload_n dX2_init_16 rfl 0 rfl ?_
            refine V_getR dX2_init_17 rfl (ci := 2) (T := TX2) rfl (by decide) fl_X2_11 (fun x40 => ?_)
            refine V_arraylength dX2_init_20 rfl (fun x41 => ?_)
            refine V_icmp_ge (q := 43) (q2 := 24) dX2_init_21 (by decide) rfl ?_ ?_
            · exact V_sub [0] rfl (V_w (Nat.le_of_ble_eq_true rfl) (Nat.le_of_ble_eq_true rfl) (v_X2_init_43 this M39))
            · refine V_aload_n dX2_init_24 rfl 0 rfl ?_
              refine V_getR dX2_init_25 rfl (ci := 2) (T := TX2) rfl (by decide) fl_X2_11 (fun x42 => ?_)
              refine V_iload_n dX2_init_28 rfl 1 rfl ?_
              refine V_new dX2_init_29 rfl (ci := 7) (T := TX8) (N := 6) (fs := [.int 0, .int 0, .int 0, .null, .null, .null]) (ty := tyX8) rfl cl_X2_9 ins_X8 ini_X8 tyX8_ok (fun _ j hj => match j, hj with | 0, _ => rfl | 1, _ => rfl | 2, _ => rfl | 3, _ => rfl | 4, _ => rfl | 5, _ => rfl | j + 6, h => absurd h (by omega)) ⟨(Nat.le_of_ble_eq_true rfl), (Nat.le_of_ble_eq_true rfl)⟩ (fun r43 => ?_)
              refine V_dup dX2_init_32 rfl rfl ?_
              refine V_cIwV (As := []) (k_X8_init r43 (mnew M39 (.inr (7, [.int 0, .int 0, .int 0, .null, .null, .null])))) ok_X8_init im_X8_init ml_X2_17 ⟨⟨(Nat.le_of_ble_eq_true rfl), (Nat.le_of_ble_eq_true rfl)⟩, (Nat.le_of_ble_eq_true rfl), (Nat.le_of_ble_eq_true rfl)⟩ rfl rfl dX2_init_33 rfl rfl rfl (Nat.le_of_ble_eq_true rfl) rfl rfl (fun M45 => ?_)
              refine V_aastore dX2_init_36 rfl rfl (ci := 7) rfl (fun M46 => ?_)
              refine V_iinc (y := ((((((0 + 1) + 1) + 1) + 1) + 1) + 1)) (L' := [(0, .ref this), (1, .int ((((((0 + 1) + 1) + 1) + 1) + 1) + 1))]) dX2_init_37 rfl 1 rfl rfl (by decide) rfl ?_
              refine V_goto (q := 15) dX2_init_40 (by decide) ?_
              refine V_iload_n dX2_init_15 rfl 1 rfl ?_
              refine V_aload_n dX2_init_16 rfl 0 rfl ?_
              refine V_getR dX2_init_17 rfl (ci := 2) (T := TX2) rfl (by decide) fl_X2_11 (fun x47 => ?_)
              refine V_arraylength dX2_init_20 rfl (fun x48 => ?_)
              refine V_icmp_ge (q := 43) (q2 := 24) dX2_init_21 (by decide) rfl ?_ ?_
              · exact V_sub [0] rfl (V_w (Nat.le_of_ble_eq_true rfl) (Nat.le_of_ble_eq_true rfl) (v_X2_init_43 this M46))
              · refine V_aload_n dX2_init_24 rfl 0 rfl ?_
                refine V_getR dX2_init_25 rfl (ci := 2) (T := TX2) rfl (by decide) fl_X2_11 (fun x49 => ?_)
                refine V_iload_n dX2_init_28 rfl 1 rfl ?_
                refine V_new dX2_init_29 rfl (ci := 7) (T := TX8) (N := 6) (fs := [.int 0, .int 0, .int 0, .null, .null, .null]) (ty := tyX8) rfl cl_X2_9 ins_X8 ini_X8 tyX8_ok (fun _ j hj => match j, hj with | 0, _ => rfl | 1, _ => rfl | 2, _ => rfl | 3, _ => rfl | 4, _ => rfl | 5, _ => rfl | j + 6, h => absurd h (by omega)) ⟨(Nat.le_of_ble_eq_true rfl), (Nat.le_of_ble_eq_true rfl)⟩ (fun r50 => ?_)
                refine V_dup dX2_init_32 rfl rfl ?_
                refine V_cIwV (As := []) (k_X8_init r50 (mnew M46 (.inr (7, [.int 0, .int 0, .int 0, .null, .null, .null])))) ok_X8_init im_X8_init ml_X2_17 ⟨⟨(Nat.le_of_ble_eq_true rfl), (Nat.le_of_ble_eq_true rfl)⟩, (Nat.le_of_ble_eq_true rfl), (Nat.le_of_ble_eq_true rfl)⟩ rfl rfl dX2_init_33 rfl rfl rfl (Nat.le_of_ble_eq_true rfl) rfl rfl (fun M52 => ?_)
                refine V_aastore dX2_init_36 rfl rfl (ci := 7) rfl (fun M53 => ?_)
                refine V_iinc (y := (((((((0 + 1) + 1) + 1) + 1) + 1) + 1) + 1)) (L' := [(0, .ref this), (1, .int (((((((0 + 1) + 1) + 1) + 1) + 1) + 1) + 1))]) dX2_init_37 rfl 1 rfl rfl (by decide) rfl ?_
                refine V_goto (q := 15) dX2_init_40 (by decide) ?_
                exact V_none
theorem k_X2_init (this : Nat) (M : Mem) : K mi_X2_init [.ref this] M (f_X2_init this M) wV := K_of_V ok_X2_init (Nat.le_of_ble_eq_true rfl) (v_X2_init this M)
theorem o_X2_init {this : Nat} {M : Mem} {x} (h : f_X2_init this M = some x) : isO M 2 this = true := (ob_of h).1
theorem dX2_placeAt_0 : decode cX2_placeAt 0 = .ok (.iload_n 1, 1) := by decide +kernel
theorem dX2_placeAt_1 : decode cX2_placeAt 1 = .ok (.ifCond .lt 21, 3) := by decide +kernel
theorem dX2_placeAt_4 : decode cX2_placeAt 4 = .ok (.iload_n 1, 1) := by decide +kernel
theorem dX2_placeAt_5 : decode cX2_placeAt 5 = .ok (.aload_n 0, 1) := by decide +kernel
theorem dX2_placeAt_6 : decode cX2_placeAt 6 = .ok (.getfield 11, 3) := by decide +kernel
theorem dX2_placeAt_9 : decode cX2_placeAt 9 = .ok (.arraylength, 1) := by decide +kernel
theorem dX2_placeAt_10 : decode cX2_placeAt 10 = .ok (.if_icmp .ge 12, 3) := by decide +kernel
theorem dX2_placeAt_13 : decode cX2_placeAt 13 = .ok (.aload_n 0, 1) := by decide +kernel
theorem dX2_placeAt_14 : decode cX2_placeAt 14 = .ok (.getfield 11, 3) := by decide +kernel
theorem dX2_placeAt_17 : decode cX2_placeAt 17 = .ok (.iload_n 1, 1) := by decide +kernel
theorem dX2_placeAt_18 : decode cX2_placeAt 18 = .ok (.aaload, 1) := by decide +kernel
theorem dX2_placeAt_19 : decode cX2_placeAt 19 = .ok (.goto 4, 3) := by decide +kernel
theorem dX2_placeAt_22 : decode cX2_placeAt 22 = .ok (.aconst_null, 1) := by decide +kernel
theorem dX2_placeAt_23 : decode cX2_placeAt 23 = .ok (.areturn, 1) := by decide +kernel
def mi_X2_placeAt : MI := (RX2, yX2_placeAt, cX2_placeAt, 2, some (.object "MailSessions$State"), [], { frames := 1, cells := 0, slots := 0, locals := 12 })
theorem ok_X2_placeAt : mOK mi_X2_placeAt 1 := ⟨rfl, cw_X2_placeAt, ini_X2, ⟨rfl, by decide⟩, by decide, by decide, rfl⟩
theorem v_X2_placeAt (this : Nat) (a1 : Int32) (M : Mem) : V mi_X2_placeAt 0 [(0, .ref this), (1, .int a1)] [] M 0 0 (f_X2_placeAt this a1 M) (eQ M) := by
  unfold f_X2_placeAt
  refine V_ob fun _ _ => ?_
  refine V_iload_n dX2_placeAt_0 rfl 1 rfl ?_
  refine V_if_lt (q := 22) (q2 := 4) dX2_placeAt_1 (by decide) rfl ?_ ?_
  · refine V_null dX2_placeAt_22 rfl ?_
    exact V_aret (v := none) dX2_placeAt_23 rfl (Or.inl ⟨_, rfl⟩) rfl ⟨(Nat.le_of_ble_eq_true rfl), (Nat.le_of_ble_eq_true rfl)⟩
  · refine V_iload_n dX2_placeAt_4 rfl 1 rfl ?_
    refine V_aload_n dX2_placeAt_5 rfl 0 rfl ?_
    refine V_getR dX2_placeAt_6 rfl (ci := 2) (T := TX2) rfl (by decide) fl_X2_11 (fun x1 => ?_)
    refine V_arraylength dX2_placeAt_9 rfl (fun x2 => ?_)
    refine V_icmp_ge (q := 22) (q2 := 13) dX2_placeAt_10 (by decide) rfl ?_ ?_
    · refine V_null dX2_placeAt_22 rfl ?_
      exact V_aret (v := none) dX2_placeAt_23 rfl (Or.inl ⟨_, rfl⟩) rfl ⟨(Nat.le_of_ble_eq_true rfl), (Nat.le_of_ble_eq_true rfl)⟩
    · refine V_aload_n dX2_placeAt_13 rfl 0 rfl ?_
      refine V_getR dX2_placeAt_14 rfl (ci := 2) (T := TX2) rfl (by decide) fl_X2_11 (fun x3 => ?_)
      refine V_iload_n dX2_placeAt_17 rfl 1 rfl ?_
      refine V_aaload dX2_placeAt_18 rfl rfl (fun x4 => ?_)
      refine V_goto (q := 23) dX2_placeAt_19 (by decide) ?_
      exact V_aret (v := x4) dX2_placeAt_23 rfl (Or.inl ⟨_, rfl⟩) rfl ⟨(Nat.le_of_ble_eq_true rfl), (Nat.le_of_ble_eq_true rfl)⟩
theorem k_X2_placeAt (this : Nat) (a1 : Int32) (M : Mem) : K mi_X2_placeAt [.ref this, .int a1] M (f_X2_placeAt this a1 M) (eQ M) := K_of_V ok_X2_placeAt (Nat.le_of_ble_eq_true rfl) (v_X2_placeAt this a1 M)
theorem o_X2_placeAt {this : Nat} {a1 : Int32} {M : Mem} {x} (h : f_X2_placeAt this a1 M = some x) : isO M 2 this = true := (ob_of h).1
theorem dX2_remember_0 : decode cX2_remember 0 = .ok (.aload_n 0, 1) := by decide +kernel
theorem dX2_remember_1 : decode cX2_remember 1 = .ok (.aload_n 0, 1) := by decide +kernel
theorem dX2_remember_2 : decode cX2_remember 2 = .ok (.getfield 18, 3) := by decide +kernel
theorem dX2_remember_5 : decode cX2_remember 5 = .ok (.invokevirtual 25, 3) := by decide +kernel
theorem dX2_remember_8 : decode cX2_remember 8 = .ok (.astore_n 2, 1) := by decide +kernel
theorem dX2_remember_9 : decode cX2_remember 9 = .ok (.aload_n 2, 1) := by decide +kernel
theorem dX2_remember_10 : decode cX2_remember 10 = .ok (.ifnonnull 4, 3) := by decide +kernel
theorem dX2_remember_13 : decode cX2_remember 13 = .ok (.return_, 1) := by decide +kernel
theorem dX2_remember_14 : decode cX2_remember 14 = .ok (.aload_n 2, 1) := by decide +kernel
theorem dX2_remember_15 : decode cX2_remember 15 = .ok (.aload_n 1, 1) := by decide +kernel
theorem dX2_remember_16 : decode cX2_remember 16 = .ok (.invokevirtual 29, 3) := by decide +kernel
theorem dX2_remember_19 : decode cX2_remember 19 = .ok (.aload_n 0, 1) := by decide +kernel
theorem dX2_remember_20 : decode cX2_remember 20 = .ok (.aload_n 0, 1) := by decide +kernel
theorem dX2_remember_21 : decode cX2_remember 21 = .ok (.getfield 18, 3) := by decide +kernel
theorem dX2_remember_24 : decode cX2_remember 24 = .ok (.iconst 1, 1) := by decide +kernel
theorem dX2_remember_25 : decode cX2_remember 25 = .ok (.iadd, 1) := by decide +kernel
theorem dX2_remember_26 : decode cX2_remember 26 = .ok (.bipush 6, 2) := by decide +kernel
theorem dX2_remember_28 : decode cX2_remember 28 = .ok (.if_icmp .ge 12, 3) := by decide +kernel
theorem dX2_remember_31 : decode cX2_remember 31 = .ok (.aload_n 0, 1) := by decide +kernel
theorem dX2_remember_32 : decode cX2_remember 32 = .ok (.getfield 18, 3) := by decide +kernel
theorem dX2_remember_35 : decode cX2_remember 35 = .ok (.iconst 1, 1) := by decide +kernel
theorem dX2_remember_36 : decode cX2_remember 36 = .ok (.iadd, 1) := by decide +kernel
theorem dX2_remember_37 : decode cX2_remember 37 = .ok (.goto 4, 3) := by decide +kernel
theorem dX2_remember_40 : decode cX2_remember 40 = .ok (.iconst 0, 1) := by decide +kernel
theorem dX2_remember_41 : decode cX2_remember 41 = .ok (.putfield 18, 3) := by decide +kernel
theorem dX2_remember_44 : decode cX2_remember 44 = .ok (.aload_n 0, 1) := by decide +kernel
theorem dX2_remember_45 : decode cX2_remember 45 = .ok (.aload_n 0, 1) := by decide +kernel
theorem dX2_remember_46 : decode cX2_remember 46 = .ok (.getfield 22, 3) := by decide +kernel
theorem dX2_remember_49 : decode cX2_remember 49 = .ok (.bipush 6, 2) := by decide +kernel
theorem dX2_remember_51 : decode cX2_remember 51 = .ok (.if_icmp .ge 12, 3) := by decide +kernel
theorem dX2_remember_54 : decode cX2_remember 54 = .ok (.aload_n 0, 1) := by decide +kernel
theorem dX2_remember_55 : decode cX2_remember 55 = .ok (.getfield 22, 3) := by decide +kernel
theorem dX2_remember_58 : decode cX2_remember 58 = .ok (.iconst 1, 1) := by decide +kernel
theorem dX2_remember_59 : decode cX2_remember 59 = .ok (.iadd, 1) := by decide +kernel
theorem dX2_remember_60 : decode cX2_remember 60 = .ok (.goto 5, 3) := by decide +kernel
theorem dX2_remember_63 : decode cX2_remember 63 = .ok (.bipush 6, 2) := by decide +kernel
theorem dX2_remember_65 : decode cX2_remember 65 = .ok (.putfield 22, 3) := by decide +kernel
theorem dX2_remember_68 : decode cX2_remember 68 = .ok (.return_, 1) := by decide +kernel
def mi_X2_remember : MI := (RX2, yX2_remember, cX2_remember, 3, none, [], { frames := 4, cells := 0, slots := 0, locals := 79 })
theorem ok_X2_remember : mOK mi_X2_remember 1 := ⟨rfl, cw_X2_remember, ini_X2, ⟨rfl, by decide⟩, by decide, by decide, rfl⟩
theorem v_X2_remember_41 (this : Nat) (s0 : Nat) (s1 : Int32) (M : Mem) : V mi_X2_remember 41 [(0, .ref this)] [.int s1, .ref s0] M 0 0 (f_X2_remember_41 this s0 s1 M) wV := by
  unfold f_X2_remember_41
  refine V_putI dX2_remember_41 rfl (ci := 2) (T := TX2) rfl (by decide) fl_X2_18 rfl rfl (fun M7 => ?_)
  refine V_aload_n dX2_remember_44 rfl 0 rfl ?_
  refine V_aload_n dX2_remember_45 rfl 0 rfl ?_
  refine V_getI dX2_remember_46 rfl (ci := 2) (T := TX2) rfl (by decide) fl_X2_22 (fun x8 => ?_)
  refine V_bipush (x := 6) dX2_remember_49 rfl rfl ?_
  refine V_icmp_ge (q := 63) (q2 := 54) dX2_remember_51 (by decide) rfl ?_ ?_
  · refine V_bipush (x := 6) dX2_remember_63 rfl rfl ?_
    refine V_putI dX2_remember_65 rfl (ci := 2) (T := TX2) rfl (by decide) fl_X2_22 rfl rfl (fun M9 => ?_)
    exact V_vret dX2_remember_68 rfl rfl ⟨(Nat.le_of_ble_eq_true rfl), (Nat.le_of_ble_eq_true rfl)⟩
  · refine V_aload_n dX2_remember_54 rfl 0 rfl ?_
    refine V_getI dX2_remember_55 rfl (ci := 2) (T := TX2) rfl (by decide) fl_X2_22 (fun x10 => ?_)
    refine V_iconst (x := 1) dX2_remember_58 rfl rfl ?_
    refine V_iadd dX2_remember_59 rfl ?_
    refine V_goto (q := 65) dX2_remember_60 (by decide) ?_
    refine V_putI dX2_remember_65 rfl (ci := 2) (T := TX2) rfl (by decide) fl_X2_22 rfl rfl (fun M11 => ?_)
    exact V_vret dX2_remember_68 rfl rfl ⟨(Nat.le_of_ble_eq_true rfl), (Nat.le_of_ble_eq_true rfl)⟩
theorem v_X2_remember (this : Nat) (a1 : Nat) (M : Mem) : V mi_X2_remember 0 [(0, .ref this), (1, .ref a1)] [] M 0 0 (f_X2_remember this a1 M) wV := by
  unfold f_X2_remember
  refine V_ob fun _ _ => ?_
  refine V_aload_n dX2_remember_0 rfl 0 rfl ?_
  refine V_aload_n dX2_remember_1 rfl 0 rfl ?_
  refine V_getI dX2_remember_2 rfl (ci := 2) (T := TX2) rfl (by decide) fl_X2_18 (fun x1 => ?_)
  refine V_cVeQ (As := [.int x1]) (k_X2_placeAt this x1 M) (fun _ h => o_X2_placeAt h) ok_X2_placeAt im_X2_placeAt se_X2_placeAt rfl (ci := 2) rfl ml_X2_25 ⟨⟨(Nat.le_of_ble_eq_true rfl), (Nat.le_of_ble_eq_true rfl)⟩, (Nat.le_of_ble_eq_true rfl), (Nat.le_of_ble_eq_true rfl)⟩ dX2_remember_5 rfl rfl rfl (Nat.le_of_ble_eq_true rfl) rfl rfl (fun x2 => ?_)
  refine V_astore_nQ (L' := [(0, .ref this), (1, .ref a1), (2, va_rf x2)]) dX2_remember_8 rfl (by decide) (by rcases (x2 : Option Nat) with _ | _ <;> rfl) ?_
  refine V_aload_nQ dX2_remember_9 rfl 2 rfl ?_
  rcases x2 with _ | r3
  · refine V_ifnonnull_n dX2_remember_10 rfl ?_
    exact V_vret dX2_remember_13 rfl rfl ⟨(Nat.le_of_ble_eq_true rfl), (Nat.le_of_ble_eq_true rfl)⟩
  · refine V_ifnonnull_r (q := 14) dX2_remember_10 (by decide) ?_
    refine V_aload_n dX2_remember_14 rfl 2 rfl ?_
    refine V_aload_n dX2_remember_15 rfl 1 rfl ?_
    refine V_cVwV (As := [.ref a1]) (k_X8_takeFrom r3 a1 M) (fun _ h => o_X8_takeFrom h) ok_X8_takeFrom im_X8_takeFrom se_X8_takeFrom rfl (ci := 7) rfl ml_X2_29 ⟨⟨(Nat.le_of_ble_eq_true rfl), (Nat.le_of_ble_eq_true rfl)⟩, (Nat.le_of_ble_eq_true rfl), (Nat.le_of_ble_eq_true rfl)⟩ dX2_remember_16 rfl rfl rfl (Nat.le_of_ble_eq_true rfl) rfl rfl (fun M5 => ?_)
    refine V_aload_n dX2_remember_19 rfl 0 rfl ?_
    refine V_aload_n dX2_remember_20 rfl 0 rfl ?_
    refine V_getI dX2_remember_21 rfl (ci := 2) (T := TX2) rfl (by decide) fl_X2_18 (fun x6 => ?_)
    refine V_iconst (x := 1) dX2_remember_24 rfl rfl ?_
    refine V_iadd dX2_remember_25 rfl ?_
    refine V_bipush (x := 6) dX2_remember_26 rfl rfl ?_
    refine V_icmp_ge (q := 40) (q2 := 31) dX2_remember_28 (by decide) rfl ?_ ?_
    · refine V_iconst (x := 0) dX2_remember_40 rfl rfl ?_
      exact V_sub [0] rfl (v_X2_remember_41 this this 0 M5)
    · refine V_aload_n dX2_remember_31 rfl 0 rfl ?_
      refine V_getI dX2_remember_32 rfl (ci := 2) (T := TX2) rfl (by decide) fl_X2_18 (fun x12 => ?_)
      refine V_iconst (x := 1) dX2_remember_35 rfl rfl ?_
      refine V_iadd dX2_remember_36 rfl ?_
      refine V_goto (q := 41) dX2_remember_37 (by decide) ?_
      exact V_sub [0] rfl (v_X2_remember_41 this this (x12 + 1) M5)
theorem k_X2_remember (this : Nat) (a1 : Nat) (M : Mem) : K mi_X2_remember [.ref this, .ref a1] M (f_X2_remember this a1 M) wV := K_of_V ok_X2_remember (Nat.le_of_ble_eq_true rfl) (v_X2_remember this a1 M)
theorem o_X2_remember {this : Nat} {a1 : Nat} {M : Mem} {x} (h : f_X2_remember this a1 M = some x) : isO M 2 this = true := (ob_of h).1
