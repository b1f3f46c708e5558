def f_X5_clear (this : Nat) (M : Mem) : Option Mem :=
  ob M 4 this (
    (pV M 4 1 this (.int 0)).bind fun M1 =>
    some M1
  )
def f_X5_takeFrom_7 : Nat → Nat → Nat → Int32 → Mem → Option Mem
  | 0 => fun _ _ _ _ => none
  | fu + 1 => fun this l1 l2 M =>
    (gI M 4 1 l1).bind fun x2 =>
    if x2 ≤ l2 then (
      some M
    ) else (
      (gR M 4 0 l1).bind fun x3 =>
      (aL M x3).bind fun x4 =>
      if x4 ≤ l2 then (
        some M
      ) else (
        (gR M 4 0 this).bind fun x5 =>
        (aL M x5).bind fun x6 =>
        if x6 ≤ l2 then (
          some M
        ) else (
          (gR M 4 0 this).bind fun x7 =>
          (gR M 4 0 l1).bind fun x8 =>
          (aI M 0 x8 l2).bind fun x9 =>
          (sI M 0 x7 l2 x9).bind fun M10 =>
          (gI M10 4 1 this).bind fun x11 =>
          (pV M10 4 1 this (.int (x11 + 1))).bind fun M12 =>
          (f_X5_takeFrom_7 fu) this l1 (l2 + 1) M12
        )
      )
    )
def f_X5_takeFrom (this : Nat) (a1 : Nat) (M : Mem) : Option Mem :=
  ob M 4 this (
    (pV M 4 1 this (.int 0)).bind fun M1 =>
    f_X5_takeFrom_7 FU this a1 0 M1
  )
def f_X5_size (this : Nat) (M : Mem) : Option Int32 :=
  ob M 4 this (
    (gI M 4 1 this).bind fun x1 =>
    some x1
  )
def f_X5_find_2 : Nat → Nat → Int32 → Int32 → Mem → Option Int32
  | 0 => fun _ _ _ _ => none
  | fu + 1 => fun this l1 l2 M =>
    (gI M 4 1 this).bind fun x1 =>
    if x1 ≤ l2 then (
      some (-1)
    ) else (
      (gR M 4 0 this).bind fun x2 =>
      (aL M x2).bind fun x3 =>
      if x3 ≤ l2 then (
        some (-1)
      ) else (
        (gR M 4 0 this).bind fun x4 =>
        (aI M 0 x4 l2).bind fun x5 =>
        if x5 = l1 then (
          some l2
        ) else (
          (f_X5_find_2 fu) this l1 (l2 + 1) M
        )
      )
    )
def f_X5_find (this : Nat) (a1 : Int32) (M : Mem) : Option Int32 :=
  ob M 4 this (
    f_X5_find_2 FU this a1 0 M
  )
def f_X5_add (this : Nat) (a1 : Int32) (M : Mem) : Option Mem :=
  ob M 4 this (
    (gI M 4 1 this).bind fun x1 =>
    if (x1 : Int32) < 0 then (
      some M
    ) else (
      (gI M 4 1 this).bind fun x2 =>
      (gR M 4 0 this).bind fun x3 =>
      (aL M x3).bind fun x4 =>
      if x4 ≤ x2 then (
        some M
      ) else (
        (gR M 4 0 this).bind fun x5 =>
        (gI M 4 1 this).bind fun x6 =>
        (sI M 0 x5 x6 a1).bind fun M7 =>
        (gI M7 4 1 this).bind fun x8 =>
        (pV M7 4 1 this (.int (x8 + 1))).bind fun M9 =>
        some M9
      )
    )
  )
def f_X5_get (this : Nat) (a1 : Int32) (M : Mem) : Option Int32 :=
  ob M 4 this (
    if a1 < 0 then (
      some 0
    ) else (
      (gI M 4 1 this).bind fun x1 =>
      if x1 ≤ a1 then (
        some 0
      ) else (
        (gR M 4 0 this).bind fun x2 =>
        (aL M x2).bind fun x3 =>
        if x3 ≤ a1 then (
          some 0
        ) else (
          (gR M 4 0 this).bind fun x4 =>
          (aI M 0 x4 a1).bind fun x5 =>
          some x5
        )
      )
    )
  )
def f_X5_set (this : Nat) (a1 : Int32) (a2 : Int32) (M : Mem) : Option Mem :=
  ob M 4 this (
    if a1 < 0 then (
      some M
    ) else (
      (gI M 4 1 this).bind fun x1 =>
      if x1 ≤ a1 then (
        some M
      ) else (
        (gR M 4 0 this).bind fun x2 =>
        (aL M x2).bind fun x3 =>
        if x3 ≤ a1 then (
          some M
        ) else (
          (gR M 4 0 this).bind fun x4 =>
          (sI M 0 x4 a1 a2).bind fun M5 =>
          some M5
        )
      )
    )
  )
def f_X5_removeAt_15 : Nat → Nat → Int32 → Mem → Option Mem
  | 0 => fun _ _ _ => none
  | fu + 1 => fun this l2 M =>
    (gI M 4 1 this).bind fun x2 =>
    if (x2 - 1) ≤ l2 then (
      (gI M 4 1 this).bind fun x3 =>
      (pV M 4 1 this (.int (x3 - 1))).bind fun M4 =>
      some M4
    ) else (
      (f_X5_get this (l2 + 1) M).bind fun x5 =>
      (f_X5_set this l2 x5 M).bind fun M7 =>
      (f_X5_removeAt_15 fu) this (l2 + 1) M7
    )
def f_X5_removeAt (this : Nat) (a1 : Int32) (M : Mem) : Option Mem :=
  ob M 4 this (
    if a1 < 0 then (
      some M
    ) else (
      (gI M 4 1 this).bind fun x1 =>
      if a1 < x1 then (
        f_X5_removeAt_15 FU this a1 M
      ) else (
        some M
      )
    )
  )
def f_X5_increase (this : Nat) (a1 : Int32) (a2 : Int32) (M : Mem) : Option Mem :=
  ob M 4 this (
    (f_X5_get this a1 M).bind fun x1 =>
    (f_X5_set this a1 (x1 + a2) M).bind fun M3 =>
    some M3
  )
def f_X5_becomeZeros_6 : Nat → Nat → Int32 → Int32 → Mem → Option Mem
  | 0 => fun _ _ _ _ => none
  | fu + 1 => fun this l1 l2 M =>
    if l1 ≤ l2 then (
      some M
    ) else (
      (f_X5_add this 0 M).bind fun M4 =>
      (f_X5_becomeZeros_6 fu) this l1 (l2 + 1) M4
    )
def f_X5_becomeZeros (this : Nat) (a1 : Int32) (M : Mem) : Option Mem :=
  ob M 4 this (
    (f_X5_clear this M).bind fun M2 =>
    f_X5_becomeZeros_6 FU this a1 0 M2
  )
theorem fl_X5_15_w : (Cond.fieldLink RX5 15 (TX5 1).1 (TX5 1).2.1 (TX5 1).2.2.1) ∈ cr_U := mem_U (i := 100) (by decide +kernel) rfl
theorem fl_X5_15 : flk RX5 15 (TX5 1) := Or.inl fl_X5_15_w
theorem cw_X5_clear : (Cond.code yX5_clear cX5_clear 1 (none)) ∈ cr_U := mem_U (i := 1067) (by decide +kernel) rfl
theorem ini_X5 : (Cond.initialized RX5) ∈ cr_U := mem_U (i := 30) (by decide +kernel) rfl
theorem fl_X5_9_w : (Cond.fieldLink RX5 9 (TX5 0).1 (TX5 0).2.1 (TX5 0).2.2.1) ∈ cr_U := mem_U (i := 99) (by decide +kernel) rfl
theorem fl_X5_9 : flk RX5 9 (TX5 0) := Or.inl fl_X5_9_w
theorem cw_X5_takeFrom : (Cond.code yX5_takeFrom cX5_takeFrom 3 (none)) ∈ cr_U := mem_U (i := 1192) (by decide +kernel) rfl
theorem cw_X5_size : (Cond.code yX5_size cX5_size 1 (some .int)) ∈ cr_U := mem_U (i := 386) (by decide +kernel) rfl
theorem cw_X5_find : (Cond.code yX5_find cX5_find 3 (some .int)) ∈ cr_U := mem_U (i := 525) (by decide +kernel) rfl
theorem cw_X5_add : (Cond.code yX5_add cX5_add 2 (none)) ∈ cr_U := mem_U (i := 1102) (by decide +kernel) rfl
theorem cw_X5_get : (Cond.code yX5_get cX5_get 2 (some .int)) ∈ cr_U := mem_U (i := 517) (by decide +kernel) rfl
theorem cw_X5_set : (Cond.code yX5_set cX5_set 3 (none)) ∈ cr_U := mem_U (i := 1303) (by decide +kernel) rfl
theorem ml_X5_19 : (Cond.methodLink RX5 19 yX5_get) ∈ cr_U := mem_U (i := 1299) (by decide +kernel) rfl
theorem im_X5_get : (Cond.instanceMethod yX5_get) ∈ cr_U := mem_U (i := 515) (by decide +kernel) rfl
theorem se_X5_get : (Cond.selects RX5 yX5_get yX5_get) ∈ cr_U := mem_U (i := 516) (by decide +kernel) rfl
theorem ml_X5_23 : (Cond.methodLink RX5 23 yX5_set) ∈ cr_U := mem_U (i := 1300) (by decide +kernel) rfl
theorem im_X5_set : (Cond.instanceMethod yX5_set) ∈ cr_U := mem_U (i := 1301) (by decide +kernel) rfl
theorem se_X5_set : (Cond.selects RX5 yX5_set yX5_set) ∈ cr_U := mem_U (i := 1302) (by decide +kernel) rfl
theorem cw_X5_removeAt : (Cond.code yX5_removeAt cX5_removeAt 3 (none)) ∈ cr_U := mem_U (i := 1320) (by decide +kernel) rfl
theorem cw_X5_increase : (Cond.code yX5_increase cX5_increase 3 (none)) ∈ cr_U := mem_U (i := 1298) (by decide +kernel) rfl
theorem ml_X5_27 : (Cond.methodLink RX5 27 yX5_clear) ∈ cr_U := mem_U (i := 1137) (by decide +kernel) rfl
theorem im_X5_clear : (Cond.instanceMethod yX5_clear) ∈ cr_U := mem_U (i := 1065) (by decide +kernel) rfl
theorem se_X5_clear : (Cond.selects RX5 yX5_clear yX5_clear) ∈ cr_U := mem_U (i := 1066) (by decide +kernel) rfl
theorem ml_X5_30 : (Cond.methodLink RX5 30 yX5_add) ∈ cr_U := mem_U (i := 1138) (by decide +kernel) rfl
theorem im_X5_add : (Cond.instanceMethod yX5_add) ∈ cr_U := mem_U (i := 1100) (by decide +kernel) rfl
theorem se_X5_add : (Cond.selects RX5 yX5_add yX5_add) ∈ cr_U := mem_U (i := 1101) (by decide +kernel) rfl
theorem cw_X5_becomeZeros : (Cond.code yX5_becomeZeros cX5_becomeZeros 3 (none)) ∈ cr_U := mem_U (i := 1136) (by decide +kernel) rfl
theorem dX5_clear_0 : decode cX5_clear 0 = .ok (.aload_n 0, 1) := by decide +kernel
theorem dX5_clear_1 : decode cX5_clear 1 = .ok (.iconst 0, 1) := by decide +kernel
theorem dX5_clear_2 : decode cX5_clear 2 = .ok (.putfield 15, 3) := by decide +kernel
theorem dX5_clear_5 : decode cX5_clear 5 = .ok (.return_, 1) := by decide +kernel
def mi_X5_clear : MI := (RX5, yX5_clear, cX5_clear, 1, none, [], { frames := 1, cells := 0, slots := 0, locals := 12 })
theorem ok_X5_clear : mOK mi_X5_clear 0 := ⟨rfl, cw_X5_clear, ini_X5, ⟨rfl, by decide⟩, by decide, by decide, rfl⟩
theorem v_X5_clear (this : Nat) (M : Mem) : V mi_X5_clear 0 [(0, .ref this)] [] M 0 0 (f_X5_clear this M) wV := by
  unfold f_X5_clear
  refine V_ob fun _ _ => ?_
  refine V_aload_n dX5_clear_0 rfl 0 rfl ?_
  refine V_iconst (x := 0) dX5_clear_1 rfl rfl ?_
  refine V_putI dX5_clear_2 rfl (ci := 4) (T := TX5) rfl (by decide) fl_X5_15 rfl rfl (fun M1 => ?_)
  exact V_vret dX5_clear_5 rfl rfl ⟨(Nat.le_of_ble_eq_true rfl), (Nat.le_of_ble_eq_true rfl)⟩
theorem k_X5_clear (this : Nat) (M : Mem) : K mi_X5_clear [.ref this] M (f_X5_clear this M) wV := K_of_V ok_X5_clear (Nat.le_of_ble_eq_true rfl) (v_X5_clear this M)
theorem o_X5_clear {this : Nat} {M : Mem} {x} (h : f_X5_clear this M = some x) : isO M 4 this = true := (ob_of h).1
theorem dX5_takeFrom_0 : decode cX5_takeFrom 0 = .ok (.aload_n 0, 1) := by decide +kernel
theorem dX5_takeFrom_1 : decode cX5_takeFrom 1 = .ok (.iconst 0, 1) := by decide +kernel
theorem dX5_takeFrom_2 : decode cX5_takeFrom 2 = .ok (.putfield 15, 3) := by decide +kernel
theorem dX5_takeFrom_5 : decode cX5_takeFrom 5 = .ok (.iconst 0, 1) := by decide +kernel
theorem dX5_takeFrom_6 : decode cX5_takeFrom 6 = .ok (.istore_n 2, 1) := by decide +kernel
theorem dX5_takeFrom_7 : decode cX5_takeFrom 7 = .ok (.iload_n 2, 1) := by decide +kernel
theorem dX5_takeFrom_8 : decode cX5_takeFrom 8 = .ok (.aload_n 1, 1) := by decide +kernel
theorem dX5_takeFrom_9 : decode cX5_takeFrom 9 = .ok (.getfield 15, 3) := by decide +kernel
theorem dX5_takeFrom_12 : decode cX5_takeFrom 12 = .ok (.if_icmp .ge 49, 3) := by decide +kernel
theorem dX5_takeFrom_15 : decode cX5_takeFrom 15 = .ok (.iload_n 2, 1) := by decide +kernel
theorem dX5_takeFrom_16 : decode cX5_takeFrom 16 = .ok (.aload_n 1, 1) := by decide +kernel
theorem dX5_takeFrom_17 : decode cX5_takeFrom 17 = .ok (.getfield 9, 3) := by decide +kernel
theorem dX5_takeFrom_20 : decode cX5_takeFrom 20 = .ok (.arraylength, 1) := by decide +kernel
theorem dX5_takeFrom_21 : decode cX5_takeFrom 21 = .ok (.if_icmp .ge 40, 3) := by decide +kernel
theorem dX5_takeFrom_24 : decode cX5_takeFrom 24 = .ok (.iload_n 2, 1) := by decide +kernel
theorem dX5_takeFrom_25 : decode cX5_takeFrom 25 = .ok (.aload_n 0, 1) := by decide +kernel
theorem dX5_takeFrom_26 : decode cX5_takeFrom 26 = .ok (.getfield 9, 3) := by decide +kernel
theorem dX5_takeFrom_29 : decode cX5_takeFrom 29 = .ok (.arraylength, 1) := by decide +kernel
theorem dX5_takeFrom_30 : decode cX5_takeFrom 30 = .ok (.if_icmp .ge 31, 3) := by decide +kernel
theorem dX5_takeFrom_33 : decode cX5_takeFrom 33 = .ok (.aload_n 0, 1) := by decide +kernel
theorem dX5_takeFrom_34 : decode cX5_takeFrom 34 = .ok (.getfield 9, 3) := by decide +kernel
theorem dX5_takeFrom_37 : decode cX5_takeFrom 37 = .ok (.iload_n 2, 1) := by decide +kernel
theorem dX5_takeFrom_38 : decode cX5_takeFrom 38 = .ok (.aload_n 1, 1) := by decide +kernel
theorem dX5_takeFrom_39 : decode cX5_takeFrom 39 = .ok (.getfield 9, 3) := by decide +kernel
theorem dX5_takeFrom_42 : decode cX5_takeFrom 42 = .ok (.iload_n 2, 1) := by decide +kernel
theorem dX5_takeFrom_43 : decode cX5_takeFrom 43 = .ok (.iaload, 1) := by decide +kernel
theorem dX5_takeFrom_44 : decode cX5_takeFrom 44 = .ok (.iastore, 1) := by decide +kernel
theorem dX5_takeFrom_45 : decode cX5_takeFrom 45 = .ok (.aload_n 0, 1) := by decide +kernel
theorem dX5_takeFrom_46 : decode cX5_takeFrom 46 = .ok (.dup, 1) := by decide +kernel
theorem dX5_takeFrom_47 : decode cX5_takeFrom 47 = .ok (.getfield 15, 3) := by decide +kernel
theorem dX5_takeFrom_50 : decode cX5_takeFrom 50 = .ok (.iconst 1, 1) := by decide +kernel
theorem dX5_takeFrom_51 : decode cX5_takeFrom 51 = .ok (.iadd, 1) := by decide +kernel
theorem dX5_takeFrom_52 : decode cX5_takeFrom 52 = .ok (.putfield 15, 3) := by decide +kernel
theorem dX5_takeFrom_55 : decode cX5_takeFrom 55 = .ok (.iinc 2 1, 3) := by decide +kernel
theorem dX5_takeFrom_58 : decode cX5_takeFrom 58 = .ok (.goto (-51), 3) := by decide +kernel
theorem dX5_takeFrom_61 : decode cX5_takeFrom 61 = .ok (.return_, 1) := by decide +kernel
def mi_X5_takeFrom : MI := (RX5, yX5_takeFrom, cX5_takeFrom, 3, none, [], { frames := 1, cells := 0, slots := 0, locals := 12 })
theorem ok_X5_takeFrom : mOK mi_X5_takeFrom 1 := ⟨rfl, cw_X5_takeFrom, ini_X5, ⟨rfl, by decide⟩, by decide, by decide, rfl⟩
theorem v_X5_takeFrom_7 : ∀ (fu : Nat) (this : Nat) (l1 : Nat) (l2 : Int32) (M : Mem), V mi_X5_takeFrom 7 [(0, .ref this), (1, .ref l1), (2, .int l2)] [] M 0 0 (f_X5_takeFrom_7 fu this l1 l2 M) wV := by
  intro fu
  induction fu with
  | zero => intros; exact V_none
  | succ fu ih =>
    intro this l1 l2 M
    show V mi_X5_takeFrom 7 [(0, .ref this), (1, .ref l1), (2, .int l2)] [] M 0 0 (f_X5_takeFrom_7 (fu + 1) this l1 l2 M) wV
    unfold f_X5_takeFrom_7
    refine V_iload_n dX5_takeFrom_7 rfl 2 rfl ?_
    refine V_aload_n dX5_takeFrom_8 rfl 1 rfl ?_
    refine V_getI dX5_takeFrom_9 rfl (ci := 4) (T := TX5) rfl (by decide) fl_X5_15 (fun x2 => ?_)
    refine V_icmp_ge (q := 61) (q2 := 15) dX5_takeFrom_12 (by decide) rfl ?_ ?_
    · exact V_vret dX5_takeFrom_61 rfl rfl ⟨(Nat.le_of_ble_eq_true rfl), (Nat.le_of_ble_eq_true rfl)⟩
    · refine V_iload_n dX5_takeFrom_15 rfl 2 rfl ?_
      refine V_aload_n dX5_takeFrom_16 rfl 1 rfl ?_
      refine V_getR dX5_takeFrom_17 rfl (ci := 4) (T := TX5) rfl (by decide) fl_X5_9 (fun x3 => ?_)
      refine V_arraylength dX5_takeFrom_20 rfl (fun x4 => ?_)
      refine V_icmp_ge (q := 61) (q2 := 24) dX5_takeFrom_21 (by decide) rfl ?_ ?_
      · exact V_vret dX5_takeFrom_61 rfl rfl ⟨(Nat.le_of_ble_eq_true rfl), (Nat.le_of_ble_eq_true rfl)⟩
      · refine V_iload_n dX5_takeFrom_24 rfl 2 rfl ?_
        refine V_aload_n dX5_takeFrom_25 rfl 0 rfl ?_
        refine V_getR dX5_takeFrom_26 rfl (ci := 4) (T := TX5) rfl (by decide) fl_X5_9 (fun x5 => ?_)
        refine V_arraylength dX5_takeFrom_29 rfl (fun x6 => ?_)
        refine V_icmp_ge (q := 61) (q2 := 33) dX5_takeFrom_30 (by decide) rfl ?_ ?_
        · exact V_vret dX5_takeFrom_61 rfl rfl ⟨(Nat.le_of_ble_eq_true rfl), (Nat.le_of_ble_eq_true rfl)⟩
        · refine V_aload_n dX5_takeFrom_33 rfl 0 rfl ?_
          refine V_getR dX5_takeFrom_34 rfl (ci := 4) (T := TX5) rfl (by decide) fl_X5_9 (fun x7 => ?_)
          refine V_iload_n dX5_takeFrom_37 rfl 2 rfl ?_
          refine V_aload_n dX5_takeFrom_38 rfl 1 rfl ?_
          refine V_getR dX5_takeFrom_39 rfl (ci := 4) (T := TX5) rfl (by decide) fl_X5_9 (fun x8 => ?_)
          refine V_iload_n dX5_takeFrom_42 rfl 2 rfl ?_
          refine V_iaload dX5_takeFrom_43 rfl (fun x9 => ?_)
          refine V_iastore dX5_takeFrom_44 rfl (fun M10 => ?_)
          refine V_aload_n dX5_takeFrom_45 rfl 0 rfl ?_
          refine V_dup dX5_takeFrom_46 rfl rfl ?_
          refine V_getI dX5_takeFrom_47 rfl (ci := 4) (T := TX5) rfl (by decide) fl_X5_15 (fun x11 => ?_)
          refine V_iconst (x := 1) dX5_takeFrom_50 rfl rfl ?_
          refine V_iadd dX5_takeFrom_51 rfl ?_
          refine V_putI dX5_takeFrom_52 rfl (ci := 4) (T := TX5) rfl (by decide) fl_X5_15 rfl rfl (fun M12 => ?_)
          refine V_iinc (y := (l2 + 1)) (L' := [(0, .ref this), (1, .ref l1), (2, .int (l2 + 1))]) dX5_takeFrom_55 rfl 2 rfl rfl (by decide) rfl ?_
          refine V_goto (q := 7) dX5_takeFrom_58 (by decide) ?_
          exact ih this l1 (l2 + 1) M12
theorem v_X5_takeFrom (this : Nat) (a1 : Nat) (M : Mem) : V mi_X5_takeFrom 0 [(0, .ref this), (1, .ref a1)] [] M 0 0 (f_X5_takeFrom this a1 M) wV := by
  unfold f_X5_takeFrom
  refine V_ob fun _ _ => ?_
  refine V_aload_n dX5_takeFrom_0 rfl 0 rfl ?_
  refine V_iconst (x := 0) dX5_takeFrom_1 rfl rfl ?_
  refine V_putI dX5_takeFrom_2 rfl (ci := 4) (T := TX5) rfl (by decide) fl_X5_15 rfl rfl (fun M1 => ?_)
  refine V_iconst (x := 0) dX5_takeFrom_5 rfl rfl ?_
  refine V_istore_n (L' := [(0, .ref this), (1, .ref a1), (2, .int 0)]) dX5_takeFrom_6 rfl (by decide) rfl ?_
  exact v_X5_takeFrom_7 FU this a1 0 M1
theorem k_X5_takeFrom (this : Nat) (a1 : Nat) (M : Mem) : K mi_X5_takeFrom [.ref this, .ref a1] M (f_X5_takeFrom this a1 M) wV := K_of_V ok_X5_takeFrom (Nat.le_of_ble_eq_true rfl) (v_X5_takeFrom this a1 M)
theorem o_X5_takeFrom {this : Nat} {a1 : Nat} {M : Mem} {x} (h : f_X5_takeFrom this a1 M = some x) : isO M 4 this = true := (ob_of h).1
theorem dX5_size_0 : decode cX5_size 0 = .ok (.aload_n 0, 1) := by decide +kernel
theorem dX5_size_1 : decode cX5_size 1 = .ok (.getfield 15, 3) := by decide +kernel
theorem dX5_size_4 : decode cX5_size 4 = .ok (.ireturn, 1) := by decide +kernel
def mi_X5_size : MI := (RX5, yX5_size, cX5_size, 1, some .int, [], { frames := 1, cells := 0, slots := 0, locals := 12 })
theorem ok_X5_size : mOK mi_X5_size 0 := ⟨rfl, cw_X5_size, ini_X5, ⟨rfl, by decide⟩, by decide, by decide, rfl⟩
theorem v_X5_size (this : Nat) (M : Mem) : V mi_X5_size 0 [(0, .ref this)] [] M 0 0 (f_X5_size this M) (eI M) := by
  unfold f_X5_size
  refine V_ob fun _ _ => ?_
  refine V_aload_n dX5_size_0 rfl 0 rfl ?_
  refine V_getI dX5_size_1 rfl (ci := 4) (T := TX5) rfl (by decide) fl_X5_15 (fun x1 => ?_)
  exact V_iret dX5_size_4 rfl rfl ⟨(Nat.le_of_ble_eq_true rfl), (Nat.le_of_ble_eq_true rfl)⟩
theorem k_X5_size (this : Nat) (M : Mem) : K mi_X5_size [.ref this] M (f_X5_size this M) (eI M) := K_of_V ok_X5_size (Nat.le_of_ble_eq_true rfl) (v_X5_size this M)
theorem o_X5_size {this : Nat} {M : Mem} {x} (h : f_X5_size this M = some x) : isO M 4 this = true := (ob_of h).1
theorem dX5_find_0 : decode cX5_find 0 = .ok (.iconst 0, 1) := by decide +kernel
theorem dX5_find_1 : decode cX5_find 1 = .ok (.istore_n 2, 1) := by decide +kernel
theorem dX5_find_2 : decode cX5_find 2 = .ok (.iload_n 2, 1) := by decide +kernel
theorem dX5_find_3 : decode cX5_find 3 = .ok (.aload_n 0, 1) := by decide +kernel
theorem dX5_find_4 : decode cX5_find 4 = .ok (.getfield 15, 3) := by decide +kernel
theorem dX5_find_7 : decode cX5_find 7 = .ok (.if_icmp .ge 30, 3) := by decide +kernel
theorem dX5_find_10 : decode cX5_find 10 = .ok (.iload_n 2, 1) := by decide +kernel
theorem dX5_find_11 : decode cX5_find 11 = .ok (.aload_n 0, 1) := by decide +kernel
theorem dX5_find_12 : decode cX5_find 12 = .ok (.getfield 9, 3) := by decide +kernel
theorem dX5_find_15 : decode cX5_find 15 = .ok (.arraylength, 1) := by decide +kernel
theorem dX5_find_16 : decode cX5_find 16 = .ok (.if_icmp .ge 21, 3) := by decide +kernel
theorem dX5_find_19 : decode cX5_find 19 = .ok (.aload_n 0, 1) := by decide +kernel
theorem dX5_find_20 : decode cX5_find 20 = .ok (.getfield 9, 3) := by decide +kernel
theorem dX5_find_23 : decode cX5_find 23 = .ok (.iload_n 2, 1) := by decide +kernel
theorem dX5_find_24 : decode cX5_find 24 = .ok (.iaload, 1) := by decide +kernel
theorem dX5_find_25 : decode cX5_find 25 = .ok (.iload_n 1, 1) := by decide +kernel
theorem dX5_find_26 : decode cX5_find 26 = .ok (.if_icmp .ne 5, 3) := by decide +kernel
theorem dX5_find_29 : decode cX5_find 29 = .ok (.iload_n 2, 1) := by decide +kernel
theorem dX5_find_30 : decode cX5_find 30 = .ok (.ireturn, 1) := by decide +kernel
theorem dX5_find_31 : decode cX5_find 31 = .ok (.iinc 2 1, 3) := by decide +kernel
theorem dX5_find_34 : decode cX5_find 34 = .ok (.goto (-32), 3) := by decide +kernel
theorem dX5_find_37 : decode cX5_find 37 = .ok (.iconst (-1), 1) := by decide +kernel
theorem dX5_find_38 : decode cX5_find 38 = .ok (.ireturn, 1) := by decide +kernel
def mi_X5_find : MI := (RX5, yX5_find, cX5_find, 3, some .int, [], { frames := 1, cells := 0, slots := 0, locals := 12 })
theorem ok_X5_find : mOK mi_X5_find 1 := ⟨rfl, cw_X5_find, ini_X5, ⟨rfl, by decide⟩, by decide, by decide, rfl⟩
theorem v_X5_find_2 : ∀ (fu : Nat) (this : Nat) (l1 : Int32) (l2 : Int32) (M : Mem), V mi_X5_find 2 [(0, .ref this), (1, .int l1), (2, .int l2)] [] M 0 0 (f_X5_find_2 fu this l1 l2 M) (eI M) := by
  intro fu
  induction fu with
  | zero => intros; exact V_none
  | succ fu ih =>
    intro this l1 l2 M
    show V mi_X5_find 2 [(0, .ref this), (1, .int l1), (2, .int l2)] [] M 0 0 (f_X5_find_2 (fu + 1) this l1 l2 M) (eI M)
    unfold f_X5_find_2
    refine V_iload_n dX5_find_2 rfl 2 rfl ?_
    refine V_aload_n dX5_find_3 rfl 0 rfl ?_
    refine V_getI dX5_find_4 rfl (ci := 4) (T := TX5) rfl (by decide) fl_X5_15 (fun x1 => ?_)
    refine V_icmp_ge (q := 37) (q2 := 10) dX5_find_7 (by decide) rfl ?_ ?_
    · refine V_iconst (x := (-1)) dX5_find_37 rfl rfl ?_
      exact V_iret dX5_find_38 rfl rfl ⟨(Nat.le_of_ble_eq_true rfl), (Nat.le_of_ble_eq_true rfl)⟩
    · refine V_iload_n dX5_find_10 rfl 2 rfl ?_
      refine V_aload_n dX5_find_11 rfl 0 rfl ?_
      refine V_getR dX5_find_12 rfl (ci := 4) (T := TX5) rfl (by decide) fl_X5_9 (fun x2 => ?_)
      refine V_arraylength dX5_find_15 rfl (fun x3 => ?_)
      refine V_icmp_ge (q := 37) (q2 := 19) dX5_find_16 (by decide) rfl ?_ ?_
      · refine V_iconst (x := (-1)) dX5_find_37 rfl rfl ?_
        exact V_iret dX5_find_38 rfl rfl ⟨(Nat.le_of_ble_eq_true rfl), (Nat.le_of_ble_eq_true rfl)⟩
      · refine V_aload_n dX5_find_19 rfl 0 rfl ?_
        refine V_getR dX5_find_20 rfl (ci := 4) (T := TX5) rfl (by decide) fl_X5_9 (fun x4 => ?_)
        refine V_iload_n dX5_find_23 rfl 2 rfl ?_
        refine V_iaload dX5_find_24 rfl (fun x5 => ?_)
        refine V_iload_n dX5_find_25 rfl 1 rfl ?_
        refine V_icmp_ne (q := 31) (q2 := 29) dX5_find_26 (by decide) rfl ?_ ?_
        · refine V_iinc (y := (l2 + 1)) (L' := [(0, .ref this), (1, .int l1), (2, .int (l2 + 1))]) dX5_find_31 rfl 2 rfl rfl (by decide) rfl ?_
          refine V_goto (q := 2) dX5_find_34 (by decide) ?_
          exact ih this l1 (l2 + 1) M
        · refine V_iload_n dX5_find_29 rfl 2 rfl ?_
          exact V_iret dX5_find_30 rfl rfl ⟨(Nat.le_of_ble_eq_true rfl), (Nat.le_of_ble_eq_true rfl)⟩
theorem v_X5_find (this : Nat) (a1 : Int32) (M : Mem) : V mi_X5_find 0 [(0, .ref this), (1, .int a1)] [] M 0 0 (f_X5_find this a1 M) (eI M) := by
  unfold f_X5_find
  refine V_ob fun _ _ => ?_
  refine V_iconst (x := 0) dX5_find_0 rfl rfl ?_
  refine V_istore_n (L' := [(0, .ref this), (1, .int a1), (2, .int 0)]) dX5_find_1 rfl (by decide) rfl ?_
  exact v_X5_find_2 FU this a1 0 M
theorem k_X5_find (this : Nat) (a1 : Int32) (M : Mem) : K mi_X5_find [.ref this, .int a1] M (f_X5_find this a1 M) (eI M) := K_of_V ok_X5_find (Nat.le_of_ble_eq_true rfl) (v_X5_find this a1 M)
theorem o_X5_find {this : Nat} {a1 : Int32} {M : Mem} {x} (h : f_X5_find this a1 M = some x) : isO M 4 this = true := (ob_of h).1
theorem dX5_add_0 : decode cX5_add 0 = .ok (.aload_n 0, 1) := by decide +kernel
theorem dX5_add_1 : decode cX5_add 1 = .ok (.getfield 15, 3) := by decide +kernel
theorem dX5_add_4 : decode cX5_add 4 = .ok (.ifCond .lt 35, 3) := by decide +kernel
theorem dX5_add_7 : decode cX5_add 7 = .ok (.aload_n 0, 1) := by decide +kernel
theorem dX5_add_8 : decode cX5_add 8 = .ok (.getfield 15, 3) := by decide +kernel
theorem dX5_add_11 : decode cX5_add 11 = .ok (.aload_n 0, 1) := by decide +kernel
theorem dX5_add_12 : decode cX5_add 12 = .ok (.getfield 9, 3) := by decide +kernel
theorem dX5_add_15 : decode cX5_add 15 = .ok (.arraylength, 1) := by decide +kernel
theorem dX5_add_16 : decode cX5_add 16 = .ok (.if_icmp .ge 23, 3) := by decide +kernel
theorem dX5_add_19 : decode cX5_add 19 = .ok (.aload_n 0, 1) := by decide +kernel
theorem dX5_add_20 : decode cX5_add 20 = .ok (.getfield 9, 3) := by decide +kernel
theorem dX5_add_23 : decode cX5_add 23 = .ok (.aload_n 0, 1) := by decide +kernel
theorem dX5_add_24 : decode cX5_add 24 = .ok (.getfield 15, 3) := by decide +kernel
theorem dX5_add_27 : decode cX5_add 27 = .ok (.iload_n 1, 1) := by decide +kernel
theorem dX5_add_28 : decode cX5_add 28 = .ok (.iastore, 1) := by decide +kernel
theorem dX5_add_29 : decode cX5_add 29 = .ok (.aload_n 0, 1) := by decide +kernel
theorem dX5_add_30 : decode cX5_add 30 = .ok (.dup, 1) := by decide +kernel
theorem dX5_add_31 : decode cX5_add 31 = .ok (.getfield 15, 3) := by decide +kernel
theorem dX5_add_34 : decode cX5_add 34 = .ok (.iconst 1, 1) := by decide +kernel
theorem dX5_add_35 : decode cX5_add 35 = .ok (.iadd, 1) := by decide +kernel
theorem dX5_add_36 : decode cX5_add 36 = .ok (.putfield 15, 3) := by decide +kernel
theorem dX5_add_39 : decode cX5_add 39 = .ok (.return_, 1) := by decide +kernel
def mi_X5_add : MI := (RX5, yX5_add, cX5_add, 2, none, [], { frames := 1, cells := 0, slots := 0, locals := 12 })
theorem ok_X5_add : mOK mi_X5_add 1 := ⟨rfl, cw_X5_add, ini_X5, ⟨rfl, by decide⟩, by decide, by decide, rfl⟩
theorem v_X5_add (this : Nat) (a1 : Int32) (M : Mem) : V mi_X5_add 0 [(0, .ref this), (1, .int a1)] [] M 0 0 (f_X5_add this a1 M) wV := by
  unfold f_X5_add
  refine V_ob fun _ _ => ?_
  refine V_aload_n dX5_add_0 rfl 0 rfl ?_
  refine V_getI dX5_add_1 rfl (ci := 4) (T := TX5) rfl (by decide) fl_X5_15 (fun x1 => ?_)
  refine V_if_lt (q := 39) (q2 := 7) dX5_add_4 (by decide) rfl ?_ ?_
  · exact V_vret dX5_add_39 rfl rfl ⟨(Nat.le_of_ble_eq_true rfl), (Nat.le_of_ble_eq_true rfl)⟩
  · refine V_aload_n dX5_add_7 rfl 0 rfl ?_
    refine V_getI dX5_add_8 rfl (ci := 4) (T := TX5) rfl (by decide) fl_X5_15 (fun x2 => ?_)
    refine V_aload_n dX5_add_11 rfl 0 rfl ?_
    refine V_getR dX5_add_12 rfl (ci := 4) (T := TX5) rfl (by decide) fl_X5_9 (fun x3 => ?_)
    refine V_arraylength dX5_add_15 rfl (fun x4 => ?_)
    refine V_icmp_ge (q := 39) (q2 := 19) dX5_add_16 (by decide) rfl ?_ ?_
    · exact V_vret dX5_add_39 rfl rfl ⟨(Nat.le_of_ble_eq_true rfl), (Nat.le_of_ble_eq_true rfl)⟩
    · refine V_aload_n dX5_add_19 rfl 0 rfl ?_
      refine V_getR dX5_add_20 rfl (ci := 4) (T := TX5) rfl (by decide) fl_X5_9 (fun x5 => ?_)
      refine V_aload_n dX5_add_23 rfl 0 rfl ?_
      refine V_getI dX5_add_24 rfl (ci := 4) (T := TX5) rfl (by decide) fl_X5_15 (fun x6 => ?_)
      refine V_iload_n dX5_add_27 rfl 1 rfl ?_
      refine V_iastore dX5_add_28 rfl (fun M7 => ?_)
      refine V_aload_n dX5_add_29 rfl 0 rfl ?_
      refine V_dup dX5_add_30 rfl rfl ?_
      refine V_getI dX5_add_31 rfl (ci := 4) (T := TX5) rfl (by decide) fl_X5_15 (fun x8 => ?_)
      refine V_iconst (x := 1) dX5_add_34 rfl rfl ?_
      refine V_iadd dX5_add_35 rfl ?_
      refine V_putI dX5_add_36 rfl (ci := 4) (T := TX5) rfl (by decide) fl_X5_15 rfl rfl (fun M9 => ?_)
      exact V_vret dX5_add_39 rfl rfl ⟨(Nat.le_of_ble_eq_true rfl), (Nat.le_of_ble_eq_true rfl)⟩
theorem k_X5_add (this : Nat) (a1 : Int32) (M : Mem) : K mi_X5_add [.ref this, .int a1] M (f_X5_add this a1 M) wV := K_of_V ok_X5_add (Nat.le_of_ble_eq_true rfl) (v_X5_add this a1 M)
theorem o_X5_add {this : Nat} {a1 : Int32} {M : Mem} {x} (h : f_X5_add this a1 M = some x) : isO M 4 this = true := (ob_of h).1
theorem dX5_get_0 : decode cX5_get 0 = .ok (.iload_n 1, 1) := by decide +kernel
theorem dX5_get_1 : decode cX5_get 1 = .ok (.ifCond .lt 29, 3) := by decide +kernel
theorem dX5_get_4 : decode cX5_get 4 = .ok (.iload_n 1, 1) := by decide +kernel
theorem dX5_get_5 : decode cX5_get 5 = .ok (.aload_n 0, 1) := by decide +kernel
theorem dX5_get_6 : decode cX5_get 6 = .ok (.getfield 15, 3) := by decide +kernel
theorem dX5_get_9 : decode cX5_get 9 = .ok (.if_icmp .ge 21, 3) := by decide +kernel
theorem dX5_get_12 : decode cX5_get 12 = .ok (.iload_n 1, 1) := by decide +kernel
theorem dX5_get_13 : decode cX5_get 13 = .ok (.aload_n 0, 1) := by decide +kernel
theorem dX5_get_14 : decode cX5_get 14 = .ok (.getfield 9, 3) := by decide +kernel
theorem dX5_get_17 : decode cX5_get 17 = .ok (.arraylength, 1) := by decide +kernel
theorem dX5_get_18 : decode cX5_get 18 = .ok (.if_icmp .ge 12, 3) := by decide +kernel
theorem dX5_get_21 : decode cX5_get 21 = .ok (.aload_n 0, 1) := by decide +kernel
theorem dX5_get_22 : decode cX5_get 22 = .ok (.getfield 9, 3) := by decide +kernel
theorem dX5_get_25 : decode cX5_get 25 = .ok (.iload_n 1, 1) := by decide +kernel
theorem dX5_get_26 : decode cX5_get 26 = .ok (.iaload, 1) := by decide +kernel
theorem dX5_get_27 : decode cX5_get 27 = .ok (.goto 4, 3) := by decide +kernel
theorem dX5_get_30 : decode cX5_get 30 = .ok (.iconst 0, 1) := by decide +kernel
theorem dX5_get_31 : decode cX5_get 31 = .ok (.ireturn, 1) := by decide +kernel
def mi_X5_get : MI := (RX5, yX5_get, cX5_get, 2, some .int, [], { frames := 1, cells := 0, slots := 0, locals := 12 })
theorem ok_X5_get : mOK mi_X5_get 1 := ⟨rfl, cw_X5_get, ini_X5, ⟨rfl, by decide⟩, by decide, by decide, rfl⟩
theorem v_X5_get (this : Nat) (a1 : Int32) (M : Mem) : V mi_X5_get 0 [(0, .ref this), (1, .int a1)] [] M 0 0 (f_X5_get this a1 M) (eI M) := by
  unfold f_X5_get
  refine V_ob fun _ _ => ?_
  refine V_iload_n dX5_get_0 rfl 1 rfl ?_
  refine V_if_lt (q := 30) (q2 := 4) dX5_get_1 (by decide) rfl ?_ ?_
  · refine V_iconst (x := 0) dX5_get_30 rfl rfl ?_
    exact V_iret dX5_get_31 rfl rfl ⟨(Nat.le_of_ble_eq_true rfl), (Nat.le_of_ble_eq_true rfl)⟩
  · refine V_iload_n dX5_get_4 rfl 1 rfl ?_
    refine V_aload_n dX5_get_5 rfl 0 rfl ?_
    refine V_getI dX5_get_6 rfl (ci := 4) (T := TX5) rfl (by decide) fl_X5_15 (fun x1 => ?_)
    refine V_icmp_ge (q := 30) (q2 := 12) dX5_get_9 (by decide) rfl ?_ ?_
    · refine V_iconst (x := 0) dX5_get_30 rfl rfl ?_
      exact V_iret dX5_get_31 rfl rfl ⟨(Nat.le_of_ble_eq_true rfl), (Nat.le_of_ble_eq_true rfl)⟩
    · refine V_iload_n dX5_get_12 rfl 1 rfl ?_
      refine V_aload_n dX5_get_13 rfl 0 rfl ?_
      refine V_getR dX5_get_14 rfl (ci := 4) (T := TX5) rfl (by decide) fl_X5_9 (fun x2 => ?_)
      refine V_arraylength dX5_get_17 rfl (fun x3 => ?_)
      refine V_icmp_ge (q := 30) (q2 := 21) dX5_get_18 (by decide) rfl ?_ ?_
      · refine V_iconst (x := 0) dX5_get_30 rfl rfl ?_
        exact V_iret dX5_get_31 rfl rfl ⟨(Nat.le_of_ble_eq_true rfl), (Nat.le_of_ble_eq_true rfl)⟩
      · refine V_aload_n dX5_get_21 rfl 0 rfl ?_
        refine V_getR dX5_get_22 rfl (ci := 4) (T := TX5) rfl (by decide) fl_X5_9 (fun x4 => ?_)
        refine V_iload_n dX5_get_25 rfl 1 rfl ?_
        refine V_iaload dX5_get_26 rfl (fun x5 => ?_)
        refine V_goto (q := 31) dX5_get_27 (by decide) ?_
        exact V_iret dX5_get_31 rfl rfl ⟨(Nat.le_of_ble_eq_true rfl), (Nat.le_of_ble_eq_true rfl)⟩
theorem k_X5_get (this : Nat) (a1 : Int32) (M : Mem) : K mi_X5_get [.ref this, .int a1] M (f_X5_get this a1 M) (eI M) := K_of_V ok_X5_get (Nat.le_of_ble_eq_true rfl) (v_X5_get this a1 M)
theorem o_X5_get {this : Nat} {a1 : Int32} {M : Mem} {x} (h : f_X5_get this a1 M = some x) : isO M 4 this = true := (ob_of h).1
theorem dX5_set_0 : decode cX5_set 0 = .ok (.iload_n 1, 1) := by decide +kernel
theorem dX5_set_1 : decode cX5_set 1 = .ok (.ifCond .lt 27, 3) := by decide +kernel
theorem dX5_set_4 : decode cX5_set 4 = .ok (.iload_n 1, 1) := by decide +kernel
theorem dX5_set_5 : decode cX5_set 5 = .ok (.aload_n 0, 1) := by decide +kernel
theorem dX5_set_6 : decode cX5_set 6 = .ok (.getfield 15, 3) := by decide +kernel
theorem dX5_set_9 : decode cX5_set 9 = .ok (.if_icmp .ge 19, 3) := by decide +kernel
theorem dX5_set_12 : decode cX5_set 12 = .ok (.iload_n 1, 1) := by decide +kernel
theorem dX5_set_13 : decode cX5_set 13 = .ok (.aload_n 0, 1) := by decide +kernel
theorem dX5_set_14 : decode cX5_set 14 = .ok (.getfield 9, 3) := by decide +kernel
theorem dX5_set_17 : decode cX5_set 17 = .ok (.arraylength, 1) := by decide +kernel
theorem dX5_set_18 : decode cX5_set 18 = .ok (.if_icmp .ge 10, 3) := by decide +kernel
theorem dX5_set_21 : decode cX5_set 21 = .ok (.aload_n 0, 1) := by decide +kernel
theorem dX5_set_22 : decode cX5_set 22 = .ok (.getfield 9, 3) := by decide +kernel
theorem dX5_set_25 : decode cX5_set 25 = .ok (.iload_n 1, 1) := by decide +kernel
theorem dX5_set_26 : decode cX5_set 26 = .ok (.iload_n 2, 1) := by decide +kernel
theorem dX5_set_27 : decode cX5_set 27 = .ok (.iastore, 1) := by decide +kernel
theorem dX5_set_28 : decode cX5_set 28 = .ok (.return_, 1) := by decide +kernel
def mi_X5_set : MI := (RX5, yX5_set, cX5_set, 3, none, [], { frames := 1, cells := 0, slots := 0, locals := 12 })
theorem ok_X5_set : mOK mi_X5_set 2 := ⟨rfl, cw_X5_set, ini_X5, ⟨rfl, by decide⟩, by decide, by decide, rfl⟩
theorem v_X5_set (this : Nat) (a1 : Int32) (a2 : Int32) (M : Mem) : V mi_X5_set 0 [(0, .ref this), (1, .int a1), (2, .int a2)] [] M 0 0 (f_X5_set this a1 a2 M) wV := by
  unfold f_X5_set
  refine V_ob fun _ _ => ?_
  refine V_iload_n dX5_set_0 rfl 1 rfl ?_
  refine V_if_lt (q := 28) (q2 := 4) dX5_set_1 (by decide) rfl ?_ ?_
  · exact V_vret dX5_set_28 rfl rfl ⟨(Nat.le_of_ble_eq_true rfl), (Nat.le_of_ble_eq_true rfl)⟩
  · refine V_iload_n dX5_set_4 rfl 1 rfl ?_
    refine V_aload_n dX5_set_5 rfl 0 rfl ?_
    refine V_getI dX5_set_6 rfl (ci := 4) (T := TX5) rfl (by decide) fl_X5_15 (fun x1 => ?_)
    refine V_icmp_ge (q := 28) (q2 := 12) dX5_set_9 (by decide) rfl ?_ ?_
    · exact V_vret dX5_set_28 rfl rfl ⟨(Nat.le_of_ble_eq_true rfl), (Nat.le_of_ble_eq_true rfl)⟩
    · refine V_iload_n dX5_set_12 rfl 1 rfl ?_
      refine V_aload_n dX5_set_13 rfl 0 rfl ?_
      refine V_getR dX5_set_14 rfl (ci := 4) (T := TX5) rfl (by decide) fl_X5_9 (fun x2 => ?_)
      refine V_arraylength dX5_set_17 rfl (fun x3 => ?_)
      refine V_icmp_ge (q := 28) (q2 := 21) dX5_set_18 (by decide) rfl ?_ ?_
      · exact V_vret dX5_set_28 rfl rfl ⟨(Nat.le_of_ble_eq_true rfl), (Nat.le_of_ble_eq_true rfl)⟩
      · refine V_aload_n dX5_set_21 rfl 0 rfl ?_
        refine V_getR dX5_set_22 rfl (ci := 4) (T := TX5) rfl (by decide) fl_X5_9 (fun x4 => ?_)
        refine V_iload_n dX5_set_25 rfl 1 rfl ?_
        refine V_iload_n dX5_set_26 rfl 2 rfl ?_
        refine V_iastore dX5_set_27 rfl (fun M5 => ?_)
        exact V_vret dX5_set_28 rfl rfl ⟨(Nat.le_of_ble_eq_true rfl), (Nat.le_of_ble_eq_true rfl)⟩
theorem k_X5_set (this : Nat) (a1 : Int32) (a2 : Int32) (M : Mem) : K mi_X5_set [.ref this, .int a1, .int a2] M (f_X5_set this a1 a2 M) wV := K_of_V ok_X5_set (Nat.le_of_ble_eq_true rfl) (v_X5_set this a1 a2 M)
theorem o_X5_set {this : Nat} {a1 : Int32} {a2 : Int32} {M : Mem} {x} (h : f_X5_set this a1 a2 M = some x) : isO M 4 this = true := (ob_of h).1
theorem dX5_removeAt_0 : decode cX5_removeAt 0 = .ok (.iload_n 1, 1) := by decide +kernel
theorem dX5_removeAt_1 : decode cX5_removeAt 1 = .ok (.ifCond .lt 11, 3) := by decide +kernel
theorem dX5_removeAt_4 : decode cX5_removeAt 4 = .ok (.iload_n 1, 1) := by decide +kernel
theorem dX5_removeAt_5 : decode cX5_removeAt 5 = .ok (.aload_n 0, 1) := by decide +kernel
theorem dX5_removeAt_6 : decode cX5_removeAt 6 = .ok (.getfield 15, 3) := by decide +kernel
theorem dX5_removeAt_9 : decode cX5_removeAt 9 = .ok (.if_icmp .lt 4, 3) := by decide +kernel
theorem dX5_removeAt_12 : decode cX5_removeAt 12 = .ok (.return_, 1) := by decide +kernel
theorem dX5_removeAt_13 : decode cX5_removeAt 13 = .ok (.iload_n 1, 1) := by decide +kernel
theorem dX5_removeAt_14 : decode cX5_removeAt 14 = .ok (.istore_n 2, 1) := by decide +kernel
theorem dX5_removeAt_15 : decode cX5_removeAt 15 = .ok (.iload_n 2, 1) := by decide +kernel
theorem dX5_removeAt_16 : decode cX5_removeAt 16 = .ok (.aload_n 0, 1) := by decide +kernel
theorem dX5_removeAt_17 : decode cX5_removeAt 17 = .ok (.getfield 15, 3) := by decide +kernel
theorem dX5_removeAt_20 : decode cX5_removeAt 20 = .ok (.iconst 1, 1) := by decide +kernel
theorem dX5_removeAt_21 : decode cX5_removeAt 21 = .ok (.isub, 1) := by decide +kernel
theorem dX5_removeAt_22 : decode cX5_removeAt 22 = .ok (.if_icmp .ge 21, 3) := by decide +kernel
theorem dX5_removeAt_25 : decode cX5_removeAt 25 = .ok (.aload_n 0, 1) := by decide +kernel
theorem dX5_removeAt_26 : decode cX5_removeAt 26 = .ok (.iload_n 2, 1) := by decide +kernel
theorem dX5_removeAt_27 : decode cX5_removeAt 27 = .ok (.aload_n 0, 1) := by decide +kernel
theorem dX5_removeAt_28 : decode cX5_removeAt 28 = .ok (.iload_n 2, 1) := by decide +kernel
theorem dX5_removeAt_29 : decode cX5_removeAt 29 = .ok (.iconst 1, 1) := by decide +kernel
theorem dX5_removeAt_30 : decode cX5_removeAt 30 = .ok (.iadd, 1) := by decide +kernel
theorem dX5_removeAt_31 : decode cX5_removeAt 31 = .ok (.invokevirtual 19, 3) := by decide +kernel
theorem dX5_removeAt_34 : decode cX5_removeAt 34 = .ok (.invokevirtual 23, 3) := by decide +kernel
theorem dX5_removeAt_37 : decode cX5_removeAt 37 = .ok (.iinc 2 1, 3) := by decide +kernel
theorem dX5_removeAt_40 : decode cX5_removeAt 40 = .ok (.goto (-25), 3) := by decide +kernel
theorem dX5_removeAt_43 : decode cX5_removeAt 43 = .ok (.aload_n 0, 1) := by decide +kernel
theorem dX5_removeAt_44 : decode cX5_removeAt 44 = .ok (.dup, 1) := by decide +kernel
theorem dX5_removeAt_45 : decode cX5_removeAt 45 = .ok (.getfield 15, 3) := by decide +kernel
theorem dX5_removeAt_48 : decode cX5_removeAt 48 = .ok (.iconst 1, 1) := by decide +kernel
theorem dX5_removeAt_49 : decode cX5_removeAt 49 = .ok (.isub, 1) := by decide +kernel
theorem dX5_removeAt_50 : decode cX5_removeAt 50 = .ok (.putfield 15, 3) := by decide +kernel
theorem dX5_removeAt_53 : decode cX5_removeAt 53 = .ok (.return_, 1) := by decide +kernel
def mi_X5_removeAt : MI := (RX5, yX5_removeAt, cX5_removeAt, 3, none, [], { frames := 2, cells := 0, slots := 0, locals := 34 })
theorem ok_X5_removeAt : mOK mi_X5_removeAt 1 := ⟨rfl, cw_X5_removeAt, ini_X5, ⟨rfl, by decide⟩, by decide, by decide, rfl⟩
theorem v_X5_removeAt_15 : ∀ (fu : Nat) (this : Nat) (l2 : Int32) (M : Mem), V mi_X5_removeAt 15 [(0, .ref this), (2, .int l2)] [] M 0 0 (f_X5_removeAt_15 fu this l2 M) wV := by
  intro fu
  induction fu with
  | zero => intros; exact V_none
  | succ fu ih =>
    intro this l2 M
    show V mi_X5_removeAt 15 [(0, .ref this), (2, .int l2)] [] M 0 0 (f_X5_removeAt_15 (fu + 1) this l2 M) wV
    unfold f_X5_removeAt_15
    refine V_iload_n dX5_removeAt_15 rfl 1 rfl ?_
    refine V_aload_n dX5_removeAt_16 rfl 0 rfl ?_
    refine V_getI dX5_removeAt_17 rfl (ci := 4) (T := TX5) rfl (by decide) fl_X5_15 (fun x2 => ?_)
    refine V_iconst (x := 1) dX5_removeAt_20 rfl rfl ?_
    refine V_isub dX5_removeAt_21 rfl ?_
    refine V_icmp_ge (q := 43) (q2 := 25) dX5_removeAt_22 (by decide) rfl ?_ ?_
    · refine V_aload_n dX5_removeAt_43 rfl 0 rfl ?_
      refine V_dup dX5_removeAt_44 rfl rfl ?_
      refine V_getI dX5_removeAt_45 rfl (ci := 4) (T := TX5) rfl (by decide) fl_X5_15 (fun x3 => ?_)
      refine V_iconst (x := 1) dX5_removeAt_48 rfl rfl ?_
      refine V_isub dX5_removeAt_49 rfl ?_
      refine V_putI dX5_removeAt_50 rfl (ci := 4) (T := TX5) rfl (by decide) fl_X5_15 rfl rfl (fun M4 => ?_)
      exact V_vret dX5_removeAt_53 rfl rfl ⟨(Nat.le_of_ble_eq_true rfl), (Nat.le_of_ble_eq_true rfl)⟩
    · refine V_aload_n dX5_removeAt_25 rfl 0 rfl ?_
      refine V_iload_n dX5_removeAt_26 rfl 1 rfl ?_
      refine V_aload_n dX5_removeAt_27 rfl 0 rfl ?_
      refine V_iload_n dX5_removeAt_28 rfl 1 rfl ?_
      refine V_iconst (x := 1) dX5_removeAt_29 rfl rfl ?_
      refine V_iadd dX5_removeAt_30 rfl ?_
      refine V_cVeI (As := [.int (l2 + 1)]) (k_X5_get this (l2 + 1) M) (fun _ h => o_X5_get h) ok_X5_get im_X5_get se_X5_get rfl (ci := 4) rfl ml_X5_19 ⟨⟨(Nat.le_of_ble_eq_true rfl), (Nat.le_of_ble_eq_true rfl)⟩, (Nat.le_of_ble_eq_true rfl), (Nat.le_of_ble_eq_true rfl)⟩ dX5_removeAt_31 rfl rfl rfl (Nat.le_of_ble_eq_true rfl) rfl rfl (fun x5 => ?_)
      refine V_cVwV (As := [.int l2, .int x5]) (k_X5_set this l2 x5 M) (fun _ h => o_X5_set h) ok_X5_set im_X5_set se_X5_set rfl (ci := 4) rfl ml_X5_23 ⟨⟨(Nat.le_of_ble_eq_true rfl), (Nat.le_of_ble_eq_true rfl)⟩, (Nat.le_of_ble_eq_true rfl), (Nat.le_of_ble_eq_true rfl)⟩ dX5_removeAt_34 rfl rfl rfl (Nat.le_of_ble_eq_true rfl) rfl rfl (fun M7 => ?_)
      refine V_iinc (y := (l2 + 1)) (L' := [(0, .ref this), (2, .int (l2 + 1))]) dX5_removeAt_37 rfl 1 rfl rfl (by decide) rfl ?_
      refine V_goto (q := 15) dX5_removeAt_40 (by decide) ?_
      exact ih this (l2 + 1) M7
theorem v_X5_removeAt (this : Nat) (a1 : Int32) (M : Mem) : V mi_X5_removeAt 0 [(0, .ref this), (1, .int a1)] [] M 0 0 (f_X5_removeAt this a1 M) wV := by
  unfold f_X5_removeAt
  refine V_ob fun _ _ => ?_
  refine V_iload_n dX5_removeAt_0 rfl 1 rfl ?_
  refine V_if_lt (q := 12) (q2 := 4) dX5_removeAt_1 (by decide) rfl ?_ ?_
  · exact V_vret dX5_removeAt_12 rfl rfl ⟨(Nat.le_of_ble_eq_true rfl), (Nat.le_of_ble_eq_true rfl)⟩
  · refine V_iload_n dX5_removeAt_4 rfl 1 rfl ?_
    refine V_aload_n dX5_removeAt_5 rfl 0 rfl ?_
    refine V_getI dX5_removeAt_6 rfl (ci := 4) (T := TX5) rfl (by decide) fl_X5_15 (fun x1 => ?_)
    refine V_icmp_lt (q := 13) (q2 := 12) dX5_removeAt_9 (by decide) rfl ?_ ?_
    · refine V_iload_n dX5_removeAt_13 rfl 1 rfl ?_
      refine V_istore_n (L' := [(0, .ref this), (1, .int a1), (2, .int a1)]) dX5_removeAt_14 rfl (by decide) rfl ?_
      exact V_sub [0, 2] rfl (v_X5_removeAt_15 FU this a1 M)
    · exact V_vret dX5_removeAt_12 rfl rfl ⟨(Nat.le_of_ble_eq_true rfl), (Nat.le_of_ble_eq_true rfl)⟩
theorem k_X5_removeAt (this : Nat) (a1 : Int32) (M : Mem) : K mi_X5_removeAt [.ref this, .int a1] M (f_X5_removeAt this a1 M) wV := K_of_V ok_X5_removeAt (Nat.le_of_ble_eq_true rfl) (v_X5_removeAt this a1 M)
theorem o_X5_removeAt {this : Nat} {a1 : Int32} {M : Mem} {x} (h : f_X5_removeAt this a1 M = some x) : isO M 4 this = true := (ob_of h).1
theorem dX5_increase_0 : decode cX5_increase 0 = .ok (.aload_n 0, 1) := by decide +kernel
theorem dX5_increase_1 : decode cX5_increase 1 = .ok (.iload_n 1, 1) := by decide +kernel
theorem dX5_increase_2 : decode cX5_increase 2 = .ok (.aload_n 0, 1) := by decide +kernel
theorem dX5_increase_3 : decode cX5_increase 3 = .ok (.iload_n 1, 1) := by decide +kernel
theorem dX5_increase_4 : decode cX5_increase 4 = .ok (.invokevirtual 19, 3) := by decide +kernel
theorem dX5_increase_7 : decode cX5_increase 7 = .ok (.iload_n 2, 1) := by decide +kernel
theorem dX5_increase_8 : decode cX5_increase 8 = .ok (.iadd, 1) := by decide +kernel
theorem dX5_increase_9 : decode cX5_increase 9 = .ok (.invokevirtual 23, 3) := by decide +kernel
theorem dX5_increase_12 : decode cX5_increase 12 = .ok (.return_, 1) := by decide +kernel
def mi_X5_increase : MI := (RX5, yX5_increase, cX5_increase, 3, none, [], { frames := 2, cells := 0, slots := 0, locals := 34 })
theorem ok_X5_increase : mOK mi_X5_increase 2 := ⟨rfl, cw_X5_increase, ini_X5, ⟨rfl, by decide⟩, by decide, by decide, rfl⟩
theorem v_X5_increase (this : Nat) (a1 : Int32) (a2 : Int32) (M : Mem) : V mi_X5_increase 0 [(0, .ref this), (1, .int a1), (2, .int a2)] [] M 0 0 (f_X5_increase this a1 a2 M) wV := by
  unfold f_X5_increase
  refine V_ob fun _ _ => ?_
  refine V_aload_n dX5_increase_0 rfl 0 rfl ?_
  refine V_iload_n dX5_increase_1 rfl 1 rfl ?_
  refine V_aload_n dX5_increase_2 rfl 0 rfl ?_
  refine V_iload_n dX5_increase_3 rfl 1 rfl ?_
  refine V_cVeI (As := [.int a1]) (k_X5_get this a1 M) (fun _ h => o_X5_get h) ok_X5_get im_X5_get se_X5_get rfl (ci := 4) rfl ml_X5_19 ⟨⟨(Nat.le_of_ble_eq_true rfl), (Nat.le_of_ble_eq_true rfl)⟩, (Nat.le_of_ble_eq_true rfl), (Nat.le_of_ble_eq_true rfl)⟩ dX5_increase_4 rfl rfl rfl (Nat.le_of_ble_eq_true rfl) rfl rfl (fun x1 => ?_)
  refine V_iload_n dX5_increase_7 rfl 2 rfl ?_
  refine V_iadd dX5_increase_8 rfl ?_
  refine V_cVwV (As := [.int a1, .int (x1 + a2)]) (k_X5_set this a1 (x1 + a2) M) (fun _ h => o_X5_set h) ok_X5_set im_X5_set se_X5_set rfl (ci := 4) rfl ml_X5_23 ⟨⟨(Nat.le_of_ble_eq_true rfl), (Nat.le_of_ble_eq_true rfl)⟩, (Nat.le_of_ble_eq_true rfl), (Nat.le_of_ble_eq_true rfl)⟩ dX5_increase_9 rfl rfl rfl (Nat.le_of_ble_eq_true rfl) rfl rfl (fun M3 => ?_)
  exact V_vret dX5_increase_12 rfl rfl ⟨(Nat.le_of_ble_eq_true rfl), (Nat.le_of_ble_eq_true rfl)⟩
theorem k_X5_increase (this : Nat) (a1 : Int32) (a2 : Int32) (M : Mem) : K mi_X5_increase [.ref this, .int a1, .int a2] M (f_X5_increase this a1 a2 M) wV := K_of_V ok_X5_increase (Nat.le_of_ble_eq_true rfl) (v_X5_increase this a1 a2 M)
theorem o_X5_increase {this : Nat} {a1 : Int32} {a2 : Int32} {M : Mem} {x} (h : f_X5_increase this a1 a2 M = some x) : isO M 4 this = true := (ob_of h).1
theorem dX5_becomeZeros_0 : decode cX5_becomeZeros 0 = .ok (.aload_n 0, 1) := by decide +kernel
theorem dX5_becomeZeros_1 : decode cX5_becomeZeros 1 = .ok (.invokevirtual 27, 3) := by decide +kernel
theorem dX5_becomeZeros_4 : decode cX5_becomeZeros 4 = .ok (.iconst 0, 1) := by decide +kernel
theorem dX5_becomeZeros_5 : decode cX5_becomeZeros 5 = .ok (.istore_n 2, 1) := by decide +kernel
theorem dX5_becomeZeros_6 : decode cX5_becomeZeros 6 = .ok (.iload_n 2, 1) := by decide +kernel
theorem dX5_becomeZeros_7 : decode cX5_becomeZeros 7 = .ok (.iload_n 1, 1) := by decide +kernel
theorem dX5_becomeZeros_8 : decode cX5_becomeZeros 8 = .ok (.if_icmp .ge 14, 3) := by decide +kernel
theorem dX5_becomeZeros_11 : decode cX5_becomeZeros 11 = .ok (.aload_n 0, 1) := by decide +kernel
theorem dX5_becomeZeros_12 : decode cX5_becomeZeros 12 = .ok (.iconst 0, 1) := by decide +kernel
theorem dX5_becomeZeros_13 : decode cX5_becomeZeros 13 = .ok (.invokevirtual 30, 3) := by decide +kernel
theorem dX5_becomeZeros_16 : decode cX5_becomeZeros 16 = .ok (.iinc 2 1, 3) := by decide +kernel
theorem dX5_becomeZeros_19 : decode cX5_becomeZeros 19 = .ok (.goto (-13), 3) := by decide +kernel
theorem dX5_becomeZeros_22 : decode cX5_becomeZeros 22 = .ok (.return_, 1) := by decide +kernel
def mi_X5_becomeZeros : MI := (RX5, yX5_becomeZeros, cX5_becomeZeros, 3, none, [], { frames := 2, cells := 0, slots := 0, locals := 33 })
theorem ok_X5_becomeZeros : mOK mi_X5_becomeZeros 1 := ⟨rfl, cw_X5_becomeZeros, ini_X5, ⟨rfl, by decide⟩, by decide, by decide, rfl⟩
theorem v_X5_becomeZeros_6 : ∀ (fu : Nat) (this : Nat) (l1 : Int32) (l2 : Int32) (M : Mem), V mi_X5_becomeZeros 6 [(0, .ref this), (1, .int l1), (2, .int l2)] [] M 0 0 (f_X5_becomeZeros_6 fu this l1 l2 M) wV := by
  intro fu
  induction fu with
  | zero => intros; exact V_none
  | succ fu ih =>
    intro this l1 l2 M
    show V mi_X5_becomeZeros 6 [(0, .ref this), (1, .int l1), (2, .int l2)] [] M 0 0 (f_X5_becomeZeros_6 (fu + 1) this l1 l2 M) wV
    unfold f_X5_becomeZeros_6
    refine V_iload_n dX5_becomeZeros_6 rfl 2 rfl ?_
    refine V_iload_n dX5_becomeZeros_7 rfl 1 rfl ?_
    refine V_icmp_ge (q := 22) (q2 := 11) dX5_becomeZeros_8 (by decide) rfl ?_ ?_
    · exact V_vret dX5_becomeZeros_22 rfl rfl ⟨(Nat.le_of_ble_eq_true rfl), (Nat.le_of_ble_eq_true rfl)⟩
    · refine V_aload_n dX5_becomeZeros_11 rfl 0 rfl ?_
      refine V_iconst (x := 0) dX5_becomeZeros_12 rfl rfl ?_
      refine V_cVwV (As := [.int 0]) (k_X5_add this 0 M) (fun _ h => o_X5_add h) ok_X5_add im_X5_add se_X5_add rfl (ci := 4) rfl ml_X5_30 ⟨⟨(Nat.le_of_ble_eq_true rfl), (Nat.le_of_ble_eq_true rfl)⟩, (Nat.le_of_ble_eq_true rfl), (Nat.le_of_ble_eq_true rfl)⟩ dX5_becomeZeros_13 rfl rfl rfl (Nat.le_of_ble_eq_true rfl) rfl rfl (fun M4 => ?_)
      refine V_iinc (y := (l2 + 1)) (L' := [(0, .ref this), (1, .int l1), (2, .int (l2 + 1))]) dX5_becomeZeros_16 rfl 2 rfl rfl (by decide) rfl ?_
      refine V_goto (q := 6) dX5_becomeZeros_19 (by decide) ?_
      exact ih this l1 (l2 + 1) M4
theorem v_X5_becomeZeros (this : Nat) (a1 : Int32) (M : Mem) : V mi_X5_becomeZeros 0 [(0, .ref this), (1, .int a1)] [] M 0 0 (f_X5_becomeZeros this a1 M) wV := by
  unfold f_X5_becomeZeros
  refine V_ob fun _ _ => ?_
  refine V_aload_n dX5_becomeZeros_0 rfl 0 rfl ?_
  refine V_cVwV (As := []) (k_X5_clear this M) (fun _ h => o_X5_clear h) ok_X5_clear im_X5_clear se_X5_clear rfl (ci := 4) rfl ml_X5_27 ⟨⟨(Nat.le_of_ble_eq_true rfl), (Nat.le_of_ble_eq_true rfl)⟩, (Nat.le_of_ble_eq_true rfl), (Nat.le_of_ble_eq_true rfl)⟩ dX5_becomeZeros_1 rfl rfl rfl (Nat.le_of_ble_eq_true rfl) rfl rfl (fun M2 => ?_)
  refine V_iconst (x := 0) dX5_becomeZeros_4 rfl rfl ?_
  refine V_istore_n (L' := [(0, .ref this), (1, .int a1), (2, .int 0)]) dX5_becomeZeros_5 rfl (by decide) rfl ?_
  exact v_X5_becomeZeros_6 FU this a1 0 M2
theorem k_X5_becomeZeros (this : Nat) (a1 : Int32) (M : Mem) : K mi_X5_becomeZeros [.ref this, .int a1] M (f_X5_becomeZeros this a1 M) wV := K_of_V ok_X5_becomeZeros (Nat.le_of_ble_eq_true rfl) (v_X5_becomeZeros this a1 M)
theorem o_X5_becomeZeros {this : Nat} {a1 : Int32} {M : Mem} {x} (h : f_X5_becomeZeros this a1 M = some x) : isO M 4 this = true := (ob_of h).1
