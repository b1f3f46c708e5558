def f_X5_init_244 (this : Nat) (M : Mem) : Option Mem :=
  ob M 4 this (
    (alc M).bind fun r1 =>
    (pV (mnew M (.inl (0, (244, .inl (fun _ => 0))))) 4 0 this (.ref r1)).bind fun M2 =>
    (pV M2 4 1 this (.int 0)).bind fun M3 =>
    some M3
  )
def f_X4_init (this : Nat) (M : Mem) : Option Mem :=
  ob M 3 this (
    (alc M).bind fun r1 =>
    (f_X5_init_244 r1 (mnew M (.inr (4, [.null, .int 0])))).bind fun M3 =>
    (pV M3 3 0 this (.ref r1)).bind fun M4 =>
    (alc M4).bind fun r5 =>
    (f_X5_init_244 r5 (mnew M4 (.inr (4, [.null, .int 0])))).bind fun M7 =>
    (pV M7 3 1 this (.ref r5)).bind fun M8 =>
    (alc M8).bind fun r9 =>
    (f_X5_init_244 r9 (mnew M8 (.inr (4, [.null, .int 0])))).bind fun M11 =>
    (pV M11 3 2 this (.ref r9)).bind fun M12 =>
    (alc M12).bind fun r13 =>
    (f_X5_init_244 r13 (mnew M12 (.inr (4, [.null, .int 0])))).bind fun M15 =>
    (pV M15 3 3 this (.ref r13)).bind fun M16 =>
    some M16
  )
def f_X4_size (this : Nat) (M : Mem) : Option Int32 :=
  ob M 3 this (
    (gR M 3 0 this).bind fun x1 =>
    (f_X5_size x1 M).bind fun x2 =>
    some x2
  )
def f_X4_clear (this : Nat) (M : Mem) : Option Mem :=
  ob M 3 this (
    (gR M 3 0 this).bind fun x1 =>
    (f_X5_clear x1 M).bind fun M3 =>
    (gR M3 3 1 this).bind fun x4 =>
    (f_X5_clear x4 M3).bind fun M6 =>
    (gR M6 3 2 this).bind fun x7 =>
    (f_X5_clear x7 M6).bind fun M9 =>
    (gR M9 3 3 this).bind fun x10 =>
    (f_X5_clear x10 M9).bind fun M12 =>
    some M12
  )
def f_X4_add (this : Nat) (a1 : Int32) (a2 : Int32) (a3 : Int32) (a4 : Int32) (M : Mem) : Option Mem :=
  ob M 3 this (
    (gR M 3 0 this).bind fun x1 =>
    (f_X5_add x1 a1 M).bind fun M3 =>
    (gR M3 3 1 this).bind fun x4 =>
    (f_X5_add x4 a2 M3).bind fun M6 =>
    (gR M6 3 2 this).bind fun x7 =>
    (f_X5_add x7 a3 M6).bind fun M9 =>
    (gR M9 3 3 this).bind fun x10 =>
    (f_X5_add x10 a4 M9).bind fun M12 =>
    some M12
  )
theorem ml_X4_11 : (Cond.methodLink RX4 11 yX5_init) ∈ cr_U := mem_U (i := 226) (by decide +kernel) rfl
theorem fl_X4_14_w : (Cond.fieldLink RX4 14 (TX4 0).1 (TX4 0).2.1 (TX4 0).2.2.1) ∈ cr_U := mem_U (i := 227) (by decide +kernel) rfl
theorem fl_X4_14 : flk RX4 14 (TX4 0) := Or.inl fl_X4_14_w
theorem fl_X4_20_w : (Cond.fieldLink RX4 20 (TX4 1).1 (TX4 1).2.1 (TX4 1).2.2.1) ∈ cr_U := mem_U (i := 229) (by decide +kernel) rfl
theorem fl_X4_20 : flk RX4 20 (TX4 1) := Or.inl fl_X4_20_w
theorem fl_X4_23_w : (Cond.fieldLink RX4 23 (TX4 2).1 (TX4 2).2.1 (TX4 2).2.2.1) ∈ cr_U := mem_U (i := 231) (by decide +kernel) rfl
theorem fl_X4_23 : flk RX4 23 (TX4 2) := Or.inl fl_X4_23_w
theorem fl_X4_26_w : (Cond.fieldLink RX4 26 (TX4 3).1 (TX4 3).2.1 (TX4 3).2.2.1) ∈ cr_U := mem_U (i := 233) (by decide +kernel) rfl
theorem fl_X4_26 : flk RX4 26 (TX4 3) := Or.inl fl_X4_26_w
theorem cl_X4_9 : (Cond.classLink RX4 9 RX5) ∈ cr_U := mem_U (i := 225) (by decide +kernel) rfl
theorem ml_X4_3 : (Cond.methodLink RX4 3 Lib.objectInit) ∈ cr_U := mem_U (i := 224) (by decide +kernel) rfl
theorem cw_X4_init : (Cond.code yX4_init cX4_init 1 (none)) ∈ cr_U := mem_U (i := 223) (by decide +kernel) rfl
theorem ini_X4 : (Cond.initialized RX4) ∈ cr_U := mem_U (i := 33) (by decide +kernel) rfl
theorem ml_X4_29 : (Cond.methodLink RX4 29 yX5_size) ∈ cr_U := mem_U (i := 391) (by decide +kernel) rfl
theorem cw_X4_size : (Cond.code yX4_size cX4_size 1 (some .int)) ∈ cr_U := mem_U (i := 390) (by decide +kernel) rfl
theorem ml_X4_33 : (Cond.methodLink RX4 33 yX5_clear) ∈ cr_U := mem_U (i := 1203) (by decide +kernel) rfl
theorem cw_X4_clear : (Cond.code yX4_clear cX4_clear 1 (none)) ∈ cr_U := mem_U (i := 1202) (by decide +kernel) rfl
theorem ml_X4_36 : (Cond.methodLink RX4 36 yX5_add) ∈ cr_U := mem_U (i := 1325) (by decide +kernel) rfl
theorem cw_X4_add : (Cond.code yX4_add cX4_add 5 (none)) ∈ cr_U := mem_U (i := 1324) (by decide +kernel) rfl
def mi_X5_init_244 : MI := (RX5, yX5_init, cX5_init, 2, none, [], { frames := 1, cells := 1, slots := 244, locals := 12 })
theorem ok_X5_init_244 : mOK mi_X5_init_244 1 := ⟨rfl, cw_X5_init, ini_X5, ⟨rfl, by decide⟩, by decide, by decide, rfl⟩
theorem v_X5_init_244 (this : Nat) (M : Mem) : V mi_X5_init_244 0 [(0, .ref this), (1, .int 244)] [] M 0 0 (f_X5_init_244 this M) wV := by
  unfold f_X5_init_244
  refine V_ob fun _ _ => ?_
  refine V_aload_n dX5_init_0 rfl 0 rfl ?_
  refine V_objInit ml_X5_3 dX5_init_1 rfl ⟨(Nat.le_of_ble_eq_true rfl), (Nat.le_of_ble_eq_true rfl)⟩ ?_
  refine V_aload_n dX5_init_4 rfl 0 rfl ?_
  refine V_iload_n dX5_init_5 rfl 1 rfl ?_
  refine V_if_ge_t (q := 13) (q2 := 9) dX5_init_6 (by decide) rfl (by decide) ?_
  refine V_iload_n dX5_init_13 rfl 1 rfl ?_
  refine V_newarray dX5_init_14 rfl (t := 0) (N := 244) (x := (244, .inl (fun _ => 0))) rfl ar_0 (by decide) rfl (Nat.le_of_ble_eq_true rfl) (fun _ _ => rfl) (fun _ _ h => h) ⟨(Nat.le_of_ble_eq_true rfl), (Nat.le_of_ble_eq_true rfl)⟩ (fun r1 => ?_)
  refine V_putFR dX5_init_16 rfl (ci := 4) (T := TX5) rfl (by decide) fl_X5_9_w rfl rfl rfl rfl (fun _ => rfl) (fun _ => rfl) (fun M2 => ?_)
  refine V_aload_n dX5_init_19 rfl 0 rfl ?_
  refine V_iconst (x := 0) dX5_init_20 rfl rfl ?_
  refine V_putI dX5_init_21 rfl (ci := 4) (T := TX5) rfl (by decide) fl_X5_15 rfl rfl (fun M3 => ?_)
  exact V_vret dX5_init_24 rfl rfl ⟨(Nat.le_of_ble_eq_true rfl), (Nat.le_of_ble_eq_true rfl)⟩
theorem k_X5_init_244 (this : Nat) (M : Mem) : K mi_X5_init_244 [.ref this, .int 244] M (f_X5_init_244 this M) wV := K_of_V ok_X5_init_244 (Nat.le_of_ble_eq_true rfl) (v_X5_init_244 this M)
theorem o_X5_init_244 {this : Nat} {M : Mem} {x} (h : f_X5_init_244 this M = some x) : isO M 4 this = true := (ob_of h).1
theorem dX4_init_0 : decode cX4_init 0 = .ok (.aload_n 0, 1) := by decide +kernel
theorem dX4_init_1 : decode cX4_init 1 = .ok (.invokespecial 3, 3) := by decide +kernel
theorem dX4_init_4 : decode cX4_init 4 = .ok (.aload_n 0, 1) := by decide +kernel
theorem dX4_init_5 : decode cX4_init 5 = .ok (.new 9, 3) := by decide +kernel
theorem dX4_init_8 : decode cX4_init 8 = .ok (.dup, 1) := by decide +kernel
theorem dX4_init_9 : decode cX4_init 9 = .ok (.sipush 244, 3) := by decide +kernel
theorem dX4_init_12 : decode cX4_init 12 = .ok (.invokespecial 11, 3) := by decide +kernel
theorem dX4_init_15 : decode cX4_init 15 = .ok (.putfield 14, 3) := by decide +kernel
theorem dX4_init_18 : decode cX4_init 18 = .ok (.aload_n 0, 1) := by decide +kernel
theorem dX4_init_19 : decode cX4_init 19 = .ok (.new 9, 3) := by decide +kernel
theorem dX4_init_22 : decode cX4_init 22 = .ok (.dup, 1) := by decide +kernel
theorem dX4_init_23 : decode cX4_init 23 = .ok (.sipush 244, 3) := by decide +kernel
theorem dX4_init_26 : decode cX4_init 26 = .ok (.invokespecial 11, 3) := by decide +kernel
theorem dX4_init_29 : decode cX4_init 29 = .ok (.putfield 20, 3) := by decide +kernel
theorem dX4_init_32 : decode cX4_init 32 = .ok (.aload_n 0, 1) := by decide +kernel
theorem dX4_init_33 : decode cX4_init 33 = .ok (.new 9, 3) := by decide +kernel
theorem dX4_init_36 : decode cX4_init 36 = .ok (.dup, 1) := by decide +kernel
theorem dX4_init_37 : decode cX4_init 37 = .ok (.sipush 244, 3) := by decide +kernel
theorem dX4_init_40 : decode cX4_init 40 = .ok (.invokespecial 11, 3) := by decide +kernel
theorem dX4_init_43 : decode cX4_init 43 = .ok (.putfield 23, 3) := by decide +kernel
theorem dX4_init_46 : decode cX4_init 46 = .ok (.aload_n 0, 1) := by decide +kernel
theorem dX4_init_47 : decode cX4_init 47 = .ok (.new 9, 3) := by decide +kernel
theorem dX4_init_50 : decode cX4_init 50 = .ok (.dup, 1) := by decide +kernel
theorem dX4_init_51 : decode cX4_init 51 = .ok (.sipush 244, 3) := by decide +kernel
theorem dX4_init_54 : decode cX4_init 54 = .ok (.invokespecial 11, 3) := by decide +kernel
theorem dX4_init_57 : decode cX4_init 57 = .ok (.putfield 26, 3) := by decide +kernel
theorem dX4_init_60 : decode cX4_init 60 = .ok (.return_, 1) := by decide +kernel
def mi_X4_init : MI := (RX4, yX4_init, cX4_init, 1, none, [], { frames := 3, cells := 8, slots := 984, locals := 60 })
theorem ok_X4_init : mOK mi_X4_init 0 := ⟨rfl, cw_X4_init, ini_X4, ⟨rfl, by decide⟩, by decide, by decide, rfl⟩
theorem v_X4_init (this : Nat) (M : Mem) : V mi_X4_init 0 [(0, .ref this)] [] M 0 0 (f_X4_init this M) wV := by
  unfold f_X4_init
  refine V_ob fun _ _ => ?_
  refine V_aload_n dX4_init_0 rfl 0 rfl ?_
  refine V_objInit ml_X4_3 dX4_init_1 rfl ⟨(Nat.le_of_ble_eq_true rfl), (Nat.le_of_ble_eq_true rfl)⟩ ?_
  refine V_aload_n dX4_init_4 rfl 0 rfl ?_
  refine V_new dX4_init_5 rfl (ci := 4) (T := TX5) (N := 2) (fs := [.null, .int 0]) (ty := tyX5) rfl cl_X4_9 ins_X5 ini_X5 tyX5_ok (fun _ j hj => match j, hj with | 0, _ => rfl | 1, _ => rfl | j + 2, h => absurd h (by omega)) ⟨(Nat.le_of_ble_eq_true rfl), (Nat.le_of_ble_eq_true rfl)⟩ (fun r1 => ?_)
  refine V_dup dX4_init_8 rfl rfl ?_
  refine V_sipush (x := 244) dX4_init_9 rfl rfl ?_
  refine V_cIwV (As := [.int 244]) (k_X5_init_244 r1 (mnew M (.inr (4, [.null, .int 0])))) ok_X5_init_244 im_X5_init ml_X4_11 ⟨⟨(Nat.le_of_ble_eq_true rfl), (Nat.le_of_ble_eq_true rfl)⟩, (Nat.le_of_ble_eq_true rfl), (Nat.le_of_ble_eq_true rfl)⟩ rfl rfl dX4_init_12 rfl rfl rfl (Nat.le_of_ble_eq_true rfl) rfl rfl (fun M3 => ?_)
  refine V_putFR dX4_init_15 rfl (ci := 3) (T := TX4) rfl (by decide) fl_X4_14_w rfl rfl rfl rfl (fun _ => rfl) (fun _ => rfl) (fun M4 => ?_)
  refine V_aload_n dX4_init_18 rfl 0 rfl ?_
  refine V_new dX4_init_19 rfl (ci := 4) (T := TX5) (N := 2) (fs := [.null, .int 0]) (ty := tyX5) rfl cl_X4_9 ins_X5 ini_X5 tyX5_ok (fun _ j hj => match j, hj with | 0, _ => rfl | 1, _ => rfl | j + 2, h => absurd h (by omega)) ⟨(Nat.le_of_ble_eq_true rfl), (Nat.le_of_ble_eq_true rfl)⟩ (fun r5 => ?_)
  refine V_dup dX4_init_22 rfl rfl ?_
  refine V_sipush (x := 244) dX4_init_23 rfl rfl ?_
  refine V_cIwV (As := [.int 244]) (k_X5_init_244 r5 (mnew M4 (.inr (4, [.null, .int 0])))) ok_X5_init_244 im_X5_init ml_X4_11 ⟨⟨(Nat.le_of_ble_eq_true rfl), (Nat.le_of_ble_eq_true rfl)⟩, (Nat.le_of_ble_eq_true rfl), (Nat.le_of_ble_eq_true rfl)⟩ rfl rfl dX4_init_26 rfl rfl rfl (Nat.le_of_ble_eq_true rfl) rfl rfl (fun M7 => ?_)
  refine V_putFR dX4_init_29 rfl (ci := 3) (T := TX4) rfl (by decide) fl_X4_20_w rfl rfl rfl rfl (fun _ => rfl) (fun _ => rfl) (fun M8 => ?_)
  refine V_aload_n dX4_init_32 rfl 0 rfl ?_
  refine V_new dX4_init_33 rfl (ci := 4) (T := TX5) (N := 2) (fs := [.null, .int 0]) (ty := tyX5) rfl cl_X4_9 ins_X5 ini_X5 tyX5_ok (fun _ j hj => match j, hj with | 0, _ => rfl | 1, _ => rfl | j + 2, h => absurd h (by omega)) ⟨(Nat.le_of_ble_eq_true rfl), (Nat.le_of_ble_eq_true rfl)⟩ (fun r9 => ?_)
  refine V_dup dX4_init_36 rfl rfl ?_
  refine V_sipush (x := 244) dX4_init_37 rfl rfl ?_
  refine V_cIwV (As := [.int 244]) (k_X5_init_244 r9 (mnew M8 (.inr (4, [.null, .int 0])))) ok_X5_init_244 im_X5_init ml_X4_11 ⟨⟨(Nat.le_of_ble_eq_true rfl), (Nat.le_of_ble_eq_true rfl)⟩, (Nat.le_of_ble_eq_true rfl), (Nat.le_of_ble_eq_true rfl)⟩ rfl rfl dX4_init_40 rfl rfl rfl (Nat.le_of_ble_eq_true rfl) rfl rfl (fun M11 => ?_)
  refine V_putFR dX4_init_43 rfl (ci := 3) (T := TX4) rfl (by decide) fl_X4_23_w rfl rfl rfl rfl (fun _ => rfl) (fun _ => rfl) (fun M12 => ?_)
  refine V_aload_n dX4_init_46 rfl 0 rfl ?_
  refine V_new dX4_init_47 rfl (ci := 4) (T := TX5) (N := 2) (fs := [.null, .int 0]) (ty := tyX5) rfl cl_X4_9 ins_X5 ini_X5 tyX5_ok (fun _ j hj => match j, hj with | 0, _ => rfl | 1, _ => rfl | j + 2, h => absurd h (by omega)) ⟨(Nat.le_of_ble_eq_true rfl), (Nat.le_of_ble_eq_true rfl)⟩ (fun r13 => ?_)
  refine V_dup dX4_init_50 rfl rfl ?_
  refine V_sipush (x := 244) dX4_init_51 rfl rfl ?_
  refine V_cIwV (As := [.int 244]) (k_X5_init_244 r13 (mnew M12 (.inr (4, [.null, .int 0])))) ok_X5_init_244 im_X5_init ml_X4_11 ⟨⟨(Nat.le_of_ble_eq_true rfl), (Nat.le_of_ble_eq_true rfl)⟩, (Nat.le_of_ble_eq_true rfl), (Nat.le_of_ble_eq_true rfl)⟩ rfl rfl dX4_init_54 rfl rfl rfl (Nat.le_of_ble_eq_true rfl) rfl rfl (fun M15 => ?_)
  refine V_putFR dX4_init_57 rfl (ci := 3) (T := TX4) rfl (by decide) fl_X4_26_w rfl rfl rfl rfl (fun _ => rfl) (fun _ => rfl) (fun M16 => ?_)
  exact V_vret dX4_init_60 rfl rfl ⟨(Nat.le_of_ble_eq_true rfl), (Nat.le_of_ble_eq_true rfl)⟩
theorem k_X4_init (this : Nat) (M : Mem) : K mi_X4_init [.ref this] M (f_X4_init this M) wV := K_of_V ok_X4_init (Nat.le_of_ble_eq_true rfl) (v_X4_init this M)
theorem o_X4_init {this : Nat} {M : Mem} {x} (h : f_X4_init this M = some x) : isO M 3 this = true := (ob_of h).1
theorem dX4_size_0 : decode cX4_size 0 = .ok (.aload_n 0, 1) := by decide +kernel
theorem dX4_size_1 : decode cX4_size 1 = .ok (.getfield 14, 3) := by decide +kernel
theorem dX4_size_4 : decode cX4_size 4 = .ok (.invokevirtual 29, 3) := by decide +kernel
theorem dX4_size_7 : decode cX4_size 7 = .ok (.ireturn, 1) := by decide +kernel
def mi_X4_size : MI := (RX4, yX4_size, cX4_size, 1, some .int, [], { frames := 2, cells := 0, slots := 0, locals := 32 })
theorem ok_X4_size : mOK mi_X4_size 0 := ⟨rfl, cw_X4_size, ini_X4, ⟨rfl, by decide⟩, by decide, by decide, rfl⟩
theorem v_X4_size (this : Nat) (M : Mem) : V mi_X4_size 0 [(0, .ref this)] [] M 0 0 (f_X4_size this M) (eI M) := by
  unfold f_X4_size
  refine V_ob fun _ _ => ?_
  refine V_aload_n dX4_size_0 rfl 0 rfl ?_
  refine V_getR dX4_size_1 rfl (ci := 3) (T := TX4) rfl (by decide) fl_X4_14 (fun x1 => ?_)
  refine V_cVeI (As := []) (k_X5_size x1 M) (fun _ h => o_X5_size h) ok_X5_size im_X5_size se_X5_size rfl (ci := 4) rfl ml_X4_29 ⟨⟨(Nat.le_of_ble_eq_true rfl), (Nat.le_of_ble_eq_true rfl)⟩, (Nat.le_of_ble_eq_true rfl), (Nat.le_of_ble_eq_true rfl)⟩ dX4_size_4 rfl rfl rfl (Nat.le_of_ble_eq_true rfl) rfl rfl (fun x2 => ?_)
  exact V_iret dX4_size_7 rfl rfl ⟨(Nat.le_of_ble_eq_true rfl), (Nat.le_of_ble_eq_true rfl)⟩
theorem k_X4_size (this : Nat) (M : Mem) : K mi_X4_size [.ref this] M (f_X4_size this M) (eI M) := K_of_V ok_X4_size (Nat.le_of_ble_eq_true rfl) (v_X4_size this M)
theorem o_X4_size {this : Nat} {M : Mem} {x} (h : f_X4_size this M = some x) : isO M 3 this = true := (ob_of h).1
theorem dX4_clear_0 : decode cX4_clear 0 = .ok (.aload_n 0, 1) := by decide +kernel
theorem dX4_clear_1 : decode cX4_clear 1 = .ok (.getfield 14, 3) := by decide +kernel
theorem dX4_clear_4 : decode cX4_clear 4 = .ok (.invokevirtual 33, 3) := by decide +kernel
theorem dX4_clear_7 : decode cX4_clear 7 = .ok (.aload_n 0, 1) := by decide +kernel
theorem dX4_clear_8 : decode cX4_clear 8 = .ok (.getfield 20, 3) := by decide +kernel
theorem dX4_clear_11 : decode cX4_clear 11 = .ok (.invokevirtual 33, 3) := by decide +kernel
theorem dX4_clear_14 : decode cX4_clear 14 = .ok (.aload_n 0, 1) := by decide +kernel
theorem dX4_clear_15 : decode cX4_clear 15 = .ok (.getfield 23, 3) := by decide +kernel
theorem dX4_clear_18 : decode cX4_clear 18 = .ok (.invokevirtual 33, 3) := by decide +kernel
theorem dX4_clear_21 : decode cX4_clear 21 = .ok (.aload_n 0, 1) := by decide +kernel
theorem dX4_clear_22 : decode cX4_clear 22 = .ok (.getfield 26, 3) := by decide +kernel
theorem dX4_clear_25 : decode cX4_clear 25 = .ok (.invokevirtual 33, 3) := by decide +kernel
theorem dX4_clear_28 : decode cX4_clear 28 = .ok (.return_, 1) := by decide +kernel
def mi_X4_clear : MI := (RX4, yX4_clear, cX4_clear, 1, none, [], { frames := 2, cells := 0, slots := 0, locals := 32 })
theorem ok_X4_clear : mOK mi_X4_clear 0 := ⟨rfl, cw_X4_clear, ini_X4, ⟨rfl, by decide⟩, by decide, by decide, rfl⟩
theorem v_X4_clear (this : Nat) (M : Mem) : V mi_X4_clear 0 [(0, .ref this)] [] M 0 0 (f_X4_clear this M) wV := by
  unfold f_X4_clear
  refine V_ob fun _ _ => ?_
  refine V_aload_n dX4_clear_0 rfl 0 rfl ?_
  refine V_getR dX4_clear_1 rfl (ci := 3) (T := TX4) rfl (by decide) fl_X4_14 (fun x1 => ?_)
  refine V_cVwV (As := []) (k_X5_clear x1 M) (fun _ h => o_X5_clear h) ok_X5_clear im_X5_clear se_X5_clear rfl (ci := 4) rfl ml_X4_33 ⟨⟨(Nat.le_of_ble_eq_true rfl), (Nat.le_of_ble_eq_true rfl)⟩, (Nat.le_of_ble_eq_true rfl), (Nat.le_of_ble_eq_true rfl)⟩ dX4_clear_4 rfl rfl rfl (Nat.le_of_ble_eq_true rfl) rfl rfl (fun M3 => ?_)
  refine V_aload_n dX4_clear_7 rfl 0 rfl ?_
  refine V_getR dX4_clear_8 rfl (ci := 3) (T := TX4) rfl (by decide) fl_X4_20 (fun x4 => ?_)
  refine V_cVwV (As := []) (k_X5_clear x4 M3) (fun _ h => o_X5_clear h) ok_X5_clear im_X5_clear se_X5_clear rfl (ci := 4) rfl ml_X4_33 ⟨⟨(Nat.le_of_ble_eq_true rfl), (Nat.le_of_ble_eq_true rfl)⟩, (Nat.le_of_ble_eq_true rfl), (Nat.le_of_ble_eq_true rfl)⟩ dX4_clear_11 rfl rfl rfl (Nat.le_of_ble_eq_true rfl) rfl rfl (fun M6 => ?_)
  refine V_aload_n dX4_clear_14 rfl 0 rfl ?_
  refine V_getR dX4_clear_15 rfl (ci := 3) (T := TX4) rfl (by decide) fl_X4_23 (fun x7 => ?_)
  refine V_cVwV (As := []) (k_X5_clear x7 M6) (fun _ h => o_X5_clear h) ok_X5_clear im_X5_clear se_X5_clear rfl (ci := 4) rfl ml_X4_33 ⟨⟨(Nat.le_of_ble_eq_true rfl), (Nat.le_of_ble_eq_true rfl)⟩, (Nat.le_of_ble_eq_true rfl), (Nat.le_of_ble_eq_true rfl)⟩ dX4_clear_18 rfl rfl rfl (Nat.le_of_ble_eq_true rfl) rfl rfl (fun M9 => ?_)
  refine V_aload_n dX4_clear_21 rfl 0 rfl ?_
  refine V_getR dX4_clear_22 rfl (ci := 3) (T := TX4) rfl (by decide) fl_X4_26 (fun x10 => ?_)
  refine V_cVwV (As := []) (k_X5_clear x10 M9) (fun _ h => o_X5_clear h) ok_X5_clear im_X5_clear se_X5_clear rfl (ci := 4) rfl ml_X4_33 ⟨⟨(Nat.le_of_ble_eq_true rfl), (Nat.le_of_ble_eq_true rfl)⟩, (Nat.le_of_ble_eq_true rfl), (Nat.le_of_ble_eq_true rfl)⟩ dX4_clear_25 rfl rfl rfl (Nat.le_of_ble_eq_true rfl) rfl rfl (fun M12 => ?_)
  exact V_vret dX4_clear_28 rfl rfl ⟨(Nat.le_of_ble_eq_true rfl), (Nat.le_of_ble_eq_true rfl)⟩
theorem k_X4_clear (this : Nat) (M : Mem) : K mi_X4_clear [.ref this] M (f_X4_clear this M) wV := K_of_V ok_X4_clear (Nat.le_of_ble_eq_true rfl) (v_X4_clear this M)
theorem o_X4_clear {this : Nat} {M : Mem} {x} (h : f_X4_clear this M = some x) : isO M 3 this = true := (ob_of h).1
theorem dX4_add_0 : decode cX4_add 0 = .ok (.aload_n 0, 1) := by decide +kernel
theorem dX4_add_1 : decode cX4_add 1 = .ok (.getfield 14, 3) := by decide +kernel
theorem dX4_add_4 : decode cX4_add 4 = .ok (.iload_n 1, 1) := by decide +kernel
theorem dX4_add_5 : decode cX4_add 5 = .ok (.invokevirtual 36, 3) := by decide +kernel
theorem dX4_add_8 : decode cX4_add 8 = .ok (.aload_n 0, 1) := by decide +kernel
theorem dX4_add_9 : decode cX4_add 9 = .ok (.getfield 20, 3) := by decide +kernel
theorem dX4_add_12 : decode cX4_add 12 = .ok (.iload_n 2, 1) := by decide +kernel
theorem dX4_add_13 : decode cX4_add 13 = .ok (.invokevirtual 36, 3) := by decide +kernel
theorem dX4_add_16 : decode cX4_add 16 = .ok (.aload_n 0, 1) := by decide +kernel
theorem dX4_add_17 : decode cX4_add 17 = .ok (.getfield 23, 3) := by decide +kernel
theorem dX4_add_20 : decode cX4_add 20 = .ok (.iload_n 3, 1) := by decide +kernel
theorem dX4_add_21 : decode cX4_add 21 = .ok (.invokevirtual 36, 3) := by decide +kernel
theorem dX4_add_24 : decode cX4_add 24 = .ok (.aload_n 0, 1) := by decide +kernel
theorem dX4_add_25 : decode cX4_add 25 = .ok (.getfield 26, 3) := by decide +kernel
theorem dX4_add_28 : decode cX4_add 28 = .ok (.iload 4, 2) := by decide +kernel
theorem dX4_add_30 : decode cX4_add 30 = .ok (.invokevirtual 36, 3) := by decide +kernel
theorem dX4_add_33 : decode cX4_add 33 = .ok (.return_, 1) := by decide +kernel
def mi_X4_add : MI := (RX4, yX4_add, cX4_add, 5, none, [], { frames := 2, cells := 0, slots := 0, locals := 33 })
theorem ok_X4_add : mOK mi_X4_add 4 := ⟨rfl, cw_X4_add, ini_X4, ⟨rfl, by decide⟩, by decide, by decide, rfl⟩
theorem v_X4_add (this : Nat) (a1 : Int32) (a2 : Int32) (a3 : Int32) (a4 : Int32) (M : Mem) : V mi_X4_add 0 [(0, .ref this), (1, .int a1), (2, .int a2), (3, .int a3), (4, .int a4)] [] M 0 0 (f_X4_add this a1 a2 a3 a4 M) wV := by
  unfold f_X4_add
  refine V_ob fun _ _ => ?_
  refine V_aload_n dX4_add_0 rfl 0 rfl ?_
  refine V_getR dX4_add_1 rfl (ci := 3) (T := TX4) rfl (by decide) fl_X4_14 (fun x1 => ?_)
  refine V_iload_n dX4_add_4 rfl 1 rfl ?_
  refine V_cVwV (As := [.int a1]) (k_X5_add x1 a1 M) (fun _ h => o_X5_add h) ok_X5_add im_X5_add se_X5_add rfl (ci := 4) rfl ml_X4_36 ⟨⟨(Nat.le_of_ble_eq_true rfl), (Nat.le_of_ble_eq_true rfl)⟩, (Nat.le_of_ble_eq_true rfl), (Nat.le_of_ble_eq_true rfl)⟩ dX4_add_5 rfl rfl rfl (Nat.le_of_ble_eq_true rfl) rfl rfl (fun M3 => ?_)
  refine V_aload_n dX4_add_8 rfl 0 rfl ?_
  refine V_getR dX4_add_9 rfl (ci := 3) (T := TX4) rfl (by decide) fl_X4_20 (fun x4 => ?_)
  refine V_iload_n dX4_add_12 rfl 2 rfl ?_
  refine V_cVwV (As := [.int a2]) (k_X5_add x4 a2 M3) (fun _ h => o_X5_add h) ok_X5_add im_X5_add se_X5_add rfl (ci := 4) rfl ml_X4_36 ⟨⟨(Nat.le_of_ble_eq_true rfl), (Nat.le_of_ble_eq_true rfl)⟩, (Nat.le_of_ble_eq_true rfl), (Nat.le_of_ble_eq_true rfl)⟩ dX4_add_13 rfl rfl rfl (Nat.le_of_ble_eq_true rfl) rfl rfl (fun M6 => ?_)
  refine V_aload_n dX4_add_16 rfl 0 rfl ?_
  refine V_getR dX4_add_17 rfl (ci := 3) (T := TX4) rfl (by decide) fl_X4_23 (fun x7 => ?_)
  refine V_iload_n dX4_add_20 rfl 3 rfl ?_
  refine V_cVwV (As := [.int a3]) (k_X5_add x7 a3 M6) (fun _ h => o_X5_add h) ok_X5_add im_X5_add se_X5_add rfl (ci := 4) rfl ml_X4_36 ⟨⟨(Nat.le_of_ble_eq_true rfl), (Nat.le_of_ble_eq_true rfl)⟩, (Nat.le_of_ble_eq_true rfl), (Nat.le_of_ble_eq_true rfl)⟩ dX4_add_21 rfl rfl rfl (Nat.le_of_ble_eq_true rfl) rfl rfl (fun M9 => ?_)
  refine V_aload_n dX4_add_24 rfl 0 rfl ?_
  refine V_getR dX4_add_25 rfl (ci := 3) (T := TX4) rfl (by decide) fl_X4_26 (fun x10 => ?_)
  refine V_iload dX4_add_28 rfl 4 rfl ?_
  refine V_cVwV (As := [.int a4]) (k_X5_add x10 a4 M9) (fun _ h => o_X5_add h) ok_X5_add im_X5_add se_X5_add rfl (ci := 4) rfl ml_X4_36 ⟨⟨(Nat.le_of_ble_eq_true rfl), (Nat.le_of_ble_eq_true rfl)⟩, (Nat.le_of_ble_eq_true rfl), (Nat.le_of_ble_eq_true rfl)⟩ dX4_add_30 rfl rfl rfl (Nat.le_of_ble_eq_true rfl) rfl rfl (fun M12 => ?_)
  exact V_vret dX4_add_33 rfl rfl ⟨(Nat.le_of_ble_eq_true rfl), (Nat.le_of_ble_eq_true rfl)⟩
theorem k_X4_add (this : Nat) (a1 : Int32) (a2 : Int32) (a3 : Int32) (a4 : Int32) (M : Mem) : K mi_X4_add [.ref this, .int a1, .int a2, .int a3, .int a4] M (f_X4_add this a1 a2 a3 a4 M) wV := K_of_V ok_X4_add (Nat.le_of_ble_eq_true rfl) (v_X4_add this a1 a2 a3 a4 M)
theorem o_X4_add {this : Nat} {a1 : Int32} {a2 : Int32} {a3 : Int32} {a4 : Int32} {M : Mem} {x} (h : f_X4_add this a1 a2 a3 a4 M = some x) : isO M 3 this = true := (ob_of h).1
