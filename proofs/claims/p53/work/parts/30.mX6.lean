def f_X6_init (this : Nat) (a1 : Nat) (M : Mem) : Option Mem :=
  ob M 5 this (
    (pV M 5 0 this (.ref a1)).bind fun M1 =>
    some M1
  )
theorem fl_X6_9_w : (Cond.fieldLink RX6 9 (TX6 0).1 (TX6 0).2.1 (TX6 0).2.2.1) ∈ cr_U := mem_U (i := 323) (by decide +kernel) rfl
theorem fl_X6_9 : flk RX6 9 (TX6 0) := Or.inl fl_X6_9_w
theorem ml_X6_3 : (Cond.methodLink RX6 3 Lib.objectInit) ∈ cr_U := mem_U (i := 322) (by decide +kernel) rfl
theorem cw_X6_init : (Cond.code yX6_init cX6_init 2 (none)) ∈ cr_U := mem_U (i := 321) (by decide +kernel) rfl
theorem ini_X6 : (Cond.initialized RX6) ∈ cr_U := mem_U (i := 36) (by decide +kernel) rfl
theorem dX6_init_0 : decode cX6_init 0 = .ok (.aload_n 0, 1) := by decide +kernel
theorem dX6_init_1 : decode cX6_init 1 = .ok (.invokespecial 3, 3) := by decide +kernel
theorem dX6_init_4 : decode cX6_init 4 = .ok (.aload_n 0, 1) := by decide +kernel
theorem dX6_init_5 : decode cX6_init 5 = .ok (.aload_n 1, 1) := by decide +kernel
theorem dX6_init_6 : decode cX6_init 6 = .ok (.putfield 9, 3) := by decide +kernel
theorem dX6_init_9 : decode cX6_init 9 = .ok (.return_, 1) := by decide +kernel
def mi_X6_init : MI := (RX6, yX6_init, cX6_init, 2, none, [], { frames := 1, cells := 0, slots := 0, locals := 12 })
theorem ok_X6_init : mOK mi_X6_init 1 := ⟨rfl, cw_X6_init, ini_X6, ⟨rfl, by decide⟩, by decide, by decide, rfl⟩
theorem v_X6_init (this : Nat) (a1 : Nat) (M : Mem) : V mi_X6_init 0 [(0, .ref this), (1, .ref a1)] [] M 0 0 (f_X6_init this a1 M) wV := by
  unfold f_X6_init
  refine V_ob fun _ _ => ?_
  refine V_aload_n dX6_init_0 rfl 0 rfl ?_
  refine V_objInit ml_X6_3 dX6_init_1 rfl ⟨(Nat.le_of_ble_eq_true rfl), (Nat.le_of_ble_eq_true rfl)⟩ ?_
  refine V_aload_n dX6_init_4 rfl 0 rfl ?_
  refine V_aload_n dX6_init_5 rfl 1 rfl ?_
  refine V_putFR dX6_init_6 rfl (ci := 5) (T := TX6) rfl (by decide) fl_X6_9_w rfl rfl rfl rfl (fun _ => rfl) (fun _ => rfl) (fun M1 => ?_)
  exact V_vret dX6_init_9 rfl rfl ⟨(Nat.le_of_ble_eq_true rfl), (Nat.le_of_ble_eq_true rfl)⟩
theorem k_X6_init (this : Nat) (a1 : Nat) (M : Mem) : K mi_X6_init [.ref this, .ref a1] M (f_X6_init this a1 M) wV := K_of_V ok_X6_init (Nat.le_of_ble_eq_true rfl) (v_X6_init this a1 M)
theorem o_X6_init {this : Nat} {a1 : Nat} {M : Mem} {x} (h : f_X6_init this a1 M = some x) : isO M 5 this = true := (ob_of h).1
