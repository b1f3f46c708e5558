def f_X3_spelled_89 (rc11 : Nat → Int32 → Int32 → Nat → Int32 → Int32 → Mem → Option (Option Nat)) (l0 : Nat) (l1 : Int32) (l2 : Int32) (l3 : Nat) (l4 : Int32) (l5 : Int32) (M : Mem) : Option (Option Nat) :=
  rc11 l0 l1 l2 l3 l4 (l5 + 1) M
def f_X3_spelled_71 (rc11 : Nat → Int32 → Int32 → Nat → Int32 → Int32 → Mem → Option (Option Nat)) (l0 : Nat) (l1 : Int32) (l2 : Int32) (l3 : Nat) (l4 : Int32) (l5 : Int32) (l6 : Nat) (l7 : Int32) (l8 : Int32) (M : Mem) : Option (Option Nat) :=
  if l8 = l7 then (
    if l7 = (l2 - l1) then (
      some (some l6)
    ) else (
      f_X3_spelled_89 rc11 l0 l1 l2 l3 l4 l5 M
    )
  ) else (
    f_X3_spelled_89 rc11 l0 l1 l2 l3 l4 l5 M
  )
def f_X3_spelled_37 (rc11 : Nat → Int32 → Int32 → Nat → Int32 → Int32 → Mem → Option (Option Nat)) : Nat → Nat → Int32 → Int32 → Nat → Int32 → Int32 → Nat → Int32 → Int32 → Mem → Option (Option Nat)
  | 0 => fun _ _ _ _ _ _ _ _ _ _ => none
  | fu + 1 => fun l0 l1 l2 l3 l4 l5 l6 l7 l8 M =>
    if l7 ≤ l8 then (
      f_X3_spelled_71 rc11 l0 l1 l2 l3 l4 l5 l6 l7 l8 M
    ) else (
      (kWord l6).bind fun x5 =>
      (sChr x5 l8).bind fun x6 =>
      (f_X1_get l0 (l1 + l8) M).bind fun x7 =>
      if x6 = x7 then (
        (f_X3_spelled_37 rc11 fu) l0 l1 l2 l3 l4 l5 l6 l7 (l8 + 1) M
      ) else (
        f_X3_spelled_71 rc11 l0 l1 l2 l3 l4 l5 l6 l7 l8 M
      )
    )
def f_X3_spelled_11 : Nat → Nat → Int32 → Int32 → Nat → Int32 → Int32 → Mem → Option (Option Nat)
  | 0 => fun _ _ _ _ _ _ _ => none
  | fu + 1 => fun l0 l1 l2 l3 l4 l5 M =>
    if l4 ≤ l5 then (
      some none
    ) else (
      (kTab l3 l5).bind fun x2 =>
      (kWord x2).bind fun x3 =>
      (sLen x3).bind fun x4 =>
      f_X3_spelled_37 (f_X3_spelled_11 fu) FU l0 l1 l2 l3 l4 l5 x2 x4 0 M
    )
def f_X3_spelled (a0 : Nat) (a1 : Int32) (a2 : Int32) (M : Mem) : Option (Option Nat) :=
  f_X3_spelled_11 FU a0 a1 a2 40 15 0 M
theorem fk_X3_76_w : (Cond.fieldLink RX3 76 kwT "KEYWORDS" "[LMailSessions$Keyword;") ∈ cr_U := mem_U (i := 982) (by decide +kernel) rfl
theorem ml_X3_89 : (Cond.methodLink RX3 89 yX1_get) ∈ cr_U := mem_U (i := 986) (by decide +kernel) rfl
theorem fw_X3_68 : (Cond.fieldLink RX3 68 kwT "word" "Ljava/lang/String;") ∈ cr_U := mem_U (i := 1568) (by decide +kernel) rfl
theorem cw_X3_spelled : (Cond.code yX3_spelled cX3_spelled 9 (some (.object "MailSessions$Keyword"))) ∈ cr_U := mem_U (i := 981) (by decide +kernel) rfl
theorem ini_X3 : (Cond.initialized RX3) ∈ cr_U := mem_U (i := 55) (by decide +kernel) rfl
theorem dX3_spelled_0 : decode cX3_spelled 0 = .ok (.getstatic 76, 3) := by decide +kernel
theorem dX3_spelled_3 : decode cX3_spelled 3 = .ok (.astore_n 3, 1) := by decide +kernel
theorem dX3_spelled_4 : decode cX3_spelled 4 = .ok (.aload_n 3, 1) := by decide +kernel
theorem dX3_spelled_5 : decode cX3_spelled 5 = .ok (.arraylength, 1) := by decide +kernel
theorem dX3_spelled_6 : decode cX3_spelled 6 = .ok (.istore 4, 2) := by decide +kernel
theorem dX3_spelled_8 : decode cX3_spelled 8 = .ok (.iconst 0, 1) := by decide +kernel
theorem dX3_spelled_9 : decode cX3_spelled 9 = .ok (.istore 5, 2) := by decide +kernel
theorem dX3_spelled_11 : decode cX3_spelled 11 = .ok (.iload 5, 2) := by decide +kernel
theorem dX3_spelled_13 : decode cX3_spelled 13 = .ok (.iload 4, 2) := by decide +kernel
theorem dX3_spelled_15 : decode cX3_spelled 15 = .ok (.if_icmp .ge 80, 3) := by decide +kernel
theorem dX3_spelled_18 : decode cX3_spelled 18 = .ok (.aload_n 3, 1) := by decide +kernel
theorem dX3_spelled_19 : decode cX3_spelled 19 = .ok (.iload 5, 2) := by decide +kernel
theorem dX3_spelled_21 : decode cX3_spelled 21 = .ok (.aaload, 1) := by decide +kernel
theorem dX3_spelled_22 : decode cX3_spelled 22 = .ok (.astore 6, 2) := by decide +kernel
theorem dX3_spelled_24 : decode cX3_spelled 24 = .ok (.aload 6, 2) := by decide +kernel
theorem dX3_spelled_26 : decode cX3_spelled 26 = .ok (.getfield 68, 3) := by decide +kernel
theorem dX3_spelled_29 : decode cX3_spelled 29 = .ok (.invokevirtual 79, 3) := by decide +kernel
theorem dX3_spelled_32 : decode cX3_spelled 32 = .ok (.istore 7, 2) := by decide +kernel
theorem dX3_spelled_34 : decode cX3_spelled 34 = .ok (.iconst 0, 1) := by decide +kernel
theorem dX3_spelled_35 : decode cX3_spelled 35 = .ok (.istore 8, 2) := by decide +kernel
theorem dX3_spelled_37 : decode cX3_spelled 37 = .ok (.iload 8, 2) := by decide +kernel
theorem dX3_spelled_39 : decode cX3_spelled 39 = .ok (.iload 7, 2) := by decide +kernel
theorem dX3_spelled_41 : decode cX3_spelled 41 = .ok (.if_icmp .ge 30, 3) := by decide +kernel
theorem dX3_spelled_44 : decode cX3_spelled 44 = .ok (.aload 6, 2) := by decide +kernel
theorem dX3_spelled_46 : decode cX3_spelled 46 = .ok (.getfield 68, 3) := by decide +kernel
theorem dX3_spelled_49 : decode cX3_spelled 49 = .ok (.iload 8, 2) := by decide +kernel
theorem dX3_spelled_51 : decode cX3_spelled 51 = .ok (.invokevirtual 85, 3) := by decide +kernel
theorem dX3_spelled_54 : decode cX3_spelled 54 = .ok (.aload_n 0, 1) := by decide +kernel
theorem dX3_spelled_55 : decode cX3_spelled 55 = .ok (.iload_n 1, 1) := by decide +kernel
theorem dX3_spelled_56 : decode cX3_spelled 56 = .ok (.iload 8, 2) := by decide +kernel
theorem dX3_spelled_58 : decode cX3_spelled 58 = .ok (.iadd, 1) := by decide +kernel
theorem dX3_spelled_59 : decode cX3_spelled 59 = .ok (.invokevirtual 89, 3) := by decide +kernel
theorem dX3_spelled_62 : decode cX3_spelled 62 = .ok (.if_icmp .ne 9, 3) := by decide +kernel
theorem dX3_spelled_65 : decode cX3_spelled 65 = .ok (.iinc 8 1, 3) := by decide +kernel
theorem dX3_spelled_68 : decode cX3_spelled 68 = .ok (.goto (-31), 3) := by decide +kernel
theorem dX3_spelled_71 : decode cX3_spelled 71 = .ok (.iload 8, 2) := by decide +kernel
theorem dX3_spelled_73 : decode cX3_spelled 73 = .ok (.iload 7, 2) := by decide +kernel
theorem dX3_spelled_75 : decode cX3_spelled 75 = .ok (.if_icmp .ne 14, 3) := by decide +kernel
theorem dX3_spelled_78 : decode cX3_spelled 78 = .ok (.iload 7, 2) := by decide +kernel
theorem dX3_spelled_80 : decode cX3_spelled 80 = .ok (.iload_n 2, 1) := by decide +kernel
theorem dX3_spelled_81 : decode cX3_spelled 81 = .ok (.iload_n 1, 1) := by decide +kernel
theorem dX3_spelled_82 : decode cX3_spelled 82 = .ok (.isub, 1) := by decide +kernel
theorem dX3_spelled_83 : decode cX3_spelled 83 = .ok (.if_icmp .ne 6, 3) := by decide +kernel
theorem dX3_spelled_86 : decode cX3_spelled 86 = .ok (.aload 6, 2) := by decide +kernel
theorem dX3_spelled_88 : decode cX3_spelled 88 = .ok (.areturn, 1) := by decide +kernel
theorem dX3_spelled_89 : decode cX3_spelled 89 = .ok (.iinc 5 1, 3) := by decide +kernel
theorem dX3_spelled_92 : decode cX3_spelled 92 = .ok (.goto (-81), 3) := by decide +kernel
theorem dX3_spelled_95 : decode cX3_spelled 95 = .ok (.aconst_null, 1) := by decide +kernel
theorem dX3_spelled_96 : decode cX3_spelled 96 = .ok (.areturn, 1) := by decide +kernel
def mi_X3_spelled : MI := (RX3, yX3_spelled, cX3_spelled, 9, some (.object "MailSessions$Keyword"), [], { frames := 6, cells := 0, slots := 0, locals := 140 })
theorem ok_X3_spelled : mOK mi_X3_spelled 3 := ⟨rfl, cw_X3_spelled, ini_X3, ⟨rfl, by decide⟩, by decide, by decide, rfl⟩
theorem v_X3_spelled_89 (rc11 : Nat → Int32 → Int32 → Nat → Int32 → Int32 → Mem → Option (Option Nat)) (h11 : ∀ (l0 : Nat) (l1 : Int32) (l2 : Int32) (l3 : Nat) (l4 : Int32) (l5 : Int32) (M : Mem), V mi_X3_spelled 11 [(0, .ref l0), (1, .int l1), (2, .int l2), (3, .ref l3), (4, .int l4), (5, .int l5)] [] M 0 0 (rc11 l0 l1 l2 l3 l4 l5 M) (eQ M)) (l0 : Nat) (l1 : Int32) (l2 : Int32) (l3 : Nat) (l4 : Int32) (l5 : Int32) (M : Mem) : V mi_X3_spelled 89 [(0, .ref l0), (1, .int l1), (2, .int l2), (3, .ref l3), (4, .int l4), (5, .int l5)] [] M 0 0 (f_X3_spelled_89 rc11 l0 l1 l2 l3 l4 l5 M) (eQ M) := by
  unfold f_X3_spelled_89
  refine V_iinc (y := (l5 + 1)) (L' := [(0, .ref l0), (1, .int l1), (2, .int l2), (3, .ref l3), (4, .int l4), (5, .int (l5 + 1))]) dX3_spelled_89 rfl 5 rfl rfl (by decide) rfl ?_
  refine V_goto (q := 11) dX3_spelled_92 (by decide) ?_
  exact h11 l0 l1 l2 l3 l4 (l5 + 1) M
theorem v_X3_spelled_71 (rc11 : Nat → Int32 → Int32 → Nat → Int32 → Int32 → Mem → Option (Option Nat)) (h11 : ∀ (l0 : Nat) (l1 : Int32) (l2 : Int32) (l3 : Nat) (l4 : Int32) (l5 : Int32) (M : Mem), V mi_X3_spelled 11 [(0, .ref l0), (1, .int l1), (2, .int l2), (3, .ref l3), (4, .int l4), (5, .int l5)] [] M 0 0 (rc11 l0 l1 l2 l3 l4 l5 M) (eQ M)) (l0 : Nat) (l1 : Int32) (l2 : Int32) (l3 : Nat) (l4 : Int32) (l5 : Int32) (l6 : Nat) (l7 : Int32) (l8 : Int32) (M : Mem) : V mi_X3_spelled 71 [(0, .ref l0), (1, .int l1), (2, .int l2), (3, .ref l3), (4, .int l4), (5, .int l5), (6, .ref l6), (7, .int l7), (8, .int l8)] [] M 0 0 (f_X3_spelled_71 rc11 l0 l1 l2 l3 l4 l5 l6 l7 l8 M) (eQ M) := by
  unfold f_X3_spelled_71
  refine V_iload dX3_spelled_71 rfl 8 rfl ?_
  refine V_iload dX3_spelled_73 rfl 7 rfl ?_
  refine V_icmp_ne (q := 89) (q2 := 78) dX3_spelled_75 (by decide) rfl ?_ ?_
  · exact V_sub [0, 1, 2, 3, 4, 5] rfl (v_X3_spelled_89 rc11 h11 l0 l1 l2 l3 l4 l5 M)
  · refine V_iload dX3_spelled_78 rfl 7 rfl ?_
    refine V_iload_n dX3_spelled_80 rfl 2 rfl ?_
    refine V_iload_n dX3_spelled_81 rfl 1 rfl ?_
    refine V_isub dX3_spelled_82 rfl ?_
    refine V_icmp_ne (q := 89) (q2 := 86) dX3_spelled_83 (by decide) rfl ?_ ?_
    · exact V_sub [0, 1, 2, 3, 4, 5] rfl (v_X3_spelled_89 rc11 h11 l0 l1 l2 l3 l4 l5 M)
    · refine V_aload dX3_spelled_86 rfl 6 rfl ?_
      exact V_aret (v := (some l6)) dX3_spelled_88 rfl (Or.inl ⟨_, rfl⟩) rfl ⟨(Nat.le_of_ble_eq_true rfl), (Nat.le_of_ble_eq_true rfl)⟩
theorem v_X3_spelled_37 (rc11 : Nat → Int32 → Int32 → Nat → Int32 → Int32 → Mem → Option (Option Nat)) (h11 : ∀ (l0 : Nat) (l1 : Int32) (l2 : Int32) (l3 : Nat) (l4 : Int32) (l5 : Int32) (M : Mem), V mi_X3_spelled 11 [(0, .ref l0), (1, .int l1), (2, .int l2), (3, .ref l3), (4, .int l4), (5, .int l5)] [] M 0 0 (rc11 l0 l1 l2 l3 l4 l5 M) (eQ M)) : ∀ (fu : Nat) (l0 : Nat) (l1 : Int32) (l2 : Int32) (l3 : Nat) (l4 : Int32) (l5 : Int32) (l6 : Nat) (l7 : Int32) (l8 : Int32) (M : Mem), V mi_X3_spelled 37 [(0, .ref l0), (1, .int l1), (2, .int l2), (3, .ref l3), (4, .int l4), (5, .int l5), (6, .ref l6), (7, .int l7), (8, .int l8)] [] M 0 0 (f_X3_spelled_37 rc11 fu l0 l1 l2 l3 l4 l5 l6 l7 l8 M) (eQ M) := by
  intro fu
  induction fu with
  | zero => intros; exact V_none
  | succ fu ih =>
    intro l0 l1 l2 l3 l4 l5 l6 l7 l8 M
    show V mi_X3_spelled 37 [(0, .ref l0), (1, .int l1), (2, .int l2), (3, .ref l3), (4, .int l4), (5, .int l5), (6, .ref l6), (7, .int l7), (8, .int l8)] [] M 0 0 (f_X3_spelled_37  rc11 (fu + 1) l0 l1 l2 l3 l4 l5 l6 l7 l8 M) (eQ M)
    unfold f_X3_spelled_37
    refine V_iload dX3_spelled_37 rfl 8 rfl ?_
    refine V_iload dX3_spelled_39 rfl 7 rfl ?_
    refine V_icmp_ge (q := 71) (q2 := 44) dX3_spelled_41 (by decide) rfl ?_ ?_
    · exact v_X3_spelled_71 rc11 h11 l0 l1 l2 l3 l4 l5 l6 l7 l8 M
    · refine V_aload dX3_spelled_44 rfl 6 rfl ?_
      refine V_kWord fw_X3_68 dX3_spelled_46 rfl (fun x5 => ?_)
      refine V_iload dX3_spelled_49 rfl 8 rfl ?_
      refine V_sChr ml_X3_85 dX3_spelled_51 rfl ⟨⟨(Nat.le_of_ble_eq_true rfl), (Nat.le_of_ble_eq_true rfl)⟩, (Nat.le_of_ble_eq_true rfl), (Nat.le_of_ble_eq_true rfl)⟩ (Nat.le_of_ble_eq_true rfl) (fun x6 => ?_)
      refine V_aload_n dX3_spelled_54 rfl 0 rfl ?_
      refine V_iload_n dX3_spelled_55 rfl 1 rfl ?_
      refine V_iload dX3_spelled_56 rfl 8 rfl ?_
      refine V_iadd dX3_spelled_58 rfl ?_
      refine V_cVeI (As := [.int (l1 + l8)]) (k_X1_get l0 (l1 + l8) M) (fun _ h => o_X1_get h) ok_X1_get im_X1_get se_X1_get rfl (ci := 1) rfl ml_X3_89 ⟨⟨(Nat.le_of_ble_eq_true rfl), (Nat.le_of_ble_eq_true rfl)⟩, (Nat.le_of_ble_eq_true rfl), (Nat.le_of_ble_eq_true rfl)⟩ dX3_spelled_59 rfl rfl rfl (Nat.le_of_ble_eq_true rfl) rfl rfl (fun x7 => ?_)
      refine V_icmp_ne (q := 71) (q2 := 65) dX3_spelled_62 (by decide) rfl ?_ ?_
      · exact v_X3_spelled_71 rc11 h11 l0 l1 l2 l3 l4 l5 l6 l7 l8 M
      · refine V_iinc (y := (l8 + 1)) (L' := [(0, .ref l0), (1, .int l1), (2, .int l2), (3, .ref l3), (4, .int l4), (5, .int l5), (6, .ref l6), (7, .int l7), (8, .int (l8 + 1))]) dX3_spelled_65 rfl 8 rfl rfl (by decide) rfl ?_
        refine V_goto (q := 37) dX3_spelled_68 (by decide) ?_
        exact ih l0 l1 l2 l3 l4 l5 l6 l7 (l8 + 1) M
theorem v_X3_spelled_11 : ∀ (fu : Nat) (l0 : Nat) (l1 : Int32) (l2 : Int32) (l3 : Nat) (l4 : Int32) (l5 : Int32) (M : Mem), V mi_X3_spelled 11 [(0, .ref l0), (1, .int l1), (2, .int l2), (3, .ref l3), (4, .int l4), (5, .int l5)] [] M 0 0 (f_X3_spelled_11 fu l0 l1 l2 l3 l4 l5 M) (eQ M) := by
  intro fu
  induction fu with
  | zero => intros; exact V_none
  | succ fu ih =>
    intro l0 l1 l2 l3 l4 l5 M
    show V mi_X3_spelled 11 [(0, .ref l0), (1, .int l1), (2, .int l2), (3, .ref l3), (4, .int l4), (5, .int l5)] [] M 0 0 (f_X3_spelled_11 (fu + 1) l0 l1 l2 l3 l4 l5 M) (eQ M)
    unfold f_X3_spelled_11
    refine V_iload dX3_spelled_11 rfl 5 rfl ?_
    refine V_iload dX3_spelled_13 rfl 4 rfl ?_
    refine V_icmp_ge (q := 95) (q2 := 18) dX3_spelled_15 (by decide) rfl ?_ ?_
    · refine V_null dX3_spelled_95 rfl ?_
      exact V_aret (v := none) dX3_spelled_96 rfl (Or.inl ⟨_, rfl⟩) rfl ⟨(Nat.le_of_ble_eq_true rfl), (Nat.le_of_ble_eq_true rfl)⟩
    · refine V_aload_n dX3_spelled_18 rfl 3 rfl ?_
      refine V_iload dX3_spelled_19 rfl 5 rfl ?_
      refine V_kTab dX3_spelled_21 rfl (fun x2 => ?_)
      refine V_astore (L' := [(0, .ref l0), (1, .int l1), (2, .int l2), (3, .ref l3), (4, .int l4), (5, .int l5), (6, .ref x2)]) dX3_spelled_22 rfl (by decide) rfl ?_
      refine V_aload dX3_spelled_24 rfl 6 rfl ?_
      refine V_kWord fw_X3_68 dX3_spelled_26 rfl (fun x3 => ?_)
      refine V_sLen ml_X3_79 dX3_spelled_29 rfl ⟨⟨(Nat.le_of_ble_eq_true rfl), (Nat.le_of_ble_eq_true rfl)⟩, (Nat.le_of_ble_eq_true rfl), (Nat.le_of_ble_eq_true rfl)⟩ (Nat.le_of_ble_eq_true rfl) (fun x4 => ?_)
      refine V_istore (L' := [(0, .ref l0), (1, .int l1), (2, .int l2), (3, .ref l3), (4, .int l4), (5, .int l5), (6, .ref x2), (7, .int x4)]) dX3_spelled_32 rfl (by decide) rfl ?_
      refine V_iconst (x := 0) dX3_spelled_34 rfl rfl ?_
      refine V_istore (L' := [(0, .ref l0), (1, .int l1), (2, .int l2), (3, .ref l3), (4, .int l4), (5, .int l5), (6, .ref x2), (7, .int x4), (8, .int 0)]) dX3_spelled_35 rfl (by decide) rfl ?_
      exact v_X3_spelled_37 (f_X3_spelled_11 fu) ih FU l0 l1 l2 l3 l4 l5 x2 x4 0 M
theorem v_X3_spelled (a0 : Nat) (a1 : Int32) (a2 : Int32) (M : Mem) : V mi_X3_spelled 0 [(0, .ref a0), (1, .int a1), (2, .int a2)] [] M 0 0 (f_X3_spelled a0 a1 a2 M) (eQ M) := by
  unfold f_X3_spelled
  refine V_kwS (Or.inl fk_X3_76_w) dX3_spelled_0 rfl ?_
  refine V_astore_n (L' := [(0, .ref a0), (1, .int a1), (2, .int a2), (3, .ref 40)]) dX3_spelled_3 rfl (by decide) rfl ?_
  refine V_aload_n dX3_spelled_4 rfl 3 rfl ?_
  refine V_kTabL dX3_spelled_5 rfl ?_
  refine V_istore (L' := [(0, .ref a0), (1, .int a1), (2, .int a2), (3, .ref 40), (4, .int 15)]) dX3_spelled_6 rfl (by decide) rfl ?_
  refine V_iconst (x := 0) dX3_spelled_8 rfl rfl ?_
  refine V_istore (L' := [(0, .ref a0), (1, .int a1), (2, .int a2), (3, .ref 40), (4, .int 15), (5, .int 0)]) dX3_spelled_9 rfl (by decide) rfl ?_
  exact v_X3_spelled_11 FU a0 a1 a2 40 15 0 M
theorem k_X3_spelled (a0 : Nat) (a1 : Int32) (a2 : Int32) (M : Mem) : K mi_X3_spelled [.ref a0, .int a1, .int a2] M (f_X3_spelled a0 a1 a2 M) (eQ M) := K_of_V ok_X3_spelled (Nat.le_of_ble_eq_true rfl) (v_X3_spelled a0 a1 a2 M)
