/-! OWN ROWS: the JDK methods that are called -/
def yBc : MethodName := ⟨"java/lang/Integer", "bitCount", "(I)I"⟩
def mi_Bc : MI := ("java/lang/Integer", yBc, prog_26_method_49_code, 1, some .int, [], { frames := 1, cells := 0, slots := 0, locals := 12 })
theorem cw_Bc : Cond.code yBc prog_26_method_49_code 1 (some .int) ∈ cr_U := mem_U (i := 1236) (by decide +kernel) rfl
theorem ini_Bc : Cond.initialized "java/lang/Integer" ∈ cr_U := mem_U (i := 48) (by decide +kernel) rfl
theorem ok_Bc : mOK mi_Bc 1 := ⟨rfl, cw_Bc, ini_Bc, ⟨rfl, by decide⟩, by decide, by decide, rfl⟩
theorem sm_Bc : Cond.static yBc ∈ cr_U := mem_U (i := 1235) (by decide +kernel) rfl
theorem dBc_0 : decode prog_26_method_49_code 0 = .ok (.iload_n 0, 1) := by decide +kernel
theorem dBc_1 : decode prog_26_method_49_code 1 = .ok (.iload_n 0, 1) := by decide +kernel
theorem dBc_2 : decode prog_26_method_49_code 2 = .ok (.iconst 1, 1) := by decide +kernel
theorem dBc_3 : decode prog_26_method_49_code 3 = .ok (.iushr, 1) := by decide +kernel
theorem dBc_4 : decode prog_26_method_49_code 4 = .ok (.ldc_w 265, 3) := by decide +kernel
theorem dBc_7 : decode prog_26_method_49_code 7 = .ok (.iand, 1) := by decide +kernel
theorem dBc_8 : decode prog_26_method_49_code 8 = .ok (.isub, 1) := by decide +kernel
theorem dBc_9 : decode prog_26_method_49_code 9 = .ok (.istore_n 0, 1) := by decide +kernel
theorem dBc_10 : decode prog_26_method_49_code 10 = .ok (.iload_n 0, 1) := by decide +kernel
theorem dBc_11 : decode prog_26_method_49_code 11 = .ok (.ldc_w 266, 3) := by decide +kernel
theorem dBc_14 : decode prog_26_method_49_code 14 = .ok (.iand, 1) := by decide +kernel
theorem dBc_15 : decode prog_26_method_49_code 15 = .ok (.iload_n 0, 1) := by decide +kernel
theorem dBc_16 : decode prog_26_method_49_code 16 = .ok (.iconst 2, 1) := by decide +kernel
theorem dBc_17 : decode prog_26_method_49_code 17 = .ok (.iushr, 1) := by decide +kernel
theorem dBc_18 : decode prog_26_method_49_code 18 = .ok (.ldc_w 266, 3) := by decide +kernel
theorem dBc_21 : decode prog_26_method_49_code 21 = .ok (.iand, 1) := by decide +kernel
theorem dBc_22 : decode prog_26_method_49_code 22 = .ok (.iadd, 1) := by decide +kernel
theorem dBc_23 : decode prog_26_method_49_code 23 = .ok (.istore_n 0, 1) := by decide +kernel
theorem dBc_24 : decode prog_26_method_49_code 24 = .ok (.iload_n 0, 1) := by decide +kernel
theorem dBc_25 : decode prog_26_method_49_code 25 = .ok (.iload_n 0, 1) := by decide +kernel
theorem dBc_26 : decode prog_26_method_49_code 26 = .ok (.iconst 4, 1) := by decide +kernel
theorem dBc_27 : decode prog_26_method_49_code 27 = .ok (.iushr, 1) := by decide +kernel
theorem dBc_28 : decode prog_26_method_49_code 28 = .ok (.iadd, 1) := by decide +kernel
theorem dBc_29 : decode prog_26_method_49_code 29 = .ok (.ldc_w 267, 3) := by decide +kernel
theorem dBc_32 : decode prog_26_method_49_code 32 = .ok (.iand, 1) := by decide +kernel
theorem dBc_33 : decode prog_26_method_49_code 33 = .ok (.istore_n 0, 1) := by decide +kernel
theorem dBc_34 : decode prog_26_method_49_code 34 = .ok (.iload_n 0, 1) := by decide +kernel
theorem dBc_35 : decode prog_26_method_49_code 35 = .ok (.iload_n 0, 1) := by decide +kernel
theorem dBc_36 : decode prog_26_method_49_code 36 = .ok (.bipush 8, 2) := by decide +kernel
theorem dBc_38 : decode prog_26_method_49_code 38 = .ok (.iushr, 1) := by decide +kernel
theorem dBc_39 : decode prog_26_method_49_code 39 = .ok (.iadd, 1) := by decide +kernel
theorem dBc_40 : decode prog_26_method_49_code 40 = .ok (.istore_n 0, 1) := by decide +kernel
theorem dBc_41 : decode prog_26_method_49_code 41 = .ok (.iload_n 0, 1) := by decide +kernel
theorem dBc_42 : decode prog_26_method_49_code 42 = .ok (.iload_n 0, 1) := by decide +kernel
theorem dBc_43 : decode prog_26_method_49_code 43 = .ok (.bipush 16, 2) := by decide +kernel
theorem dBc_45 : decode prog_26_method_49_code 45 = .ok (.iushr, 1) := by decide +kernel
theorem dBc_46 : decode prog_26_method_49_code 46 = .ok (.iadd, 1) := by decide +kernel
theorem dBc_47 : decode prog_26_method_49_code 47 = .ok (.istore_n 0, 1) := by decide +kernel
theorem dBc_48 : decode prog_26_method_49_code 48 = .ok (.iload_n 0, 1) := by decide +kernel
theorem dBc_49 : decode prog_26_method_49_code 49 = .ok (.bipush 63, 2) := by decide +kernel
theorem dBc_51 : decode prog_26_method_49_code 51 = .ok (.iand, 1) := by decide +kernel
theorem dBc_52 : decode prog_26_method_49_code 52 = .ok (.ireturn, 1) := by decide +kernel
def ySc : MethodName := ⟨"java/lang/String", "coder", "()B"⟩
def mi_Sc : MI := ("java/lang/String", ySc, prog_30_method_152_code, 1, some .byte, [], { frames := 1, cells := 0, slots := 0, locals := 12 })
theorem cw_Sc : Cond.code ySc prog_30_method_152_code 1 (some .byte) ∈ cr_U := mem_U (i := 605) (by decide +kernel) rfl
theorem ini_Sc : Cond.initialized "java/lang/String" ∈ cr_U := mem_U (i := 39) (by decide +kernel) rfl
theorem ok_Sc : mOK mi_Sc 0 := ⟨rfl, cw_Sc, ini_Sc, ⟨rfl, by decide⟩, by decide, by decide, rfl⟩
theorem im_Sc : Cond.instanceMethod ySc ∈ cr_U := mem_U (i := 603) (by decide +kernel) rfl
theorem se_Sc : Cond.selects strT ySc ySc ∈ cr_U := mem_U (i := 604) (by decide +kernel) rfl
theorem dSc_0 : decode prog_30_method_152_code 0 = .ok (.getstatic 38, 3) := by decide +kernel
theorem dSc_3 : decode prog_30_method_152_code 3 = .ok (.ifCond .eq 10, 3) := by decide +kernel
theorem dSc_6 : decode prog_30_method_152_code 6 = .ok (.aload_n 0, 1) := by decide +kernel
theorem dSc_7 : decode prog_30_method_152_code 7 = .ok (.getfield 15, 3) := by decide +kernel
theorem dSc_10 : decode prog_30_method_152_code 10 = .ok (.goto 4, 3) := by decide +kernel
theorem dSc_14 : decode prog_30_method_152_code 14 = .ok (.ireturn, 1) := by decide +kernel
def ySl : MethodName := ⟨"java/lang/String", "length", "()I"⟩
def mi_Sl : MI := ("java/lang/String", ySl, prog_30_method_54_code, 1, some .int, [], { frames := 2, cells := 0, slots := 0, locals := 40 })
theorem cw_Sl : Cond.code ySl prog_30_method_54_code 1 (some .int) ∈ cr_U := mem_U (i := 601) (by decide +kernel) rfl
theorem ini_Sl : Cond.initialized "java/lang/String" ∈ cr_U := mem_U (i := 39) (by decide +kernel) rfl
theorem ok_Sl : mOK mi_Sl 0 := ⟨rfl, cw_Sl, ini_Sl, ⟨rfl, by decide⟩, by decide, by decide, rfl⟩
theorem im_Sl : Cond.instanceMethod ySl ∈ cr_U := mem_U (i := 599) (by decide +kernel) rfl
theorem se_Sl : Cond.selects strT ySl ySl ∈ cr_U := mem_U (i := 600) (by decide +kernel) rfl
theorem dSl_0 : decode prog_30_method_54_code 0 = .ok (.aload_n 0, 1) := by decide +kernel
theorem dSl_1 : decode prog_30_method_54_code 1 = .ok (.getfield 9, 3) := by decide +kernel
theorem dSl_4 : decode prog_30_method_54_code 4 = .ok (.arraylength, 1) := by decide +kernel
theorem dSl_5 : decode prog_30_method_54_code 5 = .ok (.aload_n 0, 1) := by decide +kernel
theorem dSl_6 : decode prog_30_method_54_code 6 = .ok (.invokevirtual 335, 3) := by decide +kernel
theorem dSl_9 : decode prog_30_method_54_code 9 = .ok (.ishr, 1) := by decide +kernel
theorem dSl_10 : decode prog_30_method_54_code 10 = .ok (.ireturn, 1) := by decide +kernel
def ySi : MethodName := ⟨"java/lang/String", "isLatin1", "()Z"⟩
def mi_Si : MI := ("java/lang/String", ySi, prog_30_method_154_code, 1, some .boolean, [], { frames := 1, cells := 0, slots := 0, locals := 12 })
theorem cw_Si : Cond.code ySi prog_30_method_154_code 1 (some .boolean) ∈ cr_U := mem_U (i := 905) (by decide +kernel) rfl
theorem ini_Si : Cond.initialized "java/lang/String" ∈ cr_U := mem_U (i := 39) (by decide +kernel) rfl
theorem ok_Si : mOK mi_Si 0 := ⟨rfl, cw_Si, ini_Si, ⟨rfl, by decide⟩, by decide, by decide, rfl⟩
theorem im_Si : Cond.instanceMethod ySi ∈ cr_U := mem_U (i := 903) (by decide +kernel) rfl
theorem se_Si : Cond.selects strT ySi ySi ∈ cr_U := mem_U (i := 904) (by decide +kernel) rfl
theorem dSi_0 : decode prog_30_method_154_code 0 = .ok (.getstatic 38, 3) := by decide +kernel
theorem dSi_3 : decode prog_30_method_154_code 3 = .ok (.ifCond .eq 14, 3) := by decide +kernel
theorem dSi_6 : decode prog_30_method_154_code 6 = .ok (.aload_n 0, 1) := by decide +kernel
theorem dSi_7 : decode prog_30_method_154_code 7 = .ok (.getfield 15, 3) := by decide +kernel
theorem dSi_10 : decode prog_30_method_154_code 10 = .ok (.ifCond .ne 7, 3) := by decide +kernel
theorem dSi_13 : decode prog_30_method_154_code 13 = .ok (.iconst 1, 1) := by decide +kernel
theorem dSi_14 : decode prog_30_method_154_code 14 = .ok (.goto 4, 3) := by decide +kernel
theorem dSi_18 : decode prog_30_method_154_code 18 = .ok (.ireturn, 1) := by decide +kernel
def yPk : MethodName := ⟨"jdk/internal/util/Preconditions", "checkIndex", "(IILjava/util/function/BiFunction;)I"⟩
def mi_Pk : MI := ("jdk/internal/util/Preconditions", yPk, prog_41_method_11_code, 3, some .int, [], { frames := 1, cells := 0, slots := 0, locals := 12 })
theorem cw_Pk : Cond.code yPk prog_41_method_11_code 3 (some .int) ∈ cr_U := mem_U (i := 795) (by decide +kernel) rfl
theorem ini_Pk : Cond.initialized "jdk/internal/util/Preconditions" ∈ cr_U := mem_U (i := 45) (by decide +kernel) rfl
theorem ok_Pk : mOK mi_Pk 3 := ⟨rfl, cw_Pk, ini_Pk, ⟨rfl, by decide⟩, by decide, by decide, rfl⟩
theorem sm_Pk : Cond.static yPk ∈ cr_U := mem_U (i := 794) (by decide +kernel) rfl
theorem dPk_0 : decode prog_41_method_11_code 0 = .ok (.iload_n 0, 1) := by decide +kernel
theorem dPk_1 : decode prog_41_method_11_code 1 = .ok (.ifCond .lt 8, 3) := by decide +kernel
theorem dPk_4 : decode prog_41_method_11_code 4 = .ok (.iload_n 0, 1) := by decide +kernel
theorem dPk_5 : decode prog_41_method_11_code 5 = .ok (.iload_n 1, 1) := by decide +kernel
theorem dPk_6 : decode prog_41_method_11_code 6 = .ok (.if_icmp .lt 10, 3) := by decide +kernel
theorem dPk_16 : decode prog_41_method_11_code 16 = .ok (.iload_n 0, 1) := by decide +kernel
theorem dPk_17 : decode prog_41_method_11_code 17 = .ok (.ireturn, 1) := by decide +kernel
def ySk : MethodName := ⟨"java/lang/String", "checkIndex", "(II)V"⟩
def mi_Sk : MI := ("java/lang/String", ySk, prog_30_method_155_code, 2, none, [], { frames := 2, cells := 0, slots := 0, locals := 40 })
theorem cw_Sk : Cond.code ySk prog_30_method_155_code 2 (none) ∈ cr_U := mem_U (i := 792) (by decide +kernel) rfl
theorem ini_Sk : Cond.initialized "java/lang/String" ∈ cr_U := mem_U (i := 39) (by decide +kernel) rfl
theorem ok_Sk : mOK mi_Sk 2 := ⟨rfl, cw_Sk, ini_Sk, ⟨rfl, by decide⟩, by decide, by decide, rfl⟩
theorem sm_Sk : Cond.static ySk ∈ cr_U := mem_U (i := 791) (by decide +kernel) rfl
theorem dSk_0 : decode prog_30_method_155_code 0 = .ok (.iload_n 0, 1) := by decide +kernel
theorem dSk_1 : decode prog_30_method_155_code 1 = .ok (.iload_n 1, 1) := by decide +kernel
theorem dSk_2 : decode prog_30_method_155_code 2 = .ok (.getstatic 1053, 3) := by decide +kernel
theorem dSk_5 : decode prog_30_method_155_code 5 = .ok (.invokestatic 1059, 3) := by decide +kernel
theorem dSk_8 : decode prog_30_method_155_code 8 = .ok (.pop, 1) := by decide +kernel
theorem dSk_9 : decode prog_30_method_155_code 9 = .ok (.return_, 1) := by decide +kernel
def yLc : MethodName := ⟨"java/lang/StringLatin1", "charAt", "([BI)C"⟩
def mi_Lc : MI := ("java/lang/StringLatin1", yLc, prog_32_method_2_code, 2, some .char, [], { frames := 3, cells := 0, slots := 0, locals := 70 })
theorem cw_Lc : Cond.code yLc prog_32_method_2_code 2 (some .char) ∈ cr_U := mem_U (i := 908) (by decide +kernel) rfl
theorem ini_Lc : Cond.initialized "java/lang/StringLatin1" ∈ cr_U := mem_U (i := 46) (by decide +kernel) rfl
theorem ok_Lc : mOK mi_Lc 2 := ⟨rfl, cw_Lc, ini_Lc, ⟨rfl, by decide⟩, by decide, by decide, rfl⟩
theorem sm_Lc : Cond.static yLc ∈ cr_U := mem_U (i := 907) (by decide +kernel) rfl
theorem dLc_0 : decode prog_32_method_2_code 0 = .ok (.iload_n 1, 1) := by decide +kernel
theorem dLc_1 : decode prog_32_method_2_code 1 = .ok (.aload_n 0, 1) := by decide +kernel
theorem dLc_2 : decode prog_32_method_2_code 2 = .ok (.arraylength, 1) := by decide +kernel
theorem dLc_3 : decode prog_32_method_2_code 3 = .ok (.invokestatic 9, 3) := by decide +kernel
theorem dLc_6 : decode prog_32_method_2_code 6 = .ok (.aload_n 0, 1) := by decide +kernel
theorem dLc_7 : decode prog_32_method_2_code 7 = .ok (.iload_n 1, 1) := by decide +kernel
theorem dLc_8 : decode prog_32_method_2_code 8 = .ok (.baload, 1) := by decide +kernel
theorem dLc_9 : decode prog_32_method_2_code 9 = .ok (.sipush 255, 3) := by decide +kernel
theorem dLc_12 : decode prog_32_method_2_code 12 = .ok (.iand, 1) := by decide +kernel
theorem dLc_13 : decode prog_32_method_2_code 13 = .ok (.i2c, 1) := by decide +kernel
theorem dLc_14 : decode prog_32_method_2_code 14 = .ok (.ireturn, 1) := by decide +kernel
def ySh : MethodName := ⟨"java/lang/String", "charAt", "(I)C"⟩
def mi_Sh : MI := ("java/lang/String", ySh, prog_30_method_56_code, 2, some .char, [], { frames := 4, cells := 0, slots := 0, locals := 100 })
theorem cw_Sh : Cond.code ySh prog_30_method_56_code 2 (some .char) ∈ cr_U := mem_U (i := 901) (by decide +kernel) rfl
theorem ini_Sh : Cond.initialized "java/lang/String" ∈ cr_U := mem_U (i := 39) (by decide +kernel) rfl
theorem ok_Sh : mOK mi_Sh 1 := ⟨rfl, cw_Sh, ini_Sh, ⟨rfl, by decide⟩, by decide, by decide, rfl⟩
theorem im_Sh : Cond.instanceMethod ySh ∈ cr_U := mem_U (i := 899) (by decide +kernel) rfl
theorem se_Sh : Cond.selects strT ySh ySh ∈ cr_U := mem_U (i := 900) (by decide +kernel) rfl
theorem dSh_0 : decode prog_30_method_56_code 0 = .ok (.aload_n 0, 1) := by decide +kernel
theorem dSh_1 : decode prog_30_method_56_code 1 = .ok (.invokevirtual 492, 3) := by decide +kernel
theorem dSh_4 : decode prog_30_method_56_code 4 = .ok (.ifCond .eq 12, 3) := by decide +kernel
theorem dSh_7 : decode prog_30_method_56_code 7 = .ok (.aload_n 0, 1) := by decide +kernel
theorem dSh_8 : decode prog_30_method_56_code 8 = .ok (.getfield 9, 3) := by decide +kernel
theorem dSh_11 : decode prog_30_method_56_code 11 = .ok (.iload_n 1, 1) := by decide +kernel
theorem dSh_12 : decode prog_30_method_56_code 12 = .ok (.invokestatic 495, 3) := by decide +kernel
theorem dSh_15 : decode prog_30_method_56_code 15 = .ok (.ireturn, 1) := by decide +kernel
theorem ml_Sc_335 : Cond.methodLink "java/lang/String" 335 ySc ∈ cr_U := mem_U (i := 602) (by decide +kernel) rfl
theorem ml_Si_492 : Cond.methodLink "java/lang/String" 492 ySi ∈ cr_U := mem_U (i := 902) (by decide +kernel) rfl
theorem ml_Lc_495 : Cond.methodLink "java/lang/String" 495 yLc ∈ cr_U := mem_U (i := 906) (by decide +kernel) rfl
theorem ml_Sk_9 : Cond.methodLink "java/lang/StringLatin1" 9 ySk ∈ cr_U := mem_U (i := 909) (by decide +kernel) rfl
theorem ml_Pk_1059 : Cond.methodLink "java/lang/String" 1059 yPk ∈ cr_U := mem_U (i := 793) (by decide +kernel) rfl
theorem flS_38 : Cond.fieldLink "java/lang/String" 38 "java/lang/String" "COMPACT_STRINGS" "Z" ∈ cr_U := mem_U (i := 606) (by decide +kernel) rfl
theorem flS_1053 : Cond.fieldLink "java/lang/String" 1053 "jdk/internal/util/Preconditions" "SIOOBE_FORMATTER" "Ljava/util/function/BiFunction;" ∈ cr_U := mem_U (i := 687) (by decide +kernel) rfl
theorem flS_9 : Cond.fieldLink "java/lang/String" 9 "java/lang/String" "value" "[B" ∈ cr_U := mem_U (i := 864) (by decide +kernel) rfl
theorem flS_15 : Cond.fieldLink "java/lang/String" 15 "java/lang/String" "coder" "B" ∈ cr_U := mem_U (i := 865) (by decide +kernel) rfl
theorem kc_265 : Cond.constant "java/lang/Integer" 265 1431655765 ∈ cr_U := mem_U (i := 1237) (by decide +kernel) rfl
theorem kc_266 : Cond.constant "java/lang/Integer" 266 858993459 ∈ cr_U := mem_U (i := 1238) (by decide +kernel) rfl
theorem kc_267 : Cond.constant "java/lang/Integer" 267 252645135 ∈ cr_U := mem_U (i := 1239) (by decide +kernel) rfl
theorem mm_s : Cond.static Lib.Math.min.name ∈ cr_U := mem_U (i := 664) (by decide +kernel) rfl
theorem mm_i : Cond.initialized "java/lang/Math" ∈ cr_U := mem_U (i := 42) (by decide +kernel) rfl
set_option maxRecDepth 100000 in
theorem mm_c : Cond.code Lib.Math.min.name Lib.Math.min.code 2 (some .int) ∈ cr_U := mem_U (i := 665) (by decide +kernel) rfl
theorem ml_X3_79 : Cond.methodLink RX3 79 ySl ∈ cr_U := mem_U (i := 984) (by decide +kernel) rfl
theorem ml_X3_85 : Cond.methodLink RX3 85 ySh ∈ cr_U := mem_U (i := 985) (by decide +kernel) rfl
theorem ml_X11_163 : Cond.methodLink RX11 163 yBc ∈ cr_U := mem_U (i := 1234) (by decide +kernel) rfl
def ush (x y : Int32) : Int32 := (x.toUInt32 >>> (y.toUInt32 &&& Int32.toUInt32 31)).toInt32
def bc1 (x : Int32) : Int32 := x - (ush x 1 &&& 1431655765)
def bc2 (x : Int32) : Int32 := (bc1 x &&& 858993459) + (ush (bc1 x) 2 &&& 858993459)
def bc3 (x : Int32) : Int32 := bc2 x + ush (bc2 x) 4 &&& 252645135
def bc4 (x : Int32) : Int32 := bc3 x + ush (bc3 x) 8
def bc5 (x : Int32) : Int32 := bc4 x + ush (bc4 x) 16
def bitc (x : Int32) : Int32 := bc5 x &&& 63
section JDK
variable {τ : Type} {Y Y2 : MI} {pc q q2 : Nat} {L L' : List (Nat × Value)} {st : List Value} {M : Mem} {k n : Nat} {comp c1 c2 : Option τ} {emb : τ → Out}
theorem V_iushr {x y : Int32} (hd : decode Y.cc pc = .ok (.iushr, 1)) (hp : pc + 1 = q) (h : V Y q L (.int (ush x y) :: st) M k n comp emb) : V Y pc L (.int y :: .int x :: st) M k n comp emb := by
  subst hp
  exact fun a ha G hG p e s m args below meth c H locs ls F hW hS hl => lv_iushr F.1 F.2.1 hd rfl (h a ha G hG p e s m args below meth c H locs ls F hW hS hl)
theorem V_i2c {x v : Int32} (hv : (x.toUInt32 % 65536).toInt32 = v) (hd : decode Y.cc pc = .ok (.i2c, 1)) (hp : pc + 1 = q) (h : V Y q L (.int v :: st) M k n comp emb) : V Y pc L (.int x :: st) M k n comp emb := by
  subst hp
  exact fun a ha G hG p e s m args below meth c H locs ls F hW hS hl => lv_i2c F.1 F.2.1 hd hv (h a ha G hG p e s m args below meth c H locs ls F hW hS hl)
theorem V_gsq {idx : Nat} {C nm ds : String} (hZ : ∀ G : Gx, g_ok G → va_Z C nm ds .null G.A G.s G.s.heap ∨ va_Z C nm ds (.ref (G.ad 41)) G.A G.s G.s.heap) (hl : Cond.fieldLink Y.own idx C nm ds ∈ cr_U) (hd : decode Y.cc pc = .ok (.getstatic idx, 3)) (hp : pc + 3 = q) (h : ∀ z : Option Nat, V Y q L (va_rf z :: st) M k n comp emb) : V Y pc L st M k n comp emb := by
  subst hp
  intro a ha G hG p e s m args below meth c H locs ls F hW hS hl'
  rcases hZ G hG with h0 | h0
  · exact va_gets F.1 F.2.1 (F.Z h0) hS F.own (F.U hl) (fun _ z => z) hd (h none a ha G hG p e s m args below meth c H locs ls F hW hS hl')
  · have h2 := h (some 41) a ha G hG p e s m args below meth c H locs ls F hW hS hl'
    have e1 : (va_rf (some 41) :: st).map (cr_v G.r) = .ref (G.ad 41) :: st.map (cr_v G.r) := by
      show Value.ref (G.r 41) :: _ = _
      rw [Gx.r_lo (by omega)]
    rw [e1] at h2
    exact va_gets F.1 F.2.1 (F.Z h0) hS F.own (F.U hl) (fun _ z => z) hd h2
theorem V_lenO {r N : Nat} {ty : FieldType} {f : Gx → Nat → Value} (hr : r < 100) (hT : ∀ G : Gx, g_ok G → va_T ty (G.ad r) N (f G) G.A G.s G.s.heap) (hd : decode Y.cc pc = .ok (.arraylength, 1)) (hp : pc + 1 = q) (h : V Y q L (.int (Int32.ofNat N) :: st) M k n comp emb) : V Y pc L (.ref r :: st) M k n comp emb := by
  subst hp
  intro a ha G hG p e s m args below meth c H locs ls F hW hS hl'
  show W _ _ _ _ _ _ _ _ _ _ _ _ _ _ _ (F0 m pc ls (.ref (G.r r) :: _))
  rw [Gx.r_lo hr]
  exact va_tlen F.1 F.2.1 (F.Tb (hT G hG)) hS rfl hd (h a ha G hG p e s m args below meth c H locs ls F hW hS hl')
theorem V_ldO {r N : Nat} {f : Nat → Int32} {i : Int32} (hr : r < 100) (hT : ∀ G : Gx, g_ok G → va_T .byte (G.ad r) N (fun j => .int (f j)) G.A G.s G.s.heap) (hi : vp_in i N) (hd : decode Y.cc pc = .ok (.baload, 1)) (hp : pc + 1 = q) (h : V Y q L (.int (f i.toNatClampNeg) :: st) M k n comp emb) : V Y pc L (.int i :: .ref r :: st) M k n comp emb := by
  subst hp
  intro a ha G hG p e s m args below meth c H locs ls F hW hS hl'
  show W _ _ _ _ _ _ _ _ _ _ _ _ _ _ _ (F0 m pc ls (.int i :: .ref (G.r r) :: _))
  rw [Gx.r_lo hr]
  exact va_tb F.1 F.2.1 (F.Tb (hT G hG)) hS hi rfl hd (h a ha G hG p e s m args below meth c H locs ls F hW hS hl')
theorem k_Bc (x : Int32) (M : Mem) : K mi_Bc [.int x] M (some (bitc x)) (eI M) := by
  refine K_of_V ok_Bc (Nat.le_of_ble_eq_true rfl) ?_
  show V mi_Bc 0 [(0, .int x)] [] M 0 0 (some (bitc x)) (eI M)
  refine V_iload_n dBc_0 rfl 0 rfl ?_
  refine V_iload_n dBc_1 rfl 0 rfl ?_
  refine V_iconst (x := 1) dBc_2 rfl rfl ?_
  refine V_iushr dBc_3 rfl ?_
  refine V_ldcw (x := 1431655765) kc_265 dBc_4 rfl ?_
  refine V_iand dBc_7 rfl ?_
  refine V_isub dBc_8 rfl ?_
  refine V_istore_n (L' := [(0, .int (bc1 x))]) dBc_9 rfl (by decide) rfl ?_
  refine V_iload_n dBc_10 rfl 0 rfl ?_
  refine V_ldcw (x := 858993459) kc_266 dBc_11 rfl ?_
  refine V_iand dBc_14 rfl ?_
  refine V_iload_n dBc_15 rfl 0 rfl ?_
  refine V_iconst (x := 2) dBc_16 rfl rfl ?_
  refine V_iushr dBc_17 rfl ?_
  refine V_ldcw (x := 858993459) kc_266 dBc_18 rfl ?_
  refine V_iand dBc_21 rfl ?_
  refine V_iadd dBc_22 rfl ?_
  refine V_istore_n (L' := [(0, .int (bc2 x))]) dBc_23 rfl (by decide) rfl ?_
  refine V_iload_n dBc_24 rfl 0 rfl ?_
  refine V_iload_n dBc_25 rfl 0 rfl ?_
  refine V_iconst (x := 4) dBc_26 rfl rfl ?_
  refine V_iushr dBc_27 rfl ?_
  refine V_iadd dBc_28 rfl ?_
  refine V_ldcw (x := 252645135) kc_267 dBc_29 rfl ?_
  refine V_iand dBc_32 rfl ?_
  refine V_istore_n (L' := [(0, .int (bc3 x))]) dBc_33 rfl (by decide) rfl ?_
  refine V_iload_n dBc_34 rfl 0 rfl ?_
  refine V_iload_n dBc_35 rfl 0 rfl ?_
  refine V_bipush (x := 8) dBc_36 rfl rfl ?_
  refine V_iushr dBc_38 rfl ?_
  refine V_iadd dBc_39 rfl ?_
  refine V_istore_n (L' := [(0, .int (bc4 x))]) dBc_40 rfl (by decide) rfl ?_
  refine V_iload_n dBc_41 rfl 0 rfl ?_
  refine V_iload_n dBc_42 rfl 0 rfl ?_
  refine V_bipush (x := 16) dBc_43 rfl rfl ?_
  refine V_iushr dBc_45 rfl ?_
  refine V_iadd dBc_46 rfl ?_
  refine V_istore_n (L' := [(0, .int (bc5 x))]) dBc_47 rfl (by decide) rfl ?_
  refine V_iload_n dBc_48 rfl 0 rfl ?_
  refine V_bipush (x := 63) dBc_49 rfl rfl ?_
  refine V_iand dBc_51 rfl ?_
  exact V_iret dBc_52 rfl rfl ⟨Nat.le_of_ble_eq_true rfl, Nat.le_of_ble_eq_true rfl⟩
theorem V_bitc {x : Int32} {idx : Nat} (hl : Cond.methodLink Y.own idx yBc ∈ cr_U) (hd : decode Y.cc pc = .ok (.invokestatic idx, 3)) (hp : pc + 3 = q) (hrm : rmOK Y mi_Bc k n) (hcat : (st.map fun v => v.category).sum ≤ 8) (h : V Y q L (.int (bitc x) :: st) M k n comp emb) : V Y pc L (.int x :: st) M k n comp emb := by
  show V Y pc L (.int x :: st) M k n ((some (bitc x)).bind fun _ => comp) emb
  exact V_callS (As := [.int x]) (st := st) (k_Bc x M) ok_Bc sm_Bc hl hrm hd hp rfl rfl hcat (fun z v M1 hz e => by cases hz; cases e; exact h) (fun z E M1 hz e => by cases e)
theorem k_Sc (i : Nat) (hi : i < 15) (M : Mem) : K mi_Sc [.ref (20 + i)] M (some (0 : Int32)) (eI M) := by
  refine K_of_V ok_Sc (Nat.le_of_ble_eq_true rfl) ?_
  show V mi_Sc 0 [(0, .ref (20 + i))] [] M 0 0 (some 0) (eI M)
  refine V_gets (v := .int 1) (fun G hG => (g_x hG).2.2.2.2.1) (Or.inl flS_38) dSc_0 rfl ?_
  refine V_if_eq_f (q := 13) (q2 := 6) dSc_3 (by decide) rfl (by decide) ?_
  refine V_aload_n dSc_6 rfl 0 rfl ?_
  refine V_getO (v := .int 0) (by omega) (fun G hG => ((g_x hG).2.2.1 i hi).2.1) flS_15 dSc_7 rfl ?_
  refine V_goto (q := 14) dSc_10 (by decide) ?_
  exact V_nret dSc_14 rfl (Or.inl rfl) rfl rfl ⟨Nat.le_of_ble_eq_true rfl, Nat.le_of_ble_eq_true rfl⟩
theorem str_O {i : Nat} (hi : i < 15) : ∀ G : Gx, g_ok G → va_O strT (G.r (20 + i)) G.A G.s G.s.heap := fun G hG => by
  rw [Gx.r_lo (by omega)]
  exact ((g_x hG).2.2.1 i hi).1
theorem str_V {i : Nat} (hi : i < 15) : ∀ G : Gx, g_ok G → va_OF strT "value" "[B" (cr_v G.r (.ref (60 + i))) (G.ad (20 + i)) G.A G.s G.s.heap := fun G hG => by
  show va_OF _ _ _ (.ref (G.r (60 + i))) _ _ _ _
  rw [Gx.r_lo (by omega)]
  exact ((g_x hG).2.2.1 i hi).2.2.1
theorem str_T {i : Nat} (hi : i < 15) : ∀ G : Gx, g_ok G → va_T .byte (G.ad (60 + i)) (kwWord i).length (fun j => .int ((kwWord i).getD j 0)) G.A G.s G.s.heap := fun G hG => ((g_x hG).2.2.1 i hi).2.2.2
theorem k_Sl (i : Nat) (hi : i < 15) (M : Mem) : K mi_Sl [.ref (20 + i)] M (some (Int32.ofNat (kwWord i).length)) (eI M) := by
  refine K_of_V ok_Sl (Nat.le_of_ble_eq_true rfl) ?_
  show V mi_Sl 0 [(0, .ref (20 + i))] [] M 0 0 ((some (0 : Int32)).bind fun _ => some (Int32.ofNat (kwWord i).length)) (eI M)
  refine V_aload_n dSl_0 rfl 0 rfl ?_
  refine V_getO (v := .ref (60 + i)) (by omega) (str_V hi) flS_9 dSl_1 rfl ?_
  refine V_lenO (by omega) (str_T hi) dSl_4 rfl ?_
  refine V_aload_n dSl_5 rfl 0 rfl ?_
  refine V_callO (As := []) (k_Sc i hi M) (str_O hi) ok_Sc im_Sc se_Sc rfl ml_Sc_335 ⟨⟨Nat.le_of_ble_eq_true rfl, Nat.le_of_ble_eq_true rfl⟩, Nat.le_of_ble_eq_true rfl, Nat.le_of_ble_eq_true rfl⟩ dSl_6 rfl rfl rfl (Nat.le_of_ble_eq_true rfl) (fun z v M1 hz e => ?_) (fun z E M1 hz e => by cases e)
  cases hz
  cases e
  show V mi_Sl 9 [(0, .ref (20 + i))] [.int 0, .int (Int32.ofNat (kwWord i).length)] M 0 0 (some (Int32.ofNat (kwWord i).length)) (eI M)
  refine V_ishr dSl_9 rfl ?_
  have e0 : Int32.ofNat (kwWord i).length >>> ((0 : Int32) &&& 31) = Int32.ofNat (kwWord i).length := by
    rw [show ((0 : Int32) &&& 31) = 0 from rfl]
    exact Int32.shiftRight_zero
  rw [e0]
  exact V_iret dSl_10 rfl rfl ⟨Nat.le_of_ble_eq_true rfl, Nat.le_of_ble_eq_true rfl⟩
theorem k_Si (i : Nat) (hi : i < 15) (M : Mem) : K mi_Si [.ref (20 + i)] M (some true) (eZ M) := by
  refine K_of_V ok_Si (Nat.le_of_ble_eq_true rfl) ?_
  show V mi_Si 0 [(0, .ref (20 + i))] [] M 0 0 (some true) (eZ M)
  refine V_gets (v := .int 1) (fun G hG => (g_x hG).2.2.2.2.1) (Or.inl flS_38) dSi_0 rfl ?_
  refine V_if_eq_f (q := 17) (q2 := 6) dSi_3 (by decide) rfl (by decide) ?_
  refine V_aload_n dSi_6 rfl 0 rfl ?_
  refine V_getO (v := .int 0) (by omega) (fun G hG => ((g_x hG).2.2.1 i hi).2.1) flS_15 dSi_7 rfl ?_
  refine V_if_ne_f (q := 17) (q2 := 13) dSi_10 (by decide) rfl (by decide) ?_
  refine V_iconst (x := 1) dSi_13 rfl rfl ?_
  refine V_goto (q := 18) dSi_14 (by decide) ?_
  exact V_zret (v := true) dSi_18 rfl rfl ⟨Nat.le_of_ble_eq_true rfl, Nat.le_of_ble_eq_true rfl⟩
def pChk (x y : Int32) : Option Int32 := if x < 0 then none else (if x < y then some x else none)
theorem k_Pk (x y : Int32) (z : Option Nat) (M : Mem) : K mi_Pk [.int x, .int y, va_rf z] M (pChk x y) (eI M) := by
  refine K_of_V ok_Pk (by cases z <;> exact Nat.le_of_ble_eq_true rfl) ?_
  have e0 : lv_args 0 [.int x, .int y, va_rf z] = [(0, .int x), (1, .int y), (2, va_rf z)] := by cases z <;> rfl
  rw [e0]
  unfold pChk
  refine V_iload_n dPk_0 rfl 0 rfl ?_
  refine V_if_lt (q := 9) (q2 := 4) dPk_1 (by decide) rfl V_none ?_
  refine V_iload_n dPk_4 rfl 0 rfl ?_
  refine V_iload_n dPk_5 rfl 1 rfl ?_
  refine V_icmp_lt (q := 16) (q2 := 9) dPk_6 (by decide) rfl ?_ V_none
  refine V_iload_n dPk_16 rfl 0 rfl ?_
  exact V_iret dPk_17 rfl rfl ⟨Nat.le_of_ble_eq_true rfl, Nat.le_of_ble_eq_true rfl⟩
theorem k_Sk (x y : Int32) (M : Mem) : K mi_Sk [.int x, .int y] M ((pChk x y).bind fun _ => some M) wV := by
  refine K_of_V ok_Sk (Nat.le_of_ble_eq_true rfl) ?_
  show V mi_Sk 0 [(0, .int x), (1, .int y)] [] M 0 0 ((pChk x y).bind fun _ => some M) wV
  refine V_iload_n dSk_0 rfl 0 rfl ?_
  refine V_iload_n dSk_1 rfl 1 rfl ?_
  refine V_gsq (fun G hG => (g_x hG).2.2.2.2.2) flS_1053 dSk_2 rfl fun z => ?_
  refine V_cSeI (As := [.int x, .int y, va_rf z]) (k_Pk x y z M) ok_Pk sm_Pk ml_Pk_1059 ⟨⟨Nat.le_of_ble_eq_true rfl, Nat.le_of_ble_eq_true rfl⟩, Nat.le_of_ble_eq_true rfl, Nat.le_of_ble_eq_true rfl⟩ dSk_5 rfl rfl rfl (Nat.le_of_ble_eq_true rfl) rfl rfl (fun w => ?_)
  refine V_pop dSk_8 rfl rfl ?_
  exact V_vret dSk_9 rfl rfl ⟨Nat.le_of_ble_eq_true rfl, Nat.le_of_ble_eq_true rfl⟩
theorem kw_narrow : ∀ i, i < 15 → ∀ j, j < (kwWord i).length → (((kwWord i).getD j 0 &&& 255).toUInt32 % 65536).toInt32 = (kwWord i).getD j 0 ∧ narrow .char (.int ((kwWord i).getD j 0)) = .int ((kwWord i).getD j 0) := by decide +kernel
theorem k_Lc (i : Nat) (hi : i < 15) (x : Int32) (hx : vp_in x (kwWord i).length) (M : Mem) : K mi_Lc [.ref (60 + i), .int x] M ((((pChk x (Int32.ofNat (kwWord i).length)).bind fun _ => some M)).bind fun _ => some ((kwWord i).getD x.toNatClampNeg 0)) (eI M) := by
  refine K_of_V ok_Lc (Nat.le_of_ble_eq_true rfl) ?_
  show V mi_Lc 0 [(0, .ref (60 + i)), (1, .int x)] [] M 0 0 _ (eI M)
  obtain ⟨e1, e2⟩ := kw_narrow i hi x.toNatClampNeg (Nat.not_le.mp fun z => hx (Or.inr z))
  refine V_iload_n dLc_0 rfl 1 rfl ?_
  refine V_aload_n dLc_1 rfl 0 rfl ?_
  refine V_lenO (by omega) (str_T hi) dLc_2 rfl ?_
  refine V_callS (As := [.int x, .int (Int32.ofNat (kwWord i).length)]) (k_Sk x _ M) ok_Sk sm_Sk ml_Sk_9 ⟨⟨Nat.le_of_ble_eq_true rfl, Nat.le_of_ble_eq_true rfl⟩, Nat.le_of_ble_eq_true rfl, Nat.le_of_ble_eq_true rfl⟩ dLc_3 rfl rfl rfl (Nat.le_of_ble_eq_true rfl) (fun z v M1 hz e => ?_) (fun z E M1 hz e => by cases e)
  have hM : z = M := by
    cases hp : pChk x (Int32.ofNat (kwWord i).length) with
    | none => rw [hp] at hz; cases hz
    | some w => rw [hp] at hz; cases hz; rfl
  subst hM
  cases e
  show V mi_Lc 6 [(0, .ref (60 + i)), (1, .int x)] [] z 0 0 (some ((kwWord i).getD x.toNatClampNeg 0)) (eI z)
  refine V_aload_n dLc_6 rfl 0 rfl ?_
  refine V_iload_n dLc_7 rfl 1 rfl ?_
  refine V_ldO (f := fun j => (kwWord i).getD j 0) (by omega) (str_T hi) hx dLc_8 rfl ?_
  refine V_sipush (x := 255) dLc_9 rfl rfl ?_
  refine V_iand dLc_12 rfl ?_
  refine V_i2c e1 dLc_13 rfl ?_
  exact V_nret dLc_14 rfl (Or.inr rfl) e2 rfl ⟨Nat.le_of_ble_eq_true rfl, Nat.le_of_ble_eq_true rfl⟩
theorem pChk_in {x : Int32} {N : Nat} (hx : vp_in x N) (hN : N < 2 ^ 31) : pChk x (Int32.ofNat N) = some x := by
  obtain ⟨j, hj, rfl⟩ := vp_in_of hx hN
  unfold pChk
  rw [if_neg (nI_pos (by omega)), if_pos (show nI j < Int32.ofNat N from nI_lt hj hN)]
theorem kw_len : ∀ i, i < 15 → (kwWord i).length < 2 ^ 31 := by decide +kernel
theorem k_Sh (i : Nat) (hi : i < 15) (x : Int32) (hx : vp_in x (kwWord i).length) (M : Mem) : K mi_Sh [.ref (20 + i), .int x] M (some ((kwWord i).getD x.toNatClampNeg 0)) (eI M) := by
  refine K_of_V ok_Sh (Nat.le_of_ble_eq_true rfl) ?_
  obtain ⟨-, e2⟩ := kw_narrow i hi x.toNatClampNeg (Nat.not_le.mp fun z => hx (Or.inr z))
  have h : V mi_Sh 0 [(0, .ref (20 + i)), (1, .int x)] [] M 0 0 ((some true).bind fun _ => ((((pChk x (Int32.ofNat (kwWord i).length)).bind fun _ => some M)).bind fun _ => some ((kwWord i).getD x.toNatClampNeg 0)).bind fun _ => some ((kwWord i).getD x.toNatClampNeg 0)) (eI M) := by
    refine V_aload_n dSh_0 rfl 0 rfl ?_
    refine V_callO (As := []) (k_Si i hi M) (str_O hi) ok_Si im_Si se_Si rfl ml_Si_492 ⟨⟨Nat.le_of_ble_eq_true rfl, Nat.le_of_ble_eq_true rfl⟩, Nat.le_of_ble_eq_true rfl, Nat.le_of_ble_eq_true rfl⟩ dSh_1 rfl rfl rfl (Nat.le_of_ble_eq_true rfl) (fun z v M1 hz e => ?_) (fun z E M1 hz e => by cases e)
    cases hz
    cases e
    refine V_if_eq_f (x := 1) (q := 16) (q2 := 7) dSh_4 (by decide) rfl (by decide) ?_
    refine V_aload_n dSh_7 rfl 0 rfl ?_
    refine V_getO (v := .ref (60 + i)) (by omega) (str_V hi) flS_9 dSh_8 rfl ?_
    refine V_iload_n dSh_11 rfl 1 rfl ?_
    refine V_callS (As := [.ref (60 + i), .int x]) (k_Lc i hi x hx M) ok_Lc sm_Lc ml_Lc_495 ⟨⟨Nat.le_of_ble_eq_true rfl, Nat.le_of_ble_eq_true rfl⟩, Nat.le_of_ble_eq_true rfl, Nat.le_of_ble_eq_true rfl⟩ dSh_12 rfl rfl rfl (Nat.le_of_ble_eq_true rfl) (fun z v M1 hz e => ?_) (fun z E M1 hz e => by cases e)
    rw [pChk_in hx (kw_len i hi)] at hz
    cases hz
    cases e
    exact V_nret dSh_15 rfl (Or.inr rfl) e2 rfl ⟨Nat.le_of_ble_eq_true rfl, Nat.le_of_ble_eq_true rfl⟩
  rw [pChk_in hx (kw_len i hi)] at h
  exact h
def sLen (r : Nat) : Option Int32 := if 20 ≤ r ∧ r < 35 then some (Int32.ofNat (kwWord (r - 20)).length) else none
theorem V_sLen {r idx : Nat} {cont : Int32 → Option τ} (hl : Cond.methodLink Y.own idx ySl ∈ cr_U) (hd : decode Y.cc pc = .ok (.invokevirtual idx, 3)) (hp : pc + 3 = q) (hrm : rmOK Y mi_Sl k n) (hcat : (st.map fun v => v.category).sum ≤ 8) (h : ∀ x, V Y q L (.int x :: st) M k n (cont x) emb) : V Y pc L (.ref r :: st) M k n ((sLen r).bind cont) emb := by
  unfold sLen
  split
  · rename_i hr
    obtain ⟨i, rfl⟩ : ∃ i, r = 20 + i := ⟨r - 20, by omega⟩
    have hi : i < 15 := by omega
    rw [Nat.add_sub_cancel_left]
    exact V_callO (As := []) (st := st) (k_Sl i hi M) (str_O hi) ok_Sl im_Sl se_Sl rfl hl hrm hd hp rfl rfl hcat (fun z v M1 hz e => by cases hz; cases e; exact h _) (fun z E M1 hz e => by cases e)
  · exact V_none
def sChr (r : Nat) (x : Int32) : Option Int32 := if (20 ≤ r ∧ r < 35) ∧ inR x (kwWord (r - 20)).length = true then some ((kwWord (r - 20)).getD x.toNatClampNeg 0) else none
theorem V_sChr {r idx : Nat} {x : Int32} {cont : Int32 → Option τ} (hl : Cond.methodLink Y.own idx ySh ∈ cr_U) (hd : decode Y.cc pc = .ok (.invokevirtual idx, 3)) (hp : pc + 3 = q) (hrm : rmOK Y mi_Sh k n) (hcat : (st.map fun v => v.category).sum ≤ 8) (h : ∀ x, V Y q L (.int x :: st) M k n (cont x) emb) : V Y pc L (.int x :: .ref r :: st) M k n ((sChr r x).bind cont) emb := by
  unfold sChr
  split
  · rename_i hr
    obtain ⟨i, rfl⟩ : ∃ i, r = 20 + i := ⟨r - 20, by omega⟩
    have hi : i < 15 := by omega
    rw [Nat.add_sub_cancel_left] at hr ⊢
    exact V_callO (As := [.int x]) (st := st) (k_Sh i hi x (inR_of hr.2) M) (str_O hi) ok_Sh im_Sh se_Sh rfl hl hrm hd hp rfl rfl hcat (fun z v M1 hz e => by cases hz; cases e; exact h _) (fun z E M1 hz e => by cases e)
  · exact V_none
theorem ts_of {x : Int32} {n : Nat} (hn : n < 2 ^ 31) (h : ∀ j, j < n → ¬ x = nI j) : x.toInt < 0 ∨ ((n : Int) - 1) < x.toInt := by
  by_cases h0 : x < 0
  · exact Or.inl (by simpa using Int32.lt_iff_toInt_lt.mp h0)
  · obtain ⟨j, hj, rfl⟩ := nI_of h0
    rw [nI_toInt hj]
    by_cases hjn : j < n
    · exact absurd rfl (h j hjn)
    · exact Or.inr (by omega)
theorem rm_loc {x B C d : Nat} (h : x ≤ C) : x + (B + C * d) ≤ B + C * (d + 1) := by rw [Nat.mul_succ]; omega
end JDK

theorem ts_3 {x : Int32} (h0 : ¬ x = 0) (h1 : ¬ x = 1) (h2 : ¬ x = 2) : x.toInt < 0 ∨ ((2 : Int)) < x.toInt := ts_of (n := 3) (by omega) (fun j hj => match j, hj with | 0, _ => h0 | 1, _ => h1 | 2, _ => h2 | j + 3, hj => absurd hj (by omega))
theorem ts_4 {x : Int32} (h0 : ¬ x = 0) (h1 : ¬ x = 1) (h2 : ¬ x = 2) (h3 : ¬ x = 3) : x.toInt < 0 ∨ ((3 : Int)) < x.toInt := ts_of (n := 4) (by omega) (fun j hj => match j, hj with | 0, _ => h0 | 1, _ => h1 | 2, _ => h2 | 3, _ => h3 | j + 4, hj => absurd hj (by omega))
theorem ts_5 {x : Int32} (h0 : ¬ x = 0) (h1 : ¬ x = 1) (h2 : ¬ x = 2) (h3 : ¬ x = 3) (h4 : ¬ x = 4) : x.toInt < 0 ∨ ((4 : Int)) < x.toInt := ts_of (n := 5) (by omega) (fun j hj => match j, hj with | 0, _ => h0 | 1, _ => h1 | 2, _ => h2 | 3, _ => h3 | 4, _ => h4 | j + 5, hj => absurd hj (by omega))
theorem ts_6 {x : Int32} (h0 : ¬ x = 0) (h1 : ¬ x = 1) (h2 : ¬ x = 2) (h3 : ¬ x = 3) (h4 : ¬ x = 4) (h5 : ¬ x = 5) : x.toInt < 0 ∨ ((5 : Int)) < x.toInt := ts_of (n := 6) (by omega) (fun j hj => match j, hj with | 0, _ => h0 | 1, _ => h1 | 2, _ => h2 | 3, _ => h3 | 4, _ => h4 | 5, _ => h5 | j + 6, hj => absurd hj (by omega))
theorem ts_7 {x : Int32} (h0 : ¬ x = 0) (h1 : ¬ x = 1) (h2 : ¬ x = 2) (h3 : ¬ x = 3) (h4 : ¬ x = 4) (h5 : ¬ x = 5) (h6 : ¬ x = 6) : x.toInt < 0 ∨ ((6 : Int)) < x.toInt := ts_of (n := 7) (by omega) (fun j hj => match j, hj with | 0, _ => h0 | 1, _ => h1 | 2, _ => h2 | 3, _ => h3 | 4, _ => h4 | 5, _ => h5 | 6, _ => h6 | j + 7, hj => absurd hj (by omega))
theorem ts_50 {x : Int32} (h0 : ¬ x = 0) (h1 : ¬ x = 1) (h2 : ¬ x = 2) (h3 : ¬ x = 3) (h4 : ¬ x = 4) (h5 : ¬ x = 5) (h6 : ¬ x = 6) (h7 : ¬ x = 7) (h8 : ¬ x = 8) (h9 : ¬ x = 9) (h10 : ¬ x = 10) (h11 : ¬ x = 11) (h12 : ¬ x = 12) (h13 : ¬ x = 13) (h14 : ¬ x = 14) (h15 : ¬ x = 15) (h16 : ¬ x = 16) (h17 : ¬ x = 17) (h18 : ¬ x = 18) (h19 : ¬ x = 19) (h20 : ¬ x = 20) (h21 : ¬ x = 21) (h22 : ¬ x = 22) (h23 : ¬ x = 23) (h24 : ¬ x = 24) (h25 : ¬ x = 25) (h26 : ¬ x = 26) (h27 : ¬ x = 27) (h28 : ¬ x = 28) (h29 : ¬ x = 29) (h30 : ¬ x = 30) (h31 : ¬ x = 31) (h32 : ¬ x = 32) (h33 : ¬ x = 33) (h34 : ¬ x = 34) (h35 : ¬ x = 35) (h36 : ¬ x = 36) (h37 : ¬ x = 37) (h38 : ¬ x = 38) (h39 : ¬ x = 39) (h40 : ¬ x = 40) (h41 : ¬ x = 41) (h42 : ¬ x = 42) (h43 : ¬ x = 43) (h44 : ¬ x = 44) (h45 : ¬ x = 45) (h46 : ¬ x = 46) (h47 : ¬ x = 47) (h48 : ¬ x = 48) (h49 : ¬ x = 49) : x.toInt < 0 ∨ ((49 : Int)) < x.toInt := ts_of (n := 50) (by omega) (fun j hj => match j, hj with | 0, _ => h0 | 1, _ => h1 | 2, _ => h2 | 3, _ => h3 | 4, _ => h4 | 5, _ => h5 | 6, _ => h6 | 7, _ => h7 | 8, _ => h8 | 9, _ => h9 | 10, _ => h10 | 11, _ => h11 | 12, _ => h12 | 13, _ => h13 | 14, _ => h14 | 15, _ => h15 | 16, _ => h16 | 17, _ => h17 | 18, _ => h18 | 19, _ => h19 | 20, _ => h20 | 21, _ => h21 | 22, _ => h22 | 23, _ => h23 | 24, _ => h24 | 25, _ => h25 | 26, _ => h26 | 27, _ => h27 | 28, _ => h28 | 29, _ => h29 | 30, _ => h30 | 31, _ => h31 | 32, _ => h32 | 33, _ => h33 | 34, _ => h34 | 35, _ => h35 | 36, _ => h36 | 37, _ => h37 | 38, _ => h38 | 39, _ => h39 | 40, _ => h40 | 41, _ => h41 | 42, _ => h42 | 43, _ => h43 | 44, _ => h44 | 45, _ => h45 | 46, _ => h46 | 47, _ => h47 | 48, _ => h48 | 49, _ => h49 | j + 50, hj => absurd hj (by omega))
