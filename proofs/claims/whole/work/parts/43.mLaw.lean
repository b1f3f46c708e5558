theorem v_L_law_3275 (fu : Nat) (rc28 : Nat → Nat → Nat → Nat → Nat → Int32 → Mem → Option (Bool × Mem)) (h28 : ∀ (l0 : Nat) (l1 : Nat) (l2 : Nat) (l3 : Nat) (l4 : Nat) (l5 : Int32) (M : Mem) (k n : Nat) (_ : kb 8 48 fu k n), V mi_L_law 28 [(0, .ref l0), (1, .ref l1), (2, .ref l2), (3, .ref l3), (4, .ref l4), (5, .int l5)] [] M k n (rc28 l0 l1 l2 l3 l4 l5 M) wZ) (l0 : Nat) (l1 : Nat) (l2 : Nat) (l3 : Nat) (l4 : Nat) (l5 : Int32) (M : Mem) (k n : Nat) (hb : kb 8 48 (fu + 1) k n) : V mi_L_law 3275 [(0, .ref l0), (1, .ref l1), (2, .ref l2), (3, .ref l3), (4, .ref l4), (5, .int l5)] [] M (k + 8) (n + 48) (f_L_law_3275 rc28 l0 l1 l2 l3 l4 l5 M) wZ := by
  unfold f_L_law_3275
  refine V_iinc (y := (l5 + 7)) (L' := [(0, .ref l0), (1, .ref l1), (2, .ref l2), (3, .ref l3), (4, .ref l4), (5, .int (l5 + 7))]) dL_law_3275 rfl 5 rfl rfl (by decide) rfl ?_
  refine V_goto (q := 28) dL_law_3278 (by decide) ?_
  exact h28 l0 l1 l2 l3 l4 (l5 + 7) M _ _ (kb_next hb (Nat.le_of_ble_eq_true rfl) (Nat.le_of_ble_eq_true rfl))
theorem v_L_law_361 (fu : Nat) (rc28 : Nat → Nat → Nat → Nat → Nat → Int32 → Mem → Option (Bool × Mem)) (h28 : ∀ (l0 : Nat) (l1 : Nat) (l2 : Nat) (l3 : Nat) (l4 : Nat) (l5 : Int32) (M : Mem) (k n : Nat) (_ : kb 8 48 fu k n), V mi_L_law 28 [(0, .ref l0), (1, .ref l1), (2, .ref l2), (3, .ref l3), (4, .ref l4), (5, .int l5)] [] M k n (rc28 l0 l1 l2 l3 l4 l5 M) wZ) (l0 : Nat) (l1 : Nat) (l2 : Nat) (l3 : Nat) (l4 : Nat) (l5 : Int32) (M : Mem) (k n : Nat) (hb : kb 8 48 (fu + 1) k n) : V mi_L_law 361 [(0, .ref l0), (1, .ref l1), (2, .ref l2), (3, .ref l3), (4, .ref l4), (5, .int l5)] [] M (k + 1) (n + 6) (f_L_law_361 rc28 l0 l1 l2 l3 l4 l5 M) wZ := by
  unfold f_L_law_361
  refine V_goto (q := 3275) dL_law_361 (by decide) ?_
  exact (V_w (Nat.add_le_add_left (Nat.le_of_ble_eq_true rfl) _) (Nat.add_le_add_left (Nat.le_of_ble_eq_true rfl) _) (v_L_law_3275 fu rc28 h28 l0 l1 l2 l3 l4 l5 M k n hb))
theorem v_L_law_260 (fu : Nat) (rc28 : Nat → Nat → Nat → Nat → Nat → Int32 → Mem → Option (Bool × Mem)) (h28 : ∀ (l0 : Nat) (l1 : Nat) (l2 : Nat) (l3 : Nat) (l4 : Nat) (l5 : Int32) (M : Mem) (k n : Nat) (_ : kb 8 48 fu k n), V mi_L_law 28 [(0, .ref l0), (1, .ref l1), (2, .ref l2), (3, .ref l3), (4, .ref l4), (5, .int l5)] [] M k n (rc28 l0 l1 l2 l3 l4 l5 M) wZ) (l0 : Nat) (l1 : Nat) (l2 : Nat) (l3 : Nat) (l4 : Nat) (l5 : Int32) (M : Mem) (k n : Nat) (hb : kb 8 48 (fu + 1) k n) : V mi_L_law 260 [(0, .ref l0), (1, .ref l1), (2, .ref l2), (3, .ref l3), (4, .ref l4), (5, .int l5)] [] M (k + 0) (n + 0) (f_L_law_260 rc28 l0 l1 l2 l3 l4 l5 M) wZ := by
  unfold f_L_law_260
  refine V_aload_n dL_law_260 rfl 1 rfl ?_
  refine V_aload_n dL_law_261 rfl 0 rfl ?_
  refine V_iload dL_law_262 rfl 5 rfl ?_
  refine V_iconst (x := 1) dL_law_264 rfl rfl ?_
  refine V_iadd dL_law_265 rfl ?_
  refine V_sC dL_law_266 rfl (fun x11 => ?_)
  refine V_aload_n dL_law_267 rfl 0 rfl ?_
  refine V_iload dL_law_268 rfl 5 rfl ?_
  refine V_iconst (x := 2) dL_law_270 rfl rfl ?_
  refine V_iadd dL_law_271 rfl ?_
  refine V_sC dL_law_272 rfl (fun x12 => ?_)
  refine V_aload_n dL_law_273 rfl 0 rfl ?_
  refine V_iload dL_law_274 rfl 5 rfl ?_
  refine V_iconst (x := 3) dL_law_276 rfl rfl ?_
  refine V_iadd dL_law_277 rfl ?_
  refine V_sC dL_law_278 rfl (fun x13 => ?_)
  refine V_aload_n dL_law_279 rfl 0 rfl ?_
  refine V_iload dL_law_280 rfl 5 rfl ?_
  refine V_iconst (x := 4) dL_law_282 rfl rfl ?_
  refine V_iadd dL_law_283 rfl ?_
  refine V_sC dL_law_284 rfl (fun x14 => ?_)
  refine V_aload_n dL_law_285 rfl 0 rfl ?_
  refine V_iload dL_law_286 rfl 5 rfl ?_
  refine V_iconst (x := 5) dL_law_288 rfl rfl ?_
  refine V_iadd dL_law_289 rfl ?_
  refine V_sC dL_law_290 rfl (fun x15 => ?_)
  refine V_aload_n dL_law_291 rfl 3 rfl ?_
  refine V_cSWI (k2 := k + 1) (n2 := n + 6) (As := [.ref l1, .int x11, .int x12, .int x13, .int x14, .int x15, .ref l3]) (k_L_append l1 x11 x12 x13 x14 x15 l3 M) ok_L_append sm_L_append ml_L_161 ⟨⟨(Nat.le_of_ble_eq_true rfl), (Nat.le_of_ble_eq_true rfl)⟩, kb_c (o := 0) (c := 1) hb (Nat.le_of_ble_eq_true rfl), kb_s (o := 0) (c := 6) hb (Nat.le_of_ble_eq_true rfl)⟩ dL_law_292 rfl rfl rfl (Nat.le_of_ble_eq_true rfl) rfl rfl (fun x16 M17 => ?_)
  refine V_istore (L' := [(0, .ref l0), (1, .ref l1), (2, .ref l2), (3, .ref l3), (4, .ref l4), (5, .int l5), (6, .int x16)]) dL_law_295 rfl (by decide) rfl ?_
  refine V_aload_n dL_law_297 rfl 2 rfl ?_
  refine V_aload_n dL_law_298 rfl 0 rfl ?_
  refine V_iload dL_law_299 rfl 5 rfl ?_
  refine V_iconst (x := 1) dL_law_301 rfl rfl ?_
  refine V_iadd dL_law_302 rfl ?_
  refine V_sC dL_law_303 rfl (fun x18 => ?_)
  refine V_aload_n dL_law_304 rfl 0 rfl ?_
  refine V_iload dL_law_305 rfl 5 rfl ?_
  refine V_iconst (x := 2) dL_law_307 rfl rfl ?_
  refine V_iadd dL_law_308 rfl ?_
  refine V_sC dL_law_309 rfl (fun x19 => ?_)
  refine V_aload_n dL_law_310 rfl 0 rfl ?_
  refine V_iload dL_law_311 rfl 5 rfl ?_
  refine V_iconst (x := 3) dL_law_313 rfl rfl ?_
  refine V_iadd dL_law_314 rfl ?_
  refine V_sC dL_law_315 rfl (fun x20 => ?_)
  refine V_aload_n dL_law_316 rfl 0 rfl ?_
  refine V_iload dL_law_317 rfl 5 rfl ?_
  refine V_iconst (x := 4) dL_law_319 rfl rfl ?_
  refine V_iadd dL_law_320 rfl ?_
  refine V_sC dL_law_321 rfl (fun x21 => ?_)
  refine V_aload_n dL_law_322 rfl 0 rfl ?_
  refine V_iload dL_law_323 rfl 5 rfl ?_
  refine V_iconst (x := 5) dL_law_325 rfl rfl ?_
  refine V_iadd dL_law_326 rfl ?_
  refine V_sC dL_law_327 rfl (fun x22 => ?_)
  refine V_cVwI (k2 := k + 1) (n2 := n + 6) (As := [.int x18, .int x19, .int x20, .int x21, .int x22]) (k_X12_append l2 x18 x19 x20 x21 x22 M17) (fun _ h => o_X12_append h) ok_X12_append im_X12_append se_X12_append rfl (ci := 11) rfl ml_L_166 ⟨⟨(Nat.le_of_ble_eq_true rfl), (Nat.le_of_ble_eq_true rfl)⟩, kb_c (o := 1) (c := 0) hb (Nat.le_of_ble_eq_true rfl), kb_s (o := 6) (c := 0) hb (Nat.le_of_ble_eq_true rfl)⟩ dL_law_328 rfl rfl rfl (Nat.le_of_ble_eq_true rfl) rfl rfl (fun x23 M24 => ?_)
  refine V_istore (L' := [(0, .ref l0), (1, .ref l1), (2, .ref l2), (3, .ref l3), (4, .ref l4), (5, .int l5), (6, .int x16), (7, .int x23)]) dL_law_331 rfl (by decide) rfl ?_
  refine V_aload_n dL_law_333 rfl 2 rfl ?_
  refine V_cVeI (k2 := k + 1) (n2 := n + 6) (As := []) (k_X12_thrown l2 M24) (fun _ h => o_X12_thrown h) ok_X12_thrown im_X12_thrown se_X12_thrown rfl (ci := 11) rfl ml_L_167 ⟨⟨(Nat.le_of_ble_eq_true rfl), (Nat.le_of_ble_eq_true rfl)⟩, kb_c (o := 1) (c := 0) hb (Nat.le_of_ble_eq_true rfl), kb_s (o := 6) (c := 0) hb (Nat.le_of_ble_eq_true rfl)⟩ dL_law_334 rfl rfl rfl (Nat.le_of_ble_eq_true rfl) rfl rfl (fun x25 => ?_)
  refine V_iload dL_law_337 rfl 6 rfl ?_
  refine V_icmp_eq (q := 344) (q2 := 342) dL_law_339 (by decide) rfl ?_ ?_
  · refine V_iload dL_law_344 rfl 6 rfl ?_
    refine V_if_ne (q := 361) (q2 := 349) dL_law_346 (by decide) rfl ?_ ?_
    · exact V_sub [0, 1, 2, 3, 4, 5] rfl (v_L_law_361 fu rc28 h28 l0 l1 l2 l3 l4 l5 M24 k n hb)
    · refine V_aload_n dL_law_349 rfl 3 rfl ?_
      refine V_iconst (x := 0) dL_law_350 rfl rfl ?_
      refine V_laload dL_law_351 rfl (fun x26 => ?_)
      refine V_iload dL_law_352 rfl 7 rfl ?_
      refine V_i2l dL_law_354 rfl ?_
      refine V_lcmp dL_law_355 rfl ?_
      refine V_if_eq (q := 361) (q2 := 359) dL_law_356 (by decide) rfl ?_ ?_
      · exact V_sub [0, 1, 2, 3, 4, 5] rfl (v_L_law_361 fu rc28 h28 l0 l1 l2 l3 l4 l5 M24 k n hb)
      · refine V_iconst (x := 0) dL_law_359 rfl rfl ?_
        exact V_zret (v := false) dL_law_360 rfl rfl (kb_le hb (Nat.le_of_ble_eq_true rfl) (Nat.le_of_ble_eq_true rfl))
  · refine V_iconst (x := 0) dL_law_342 rfl rfl ?_
    exact V_zret (v := false) dL_law_343 rfl rfl (kb_le hb (Nat.le_of_ble_eq_true rfl) (Nat.le_of_ble_eq_true rfl))
theorem v_L_law_364 (fu : Nat) (rc28 : Nat → Nat → Nat → Nat → Nat → Int32 → Mem → Option (Bool × Mem)) (h28 : ∀ (l0 : Nat) (l1 : Nat) (l2 : Nat) (l3 : Nat) (l4 : Nat) (l5 : Int32) (M : Mem) (k n : Nat) (_ : kb 8 48 fu k n), V mi_L_law 28 [(0, .ref l0), (1, .ref l1), (2, .ref l2), (3, .ref l3), (4, .ref l4), (5, .int l5)] [] M k n (rc28 l0 l1 l2 l3 l4 l5 M) wZ) (l0 : Nat) (l1 : Nat) (l2 : Nat) (l3 : Nat) (l4 : Nat) (l5 : Int32) (M : Mem) (k n : Nat) (hb : kb 8 48 (fu + 1) k n) : V mi_L_law 364 [(0, .ref l0), (1, .ref l1), (2, .ref l2), (3, .ref l3), (4, .ref l4), (5, .int l5)] [] M (k + 0) (n + 0) (f_L_law_364 rc28 l0 l1 l2 l3 l4 l5 M) wZ := by
  unfold f_L_law_364
  refine V_aload_n dL_law_364 rfl 1 rfl ?_
  refine V_aload_n dL_law_365 rfl 0 rfl ?_
  refine V_iload dL_law_366 rfl 5 rfl ?_
  refine V_iconst (x := 1) dL_law_368 rfl rfl ?_
  refine V_iadd dL_law_369 rfl ?_
  refine V_sC dL_law_370 rfl (fun x27 => ?_)
  refine V_cSWI (k2 := k + 1) (n2 := n + 6) (As := [.ref l1, .int x27]) (k_L_truncate l1 x27 M) ok_L_truncate sm_L_truncate ml_L_170 ⟨⟨(Nat.le_of_ble_eq_true rfl), (Nat.le_of_ble_eq_true rfl)⟩, kb_c (o := 0) (c := 1) hb (Nat.le_of_ble_eq_true rfl), kb_s (o := 0) (c := 6) hb (Nat.le_of_ble_eq_true rfl)⟩ dL_law_371 rfl rfl rfl (Nat.le_of_ble_eq_true rfl) rfl rfl (fun x28 M29 => ?_)
  refine V_istore (L' := [(0, .ref l0), (1, .ref l1), (2, .ref l2), (3, .ref l3), (4, .ref l4), (5, .int l5), (6, .int x28)]) dL_law_374 rfl (by decide) rfl ?_
  refine V_aload_n dL_law_376 rfl 2 rfl ?_
  refine V_aload_n dL_law_377 rfl 0 rfl ?_
  refine V_iload dL_law_378 rfl 5 rfl ?_
  refine V_iconst (x := 1) dL_law_380 rfl rfl ?_
  refine V_iadd dL_law_381 rfl ?_
  refine V_sC dL_law_382 rfl (fun x30 => ?_)
  refine V_cVwV (k2 := k + 1) (n2 := n + 6) (As := [.int x30]) (k_X12_truncate l2 x30 M29) (fun _ h => o_X12_truncate h) ok_X12_truncate im_X12_truncate se_X12_truncate rfl (ci := 11) rfl ml_L_173 ⟨⟨(Nat.le_of_ble_eq_true rfl), (Nat.le_of_ble_eq_true rfl)⟩, kb_c (o := 1) (c := 0) hb (Nat.le_of_ble_eq_true rfl), kb_s (o := 6) (c := 0) hb (Nat.le_of_ble_eq_true rfl)⟩ dL_law_383 rfl rfl rfl (Nat.le_of_ble_eq_true rfl) rfl rfl (fun M32 => ?_)
  refine V_aload_n dL_law_386 rfl 2 rfl ?_
  refine V_cVeI (k2 := k + 1) (n2 := n + 6) (As := []) (k_X12_thrown l2 M32) (fun _ h => o_X12_thrown h) ok_X12_thrown im_X12_thrown se_X12_thrown rfl (ci := 11) rfl ml_L_167 ⟨⟨(Nat.le_of_ble_eq_true rfl), (Nat.le_of_ble_eq_true rfl)⟩, kb_c (o := 1) (c := 0) hb (Nat.le_of_ble_eq_true rfl), kb_s (o := 6) (c := 0) hb (Nat.le_of_ble_eq_true rfl)⟩ dL_law_387 rfl rfl rfl (Nat.le_of_ble_eq_true rfl) rfl rfl (fun x33 => ?_)
  refine V_iload dL_law_390 rfl 6 rfl ?_
  refine V_icmp_eq (q := 397) (q2 := 395) dL_law_392 (by decide) rfl ?_ ?_
  · refine V_goto (q := 3275) dL_law_397 (by decide) ?_
    exact V_sub [0, 1, 2, 3, 4, 5] rfl (V_w (Nat.add_le_add_left (Nat.le_of_ble_eq_true rfl) _) (Nat.add_le_add_left (Nat.le_of_ble_eq_true rfl) _) (v_L_law_3275 fu rc28 h28 l0 l1 l2 l3 l4 l5 M32 k n hb))
  · refine V_iconst (x := 0) dL_law_395 rfl rfl ?_
    exact V_zret (v := false) dL_law_396 rfl rfl (kb_le hb (Nat.le_of_ble_eq_true rfl) (Nat.le_of_ble_eq_true rfl))
theorem v_L_law_400 (fu : Nat) (rc28 : Nat → Nat → Nat → Nat → Nat → Int32 → Mem → Option (Bool × Mem)) (h28 : ∀ (l0 : Nat) (l1 : Nat) (l2 : Nat) (l3 : Nat) (l4 : Nat) (l5 : Int32) (M : Mem) (k n : Nat) (_ : kb 8 48 fu k n), V mi_L_law 28 [(0, .ref l0), (1, .ref l1), (2, .ref l2), (3, .ref l3), (4, .ref l4), (5, .int l5)] [] M k n (rc28 l0 l1 l2 l3 l4 l5 M) wZ) (l0 : Nat) (l1 : Nat) (l2 : Nat) (l3 : Nat) (l4 : Nat) (l5 : Int32) (M : Mem) (k n : Nat) (hb : kb 8 48 (fu + 1) k n) : V mi_L_law 400 [(0, .ref l0), (1, .ref l1), (2, .ref l2), (3, .ref l3), (4, .ref l4), (5, .int l5)] [] M (k + 0) (n + 0) (f_L_law_400 rc28 l0 l1 l2 l3 l4 l5 M) wZ := by
  unfold f_L_law_400
  refine V_aload_n dL_law_400 rfl 1 rfl ?_
  refine V_cVwI (k2 := k + 0) (n2 := n + 0) (As := []) (k_X11_load l1 M) (fun _ h => o_X11_load h) ok_X11_load im_X11_load se_X11_load rfl (ci := 10) rfl ml_L_174 ⟨⟨(Nat.le_of_ble_eq_true rfl), (Nat.le_of_ble_eq_true rfl)⟩, kb_c (o := 0) (c := 0) hb (Nat.le_of_ble_eq_true rfl), kb_s (o := 0) (c := 0) hb (Nat.le_of_ble_eq_true rfl)⟩ dL_law_401 rfl rfl rfl (Nat.le_of_ble_eq_true rfl) rfl rfl (fun x34 M35 => ?_)
  refine V_aload_n dL_law_404 rfl 2 rfl ?_
  refine V_cVwI (k2 := k + 0) (n2 := n + 0) (As := []) (k_X12_load l2 M35) (fun _ h => o_X12_load h) ok_X12_load im_X12_load se_X12_load rfl (ci := 11) rfl ml_L_177 ⟨⟨(Nat.le_of_ble_eq_true rfl), (Nat.le_of_ble_eq_true rfl)⟩, kb_c (o := 0) (c := 0) hb (Nat.le_of_ble_eq_true rfl), kb_s (o := 0) (c := 0) hb (Nat.le_of_ble_eq_true rfl)⟩ dL_law_405 rfl rfl rfl (Nat.le_of_ble_eq_true rfl) rfl rfl (fun x36 M37 => ?_)
  refine V_icmp_eq (q := 3275) (q2 := 411) dL_law_408 (by decide) rfl ?_ ?_
  · exact (V_w (Nat.add_le_add_left (Nat.le_of_ble_eq_true rfl) _) (Nat.add_le_add_left (Nat.le_of_ble_eq_true rfl) _) (v_L_law_3275 fu rc28 h28 l0 l1 l2 l3 l4 l5 M37 k n hb))
  · refine V_iconst (x := 0) dL_law_411 rfl rfl ?_
    exact V_zret (v := false) dL_law_412 rfl rfl (kb_le hb (Nat.le_of_ble_eq_true rfl) (Nat.le_of_ble_eq_true rfl))
theorem v_L_law_413 (fu : Nat) (rc28 : Nat → Nat → Nat → Nat → Nat → Int32 → Mem → Option (Bool × Mem)) (h28 : ∀ (l0 : Nat) (l1 : Nat) (l2 : Nat) (l3 : Nat) (l4 : Nat) (l5 : Int32) (M : Mem) (k n : Nat) (_ : kb 8 48 fu k n), V mi_L_law 28 [(0, .ref l0), (1, .ref l1), (2, .ref l2), (3, .ref l3), (4, .ref l4), (5, .int l5)] [] M k n (rc28 l0 l1 l2 l3 l4 l5 M) wZ) (l0 : Nat) (l1 : Nat) (l2 : Nat) (l3 : Nat) (l4 : Nat) (l5 : Int32) (M : Mem) (k n : Nat) (hb : kb 8 48 (fu + 1) k n) : V mi_L_law 413 [(0, .ref l0), (1, .ref l1), (2, .ref l2), (3, .ref l3), (4, .ref l4), (5, .int l5)] [] M (k + 0) (n + 0) (f_L_law_413 rc28 l0 l1 l2 l3 l4 l5 M) wZ := by
  unfold f_L_law_413
  refine V_aload_n dL_law_413 rfl 1 rfl ?_
  refine V_cVeI (k2 := k + 0) (n2 := n + 0) (As := []) (k_X11_errorCode l1 M) (fun _ h => o_X11_errorCode h) ok_X11_errorCode im_X11_errorCode se_X11_errorCode rfl (ci := 10) rfl ml_L_178 ⟨⟨(Nat.le_of_ble_eq_true rfl), (Nat.le_of_ble_eq_true rfl)⟩, kb_c (o := 0) (c := 0) hb (Nat.le_of_ble_eq_true rfl), kb_s (o := 0) (c := 0) hb (Nat.le_of_ble_eq_true rfl)⟩ dL_law_414 rfl rfl rfl (Nat.le_of_ble_eq_true rfl) rfl rfl (fun x38 => ?_)
  refine V_aload_n dL_law_417 rfl 2 rfl ?_
  refine V_cVwI (k2 := k + 0) (n2 := n + 0) (As := []) (k_X12_errorCode l2 M) (fun _ h => o_X12_errorCode h) ok_X12_errorCode im_X12_errorCode se_X12_errorCode rfl (ci := 11) rfl ml_L_181 ⟨⟨(Nat.le_of_ble_eq_true rfl), (Nat.le_of_ble_eq_true rfl)⟩, kb_c (o := 0) (c := 0) hb (Nat.le_of_ble_eq_true rfl), kb_s (o := 0) (c := 0) hb (Nat.le_of_ble_eq_true rfl)⟩ dL_law_418 rfl rfl rfl (Nat.le_of_ble_eq_true rfl) rfl rfl (fun x39 M40 => ?_)
  refine V_icmp_eq (q := 3275) (q2 := 424) dL_law_421 (by decide) rfl ?_ ?_
  · exact (V_w (Nat.add_le_add_left (Nat.le_of_ble_eq_true rfl) _) (Nat.add_le_add_left (Nat.le_of_ble_eq_true rfl) _) (v_L_law_3275 fu rc28 h28 l0 l1 l2 l3 l4 l5 M40 k n hb))
  · refine V_iconst (x := 0) dL_law_424 rfl rfl ?_
    exact V_zret (v := false) dL_law_425 rfl rfl (kb_le hb (Nat.le_of_ble_eq_true rfl) (Nat.le_of_ble_eq_true rfl))
theorem v_L_law_426 (fu : Nat) (rc28 : Nat → Nat → Nat → Nat → Nat → Int32 → Mem → Option (Bool × Mem)) (h28 : ∀ (l0 : Nat) (l1 : Nat) (l2 : Nat) (l3 : Nat) (l4 : Nat) (l5 : Int32) (M : Mem) (k n : Nat) (_ : kb 8 48 fu k n), V mi_L_law 28 [(0, .ref l0), (1, .ref l1), (2, .ref l2), (3, .ref l3), (4, .ref l4), (5, .int l5)] [] M k n (rc28 l0 l1 l2 l3 l4 l5 M) wZ) (l0 : Nat) (l1 : Nat) (l2 : Nat) (l3 : Nat) (l4 : Nat) (l5 : Int32) (M : Mem) (k n : Nat) (hb : kb 8 48 (fu + 1) k n) : V mi_L_law 426 [(0, .ref l0), (1, .ref l1), (2, .ref l2), (3, .ref l3), (4, .ref l4), (5, .int l5)] [] M (k + 0) (n + 0) (f_L_law_426 rc28 l0 l1 l2 l3 l4 l5 M) wZ := by
  unfold f_L_law_426
  refine V_aload_n dL_law_426 rfl 1 rfl ?_
  refine V_cVeI (k2 := k + 0) (n2 := n + 0) (As := []) (k_X11_errorPosition l1 M) (fun _ h => o_X11_errorPosition h) ok_X11_errorPosition im_X11_errorPosition se_X11_errorPosition rfl (ci := 10) rfl ml_L_182 ⟨⟨(Nat.le_of_ble_eq_true rfl), (Nat.le_of_ble_eq_true rfl)⟩, kb_c (o := 0) (c := 0) hb (Nat.le_of_ble_eq_true rfl), kb_s (o := 0) (c := 0) hb (Nat.le_of_ble_eq_true rfl)⟩ dL_law_427 rfl rfl rfl (Nat.le_of_ble_eq_true rfl) rfl rfl (fun x41 => ?_)
  refine V_aload_n dL_law_430 rfl 2 rfl ?_
  refine V_cVwI (k2 := k + 0) (n2 := n + 0) (As := []) (k_X12_errorPosition l2 M) (fun _ h => o_X12_errorPosition h) ok_X12_errorPosition im_X12_errorPosition se_X12_errorPosition rfl (ci := 11) rfl ml_L_185 ⟨⟨(Nat.le_of_ble_eq_true rfl), (Nat.le_of_ble_eq_true rfl)⟩, kb_c (o := 0) (c := 0) hb (Nat.le_of_ble_eq_true rfl), kb_s (o := 0) (c := 0) hb (Nat.le_of_ble_eq_true rfl)⟩ dL_law_431 rfl rfl rfl (Nat.le_of_ble_eq_true rfl) rfl rfl (fun x42 M43 => ?_)
  refine V_icmp_eq (q := 3275) (q2 := 437) dL_law_434 (by decide) rfl ?_ ?_
  · exact (V_w (Nat.add_le_add_left (Nat.le_of_ble_eq_true rfl) _) (Nat.add_le_add_left (Nat.le_of_ble_eq_true rfl) _) (v_L_law_3275 fu rc28 h28 l0 l1 l2 l3 l4 l5 M43 k n hb))
  · refine V_iconst (x := 0) dL_law_437 rfl rfl ?_
    exact V_zret (v := false) dL_law_438 rfl rfl (kb_le hb (Nat.le_of_ble_eq_true rfl) (Nat.le_of_ble_eq_true rfl))
theorem v_L_law_439 (fu : Nat) (rc28 : Nat → Nat → Nat → Nat → Nat → Int32 → Mem → Option (Bool × Mem)) (h28 : ∀ (l0 : Nat) (l1 : Nat) (l2 : Nat) (l3 : Nat) (l4 : Nat) (l5 : Int32) (M : Mem) (k n : Nat) (_ : kb 8 48 fu k n), V mi_L_law 28 [(0, .ref l0), (1, .ref l1), (2, .ref l2), (3, .ref l3), (4, .ref l4), (5, .int l5)] [] M k n (rc28 l0 l1 l2 l3 l4 l5 M) wZ) (l0 : Nat) (l1 : Nat) (l2 : Nat) (l3 : Nat) (l4 : Nat) (l5 : Int32) (M : Mem) (k n : Nat) (hb : kb 8 48 (fu + 1) k n) : V mi_L_law 439 [(0, .ref l0), (1, .ref l1), (2, .ref l2), (3, .ref l3), (4, .ref l4), (5, .int l5)] [] M (k + 0) (n + 0) (f_L_law_439 rc28 l0 l1 l2 l3 l4 l5 M) wZ := by
  unfold f_L_law_439
  refine V_aload_n dL_law_439 rfl 1 rfl ?_
  refine V_cVwI (k2 := k + 0) (n2 := n + 0) (As := []) (k_X11_findBox l1 M) (fun _ h => o_X11_findBox h) ok_X11_findBox im_X11_findBox se_X11_findBox rfl (ci := 10) rfl ml_L_186 ⟨⟨(Nat.le_of_ble_eq_true rfl), (Nat.le_of_ble_eq_true rfl)⟩, kb_c (o := 0) (c := 0) hb (Nat.le_of_ble_eq_true rfl), kb_s (o := 0) (c := 0) hb (Nat.le_of_ble_eq_true rfl)⟩ dL_law_440 rfl rfl rfl (Nat.le_of_ble_eq_true rfl) rfl rfl (fun x44 M45 => ?_)
  refine V_aload_n dL_law_443 rfl 2 rfl ?_
  refine V_cVwI (k2 := k + 0) (n2 := n + 0) (As := []) (k_X12_findBox l2 M45) (fun _ h => o_X12_findBox h) ok_X12_findBox im_X12_findBox se_X12_findBox rfl (ci := 11) rfl ml_L_189 ⟨⟨(Nat.le_of_ble_eq_true rfl), (Nat.le_of_ble_eq_true rfl)⟩, kb_c (o := 0) (c := 0) hb (Nat.le_of_ble_eq_true rfl), kb_s (o := 0) (c := 0) hb (Nat.le_of_ble_eq_true rfl)⟩ dL_law_444 rfl rfl rfl (Nat.le_of_ble_eq_true rfl) rfl rfl (fun x46 M47 => ?_)
  refine V_icmp_eq (q := 3275) (q2 := 450) dL_law_447 (by decide) rfl ?_ ?_
  · exact (V_w (Nat.add_le_add_left (Nat.le_of_ble_eq_true rfl) _) (Nat.add_le_add_left (Nat.le_of_ble_eq_true rfl) _) (v_L_law_3275 fu rc28 h28 l0 l1 l2 l3 l4 l5 M47 k n hb))
  · refine V_iconst (x := 0) dL_law_450 rfl rfl ?_
    exact V_zret (v := false) dL_law_451 rfl rfl (kb_le hb (Nat.le_of_ble_eq_true rfl) (Nat.le_of_ble_eq_true rfl))
theorem v_L_law_452 (fu : Nat) (rc28 : Nat → Nat → Nat → Nat → Nat → Int32 → Mem → Option (Bool × Mem)) (h28 : ∀ (l0 : Nat) (l1 : Nat) (l2 : Nat) (l3 : Nat) (l4 : Nat) (l5 : Int32) (M : Mem) (k n : Nat) (_ : kb 8 48 fu k n), V mi_L_law 28 [(0, .ref l0), (1, .ref l1), (2, .ref l2), (3, .ref l3), (4, .ref l4), (5, .int l5)] [] M k n (rc28 l0 l1 l2 l3 l4 l5 M) wZ) (l0 : Nat) (l1 : Nat) (l2 : Nat) (l3 : Nat) (l4 : Nat) (l5 : Int32) (M : Mem) (k n : Nat) (hb : kb 8 48 (fu + 1) k n) : V mi_L_law 452 [(0, .ref l0), (1, .ref l1), (2, .ref l2), (3, .ref l3), (4, .ref l4), (5, .int l5)] [] M (k + 0) (n + 0) (f_L_law_452 rc28 l0 l1 l2 l3 l4 l5 M) wZ := by
  unfold f_L_law_452
  refine V_aload_n dL_law_452 rfl 1 rfl ?_
  refine V_cVwI (k2 := k + 0) (n2 := n + 0) (As := []) (k_X11_findSession l1 M) (fun _ h => o_X11_findSession h) ok_X11_findSession im_X11_findSession se_X11_findSession rfl (ci := 10) rfl ml_L_190 ⟨⟨(Nat.le_of_ble_eq_true rfl), (Nat.le_of_ble_eq_true rfl)⟩, kb_c (o := 0) (c := 0) hb (Nat.le_of_ble_eq_true rfl), kb_s (o := 0) (c := 0) hb (Nat.le_of_ble_eq_true rfl)⟩ dL_law_453 rfl rfl rfl (Nat.le_of_ble_eq_true rfl) rfl rfl (fun x48 M49 => ?_)
  refine V_aload_n dL_law_456 rfl 2 rfl ?_
  refine V_cVwI (k2 := k + 0) (n2 := n + 0) (As := []) (k_X12_findSession l2 M49) (fun _ h => o_X12_findSession h) ok_X12_findSession im_X12_findSession se_X12_findSession rfl (ci := 11) rfl ml_L_193 ⟨⟨(Nat.le_of_ble_eq_true rfl), (Nat.le_of_ble_eq_true rfl)⟩, kb_c (o := 0) (c := 0) hb (Nat.le_of_ble_eq_true rfl), kb_s (o := 0) (c := 0) hb (Nat.le_of_ble_eq_true rfl)⟩ dL_law_457 rfl rfl rfl (Nat.le_of_ble_eq_true rfl) rfl rfl (fun x50 M51 => ?_)
  refine V_icmp_eq (q := 3275) (q2 := 463) dL_law_460 (by decide) rfl ?_ ?_
  · exact (V_w (Nat.add_le_add_left (Nat.le_of_ble_eq_true rfl) _) (Nat.add_le_add_left (Nat.le_of_ble_eq_true rfl) _) (v_L_law_3275 fu rc28 h28 l0 l1 l2 l3 l4 l5 M51 k n hb))
  · refine V_iconst (x := 0) dL_law_463 rfl rfl ?_
    exact V_zret (v := false) dL_law_464 rfl rfl (kb_le hb (Nat.le_of_ble_eq_true rfl) (Nat.le_of_ble_eq_true rfl))
theorem v_L_law_518 (fu : Nat) (rc28 : Nat → Nat → Nat → Nat → Nat → Int32 → Mem → Option (Bool × Mem)) (h28 : ∀ (l0 : Nat) (l1 : Nat) (l2 : Nat) (l3 : Nat) (l4 : Nat) (l5 : Int32) (M : Mem) (k n : Nat) (_ : kb 8 48 fu k n), V mi_L_law 28 [(0, .ref l0), (1, .ref l1), (2, .ref l2), (3, .ref l3), (4, .ref l4), (5, .int l5)] [] M k n (rc28 l0 l1 l2 l3 l4 l5 M) wZ) (l0 : Nat) (l1 : Nat) (l2 : Nat) (l3 : Nat) (l4 : Nat) (l5 : Int32) (M : Mem) (k n : Nat) (hb : kb 8 48 (fu + 1) k n) : V mi_L_law 518 [(0, .ref l0), (1, .ref l1), (2, .ref l2), (3, .ref l3), (4, .ref l4), (5, .int l5)] [] M (k + 1) (n + 6) (f_L_law_518 rc28 l0 l1 l2 l3 l4 l5 M) wZ := by
  unfold f_L_law_518
  refine V_goto (q := 3275) dL_law_518 (by decide) ?_
  exact (V_w (Nat.add_le_add_left (Nat.le_of_ble_eq_true rfl) _) (Nat.add_le_add_left (Nat.le_of_ble_eq_true rfl) _) (v_L_law_3275 fu rc28 h28 l0 l1 l2 l3 l4 l5 M k n hb))
theorem v_L_law_465 (fu : Nat) (rc28 : Nat → Nat → Nat → Nat → Nat → Int32 → Mem → Option (Bool × Mem)) (h28 : ∀ (l0 : Nat) (l1 : Nat) (l2 : Nat) (l3 : Nat) (l4 : Nat) (l5 : Int32) (M : Mem) (k n : Nat) (_ : kb 8 48 fu k n), V mi_L_law 28 [(0, .ref l0), (1, .ref l1), (2, .ref l2), (3, .ref l3), (4, .ref l4), (5, .int l5)] [] M k n (rc28 l0 l1 l2 l3 l4 l5 M) wZ) (l0 : Nat) (l1 : Nat) (l2 : Nat) (l3 : Nat) (l4 : Nat) (l5 : Int32) (M : Mem) (k n : Nat) (hb : kb 8 48 (fu + 1) k n) : V mi_L_law 465 [(0, .ref l0), (1, .ref l1), (2, .ref l2), (3, .ref l3), (4, .ref l4), (5, .int l5)] [] M (k + 0) (n + 0) (f_L_law_465 rc28 l0 l1 l2 l3 l4 l5 M) wZ := by
  unfold f_L_law_465
  refine V_aload_n dL_law_465 rfl 1 rfl ?_
  refine V_aload_n dL_law_466 rfl 0 rfl ?_
  refine V_iload dL_law_467 rfl 5 rfl ?_
  refine V_iconst (x := 1) dL_law_469 rfl rfl ?_
  refine V_iadd dL_law_470 rfl ?_
  refine V_sC dL_law_471 rfl (fun x52 => ?_)
  refine V_aload_n dL_law_472 rfl 3 rfl ?_
  refine V_cSWI (k2 := k + 1) (n2 := n + 6) (As := [.ref l1, .int x52, .ref l3]) (k_L_property l1 x52 l3 M) ok_L_property sm_L_property ml_L_194 ⟨⟨(Nat.le_of_ble_eq_true rfl), (Nat.le_of_ble_eq_true rfl)⟩, kb_c (o := 0) (c := 1) hb (Nat.le_of_ble_eq_true rfl), kb_s (o := 0) (c := 6) hb (Nat.le_of_ble_eq_true rfl)⟩ dL_law_473 rfl rfl rfl (Nat.le_of_ble_eq_true rfl) rfl rfl (fun x53 M54 => ?_)
  refine V_istore (L' := [(0, .ref l0), (1, .ref l1), (2, .ref l2), (3, .ref l3), (4, .ref l4), (5, .int l5), (6, .int x53)]) dL_law_476 rfl (by decide) rfl ?_
  refine V_aload_n dL_law_478 rfl 2 rfl ?_
  refine V_aload_n dL_law_479 rfl 0 rfl ?_
  refine V_iload dL_law_480 rfl 5 rfl ?_
  refine V_iconst (x := 1) dL_law_482 rfl rfl ?_
  refine V_iadd dL_law_483 rfl ?_
  refine V_sC dL_law_484 rfl (fun x55 => ?_)
  refine V_cVwI (k2 := k + 1) (n2 := n + 6) (As := [.int x55]) (k_X12_property l2 x55 M54) (fun _ h => o_X12_property h) ok_X12_property im_X12_property se_X12_property rfl (ci := 11) rfl ml_L_197 ⟨⟨(Nat.le_of_ble_eq_true rfl), (Nat.le_of_ble_eq_true rfl)⟩, kb_c (o := 1) (c := 0) hb (Nat.le_of_ble_eq_true rfl), kb_s (o := 6) (c := 0) hb (Nat.le_of_ble_eq_true rfl)⟩ dL_law_485 rfl rfl rfl (Nat.le_of_ble_eq_true rfl) rfl rfl (fun x56 M57 => ?_)
  refine V_istore (L' := [(0, .ref l0), (1, .ref l1), (2, .ref l2), (3, .ref l3), (4, .ref l4), (5, .int l5), (6, .int x53), (7, .int x56)]) dL_law_488 rfl (by decide) rfl ?_
  refine V_aload_n dL_law_490 rfl 2 rfl ?_
  refine V_cVeI (k2 := k + 1) (n2 := n + 6) (As := []) (k_X12_thrown l2 M57) (fun _ h => o_X12_thrown h) ok_X12_thrown im_X12_thrown se_X12_thrown rfl (ci := 11) rfl ml_L_167 ⟨⟨(Nat.le_of_ble_eq_true rfl), (Nat.le_of_ble_eq_true rfl)⟩, kb_c (o := 1) (c := 0) hb (Nat.le_of_ble_eq_true rfl), kb_s (o := 6) (c := 0) hb (Nat.le_of_ble_eq_true rfl)⟩ dL_law_491 rfl rfl rfl (Nat.le_of_ble_eq_true rfl) rfl rfl (fun x58 => ?_)
  refine V_iload dL_law_494 rfl 6 rfl ?_
  refine V_icmp_eq (q := 501) (q2 := 499) dL_law_496 (by decide) rfl ?_ ?_
  · refine V_iload dL_law_501 rfl 6 rfl ?_
    refine V_if_ne (q := 518) (q2 := 506) dL_law_503 (by decide) rfl ?_ ?_
    · exact V_sub [0, 1, 2, 3, 4, 5] rfl (v_L_law_518 fu rc28 h28 l0 l1 l2 l3 l4 l5 M57 k n hb)
    · refine V_aload_n dL_law_506 rfl 3 rfl ?_
      refine V_iconst (x := 0) dL_law_507 rfl rfl ?_
      refine V_laload dL_law_508 rfl (fun x59 => ?_)
      refine V_iload dL_law_509 rfl 7 rfl ?_
      refine V_i2l dL_law_511 rfl ?_
      refine V_lcmp dL_law_512 rfl ?_
      refine V_if_eq (q := 518) (q2 := 516) dL_law_513 (by decide) rfl ?_ ?_
      · exact V_sub [0, 1, 2, 3, 4, 5] rfl (v_L_law_518 fu rc28 h28 l0 l1 l2 l3 l4 l5 M57 k n hb)
      · refine V_iconst (x := 0) dL_law_516 rfl rfl ?_
        exact V_zret (v := false) dL_law_517 rfl rfl (kb_le hb (Nat.le_of_ble_eq_true rfl) (Nat.le_of_ble_eq_true rfl))
  · refine V_iconst (x := 0) dL_law_499 rfl rfl ?_
    exact V_zret (v := false) dL_law_500 rfl rfl (kb_le hb (Nat.le_of_ble_eq_true rfl) (Nat.le_of_ble_eq_true rfl))
theorem v_L_law_586 (fu : Nat) (rc28 : Nat → Nat → Nat → Nat → Nat → Int32 → Mem → Option (Bool × Mem)) (h28 : ∀ (l0 : Nat) (l1 : Nat) (l2 : Nat) (l3 : Nat) (l4 : Nat) (l5 : Int32) (M : Mem) (k n : Nat) (_ : kb 8 48 fu k n), V mi_L_law 28 [(0, .ref l0), (1, .ref l1), (2, .ref l2), (3, .ref l3), (4, .ref l4), (5, .int l5)] [] M k n (rc28 l0 l1 l2 l3 l4 l5 M) wZ) (l0 : Nat) (l1 : Nat) (l2 : Nat) (l3 : Nat) (l4 : Nat) (l5 : Int32) (M : Mem) (k n : Nat) (hb : kb 8 48 (fu + 1) k n) : V mi_L_law 586 [(0, .ref l0), (1, .ref l1), (2, .ref l2), (3, .ref l3), (4, .ref l4), (5, .int l5)] [] M (k + 2) (n + 12) (f_L_law_586 rc28 l0 l1 l2 l3 l4 l5 M) wZ := by
  unfold f_L_law_586
  refine V_goto (q := 3275) dL_law_586 (by decide) ?_
  exact (V_w (Nat.add_le_add_left (Nat.le_of_ble_eq_true rfl) _) (Nat.add_le_add_left (Nat.le_of_ble_eq_true rfl) _) (v_L_law_3275 fu rc28 h28 l0 l1 l2 l3 l4 l5 M k n hb))
theorem v_L_law_521 (fu : Nat) (rc28 : Nat → Nat → Nat → Nat → Nat → Int32 → Mem → Option (Bool × Mem)) (h28 : ∀ (l0 : Nat) (l1 : Nat) (l2 : Nat) (l3 : Nat) (l4 : Nat) (l5 : Int32) (M : Mem) (k n : Nat) (_ : kb 8 48 fu k n), V mi_L_law 28 [(0, .ref l0), (1, .ref l1), (2, .ref l2), (3, .ref l3), (4, .ref l4), (5, .int l5)] [] M k n (rc28 l0 l1 l2 l3 l4 l5 M) wZ) (l0 : Nat) (l1 : Nat) (l2 : Nat) (l3 : Nat) (l4 : Nat) (l5 : Int32) (M : Mem) (k n : Nat) (hb : kb 8 48 (fu + 1) k n) : V mi_L_law 521 [(0, .ref l0), (1, .ref l1), (2, .ref l2), (3, .ref l3), (4, .ref l4), (5, .int l5)] [] M (k + 0) (n + 0) (f_L_law_521 rc28 l0 l1 l2 l3 l4 l5 M) wZ := by
  unfold f_L_law_521
  refine V_aload_n dL_law_521 rfl 1 rfl ?_
  refine V_aload_n dL_law_522 rfl 0 rfl ?_
  refine V_iload dL_law_523 rfl 5 rfl ?_
  refine V_iconst (x := 1) dL_law_525 rfl rfl ?_
  refine V_iadd dL_law_526 rfl ?_
  refine V_sC dL_law_527 rfl (fun x60 => ?_)
  refine V_aload_n dL_law_528 rfl 0 rfl ?_
  refine V_iload dL_law_529 rfl 5 rfl ?_
  refine V_iconst (x := 2) dL_law_531 rfl rfl ?_
  refine V_iadd dL_law_532 rfl ?_
  refine V_sC dL_law_533 rfl (fun x61 => ?_)
  refine V_aload_n dL_law_534 rfl 3 rfl ?_
  refine V_cSWI (k2 := k + 2) (n2 := n + 12) (As := [.ref l1, .int x60, .int x61, .ref l3]) (k_L_box l1 x60 x61 l3 M) ok_L_box sm_L_box ml_L_198 ⟨⟨(Nat.le_of_ble_eq_true rfl), (Nat.le_of_ble_eq_true rfl)⟩, kb_c (o := 0) (c := 2) hb (Nat.le_of_ble_eq_true rfl), kb_s (o := 0) (c := 12) hb (Nat.le_of_ble_eq_true rfl)⟩ dL_law_535 rfl rfl rfl (Nat.le_of_ble_eq_true rfl) rfl rfl (fun x62 M63 => ?_)
  refine V_istore (L' := [(0, .ref l0), (1, .ref l1), (2, .ref l2), (3, .ref l3), (4, .ref l4), (5, .int l5), (6, .int x62)]) dL_law_538 rfl (by decide) rfl ?_
  refine V_aload_n dL_law_540 rfl 2 rfl ?_
  refine V_aload_n dL_law_541 rfl 0 rfl ?_
  refine V_iload dL_law_542 rfl 5 rfl ?_
  refine V_iconst (x := 1) dL_law_544 rfl rfl ?_
  refine V_iadd dL_law_545 rfl ?_
  refine V_sC dL_law_546 rfl (fun x64 => ?_)
  refine V_aload_n dL_law_547 rfl 0 rfl ?_
  refine V_iload dL_law_548 rfl 5 rfl ?_
  refine V_iconst (x := 2) dL_law_550 rfl rfl ?_
  refine V_iadd dL_law_551 rfl ?_
  refine V_sC dL_law_552 rfl (fun x65 => ?_)
  refine V_cVwI (k2 := k + 2) (n2 := n + 12) (As := [.int x64, .int x65]) (k_X12_box l2 x64 x65 M63) (fun _ h => o_X12_box h) ok_X12_box im_X12_box se_X12_box rfl (ci := 11) rfl ml_L_201 ⟨⟨(Nat.le_of_ble_eq_true rfl), (Nat.le_of_ble_eq_true rfl)⟩, kb_c (o := 2) (c := 0) hb (Nat.le_of_ble_eq_true rfl), kb_s (o := 12) (c := 0) hb (Nat.le_of_ble_eq_true rfl)⟩ dL_law_553 rfl rfl rfl (Nat.le_of_ble_eq_true rfl) rfl rfl (fun x66 M67 => ?_)
  refine V_istore (L' := [(0, .ref l0), (1, .ref l1), (2, .ref l2), (3, .ref l3), (4, .ref l4), (5, .int l5), (6, .int x62), (7, .int x66)]) dL_law_556 rfl (by decide) rfl ?_
  refine V_aload_n dL_law_558 rfl 2 rfl ?_
  refine V_cVeI (k2 := k + 2) (n2 := n + 12) (As := []) (k_X12_thrown l2 M67) (fun _ h => o_X12_thrown h) ok_X12_thrown im_X12_thrown se_X12_thrown rfl (ci := 11) rfl ml_L_167 ⟨⟨(Nat.le_of_ble_eq_true rfl), (Nat.le_of_ble_eq_true rfl)⟩, kb_c (o := 2) (c := 0) hb (Nat.le_of_ble_eq_true rfl), kb_s (o := 12) (c := 0) hb (Nat.le_of_ble_eq_true rfl)⟩ dL_law_559 rfl rfl rfl (Nat.le_of_ble_eq_true rfl) rfl rfl (fun x68 => ?_)
  refine V_iload dL_law_562 rfl 6 rfl ?_
  refine V_icmp_eq (q := 569) (q2 := 567) dL_law_564 (by decide) rfl ?_ ?_
  · refine V_iload dL_law_569 rfl 6 rfl ?_
    refine V_if_ne (q := 586) (q2 := 574) dL_law_571 (by decide) rfl ?_ ?_
    · exact V_sub [0, 1, 2, 3, 4, 5] rfl (v_L_law_586 fu rc28 h28 l0 l1 l2 l3 l4 l5 M67 k n hb)
    · refine V_aload_n dL_law_574 rfl 3 rfl ?_
      refine V_iconst (x := 0) dL_law_575 rfl rfl ?_
      refine V_laload dL_law_576 rfl (fun x69 => ?_)
      refine V_iload dL_law_577 rfl 7 rfl ?_
      refine V_i2l dL_law_579 rfl ?_
      refine V_lcmp dL_law_580 rfl ?_
      refine V_if_eq (q := 586) (q2 := 584) dL_law_581 (by decide) rfl ?_ ?_
      · exact V_sub [0, 1, 2, 3, 4, 5] rfl (v_L_law_586 fu rc28 h28 l0 l1 l2 l3 l4 l5 M67 k n hb)
      · refine V_iconst (x := 0) dL_law_584 rfl rfl ?_
        exact V_zret (v := false) dL_law_585 rfl rfl (kb_le hb (Nat.le_of_ble_eq_true rfl) (Nat.le_of_ble_eq_true rfl))
  · refine V_iconst (x := 0) dL_law_567 rfl rfl ?_
    exact V_zret (v := false) dL_law_568 rfl rfl (kb_le hb (Nat.le_of_ble_eq_true rfl) (Nat.le_of_ble_eq_true rfl))
theorem v_L_law_666 (fu : Nat) (rc28 : Nat → Nat → Nat → Nat → Nat → Int32 → Mem → Option (Bool × Mem)) (h28 : ∀ (l0 : Nat) (l1 : Nat) (l2 : Nat) (l3 : Nat) (l4 : Nat) (l5 : Int32) (M : Mem) (k n : Nat) (_ : kb 8 48 fu k n), V mi_L_law 28 [(0, .ref l0), (1, .ref l1), (2, .ref l2), (3, .ref l3), (4, .ref l4), (5, .int l5)] [] M k n (rc28 l0 l1 l2 l3 l4 l5 M) wZ) (l0 : Nat) (l1 : Nat) (l2 : Nat) (l3 : Nat) (l4 : Nat) (l5 : Int32) (M : Mem) (k n : Nat) (hb : kb 8 48 (fu + 1) k n) : V mi_L_law 666 [(0, .ref l0), (1, .ref l1), (2, .ref l2), (3, .ref l3), (4, .ref l4), (5, .int l5)] [] M (k + 2) (n + 12) (f_L_law_666 rc28 l0 l1 l2 l3 l4 l5 M) wZ := by
  unfold f_L_law_666
  refine V_goto (q := 3275) dL_law_666 (by decide) ?_
  exact (V_w (Nat.add_le_add_left (Nat.le_of_ble_eq_true rfl) _) (Nat.add_le_add_left (Nat.le_of_ble_eq_true rfl) _) (v_L_law_3275 fu rc28 h28 l0 l1 l2 l3 l4 l5 M k n hb))
theorem v_L_law_589 (fu : Nat) (rc28 : Nat → Nat → Nat → Nat → Nat → Int32 → Mem → Option (Bool × Mem)) (h28 : ∀ (l0 : Nat) (l1 : Nat) (l2 : Nat) (l3 : Nat) (l4 : Nat) (l5 : Int32) (M : Mem) (k n : Nat) (_ : kb 8 48 fu k n), V mi_L_law 28 [(0, .ref l0), (1, .ref l1), (2, .ref l2), (3, .ref l3), (4, .ref l4), (5, .int l5)] [] M k n (rc28 l0 l1 l2 l3 l4 l5 M) wZ) (l0 : Nat) (l1 : Nat) (l2 : Nat) (l3 : Nat) (l4 : Nat) (l5 : Int32) (M : Mem) (k n : Nat) (hb : kb 8 48 (fu + 1) k n) : V mi_L_law 589 [(0, .ref l0), (1, .ref l1), (2, .ref l2), (3, .ref l3), (4, .ref l4), (5, .int l5)] [] M (k + 0) (n + 0) (f_L_law_589 rc28 l0 l1 l2 l3 l4 l5 M) wZ := by
  unfold f_L_law_589
  refine V_aload_n dL_law_589 rfl 1 rfl ?_
  refine V_aload_n dL_law_590 rfl 0 rfl ?_
  refine V_iload dL_law_591 rfl 5 rfl ?_
  refine V_iconst (x := 1) dL_law_593 rfl rfl ?_
  refine V_iadd dL_law_594 rfl ?_
  refine V_sC dL_law_595 rfl (fun x70 => ?_)
  refine V_aload_n dL_law_596 rfl 0 rfl ?_
  refine V_iload dL_law_597 rfl 5 rfl ?_
  refine V_iconst (x := 2) dL_law_599 rfl rfl ?_
  refine V_iadd dL_law_600 rfl ?_
  refine V_sC dL_law_601 rfl (fun x71 => ?_)
  refine V_aload_n dL_law_602 rfl 0 rfl ?_
  refine V_iload dL_law_603 rfl 5 rfl ?_
  refine V_iconst (x := 3) dL_law_605 rfl rfl ?_
  refine V_iadd dL_law_606 rfl ?_
  refine V_sC dL_law_607 rfl (fun x72 => ?_)
  refine V_aload_n dL_law_608 rfl 3 rfl ?_
  refine V_cSWI (k2 := k + 2) (n2 := n + 12) (As := [.ref l1, .int x70, .int x71, .int x72, .ref l3]) (k_L_message l1 x70 x71 x72 l3 M) ok_L_message sm_L_message ml_L_202 ⟨⟨(Nat.le_of_ble_eq_true rfl), (Nat.le_of_ble_eq_true rfl)⟩, kb_c (o := 0) (c := 2) hb (Nat.le_of_ble_eq_true rfl), kb_s (o := 0) (c := 12) hb (Nat.le_of_ble_eq_true rfl)⟩ dL_law_609 rfl rfl rfl (Nat.le_of_ble_eq_true rfl) rfl rfl (fun x73 M74 => ?_)
  refine V_istore (L' := [(0, .ref l0), (1, .ref l1), (2, .ref l2), (3, .ref l3), (4, .ref l4), (5, .int l5), (6, .int x73)]) dL_law_612 rfl (by decide) rfl ?_
  refine V_aload_n dL_law_614 rfl 2 rfl ?_
  refine V_aload_n dL_law_615 rfl 0 rfl ?_
  refine V_iload dL_law_616 rfl 5 rfl ?_
  refine V_iconst (x := 1) dL_law_618 rfl rfl ?_
  refine V_iadd dL_law_619 rfl ?_
  refine V_sC dL_law_620 rfl (fun x75 => ?_)
  refine V_aload_n dL_law_621 rfl 0 rfl ?_
  refine V_iload dL_law_622 rfl 5 rfl ?_
  refine V_iconst (x := 2) dL_law_624 rfl rfl ?_
  refine V_iadd dL_law_625 rfl ?_
  refine V_sC dL_law_626 rfl (fun x76 => ?_)
  refine V_aload_n dL_law_627 rfl 0 rfl ?_
  refine V_iload dL_law_628 rfl 5 rfl ?_
  refine V_iconst (x := 3) dL_law_630 rfl rfl ?_
  refine V_iadd dL_law_631 rfl ?_
  refine V_sC dL_law_632 rfl (fun x77 => ?_)
  refine V_cVwI (k2 := k + 2) (n2 := n + 12) (As := [.int x75, .int x76, .int x77]) (k_X12_message l2 x75 x76 x77 M74) (fun _ h => o_X12_message h) ok_X12_message im_X12_message se_X12_message rfl (ci := 11) rfl ml_L_205 ⟨⟨(Nat.le_of_ble_eq_true rfl), (Nat.le_of_ble_eq_true rfl)⟩, kb_c (o := 2) (c := 0) hb (Nat.le_of_ble_eq_true rfl), kb_s (o := 12) (c := 0) hb (Nat.le_of_ble_eq_true rfl)⟩ dL_law_633 rfl rfl rfl (Nat.le_of_ble_eq_true rfl) rfl rfl (fun x78 M79 => ?_)
  refine V_istore (L' := [(0, .ref l0), (1, .ref l1), (2, .ref l2), (3, .ref l3), (4, .ref l4), (5, .int l5), (6, .int x73), (7, .int x78)]) dL_law_636 rfl (by decide) rfl ?_
  refine V_aload_n dL_law_638 rfl 2 rfl ?_
  refine V_cVeI (k2 := k + 2) (n2 := n + 12) (As := []) (k_X12_thrown l2 M79) (fun _ h => o_X12_thrown h) ok_X12_thrown im_X12_thrown se_X12_thrown rfl (ci := 11) rfl ml_L_167 ⟨⟨(Nat.le_of_ble_eq_true rfl), (Nat.le_of_ble_eq_true rfl)⟩, kb_c (o := 2) (c := 0) hb (Nat.le_of_ble_eq_true rfl), kb_s (o := 12) (c := 0) hb (Nat.le_of_ble_eq_true rfl)⟩ dL_law_639 rfl rfl rfl (Nat.le_of_ble_eq_true rfl) rfl rfl (fun x80 => ?_)
  refine V_iload dL_law_642 rfl 6 rfl ?_
  refine V_icmp_eq (q := 649) (q2 := 647) dL_law_644 (by decide) rfl ?_ ?_
  · refine V_iload dL_law_649 rfl 6 rfl ?_
    refine V_if_ne (q := 666) (q2 := 654) dL_law_651 (by decide) rfl ?_ ?_
    · exact V_sub [0, 1, 2, 3, 4, 5] rfl (v_L_law_666 fu rc28 h28 l0 l1 l2 l3 l4 l5 M79 k n hb)
    · refine V_aload_n dL_law_654 rfl 3 rfl ?_
      refine V_iconst (x := 0) dL_law_655 rfl rfl ?_
      refine V_laload dL_law_656 rfl (fun x81 => ?_)
      refine V_iload dL_law_657 rfl 7 rfl ?_
      refine V_i2l dL_law_659 rfl ?_
      refine V_lcmp dL_law_660 rfl ?_
      refine V_if_eq (q := 666) (q2 := 664) dL_law_661 (by decide) rfl ?_ ?_
      · exact V_sub [0, 1, 2, 3, 4, 5] rfl (v_L_law_666 fu rc28 h28 l0 l1 l2 l3 l4 l5 M79 k n hb)
      · refine V_iconst (x := 0) dL_law_664 rfl rfl ?_
        exact V_zret (v := false) dL_law_665 rfl rfl (kb_le hb (Nat.le_of_ble_eq_true rfl) (Nat.le_of_ble_eq_true rfl))
  · refine V_iconst (x := 0) dL_law_647 rfl rfl ?_
    exact V_zret (v := false) dL_law_648 rfl rfl (kb_le hb (Nat.le_of_ble_eq_true rfl) (Nat.le_of_ble_eq_true rfl))
theorem v_L_law_734 (fu : Nat) (rc28 : Nat → Nat → Nat → Nat → Nat → Int32 → Mem → Option (Bool × Mem)) (h28 : ∀ (l0 : Nat) (l1 : Nat) (l2 : Nat) (l3 : Nat) (l4 : Nat) (l5 : Int32) (M : Mem) (k n : Nat) (_ : kb 8 48 fu k n), V mi_L_law 28 [(0, .ref l0), (1, .ref l1), (2, .ref l2), (3, .ref l3), (4, .ref l4), (5, .int l5)] [] M k n (rc28 l0 l1 l2 l3 l4 l5 M) wZ) (l0 : Nat) (l1 : Nat) (l2 : Nat) (l3 : Nat) (l4 : Nat) (l5 : Int32) (M : Mem) (k n : Nat) (hb : kb 8 48 (fu + 1) k n) : V mi_L_law 734 [(0, .ref l0), (1, .ref l1), (2, .ref l2), (3, .ref l3), (4, .ref l4), (5, .int l5)] [] M (k + 1) (n + 6) (f_L_law_734 rc28 l0 l1 l2 l3 l4 l5 M) wZ := by
  unfold f_L_law_734
  refine V_goto (q := 3275) dL_law_734 (by decide) ?_
  exact (V_w (Nat.add_le_add_left (Nat.le_of_ble_eq_true rfl) _) (Nat.add_le_add_left (Nat.le_of_ble_eq_true rfl) _) (v_L_law_3275 fu rc28 h28 l0 l1 l2 l3 l4 l5 M k n hb))
theorem v_L_law_669 (fu : Nat) (rc28 : Nat → Nat → Nat → Nat → Nat → Int32 → Mem → Option (Bool × Mem)) (h28 : ∀ (l0 : Nat) (l1 : Nat) (l2 : Nat) (l3 : Nat) (l4 : Nat) (l5 : Int32) (M : Mem) (k n : Nat) (_ : kb 8 48 fu k n), V mi_L_law 28 [(0, .ref l0), (1, .ref l1), (2, .ref l2), (3, .ref l3), (4, .ref l4), (5, .int l5)] [] M k n (rc28 l0 l1 l2 l3 l4 l5 M) wZ) (l0 : Nat) (l1 : Nat) (l2 : Nat) (l3 : Nat) (l4 : Nat) (l5 : Int32) (M : Mem) (k n : Nat) (hb : kb 8 48 (fu + 1) k n) : V mi_L_law 669 [(0, .ref l0), (1, .ref l1), (2, .ref l2), (3, .ref l3), (4, .ref l4), (5, .int l5)] [] M (k + 0) (n + 0) (f_L_law_669 rc28 l0 l1 l2 l3 l4 l5 M) wZ := by
  unfold f_L_law_669
  refine V_aload_n dL_law_669 rfl 1 rfl ?_
  refine V_aload_n dL_law_670 rfl 0 rfl ?_
  refine V_iload dL_law_671 rfl 5 rfl ?_
  refine V_iconst (x := 1) dL_law_673 rfl rfl ?_
  refine V_iadd dL_law_674 rfl ?_
  refine V_sC dL_law_675 rfl (fun x82 => ?_)
  refine V_aload_n dL_law_676 rfl 0 rfl ?_
  refine V_iload dL_law_677 rfl 5 rfl ?_
  refine V_iconst (x := 2) dL_law_679 rfl rfl ?_
  refine V_iadd dL_law_680 rfl ?_
  refine V_sC dL_law_681 rfl (fun x83 => ?_)
  refine V_aload_n dL_law_682 rfl 3 rfl ?_
  refine V_cSWI (k2 := k + 1) (n2 := n + 6) (As := [.ref l1, .int x82, .int x83, .ref l3]) (k_L_indexOf l1 x82 x83 l3 M) ok_L_indexOf sm_L_indexOf ml_L_206 ⟨⟨(Nat.le_of_ble_eq_true rfl), (Nat.le_of_ble_eq_true rfl)⟩, kb_c (o := 0) (c := 1) hb (Nat.le_of_ble_eq_true rfl), kb_s (o := 0) (c := 6) hb (Nat.le_of_ble_eq_true rfl)⟩ dL_law_683 rfl rfl rfl (Nat.le_of_ble_eq_true rfl) rfl rfl (fun x84 M85 => ?_)
  refine V_istore (L' := [(0, .ref l0), (1, .ref l1), (2, .ref l2), (3, .ref l3), (4, .ref l4), (5, .int l5), (6, .int x84)]) dL_law_686 rfl (by decide) rfl ?_
  refine V_aload_n dL_law_688 rfl 2 rfl ?_
  refine V_aload_n dL_law_689 rfl 0 rfl ?_
  refine V_iload dL_law_690 rfl 5 rfl ?_
  refine V_iconst (x := 1) dL_law_692 rfl rfl ?_
  refine V_iadd dL_law_693 rfl ?_
  refine V_sC dL_law_694 rfl (fun x86 => ?_)
  refine V_aload_n dL_law_695 rfl 0 rfl ?_
  refine V_iload dL_law_696 rfl 5 rfl ?_
  refine V_iconst (x := 2) dL_law_698 rfl rfl ?_
  refine V_iadd dL_law_699 rfl ?_
  refine V_sC dL_law_700 rfl (fun x87 => ?_)
  refine V_cVwI (k2 := k + 1) (n2 := n + 6) (As := [.int x86, .int x87]) (k_X12_indexOf l2 x86 x87 M85) (fun _ h => o_X12_indexOf h) ok_X12_indexOf im_X12_indexOf se_X12_indexOf rfl (ci := 11) rfl ml_L_208 ⟨⟨(Nat.le_of_ble_eq_true rfl), (Nat.le_of_ble_eq_true rfl)⟩, kb_c (o := 1) (c := 0) hb (Nat.le_of_ble_eq_true rfl), kb_s (o := 6) (c := 0) hb (Nat.le_of_ble_eq_true rfl)⟩ dL_law_701 rfl rfl rfl (Nat.le_of_ble_eq_true rfl) rfl rfl (fun x88 M89 => ?_)
  refine V_istore (L' := [(0, .ref l0), (1, .ref l1), (2, .ref l2), (3, .ref l3), (4, .ref l4), (5, .int l5), (6, .int x84), (7, .int x88)]) dL_law_704 rfl (by decide) rfl ?_
  refine V_aload_n dL_law_706 rfl 2 rfl ?_
  refine V_cVeI (k2 := k + 1) (n2 := n + 6) (As := []) (k_X12_thrown l2 M89) (fun _ h => o_X12_thrown h) ok_X12_thrown im_X12_thrown se_X12_thrown rfl (ci := 11) rfl ml_L_167 ⟨⟨(Nat.le_of_ble_eq_true rfl), (Nat.le_of_ble_eq_true rfl)⟩, kb_c (o := 1) (c := 0) hb (Nat.le_of_ble_eq_true rfl), kb_s (o := 6) (c := 0) hb (Nat.le_of_ble_eq_true rfl)⟩ dL_law_707 rfl rfl rfl (Nat.le_of_ble_eq_true rfl) rfl rfl (fun x90 => ?_)
  refine V_iload dL_law_710 rfl 6 rfl ?_
  refine V_icmp_eq (q := 717) (q2 := 715) dL_law_712 (by decide) rfl ?_ ?_
  · refine V_iload dL_law_717 rfl 6 rfl ?_
    refine V_if_ne (q := 734) (q2 := 722) dL_law_719 (by decide) rfl ?_ ?_
    · exact V_sub [0, 1, 2, 3, 4, 5] rfl (v_L_law_734 fu rc28 h28 l0 l1 l2 l3 l4 l5 M89 k n hb)
    · refine V_aload_n dL_law_722 rfl 3 rfl ?_
      refine V_iconst (x := 0) dL_law_723 rfl rfl ?_
      refine V_laload dL_law_724 rfl (fun x91 => ?_)
      refine V_iload dL_law_725 rfl 7 rfl ?_
      refine V_i2l dL_law_727 rfl ?_
      refine V_lcmp dL_law_728 rfl ?_
      refine V_if_eq (q := 734) (q2 := 732) dL_law_729 (by decide) rfl ?_ ?_
      · exact V_sub [0, 1, 2, 3, 4, 5] rfl (v_L_law_734 fu rc28 h28 l0 l1 l2 l3 l4 l5 M89 k n hb)
      · refine V_iconst (x := 0) dL_law_732 rfl rfl ?_
        exact V_zret (v := false) dL_law_733 rfl rfl (kb_le hb (Nat.le_of_ble_eq_true rfl) (Nat.le_of_ble_eq_true rfl))
  · refine V_iconst (x := 0) dL_law_715 rfl rfl ?_
    exact V_zret (v := false) dL_law_716 rfl rfl (kb_le hb (Nat.le_of_ble_eq_true rfl) (Nat.le_of_ble_eq_true rfl))
theorem v_L_law_802 (fu : Nat) (rc28 : Nat → Nat → Nat → Nat → Nat → Int32 → Mem → Option (Bool × Mem)) (h28 : ∀ (l0 : Nat) (l1 : Nat) (l2 : Nat) (l3 : Nat) (l4 : Nat) (l5 : Int32) (M : Mem) (k n : Nat) (_ : kb 8 48 fu k n), V mi_L_law 28 [(0, .ref l0), (1, .ref l1), (2, .ref l2), (3, .ref l3), (4, .ref l4), (5, .int l5)] [] M k n (rc28 l0 l1 l2 l3 l4 l5 M) wZ) (l0 : Nat) (l1 : Nat) (l2 : Nat) (l3 : Nat) (l4 : Nat) (l5 : Int32) (M : Mem) (k n : Nat) (hb : kb 8 48 (fu + 1) k n) : V mi_L_law 802 [(0, .ref l0), (1, .ref l1), (2, .ref l2), (3, .ref l3), (4, .ref l4), (5, .int l5)] [] M (k + 2) (n + 12) (f_L_law_802 rc28 l0 l1 l2 l3 l4 l5 M) wZ := by
  unfold f_L_law_802
  refine V_goto (q := 3275) dL_law_802 (by decide) ?_
  exact (V_w (Nat.add_le_add_left (Nat.le_of_ble_eq_true rfl) _) (Nat.add_le_add_left (Nat.le_of_ble_eq_true rfl) _) (v_L_law_3275 fu rc28 h28 l0 l1 l2 l3 l4 l5 M k n hb))
theorem v_L_law_737 (fu : Nat) (rc28 : Nat → Nat → Nat → Nat → Nat → Int32 → Mem → Option (Bool × Mem)) (h28 : ∀ (l0 : Nat) (l1 : Nat) (l2 : Nat) (l3 : Nat) (l4 : Nat) (l5 : Int32) (M : Mem) (k n : Nat) (_ : kb 8 48 fu k n), V mi_L_law 28 [(0, .ref l0), (1, .ref l1), (2, .ref l2), (3, .ref l3), (4, .ref l4), (5, .int l5)] [] M k n (rc28 l0 l1 l2 l3 l4 l5 M) wZ) (l0 : Nat) (l1 : Nat) (l2 : Nat) (l3 : Nat) (l4 : Nat) (l5 : Int32) (M : Mem) (k n : Nat) (hb : kb 8 48 (fu + 1) k n) : V mi_L_law 737 [(0, .ref l0), (1, .ref l1), (2, .ref l2), (3, .ref l3), (4, .ref l4), (5, .int l5)] [] M (k + 0) (n + 0) (f_L_law_737 rc28 l0 l1 l2 l3 l4 l5 M) wZ := by
  unfold f_L_law_737
  refine V_aload_n dL_law_737 rfl 1 rfl ?_
  refine V_aload_n dL_law_738 rfl 0 rfl ?_
  refine V_iload dL_law_739 rfl 5 rfl ?_
  refine V_iconst (x := 1) dL_law_741 rfl rfl ?_
  refine V_iadd dL_law_742 rfl ?_
  refine V_sC dL_law_743 rfl (fun x92 => ?_)
  refine V_aload_n dL_law_744 rfl 0 rfl ?_
  refine V_iload dL_law_745 rfl 5 rfl ?_
  refine V_iconst (x := 2) dL_law_747 rfl rfl ?_
  refine V_iadd dL_law_748 rfl ?_
  refine V_sC dL_law_749 rfl (fun x93 => ?_)
  refine V_aload_n dL_law_750 rfl 3 rfl ?_
  refine V_cSWI (k2 := k + 2) (n2 := n + 12) (As := [.ref l1, .int x92, .int x93, .ref l3]) (k_L_session l1 x92 x93 l3 M) ok_L_session sm_L_session ml_L_209 ⟨⟨(Nat.le_of_ble_eq_true rfl), (Nat.le_of_ble_eq_true rfl)⟩, kb_c (o := 0) (c := 2) hb (Nat.le_of_ble_eq_true rfl), kb_s (o := 0) (c := 12) hb (Nat.le_of_ble_eq_true rfl)⟩ dL_law_751 rfl rfl rfl (Nat.le_of_ble_eq_true rfl) rfl rfl (fun x94 M95 => ?_)
  refine V_istore (L' := [(0, .ref l0), (1, .ref l1), (2, .ref l2), (3, .ref l3), (4, .ref l4), (5, .int l5), (6, .int x94)]) dL_law_754 rfl (by decide) rfl ?_
  refine V_aload_n dL_law_756 rfl 2 rfl ?_
  refine V_aload_n dL_law_757 rfl 0 rfl ?_
  refine V_iload dL_law_758 rfl 5 rfl ?_
  refine V_iconst (x := 1) dL_law_760 rfl rfl ?_
  refine V_iadd dL_law_761 rfl ?_
  refine V_sC dL_law_762 rfl (fun x96 => ?_)
  refine V_aload_n dL_law_763 rfl 0 rfl ?_
  refine V_iload dL_law_764 rfl 5 rfl ?_
  refine V_iconst (x := 2) dL_law_766 rfl rfl ?_
  refine V_iadd dL_law_767 rfl ?_
  refine V_sC dL_law_768 rfl (fun x97 => ?_)
  refine V_cVwI (k2 := k + 2) (n2 := n + 12) (As := [.int x96, .int x97]) (k_X12_session l2 x96 x97 M95) (fun _ h => o_X12_session h) ok_X12_session im_X12_session se_X12_session rfl (ci := 11) rfl ml_L_211 ⟨⟨(Nat.le_of_ble_eq_true rfl), (Nat.le_of_ble_eq_true rfl)⟩, kb_c (o := 2) (c := 0) hb (Nat.le_of_ble_eq_true rfl), kb_s (o := 12) (c := 0) hb (Nat.le_of_ble_eq_true rfl)⟩ dL_law_769 rfl rfl rfl (Nat.le_of_ble_eq_true rfl) rfl rfl (fun x98 M99 => ?_)
  refine V_istore (L' := [(0, .ref l0), (1, .ref l1), (2, .ref l2), (3, .ref l3), (4, .ref l4), (5, .int l5), (6, .int x94), (7, .int x98)]) dL_law_772 rfl (by decide) rfl ?_
  refine V_aload_n dL_law_774 rfl 2 rfl ?_
  refine V_cVeI (k2 := k + 2) (n2 := n + 12) (As := []) (k_X12_thrown l2 M99) (fun _ h => o_X12_thrown h) ok_X12_thrown im_X12_thrown se_X12_thrown rfl (ci := 11) rfl ml_L_167 ⟨⟨(Nat.le_of_ble_eq_true rfl), (Nat.le_of_ble_eq_true rfl)⟩, kb_c (o := 2) (c := 0) hb (Nat.le_of_ble_eq_true rfl), kb_s (o := 12) (c := 0) hb (Nat.le_of_ble_eq_true rfl)⟩ dL_law_775 rfl rfl rfl (Nat.le_of_ble_eq_true rfl) rfl rfl (fun x100 => ?_)
  refine V_iload dL_law_778 rfl 6 rfl ?_
  refine V_icmp_eq (q := 785) (q2 := 783) dL_law_780 (by decide) rfl ?_ ?_
  · refine V_iload dL_law_785 rfl 6 rfl ?_
    refine V_if_ne (q := 802) (q2 := 790) dL_law_787 (by decide) rfl ?_ ?_
    · exact V_sub [0, 1, 2, 3, 4, 5] rfl (v_L_law_802 fu rc28 h28 l0 l1 l2 l3 l4 l5 M99 k n hb)
    · refine V_aload_n dL_law_790 rfl 3 rfl ?_
      refine V_iconst (x := 0) dL_law_791 rfl rfl ?_
      refine V_laload dL_law_792 rfl (fun x101 => ?_)
      refine V_iload dL_law_793 rfl 7 rfl ?_
      refine V_i2l dL_law_795 rfl ?_
      refine V_lcmp dL_law_796 rfl ?_
      refine V_if_eq (q := 802) (q2 := 800) dL_law_797 (by decide) rfl ?_ ?_
      · exact V_sub [0, 1, 2, 3, 4, 5] rfl (v_L_law_802 fu rc28 h28 l0 l1 l2 l3 l4 l5 M99 k n hb)
      · refine V_iconst (x := 0) dL_law_800 rfl rfl ?_
        exact V_zret (v := false) dL_law_801 rfl rfl (kb_le hb (Nat.le_of_ble_eq_true rfl) (Nat.le_of_ble_eq_true rfl))
  · refine V_iconst (x := 0) dL_law_783 rfl rfl ?_
    exact V_zret (v := false) dL_law_784 rfl rfl (kb_le hb (Nat.le_of_ble_eq_true rfl) (Nat.le_of_ble_eq_true rfl))
theorem v_L_law_882 (fu : Nat) (rc28 : Nat → Nat → Nat → Nat → Nat → Int32 → Mem → Option (Bool × Mem)) (h28 : ∀ (l0 : Nat) (l1 : Nat) (l2 : Nat) (l3 : Nat) (l4 : Nat) (l5 : Int32) (M : Mem) (k n : Nat) (_ : kb 8 48 fu k n), V mi_L_law 28 [(0, .ref l0), (1, .ref l1), (2, .ref l2), (3, .ref l3), (4, .ref l4), (5, .int l5)] [] M k n (rc28 l0 l1 l2 l3 l4 l5 M) wZ) (l0 : Nat) (l1 : Nat) (l2 : Nat) (l3 : Nat) (l4 : Nat) (l5 : Int32) (M : Mem) (k n : Nat) (hb : kb 8 48 (fu + 1) k n) : V mi_L_law 882 [(0, .ref l0), (1, .ref l1), (2, .ref l2), (3, .ref l3), (4, .ref l4), (5, .int l5)] [] M (k + 3) (n + 18) (f_L_law_882 rc28 l0 l1 l2 l3 l4 l5 M) wZ := by
  unfold f_L_law_882
  refine V_goto (q := 3275) dL_law_882 (by decide) ?_
  exact (V_w (Nat.add_le_add_left (Nat.le_of_ble_eq_true rfl) _) (Nat.add_le_add_left (Nat.le_of_ble_eq_true rfl) _) (v_L_law_3275 fu rc28 h28 l0 l1 l2 l3 l4 l5 M k n hb))
theorem v_L_law_805 (fu : Nat) (rc28 : Nat → Nat → Nat → Nat → Nat → Int32 → Mem → Option (Bool × Mem)) (h28 : ∀ (l0 : Nat) (l1 : Nat) (l2 : Nat) (l3 : Nat) (l4 : Nat) (l5 : Int32) (M : Mem) (k n : Nat) (_ : kb 8 48 fu k n), V mi_L_law 28 [(0, .ref l0), (1, .ref l1), (2, .ref l2), (3, .ref l3), (4, .ref l4), (5, .int l5)] [] M k n (rc28 l0 l1 l2 l3 l4 l5 M) wZ) (l0 : Nat) (l1 : Nat) (l2 : Nat) (l3 : Nat) (l4 : Nat) (l5 : Int32) (M : Mem) (k n : Nat) (hb : kb 8 48 (fu + 1) k n) : V mi_L_law 805 [(0, .ref l0), (1, .ref l1), (2, .ref l2), (3, .ref l3), (4, .ref l4), (5, .int l5)] [] M (k + 0) (n + 0) (f_L_law_805 rc28 l0 l1 l2 l3 l4 l5 M) wZ := by
  unfold f_L_law_805
  refine V_aload_n dL_law_805 rfl 1 rfl ?_
  refine V_aload_n dL_law_806 rfl 0 rfl ?_
  refine V_iload dL_law_807 rfl 5 rfl ?_
  refine V_iconst (x := 1) dL_law_809 rfl rfl ?_
  refine V_iadd dL_law_810 rfl ?_
  refine V_sC dL_law_811 rfl (fun x102 => ?_)
  refine V_aload_n dL_law_812 rfl 0 rfl ?_
  refine V_iload dL_law_813 rfl 5 rfl ?_
  refine V_iconst (x := 2) dL_law_815 rfl rfl ?_
  refine V_iadd dL_law_816 rfl ?_
  refine V_sC dL_law_817 rfl (fun x103 => ?_)
  refine V_aload_n dL_law_818 rfl 0 rfl ?_
  refine V_iload dL_law_819 rfl 5 rfl ?_
  refine V_iconst (x := 3) dL_law_821 rfl rfl ?_
  refine V_iadd dL_law_822 rfl ?_
  refine V_sC dL_law_823 rfl (fun x104 => ?_)
  refine V_aload_n dL_law_824 rfl 3 rfl ?_
  refine V_cSWI (k2 := k + 3) (n2 := n + 18) (As := [.ref l1, .int x102, .int x103, .int x104, .ref l3]) (k_L_entry l1 x102 x103 x104 l3 M) ok_L_entry sm_L_entry ml_L_212 ⟨⟨(Nat.le_of_ble_eq_true rfl), (Nat.le_of_ble_eq_true rfl)⟩, kb_c (o := 0) (c := 3) hb (Nat.le_of_ble_eq_true rfl), kb_s (o := 0) (c := 18) hb (Nat.le_of_ble_eq_true rfl)⟩ dL_law_825 rfl rfl rfl (Nat.le_of_ble_eq_true rfl) rfl rfl (fun x105 M106 => ?_)
  refine V_istore (L' := [(0, .ref l0), (1, .ref l1), (2, .ref l2), (3, .ref l3), (4, .ref l4), (5, .int l5), (6, .int x105)]) dL_law_828 rfl (by decide) rfl ?_
  refine V_aload_n dL_law_830 rfl 2 rfl ?_
  refine V_aload_n dL_law_831 rfl 0 rfl ?_
  refine V_iload dL_law_832 rfl 5 rfl ?_
  refine V_iconst (x := 1) dL_law_834 rfl rfl ?_
  refine V_iadd dL_law_835 rfl ?_
  refine V_sC dL_law_836 rfl (fun x107 => ?_)
  refine V_aload_n dL_law_837 rfl 0 rfl ?_
  refine V_iload dL_law_838 rfl 5 rfl ?_
  refine V_iconst (x := 2) dL_law_840 rfl rfl ?_
  refine V_iadd dL_law_841 rfl ?_
  refine V_sC dL_law_842 rfl (fun x108 => ?_)
  refine V_aload_n dL_law_843 rfl 0 rfl ?_
  refine V_iload dL_law_844 rfl 5 rfl ?_
  refine V_iconst (x := 3) dL_law_846 rfl rfl ?_
  refine V_iadd dL_law_847 rfl ?_
  refine V_sC dL_law_848 rfl (fun x109 => ?_)
  refine V_cVwI (k2 := k + 3) (n2 := n + 18) (As := [.int x107, .int x108, .int x109]) (k_X12_entry l2 x107 x108 x109 M106) (fun _ h => o_X12_entry h) ok_X12_entry im_X12_entry se_X12_entry rfl (ci := 11) rfl ml_L_214 ⟨⟨(Nat.le_of_ble_eq_true rfl), (Nat.le_of_ble_eq_true rfl)⟩, kb_c (o := 3) (c := 0) hb (Nat.le_of_ble_eq_true rfl), kb_s (o := 18) (c := 0) hb (Nat.le_of_ble_eq_true rfl)⟩ dL_law_849 rfl rfl rfl (Nat.le_of_ble_eq_true rfl) rfl rfl (fun x110 M111 => ?_)
  refine V_istore (L' := [(0, .ref l0), (1, .ref l1), (2, .ref l2), (3, .ref l3), (4, .ref l4), (5, .int l5), (6, .int x105), (7, .int x110)]) dL_law_852 rfl (by decide) rfl ?_
  refine V_aload_n dL_law_854 rfl 2 rfl ?_
  refine V_cVeI (k2 := k + 3) (n2 := n + 18) (As := []) (k_X12_thrown l2 M111) (fun _ h => o_X12_thrown h) ok_X12_thrown im_X12_thrown se_X12_thrown rfl (ci := 11) rfl ml_L_167 ⟨⟨(Nat.le_of_ble_eq_true rfl), (Nat.le_of_ble_eq_true rfl)⟩, kb_c (o := 3) (c := 0) hb (Nat.le_of_ble_eq_true rfl), kb_s (o := 18) (c := 0) hb (Nat.le_of_ble_eq_true rfl)⟩ dL_law_855 rfl rfl rfl (Nat.le_of_ble_eq_true rfl) rfl rfl (fun x112 => ?_)
  refine V_iload dL_law_858 rfl 6 rfl ?_
  refine V_icmp_eq (q := 865) (q2 := 863) dL_law_860 (by decide) rfl ?_ ?_
  · refine V_iload dL_law_865 rfl 6 rfl ?_
    refine V_if_ne (q := 882) (q2 := 870) dL_law_867 (by decide) rfl ?_ ?_
    · exact V_sub [0, 1, 2, 3, 4, 5] rfl (v_L_law_882 fu rc28 h28 l0 l1 l2 l3 l4 l5 M111 k n hb)
    · refine V_aload_n dL_law_870 rfl 3 rfl ?_
      refine V_iconst (x := 0) dL_law_871 rfl rfl ?_
      refine V_laload dL_law_872 rfl (fun x113 => ?_)
      refine V_iload dL_law_873 rfl 7 rfl ?_
      refine V_i2l dL_law_875 rfl ?_
      refine V_lcmp dL_law_876 rfl ?_
      refine V_if_eq (q := 882) (q2 := 880) dL_law_877 (by decide) rfl ?_ ?_
      · exact V_sub [0, 1, 2, 3, 4, 5] rfl (v_L_law_882 fu rc28 h28 l0 l1 l2 l3 l4 l5 M111 k n hb)
      · refine V_iconst (x := 0) dL_law_880 rfl rfl ?_
        exact V_zret (v := false) dL_law_881 rfl rfl (kb_le hb (Nat.le_of_ble_eq_true rfl) (Nat.le_of_ble_eq_true rfl))
  · refine V_iconst (x := 0) dL_law_863 rfl rfl ?_
    exact V_zret (v := false) dL_law_864 rfl rfl (kb_le hb (Nat.le_of_ble_eq_true rfl) (Nat.le_of_ble_eq_true rfl))
theorem v_L_law_950 (fu : Nat) (rc28 : Nat → Nat → Nat → Nat → Nat → Int32 → Mem → Option (Bool × Mem)) (h28 : ∀ (l0 : Nat) (l1 : Nat) (l2 : Nat) (l3 : Nat) (l4 : Nat) (l5 : Int32) (M : Mem) (k n : Nat) (_ : kb 8 48 fu k n), V mi_L_law 28 [(0, .ref l0), (1, .ref l1), (2, .ref l2), (3, .ref l3), (4, .ref l4), (5, .int l5)] [] M k n (rc28 l0 l1 l2 l3 l4 l5 M) wZ) (l0 : Nat) (l1 : Nat) (l2 : Nat) (l3 : Nat) (l4 : Nat) (l5 : Int32) (M : Mem) (k n : Nat) (hb : kb 8 48 (fu + 1) k n) : V mi_L_law 950 [(0, .ref l0), (1, .ref l1), (2, .ref l2), (3, .ref l3), (4, .ref l4), (5, .int l5)] [] M (k + 1) (n + 6) (f_L_law_950 rc28 l0 l1 l2 l3 l4 l5 M) wZ := by
  unfold f_L_law_950
  refine V_goto (q := 3275) dL_law_950 (by decide) ?_
  exact (V_w (Nat.add_le_add_left (Nat.le_of_ble_eq_true rfl) _) (Nat.add_le_add_left (Nat.le_of_ble_eq_true rfl) _) (v_L_law_3275 fu rc28 h28 l0 l1 l2 l3 l4 l5 M k n hb))
theorem v_L_law_885 (fu : Nat) (rc28 : Nat → Nat → Nat → Nat → Nat → Int32 → Mem → Option (Bool × Mem)) (h28 : ∀ (l0 : Nat) (l1 : Nat) (l2 : Nat) (l3 : Nat) (l4 : Nat) (l5 : Int32) (M : Mem) (k n : Nat) (_ : kb 8 48 fu k n), V mi_L_law 28 [(0, .ref l0), (1, .ref l1), (2, .ref l2), (3, .ref l3), (4, .ref l4), (5, .int l5)] [] M k n (rc28 l0 l1 l2 l3 l4 l5 M) wZ) (l0 : Nat) (l1 : Nat) (l2 : Nat) (l3 : Nat) (l4 : Nat) (l5 : Int32) (M : Mem) (k n : Nat) (hb : kb 8 48 (fu + 1) k n) : V mi_L_law 885 [(0, .ref l0), (1, .ref l1), (2, .ref l2), (3, .ref l3), (4, .ref l4), (5, .int l5)] [] M (k + 0) (n + 0) (f_L_law_885 rc28 l0 l1 l2 l3 l4 l5 M) wZ := by
  unfold f_L_law_885
  refine V_aload_n dL_law_885 rfl 1 rfl ?_
  refine V_aload_n dL_law_886 rfl 0 rfl ?_
  refine V_iload dL_law_887 rfl 5 rfl ?_
  refine V_iconst (x := 1) dL_law_889 rfl rfl ?_
  refine V_iadd dL_law_890 rfl ?_
  refine V_sC dL_law_891 rfl (fun x114 => ?_)
  refine V_aload_n dL_law_892 rfl 0 rfl ?_
  refine V_iload dL_law_893 rfl 5 rfl ?_
  refine V_iconst (x := 2) dL_law_895 rfl rfl ?_
  refine V_iadd dL_law_896 rfl ?_
  refine V_sC dL_law_897 rfl (fun x115 => ?_)
  refine V_aload_n dL_law_898 rfl 3 rfl ?_
  refine V_cSWI (k2 := k + 1) (n2 := n + 6) (As := [.ref l1, .int x114, .int x115, .ref l3]) (k_L_numberOf l1 x114 x115 l3 M) ok_L_numberOf sm_L_numberOf ml_L_215 ⟨⟨(Nat.le_of_ble_eq_true rfl), (Nat.le_of_ble_eq_true rfl)⟩, kb_c (o := 0) (c := 1) hb (Nat.le_of_ble_eq_true rfl), kb_s (o := 0) (c := 6) hb (Nat.le_of_ble_eq_true rfl)⟩ dL_law_899 rfl rfl rfl (Nat.le_of_ble_eq_true rfl) rfl rfl (fun x116 M117 => ?_)
  refine V_istore (L' := [(0, .ref l0), (1, .ref l1), (2, .ref l2), (3, .ref l3), (4, .ref l4), (5, .int l5), (6, .int x116)]) dL_law_902 rfl (by decide) rfl ?_
  refine V_aload_n dL_law_904 rfl 2 rfl ?_
  refine V_aload_n dL_law_905 rfl 0 rfl ?_
  refine V_iload dL_law_906 rfl 5 rfl ?_
  refine V_iconst (x := 1) dL_law_908 rfl rfl ?_
  refine V_iadd dL_law_909 rfl ?_
  refine V_sC dL_law_910 rfl (fun x118 => ?_)
  refine V_aload_n dL_law_911 rfl 0 rfl ?_
  refine V_iload dL_law_912 rfl 5 rfl ?_
  refine V_iconst (x := 2) dL_law_914 rfl rfl ?_
  refine V_iadd dL_law_915 rfl ?_
  refine V_sC dL_law_916 rfl (fun x119 => ?_)
  refine V_cVwI (k2 := k + 1) (n2 := n + 6) (As := [.int x118, .int x119]) (k_X12_numberOf l2 x118 x119 M117) (fun _ h => o_X12_numberOf h) ok_X12_numberOf im_X12_numberOf se_X12_numberOf rfl (ci := 11) rfl ml_L_217 ⟨⟨(Nat.le_of_ble_eq_true rfl), (Nat.le_of_ble_eq_true rfl)⟩, kb_c (o := 1) (c := 0) hb (Nat.le_of_ble_eq_true rfl), kb_s (o := 6) (c := 0) hb (Nat.le_of_ble_eq_true rfl)⟩ dL_law_917 rfl rfl rfl (Nat.le_of_ble_eq_true rfl) rfl rfl (fun x120 M121 => ?_)
  refine V_istore (L' := [(0, .ref l0), (1, .ref l1), (2, .ref l2), (3, .ref l3), (4, .ref l4), (5, .int l5), (6, .int x116), (7, .int x120)]) dL_law_920 rfl (by decide) rfl ?_
  refine V_aload_n dL_law_922 rfl 2 rfl ?_
  refine V_cVeI (k2 := k + 1) (n2 := n + 6) (As := []) (k_X12_thrown l2 M121) (fun _ h => o_X12_thrown h) ok_X12_thrown im_X12_thrown se_X12_thrown rfl (ci := 11) rfl ml_L_167 ⟨⟨(Nat.le_of_ble_eq_true rfl), (Nat.le_of_ble_eq_true rfl)⟩, kb_c (o := 1) (c := 0) hb (Nat.le_of_ble_eq_true rfl), kb_s (o := 6) (c := 0) hb (Nat.le_of_ble_eq_true rfl)⟩ dL_law_923 rfl rfl rfl (Nat.le_of_ble_eq_true rfl) rfl rfl (fun x122 => ?_)
  refine V_iload dL_law_926 rfl 6 rfl ?_
  refine V_icmp_eq (q := 933) (q2 := 931) dL_law_928 (by decide) rfl ?_ ?_
  · refine V_iload dL_law_933 rfl 6 rfl ?_
    refine V_if_ne (q := 950) (q2 := 938) dL_law_935 (by decide) rfl ?_ ?_
    · exact V_sub [0, 1, 2, 3, 4, 5] rfl (v_L_law_950 fu rc28 h28 l0 l1 l2 l3 l4 l5 M121 k n hb)
    · refine V_aload_n dL_law_938 rfl 3 rfl ?_
      refine V_iconst (x := 0) dL_law_939 rfl rfl ?_
      refine V_laload dL_law_940 rfl (fun x123 => ?_)
      refine V_iload dL_law_941 rfl 7 rfl ?_
      refine V_i2l dL_law_943 rfl ?_
      refine V_lcmp dL_law_944 rfl ?_
      refine V_if_eq (q := 950) (q2 := 948) dL_law_945 (by decide) rfl ?_ ?_
      · exact V_sub [0, 1, 2, 3, 4, 5] rfl (v_L_law_950 fu rc28 h28 l0 l1 l2 l3 l4 l5 M121 k n hb)
      · refine V_iconst (x := 0) dL_law_948 rfl rfl ?_
        exact V_zret (v := false) dL_law_949 rfl rfl (kb_le hb (Nat.le_of_ble_eq_true rfl) (Nat.le_of_ble_eq_true rfl))
  · refine V_iconst (x := 0) dL_law_931 rfl rfl ?_
    exact V_zret (v := false) dL_law_932 rfl rfl (kb_le hb (Nat.le_of_ble_eq_true rfl) (Nat.le_of_ble_eq_true rfl))
theorem v_L_law_1018 (fu : Nat) (rc28 : Nat → Nat → Nat → Nat → Nat → Int32 → Mem → Option (Bool × Mem)) (h28 : ∀ (l0 : Nat) (l1 : Nat) (l2 : Nat) (l3 : Nat) (l4 : Nat) (l5 : Int32) (M : Mem) (k n : Nat) (_ : kb 8 48 fu k n), V mi_L_law 28 [(0, .ref l0), (1, .ref l1), (2, .ref l2), (3, .ref l3), (4, .ref l4), (5, .int l5)] [] M k n (rc28 l0 l1 l2 l3 l4 l5 M) wZ) (l0 : Nat) (l1 : Nat) (l2 : Nat) (l3 : Nat) (l4 : Nat) (l5 : Int32) (M : Mem) (k n : Nat) (hb : kb 8 48 (fu + 1) k n) : V mi_L_law 1018 [(0, .ref l0), (1, .ref l1), (2, .ref l2), (3, .ref l3), (4, .ref l4), (5, .int l5)] [] M (k + 2) (n + 12) (f_L_law_1018 rc28 l0 l1 l2 l3 l4 l5 M) wZ := by
  unfold f_L_law_1018
  refine V_goto (q := 3275) dL_law_1018 (by decide) ?_
  exact (V_w (Nat.add_le_add_left (Nat.le_of_ble_eq_true rfl) _) (Nat.add_le_add_left (Nat.le_of_ble_eq_true rfl) _) (v_L_law_3275 fu rc28 h28 l0 l1 l2 l3 l4 l5 M k n hb))
theorem v_L_law_953 (fu : Nat) (rc28 : Nat → Nat → Nat → Nat → Nat → Int32 → Mem → Option (Bool × Mem)) (h28 : ∀ (l0 : Nat) (l1 : Nat) (l2 : Nat) (l3 : Nat) (l4 : Nat) (l5 : Int32) (M : Mem) (k n : Nat) (_ : kb 8 48 fu k n), V mi_L_law 28 [(0, .ref l0), (1, .ref l1), (2, .ref l2), (3, .ref l3), (4, .ref l4), (5, .int l5)] [] M k n (rc28 l0 l1 l2 l3 l4 l5 M) wZ) (l0 : Nat) (l1 : Nat) (l2 : Nat) (l3 : Nat) (l4 : Nat) (l5 : Int32) (M : Mem) (k n : Nat) (hb : kb 8 48 (fu + 1) k n) : V mi_L_law 953 [(0, .ref l0), (1, .ref l1), (2, .ref l2), (3, .ref l3), (4, .ref l4), (5, .int l5)] [] M (k + 0) (n + 0) (f_L_law_953 rc28 l0 l1 l2 l3 l4 l5 M) wZ := by
  unfold f_L_law_953
  refine V_aload_n dL_law_953 rfl 1 rfl ?_
  refine V_aload_n dL_law_954 rfl 0 rfl ?_
  refine V_iload dL_law_955 rfl 5 rfl ?_
  refine V_iconst (x := 1) dL_law_957 rfl rfl ?_
  refine V_iadd dL_law_958 rfl ?_
  refine V_sC dL_law_959 rfl (fun x124 => ?_)
  refine V_aload_n dL_law_960 rfl 0 rfl ?_
  refine V_iload dL_law_961 rfl 5 rfl ?_
  refine V_iconst (x := 2) dL_law_963 rfl rfl ?_
  refine V_iadd dL_law_964 rfl ?_
  refine V_sC dL_law_965 rfl (fun x125 => ?_)
  refine V_aload_n dL_law_966 rfl 3 rfl ?_
  refine V_cSWI (k2 := k + 2) (n2 := n + 12) (As := [.ref l1, .int x124, .int x125, .ref l3]) (k_L_numberThen l1 x124 x125 l3 M) ok_L_numberThen sm_L_numberThen ml_L_218 ⟨⟨(Nat.le_of_ble_eq_true rfl), (Nat.le_of_ble_eq_true rfl)⟩, kb_c (o := 0) (c := 2) hb (Nat.le_of_ble_eq_true rfl), kb_s (o := 0) (c := 12) hb (Nat.le_of_ble_eq_true rfl)⟩ dL_law_967 rfl rfl rfl (Nat.le_of_ble_eq_true rfl) rfl rfl (fun x126 M127 => ?_)
  refine V_istore (L' := [(0, .ref l0), (1, .ref l1), (2, .ref l2), (3, .ref l3), (4, .ref l4), (5, .int l5), (6, .int x126)]) dL_law_970 rfl (by decide) rfl ?_
  refine V_aload_n dL_law_972 rfl 2 rfl ?_
  refine V_aload_n dL_law_973 rfl 0 rfl ?_
  refine V_iload dL_law_974 rfl 5 rfl ?_
  refine V_iconst (x := 1) dL_law_976 rfl rfl ?_
  refine V_iadd dL_law_977 rfl ?_
  refine V_sC dL_law_978 rfl (fun x128 => ?_)
  refine V_aload_n dL_law_979 rfl 0 rfl ?_
  refine V_iload dL_law_980 rfl 5 rfl ?_
  refine V_iconst (x := 2) dL_law_982 rfl rfl ?_
  refine V_iadd dL_law_983 rfl ?_
  refine V_sC dL_law_984 rfl (fun x129 => ?_)
  refine V_cVwI (k2 := k + 2) (n2 := n + 12) (As := [.int x128, .int x129]) (k_X12_numberThen l2 x128 x129 M127) (fun _ h => o_X12_numberThen h) ok_X12_numberThen im_X12_numberThen se_X12_numberThen rfl (ci := 11) rfl ml_L_220 ⟨⟨(Nat.le_of_ble_eq_true rfl), (Nat.le_of_ble_eq_true rfl)⟩, kb_c (o := 2) (c := 0) hb (Nat.le_of_ble_eq_true rfl), kb_s (o := 12) (c := 0) hb (Nat.le_of_ble_eq_true rfl)⟩ dL_law_985 rfl rfl rfl (Nat.le_of_ble_eq_true rfl) rfl rfl (fun x130 M131 => ?_)
  refine V_istore (L' := [(0, .ref l0), (1, .ref l1), (2, .ref l2), (3, .ref l3), (4, .ref l4), (5, .int l5), (6, .int x126), (7, .int x130)]) dL_law_988 rfl (by decide) rfl ?_
  refine V_aload_n dL_law_990 rfl 2 rfl ?_
  refine V_cVeI (k2 := k + 2) (n2 := n + 12) (As := []) (k_X12_thrown l2 M131) (fun _ h => o_X12_thrown h) ok_X12_thrown im_X12_thrown se_X12_thrown rfl (ci := 11) rfl ml_L_167 ⟨⟨(Nat.le_of_ble_eq_true rfl), (Nat.le_of_ble_eq_true rfl)⟩, kb_c (o := 2) (c := 0) hb (Nat.le_of_ble_eq_true rfl), kb_s (o := 12) (c := 0) hb (Nat.le_of_ble_eq_true rfl)⟩ dL_law_991 rfl rfl rfl (Nat.le_of_ble_eq_true rfl) rfl rfl (fun x132 => ?_)
  refine V_iload dL_law_994 rfl 6 rfl ?_
  refine V_icmp_eq (q := 1001) (q2 := 999) dL_law_996 (by decide) rfl ?_ ?_
  · refine V_iload dL_law_1001 rfl 6 rfl ?_
    refine V_if_ne (q := 1018) (q2 := 1006) dL_law_1003 (by decide) rfl ?_ ?_
    · exact V_sub [0, 1, 2, 3, 4, 5] rfl (v_L_law_1018 fu rc28 h28 l0 l1 l2 l3 l4 l5 M131 k n hb)
    · refine V_aload_n dL_law_1006 rfl 3 rfl ?_
      refine V_iconst (x := 0) dL_law_1007 rfl rfl ?_
      refine V_laload dL_law_1008 rfl (fun x133 => ?_)
      refine V_iload dL_law_1009 rfl 7 rfl ?_
      refine V_i2l dL_law_1011 rfl ?_
      refine V_lcmp dL_law_1012 rfl ?_
      refine V_if_eq (q := 1018) (q2 := 1016) dL_law_1013 (by decide) rfl ?_ ?_
      · exact V_sub [0, 1, 2, 3, 4, 5] rfl (v_L_law_1018 fu rc28 h28 l0 l1 l2 l3 l4 l5 M131 k n hb)
      · refine V_iconst (x := 0) dL_law_1016 rfl rfl ?_
        exact V_zret (v := false) dL_law_1017 rfl rfl (kb_le hb (Nat.le_of_ble_eq_true rfl) (Nat.le_of_ble_eq_true rfl))
  · refine V_iconst (x := 0) dL_law_999 rfl rfl ?_
    exact V_zret (v := false) dL_law_1000 rfl rfl (kb_le hb (Nat.le_of_ble_eq_true rfl) (Nat.le_of_ble_eq_true rfl))
theorem v_L_law_1074 (fu : Nat) (rc28 : Nat → Nat → Nat → Nat → Nat → Int32 → Mem → Option (Bool × Mem)) (h28 : ∀ (l0 : Nat) (l1 : Nat) (l2 : Nat) (l3 : Nat) (l4 : Nat) (l5 : Int32) (M : Mem) (k n : Nat) (_ : kb 8 48 fu k n), V mi_L_law 28 [(0, .ref l0), (1, .ref l1), (2, .ref l2), (3, .ref l3), (4, .ref l4), (5, .int l5)] [] M k n (rc28 l0 l1 l2 l3 l4 l5 M) wZ) (l0 : Nat) (l1 : Nat) (l2 : Nat) (l3 : Nat) (l4 : Nat) (l5 : Int32) (M : Mem) (k n : Nat) (hb : kb 8 48 (fu + 1) k n) : V mi_L_law 1074 [(0, .ref l0), (1, .ref l1), (2, .ref l2), (3, .ref l3), (4, .ref l4), (5, .int l5)] [] M (k + 1) (n + 6) (f_L_law_1074 rc28 l0 l1 l2 l3 l4 l5 M) wZ := by
  unfold f_L_law_1074
  refine V_goto (q := 3275) dL_law_1074 (by decide) ?_
  exact (V_w (Nat.add_le_add_left (Nat.le_of_ble_eq_true rfl) _) (Nat.add_le_add_left (Nat.le_of_ble_eq_true rfl) _) (v_L_law_3275 fu rc28 h28 l0 l1 l2 l3 l4 l5 M k n hb))
theorem v_L_law_1021 (fu : Nat) (rc28 : Nat → Nat → Nat → Nat → Nat → Int32 → Mem → Option (Bool × Mem)) (h28 : ∀ (l0 : Nat) (l1 : Nat) (l2 : Nat) (l3 : Nat) (l4 : Nat) (l5 : Int32) (M : Mem) (k n : Nat) (_ : kb 8 48 fu k n), V mi_L_law 28 [(0, .ref l0), (1, .ref l1), (2, .ref l2), (3, .ref l3), (4, .ref l4), (5, .int l5)] [] M k n (rc28 l0 l1 l2 l3 l4 l5 M) wZ) (l0 : Nat) (l1 : Nat) (l2 : Nat) (l3 : Nat) (l4 : Nat) (l5 : Int32) (M : Mem) (k n : Nat) (hb : kb 8 48 (fu + 1) k n) : V mi_L_law 1021 [(0, .ref l0), (1, .ref l1), (2, .ref l2), (3, .ref l3), (4, .ref l4), (5, .int l5)] [] M (k + 0) (n + 0) (f_L_law_1021 rc28 l0 l1 l2 l3 l4 l5 M) wZ := by
  unfold f_L_law_1021
  refine V_aload_n dL_law_1021 rfl 1 rfl ?_
  refine V_aload_n dL_law_1022 rfl 0 rfl ?_
  refine V_iload dL_law_1023 rfl 5 rfl ?_
  refine V_iconst (x := 1) dL_law_1025 rfl rfl ?_
  refine V_iadd dL_law_1026 rfl ?_
  refine V_sC dL_law_1027 rfl (fun x134 => ?_)
  refine V_aload_n dL_law_1028 rfl 3 rfl ?_
  refine V_cSWI (k2 := k + 1) (n2 := n + 6) (As := [.ref l1, .int x134, .ref l3]) (k_L_pending l1 x134 l3 M) ok_L_pending sm_L_pending ml_L_221 ⟨⟨(Nat.le_of_ble_eq_true rfl), (Nat.le_of_ble_eq_true rfl)⟩, kb_c (o := 0) (c := 1) hb (Nat.le_of_ble_eq_true rfl), kb_s (o := 0) (c := 6) hb (Nat.le_of_ble_eq_true rfl)⟩ dL_law_1029 rfl rfl rfl (Nat.le_of_ble_eq_true rfl) rfl rfl (fun x135 M136 => ?_)
  refine V_istore (L' := [(0, .ref l0), (1, .ref l1), (2, .ref l2), (3, .ref l3), (4, .ref l4), (5, .int l5), (6, .int x135)]) dL_law_1032 rfl (by decide) rfl ?_
  refine V_aload_n dL_law_1034 rfl 2 rfl ?_
  refine V_aload_n dL_law_1035 rfl 0 rfl ?_
  refine V_iload dL_law_1036 rfl 5 rfl ?_
  refine V_iconst (x := 1) dL_law_1038 rfl rfl ?_
  refine V_iadd dL_law_1039 rfl ?_
  refine V_sC dL_law_1040 rfl (fun x137 => ?_)
  refine V_cVwI (k2 := k + 1) (n2 := n + 6) (As := [.int x137]) (k_X12_pending l2 x137 M136) (fun _ h => o_X12_pending h) ok_X12_pending im_X12_pending se_X12_pending rfl (ci := 11) rfl ml_L_223 ⟨⟨(Nat.le_of_ble_eq_true rfl), (Nat.le_of_ble_eq_true rfl)⟩, kb_c (o := 1) (c := 0) hb (Nat.le_of_ble_eq_true rfl), kb_s (o := 6) (c := 0) hb (Nat.le_of_ble_eq_true rfl)⟩ dL_law_1041 rfl rfl rfl (Nat.le_of_ble_eq_true rfl) rfl rfl (fun x138 M139 => ?_)
  refine V_istore (L' := [(0, .ref l0), (1, .ref l1), (2, .ref l2), (3, .ref l3), (4, .ref l4), (5, .int l5), (6, .int x135), (7, .int x138)]) dL_law_1044 rfl (by decide) rfl ?_
  refine V_aload_n dL_law_1046 rfl 2 rfl ?_
  refine V_cVeI (k2 := k + 1) (n2 := n + 6) (As := []) (k_X12_thrown l2 M139) (fun _ h => o_X12_thrown h) ok_X12_thrown im_X12_thrown se_X12_thrown rfl (ci := 11) rfl ml_L_167 ⟨⟨(Nat.le_of_ble_eq_true rfl), (Nat.le_of_ble_eq_true rfl)⟩, kb_c (o := 1) (c := 0) hb (Nat.le_of_ble_eq_true rfl), kb_s (o := 6) (c := 0) hb (Nat.le_of_ble_eq_true rfl)⟩ dL_law_1047 rfl rfl rfl (Nat.le_of_ble_eq_true rfl) rfl rfl (fun x140 => ?_)
  refine V_iload dL_law_1050 rfl 6 rfl ?_
  refine V_icmp_eq (q := 1057) (q2 := 1055) dL_law_1052 (by decide) rfl ?_ ?_
  · refine V_iload dL_law_1057 rfl 6 rfl ?_
    refine V_if_ne (q := 1074) (q2 := 1062) dL_law_1059 (by decide) rfl ?_ ?_
    · exact V_sub [0, 1, 2, 3, 4, 5] rfl (v_L_law_1074 fu rc28 h28 l0 l1 l2 l3 l4 l5 M139 k n hb)
    · refine V_aload_n dL_law_1062 rfl 3 rfl ?_
      refine V_iconst (x := 0) dL_law_1063 rfl rfl ?_
      refine V_laload dL_law_1064 rfl (fun x141 => ?_)
      refine V_iload dL_law_1065 rfl 7 rfl ?_
      refine V_i2l dL_law_1067 rfl ?_
      refine V_lcmp dL_law_1068 rfl ?_
      refine V_if_eq (q := 1074) (q2 := 1072) dL_law_1069 (by decide) rfl ?_ ?_
      · exact V_sub [0, 1, 2, 3, 4, 5] rfl (v_L_law_1074 fu rc28 h28 l0 l1 l2 l3 l4 l5 M139 k n hb)
      · refine V_iconst (x := 0) dL_law_1072 rfl rfl ?_
        exact V_zret (v := false) dL_law_1073 rfl rfl (kb_le hb (Nat.le_of_ble_eq_true rfl) (Nat.le_of_ble_eq_true rfl))
  · refine V_iconst (x := 0) dL_law_1055 rfl rfl ?_
    exact V_zret (v := false) dL_law_1056 rfl rfl (kb_le hb (Nat.le_of_ble_eq_true rfl) (Nat.le_of_ble_eq_true rfl))
theorem v_L_law_1137 (fu : Nat) (rc28 : Nat → Nat → Nat → Nat → Nat → Int32 → Mem → Option (Bool × Mem)) (h28 : ∀ (l0 : Nat) (l1 : Nat) (l2 : Nat) (l3 : Nat) (l4 : Nat) (l5 : Int32) (M : Mem) (k n : Nat) (_ : kb 8 48 fu k n), V mi_L_law 28 [(0, .ref l0), (1, .ref l1), (2, .ref l2), (3, .ref l3), (4, .ref l4), (5, .int l5)] [] M k n (rc28 l0 l1 l2 l3 l4 l5 M) wZ) (l0 : Nat) (l1 : Nat) (l2 : Nat) (l3 : Nat) (l4 : Nat) (l5 : Int32) (M : Mem) (k n : Nat) (hb : kb 8 48 (fu + 1) k n) : V mi_L_law 1137 [(0, .ref l0), (1, .ref l1), (2, .ref l2), (3, .ref l3), (4, .ref l4), (5, .int l5)] [] M (k + 1) (n + 6) (f_L_law_1137 rc28 l0 l1 l2 l3 l4 l5 M) wZ := by
  unfold f_L_law_1137
  refine V_goto (q := 3275) dL_law_1137 (by decide) ?_
  exact (V_w (Nat.add_le_add_left (Nat.le_of_ble_eq_true rfl) _) (Nat.add_le_add_left (Nat.le_of_ble_eq_true rfl) _) (v_L_law_3275 fu rc28 h28 l0 l1 l2 l3 l4 l5 M k n hb))
theorem v_L_law_1131 (fu : Nat) (rc28 : Nat → Nat → Nat → Nat → Nat → Int32 → Mem → Option (Bool × Mem)) (h28 : ∀ (l0 : Nat) (l1 : Nat) (l2 : Nat) (l3 : Nat) (l4 : Nat) (l5 : Int32) (M : Mem) (k n : Nat) (_ : kb 8 48 fu k n), V mi_L_law 28 [(0, .ref l0), (1, .ref l1), (2, .ref l2), (3, .ref l3), (4, .ref l4), (5, .int l5)] [] M k n (rc28 l0 l1 l2 l3 l4 l5 M) wZ) (l0 : Nat) (l1 : Nat) (l2 : Nat) (l3 : Nat) (l4 : Nat) (l5 : Int32) (s0 : Int64) (s1 : Int64) (M : Mem) (k n : Nat) (hb : kb 8 48 (fu + 1) k n) : V mi_L_law 1131 [(0, .ref l0), (1, .ref l1), (2, .ref l2), (3, .ref l3), (4, .ref l4), (5, .int l5)] [.long s1, .long s0] M (k + 1) (n + 6) (f_L_law_1131 rc28 l0 l1 l2 l3 l4 l5 s0 s1 M) wZ := by
  unfold f_L_law_1131
  refine V_lcmp dL_law_1131 rfl ?_
  refine V_if_eq (q := 1137) (q2 := 1135) dL_law_1132 (by decide) rfl ?_ ?_
  · exact v_L_law_1137 fu rc28 h28 l0 l1 l2 l3 l4 l5 M k n hb
  · refine V_iconst (x := 0) dL_law_1135 rfl rfl ?_
    exact V_zret (v := false) dL_law_1136 rfl rfl (kb_le hb (Nat.le_of_ble_eq_true rfl) (Nat.le_of_ble_eq_true rfl))
theorem v_L_law_1077 (fu : Nat) (rc28 : Nat → Nat → Nat → Nat → Nat → Int32 → Mem → Option (Bool × Mem)) (h28 : ∀ (l0 : Nat) (l1 : Nat) (l2 : Nat) (l3 : Nat) (l4 : Nat) (l5 : Int32) (M : Mem) (k n : Nat) (_ : kb 8 48 fu k n), V mi_L_law 28 [(0, .ref l0), (1, .ref l1), (2, .ref l2), (3, .ref l3), (4, .ref l4), (5, .int l5)] [] M k n (rc28 l0 l1 l2 l3 l4 l5 M) wZ) (l0 : Nat) (l1 : Nat) (l2 : Nat) (l3 : Nat) (l4 : Nat) (l5 : Int32) (M : Mem) (k n : Nat) (hb : kb 8 48 (fu + 1) k n) : V mi_L_law 1077 [(0, .ref l0), (1, .ref l1), (2, .ref l2), (3, .ref l3), (4, .ref l4), (5, .int l5)] [] M (k + 0) (n + 0) (f_L_law_1077 rc28 l0 l1 l2 l3 l4 l5 M) wZ := by
  unfold f_L_law_1077
  refine V_aload_n dL_law_1077 rfl 1 rfl ?_
  refine V_aload_n dL_law_1078 rfl 0 rfl ?_
  refine V_iload dL_law_1079 rfl 5 rfl ?_
  refine V_iconst (x := 1) dL_law_1081 rfl rfl ?_
  refine V_iadd dL_law_1082 rfl ?_
  refine V_sC dL_law_1083 rfl (fun x142 => ?_)
  refine V_aload_n dL_law_1084 rfl 3 rfl ?_
  refine V_cSWI (k2 := k + 1) (n2 := n + 6) (As := [.ref l1, .int x142, .ref l3]) (k_L_isCurrent l1 x142 l3 M) ok_L_isCurrent sm_L_isCurrent ml_L_224 ⟨⟨(Nat.le_of_ble_eq_true rfl), (Nat.le_of_ble_eq_true rfl)⟩, kb_c (o := 0) (c := 1) hb (Nat.le_of_ble_eq_true rfl), kb_s (o := 0) (c := 6) hb (Nat.le_of_ble_eq_true rfl)⟩ dL_law_1085 rfl rfl rfl (Nat.le_of_ble_eq_true rfl) rfl rfl (fun x143 M144 => ?_)
  refine V_istore (L' := [(0, .ref l0), (1, .ref l1), (2, .ref l2), (3, .ref l3), (4, .ref l4), (5, .int l5), (6, .int x143)]) dL_law_1088 rfl (by decide) rfl ?_
  refine V_aload_n dL_law_1090 rfl 2 rfl ?_
  refine V_aload_n dL_law_1091 rfl 0 rfl ?_
  refine V_iload dL_law_1092 rfl 5 rfl ?_
  refine V_iconst (x := 1) dL_law_1094 rfl rfl ?_
  refine V_iadd dL_law_1095 rfl ?_
  refine V_sC dL_law_1096 rfl (fun x145 => ?_)
  refine V_cVwZ (k2 := k + 1) (n2 := n + 6) (As := [.int x145]) (k_X12_isCurrent l2 x145 M144) (fun _ h => o_X12_isCurrent h) ok_X12_isCurrent im_X12_isCurrent se_X12_isCurrent rfl (ci := 11) rfl ml_L_226 ⟨⟨(Nat.le_of_ble_eq_true rfl), (Nat.le_of_ble_eq_true rfl)⟩, kb_c (o := 1) (c := 0) hb (Nat.le_of_ble_eq_true rfl), kb_s (o := 6) (c := 0) hb (Nat.le_of_ble_eq_true rfl)⟩ dL_law_1097 rfl rfl rfl (Nat.le_of_ble_eq_true rfl) rfl rfl (fun x146 M147 => ?_)
  refine V_istore (L' := [(0, .ref l0), (1, .ref l1), (2, .ref l2), (3, .ref l3), (4, .ref l4), (5, .int l5), (6, .int x143), (7, .int (b2i x146))]) dL_law_1100 rfl (by decide) rfl ?_
  refine V_aload_n dL_law_1102 rfl 2 rfl ?_
  refine V_cVeI (k2 := k + 1) (n2 := n + 6) (As := []) (k_X12_thrown l2 M147) (fun _ h => o_X12_thrown h) ok_X12_thrown im_X12_thrown se_X12_thrown rfl (ci := 11) rfl ml_L_167 ⟨⟨(Nat.le_of_ble_eq_true rfl), (Nat.le_of_ble_eq_true rfl)⟩, kb_c (o := 1) (c := 0) hb (Nat.le_of_ble_eq_true rfl), kb_s (o := 6) (c := 0) hb (Nat.le_of_ble_eq_true rfl)⟩ dL_law_1103 rfl rfl rfl (Nat.le_of_ble_eq_true rfl) rfl rfl (fun x148 => ?_)
  refine V_iload dL_law_1106 rfl 6 rfl ?_
  refine V_icmp_eq (q := 1113) (q2 := 1111) dL_law_1108 (by decide) rfl ?_ ?_
  · refine V_iload dL_law_1113 rfl 6 rfl ?_
    refine V_if_ne (q := 1137) (q2 := 1118) dL_law_1115 (by decide) rfl ?_ ?_
    · exact V_sub [0, 1, 2, 3, 4, 5] rfl (v_L_law_1137 fu rc28 h28 l0 l1 l2 l3 l4 l5 M147 k n hb)
    · refine V_aload_n dL_law_1118 rfl 3 rfl ?_
      refine V_iconst (x := 0) dL_law_1119 rfl rfl ?_
      refine V_laload dL_law_1120 rfl (fun x149 => ?_)
      refine V_iload dL_law_1121 rfl 7 rfl ?_
      refine V_ifz_eq (q := 1130) (q2 := 1126) dL_law_1123 (by decide) rfl ?_ ?_
      · refine V_lconst (x := 0) dL_law_1130 rfl rfl ?_
        exact V_sub [0, 1, 2, 3, 4, 5] rfl (v_L_law_1131 fu rc28 h28 l0 l1 l2 l3 l4 l5 x149 0 M147 k n hb)
      · refine V_lconst (x := 1) dL_law_1126 rfl rfl ?_
        refine V_goto (q := 1131) dL_law_1127 (by decide) ?_
        exact V_sub [0, 1, 2, 3, 4, 5] rfl (v_L_law_1131 fu rc28 h28 l0 l1 l2 l3 l4 l5 x149 1 M147 k n hb)
  · refine V_iconst (x := 0) dL_law_1111 rfl rfl ?_
    exact V_zret (v := false) dL_law_1112 rfl rfl (kb_le hb (Nat.le_of_ble_eq_true rfl) (Nat.le_of_ble_eq_true rfl))
theorem v_L_law_1193 (fu : Nat) (rc28 : Nat → Nat → Nat → Nat → Nat → Int32 → Mem → Option (Bool × Mem)) (h28 : ∀ (l0 : Nat) (l1 : Nat) (l2 : Nat) (l3 : Nat) (l4 : Nat) (l5 : Int32) (M : Mem) (k n : Nat) (_ : kb 8 48 fu k n), V mi_L_law 28 [(0, .ref l0), (1, .ref l1), (2, .ref l2), (3, .ref l3), (4, .ref l4), (5, .int l5)] [] M k n (rc28 l0 l1 l2 l3 l4 l5 M) wZ) (l0 : Nat) (l1 : Nat) (l2 : Nat) (l3 : Nat) (l4 : Nat) (l5 : Int32) (M : Mem) (k n : Nat) (hb : kb 8 48 (fu + 1) k n) : V mi_L_law 1193 [(0, .ref l0), (1, .ref l1), (2, .ref l2), (3, .ref l3), (4, .ref l4), (5, .int l5)] [] M (k + 1) (n + 6) (f_L_law_1193 rc28 l0 l1 l2 l3 l4 l5 M) wZ := by
  unfold f_L_law_1193
  refine V_goto (q := 3275) dL_law_1193 (by decide) ?_
  exact (V_w (Nat.add_le_add_left (Nat.le_of_ble_eq_true rfl) _) (Nat.add_le_add_left (Nat.le_of_ble_eq_true rfl) _) (v_L_law_3275 fu rc28 h28 l0 l1 l2 l3 l4 l5 M k n hb))
theorem v_L_law_1140 (fu : Nat) (rc28 : Nat → Nat → Nat → Nat → Nat → Int32 → Mem → Option (Bool × Mem)) (h28 : ∀ (l0 : Nat) (l1 : Nat) (l2 : Nat) (l3 : Nat) (l4 : Nat) (l5 : Int32) (M : Mem) (k n : Nat) (_ : kb 8 48 fu k n), V mi_L_law 28 [(0, .ref l0), (1, .ref l1), (2, .ref l2), (3, .ref l3), (4, .ref l4), (5, .int l5)] [] M k n (rc28 l0 l1 l2 l3 l4 l5 M) wZ) (l0 : Nat) (l1 : Nat) (l2 : Nat) (l3 : Nat) (l4 : Nat) (l5 : Int32) (M : Mem) (k n : Nat) (hb : kb 8 48 (fu + 1) k n) : V mi_L_law 1140 [(0, .ref l0), (1, .ref l1), (2, .ref l2), (3, .ref l3), (4, .ref l4), (5, .int l5)] [] M (k + 0) (n + 0) (f_L_law_1140 rc28 l0 l1 l2 l3 l4 l5 M) wZ := by
  unfold f_L_law_1140
  refine V_aload_n dL_law_1140 rfl 1 rfl ?_
  refine V_aload_n dL_law_1141 rfl 0 rfl ?_
  refine V_iload dL_law_1142 rfl 5 rfl ?_
  refine V_iconst (x := 1) dL_law_1144 rfl rfl ?_
  refine V_iadd dL_law_1145 rfl ?_
  refine V_sC dL_law_1146 rfl (fun x150 => ?_)
  refine V_aload_n dL_law_1147 rfl 3 rfl ?_
  refine V_cSWI (k2 := k + 1) (n2 := n + 6) (As := [.ref l1, .int x150, .ref l3]) (k_L_firstUnseen l1 x150 l3 M) ok_L_firstUnseen sm_L_firstUnseen ml_L_227 ⟨⟨(Nat.le_of_ble_eq_true rfl), (Nat.le_of_ble_eq_true rfl)⟩, kb_c (o := 0) (c := 1) hb (Nat.le_of_ble_eq_true rfl), kb_s (o := 0) (c := 6) hb (Nat.le_of_ble_eq_true rfl)⟩ dL_law_1148 rfl rfl rfl (Nat.le_of_ble_eq_true rfl) rfl rfl (fun x151 M152 => ?_)
  refine V_istore (L' := [(0, .ref l0), (1, .ref l1), (2, .ref l2), (3, .ref l3), (4, .ref l4), (5, .int l5), (6, .int x151)]) dL_law_1151 rfl (by decide) rfl ?_
  refine V_aload_n dL_law_1153 rfl 2 rfl ?_
  refine V_aload_n dL_law_1154 rfl 0 rfl ?_
  refine V_iload dL_law_1155 rfl 5 rfl ?_
  refine V_iconst (x := 1) dL_law_1157 rfl rfl ?_
  refine V_iadd dL_law_1158 rfl ?_
  refine V_sC dL_law_1159 rfl (fun x153 => ?_)
  refine V_cVwI (k2 := k + 1) (n2 := n + 6) (As := [.int x153]) (k_X12_firstUnseen l2 x153 M152) (fun _ h => o_X12_firstUnseen h) ok_X12_firstUnseen im_X12_firstUnseen se_X12_firstUnseen rfl (ci := 11) rfl ml_L_229 ⟨⟨(Nat.le_of_ble_eq_true rfl), (Nat.le_of_ble_eq_true rfl)⟩, kb_c (o := 1) (c := 0) hb (Nat.le_of_ble_eq_true rfl), kb_s (o := 6) (c := 0) hb (Nat.le_of_ble_eq_true rfl)⟩ dL_law_1160 rfl rfl rfl (Nat.le_of_ble_eq_true rfl) rfl rfl (fun x154 M155 => ?_)
  refine V_istore (L' := [(0, .ref l0), (1, .ref l1), (2, .ref l2), (3, .ref l3), (4, .ref l4), (5, .int l5), (6, .int x151), (7, .int x154)]) dL_law_1163 rfl (by decide) rfl ?_
  refine V_aload_n dL_law_1165 rfl 2 rfl ?_
  refine V_cVeI (k2 := k + 1) (n2 := n + 6) (As := []) (k_X12_thrown l2 M155) (fun _ h => o_X12_thrown h) ok_X12_thrown im_X12_thrown se_X12_thrown rfl (ci := 11) rfl ml_L_167 ⟨⟨(Nat.le_of_ble_eq_true rfl), (Nat.le_of_ble_eq_true rfl)⟩, kb_c (o := 1) (c := 0) hb (Nat.le_of_ble_eq_true rfl), kb_s (o := 6) (c := 0) hb (Nat.le_of_ble_eq_true rfl)⟩ dL_law_1166 rfl rfl rfl (Nat.le_of_ble_eq_true rfl) rfl rfl (fun x156 => ?_)
  refine V_iload dL_law_1169 rfl 6 rfl ?_
  refine V_icmp_eq (q := 1176) (q2 := 1174) dL_law_1171 (by decide) rfl ?_ ?_
  · refine V_iload dL_law_1176 rfl 6 rfl ?_
    refine V_if_ne (q := 1193) (q2 := 1181) dL_law_1178 (by decide) rfl ?_ ?_
    · exact V_sub [0, 1, 2, 3, 4, 5] rfl (v_L_law_1193 fu rc28 h28 l0 l1 l2 l3 l4 l5 M155 k n hb)
    · refine V_aload_n dL_law_1181 rfl 3 rfl ?_
      refine V_iconst (x := 0) dL_law_1182 rfl rfl ?_
      refine V_laload dL_law_1183 rfl (fun x157 => ?_)
      refine V_iload dL_law_1184 rfl 7 rfl ?_
      refine V_i2l dL_law_1186 rfl ?_
      refine V_lcmp dL_law_1187 rfl ?_
      refine V_if_eq (q := 1193) (q2 := 1191) dL_law_1188 (by decide) rfl ?_ ?_
      · exact V_sub [0, 1, 2, 3, 4, 5] rfl (v_L_law_1193 fu rc28 h28 l0 l1 l2 l3 l4 l5 M155 k n hb)
      · refine V_iconst (x := 0) dL_law_1191 rfl rfl ?_
        exact V_zret (v := false) dL_law_1192 rfl rfl (kb_le hb (Nat.le_of_ble_eq_true rfl) (Nat.le_of_ble_eq_true rfl))
  · refine V_iconst (x := 0) dL_law_1174 rfl rfl ?_
    exact V_zret (v := false) dL_law_1175 rfl rfl (kb_le hb (Nat.le_of_ble_eq_true rfl) (Nat.le_of_ble_eq_true rfl))
theorem v_L_law_1249 (fu : Nat) (rc28 : Nat → Nat → Nat → Nat → Nat → Int32 → Mem → Option (Bool × Mem)) (h28 : ∀ (l0 : Nat) (l1 : Nat) (l2 : Nat) (l3 : Nat) (l4 : Nat) (l5 : Int32) (M : Mem) (k n : Nat) (_ : kb 8 48 fu k n), V mi_L_law 28 [(0, .ref l0), (1, .ref l1), (2, .ref l2), (3, .ref l3), (4, .ref l4), (5, .int l5)] [] M k n (rc28 l0 l1 l2 l3 l4 l5 M) wZ) (l0 : Nat) (l1 : Nat) (l2 : Nat) (l3 : Nat) (l4 : Nat) (l5 : Int32) (M : Mem) (k n : Nat) (hb : kb 8 48 (fu + 1) k n) : V mi_L_law 1249 [(0, .ref l0), (1, .ref l1), (2, .ref l2), (3, .ref l3), (4, .ref l4), (5, .int l5)] [] M (k + 1) (n + 6) (f_L_law_1249 rc28 l0 l1 l2 l3 l4 l5 M) wZ := by
  unfold f_L_law_1249
  refine V_goto (q := 3275) dL_law_1249 (by decide) ?_
  exact (V_w (Nat.add_le_add_left (Nat.le_of_ble_eq_true rfl) _) (Nat.add_le_add_left (Nat.le_of_ble_eq_true rfl) _) (v_L_law_3275 fu rc28 h28 l0 l1 l2 l3 l4 l5 M k n hb))
theorem v_L_law_1196 (fu : Nat) (rc28 : Nat → Nat → Nat → Nat → Nat → Int32 → Mem → Option (Bool × Mem)) (h28 : ∀ (l0 : Nat) (l1 : Nat) (l2 : Nat) (l3 : Nat) (l4 : Nat) (l5 : Int32) (M : Mem) (k n : Nat) (_ : kb 8 48 fu k n), V mi_L_law 28 [(0, .ref l0), (1, .ref l1), (2, .ref l2), (3, .ref l3), (4, .ref l4), (5, .int l5)] [] M k n (rc28 l0 l1 l2 l3 l4 l5 M) wZ) (l0 : Nat) (l1 : Nat) (l2 : Nat) (l3 : Nat) (l4 : Nat) (l5 : Int32) (M : Mem) (k n : Nat) (hb : kb 8 48 (fu + 1) k n) : V mi_L_law 1196 [(0, .ref l0), (1, .ref l1), (2, .ref l2), (3, .ref l3), (4, .ref l4), (5, .int l5)] [] M (k + 0) (n + 0) (f_L_law_1196 rc28 l0 l1 l2 l3 l4 l5 M) wZ := by
  unfold f_L_law_1196
  refine V_aload_n dL_law_1196 rfl 1 rfl ?_
  refine V_aload_n dL_law_1197 rfl 0 rfl ?_
  refine V_iload dL_law_1198 rfl 5 rfl ?_
  refine V_iconst (x := 1) dL_law_1200 rfl rfl ?_
  refine V_iadd dL_law_1201 rfl ?_
  refine V_sC dL_law_1202 rfl (fun x158 => ?_)
  refine V_aload_n dL_law_1203 rfl 3 rfl ?_
  refine V_cSWI (k2 := k + 1) (n2 := n + 6) (As := [.ref l1, .int x158, .ref l3]) (k_L_largest l1 x158 l3 M) ok_L_largest sm_L_largest ml_L_230 ⟨⟨(Nat.le_of_ble_eq_true rfl), (Nat.le_of_ble_eq_true rfl)⟩, kb_c (o := 0) (c := 1) hb (Nat.le_of_ble_eq_true rfl), kb_s (o := 0) (c := 6) hb (Nat.le_of_ble_eq_true rfl)⟩ dL_law_1204 rfl rfl rfl (Nat.le_of_ble_eq_true rfl) rfl rfl (fun x159 M160 => ?_)
  refine V_istore (L' := [(0, .ref l0), (1, .ref l1), (2, .ref l2), (3, .ref l3), (4, .ref l4), (5, .int l5), (6, .int x159)]) dL_law_1207 rfl (by decide) rfl ?_
  refine V_aload_n dL_law_1209 rfl 2 rfl ?_
  refine V_aload_n dL_law_1210 rfl 0 rfl ?_
  refine V_iload dL_law_1211 rfl 5 rfl ?_
  refine V_iconst (x := 1) dL_law_1213 rfl rfl ?_
  refine V_iadd dL_law_1214 rfl ?_
  refine V_sC dL_law_1215 rfl (fun x161 => ?_)
  refine V_cVwI (k2 := k + 1) (n2 := n + 6) (As := [.int x161]) (k_X12_largest l2 x161 M160) (fun _ h => o_X12_largest h) ok_X12_largest im_X12_largest se_X12_largest rfl (ci := 11) rfl ml_L_232 ⟨⟨(Nat.le_of_ble_eq_true rfl), (Nat.le_of_ble_eq_true rfl)⟩, kb_c (o := 1) (c := 0) hb (Nat.le_of_ble_eq_true rfl), kb_s (o := 6) (c := 0) hb (Nat.le_of_ble_eq_true rfl)⟩ dL_law_1216 rfl rfl rfl (Nat.le_of_ble_eq_true rfl) rfl rfl (fun x162 M163 => ?_)
  refine V_istore (L' := [(0, .ref l0), (1, .ref l1), (2, .ref l2), (3, .ref l3), (4, .ref l4), (5, .int l5), (6, .int x159), (7, .int x162)]) dL_law_1219 rfl (by decide) rfl ?_
  refine V_aload_n dL_law_1221 rfl 2 rfl ?_
  refine V_cVeI (k2 := k + 1) (n2 := n + 6) (As := []) (k_X12_thrown l2 M163) (fun _ h => o_X12_thrown h) ok_X12_thrown im_X12_thrown se_X12_thrown rfl (ci := 11) rfl ml_L_167 ⟨⟨(Nat.le_of_ble_eq_true rfl), (Nat.le_of_ble_eq_true rfl)⟩, kb_c (o := 1) (c := 0) hb (Nat.le_of_ble_eq_true rfl), kb_s (o := 6) (c := 0) hb (Nat.le_of_ble_eq_true rfl)⟩ dL_law_1222 rfl rfl rfl (Nat.le_of_ble_eq_true rfl) rfl rfl (fun x164 => ?_)
  refine V_iload dL_law_1225 rfl 6 rfl ?_
  refine V_icmp_eq (q := 1232) (q2 := 1230) dL_law_1227 (by decide) rfl ?_ ?_
  · refine V_iload dL_law_1232 rfl 6 rfl ?_
    refine V_if_ne (q := 1249) (q2 := 1237) dL_law_1234 (by decide) rfl ?_ ?_
    · exact V_sub [0, 1, 2, 3, 4, 5] rfl (v_L_law_1249 fu rc28 h28 l0 l1 l2 l3 l4 l5 M163 k n hb)
    · refine V_aload_n dL_law_1237 rfl 3 rfl ?_
      refine V_iconst (x := 0) dL_law_1238 rfl rfl ?_
      refine V_laload dL_law_1239 rfl (fun x165 => ?_)
      refine V_iload dL_law_1240 rfl 7 rfl ?_
      refine V_i2l dL_law_1242 rfl ?_
      refine V_lcmp dL_law_1243 rfl ?_
      refine V_if_eq (q := 1249) (q2 := 1247) dL_law_1244 (by decide) rfl ?_ ?_
      · exact V_sub [0, 1, 2, 3, 4, 5] rfl (v_L_law_1249 fu rc28 h28 l0 l1 l2 l3 l4 l5 M163 k n hb)
      · refine V_iconst (x := 0) dL_law_1247 rfl rfl ?_
        exact V_zret (v := false) dL_law_1248 rfl rfl (kb_le hb (Nat.le_of_ble_eq_true rfl) (Nat.le_of_ble_eq_true rfl))
  · refine V_iconst (x := 0) dL_law_1230 rfl rfl ?_
    exact V_zret (v := false) dL_law_1231 rfl rfl (kb_le hb (Nat.le_of_ble_eq_true rfl) (Nat.le_of_ble_eq_true rfl))
theorem v_L_law_1317 (fu : Nat) (rc28 : Nat → Nat → Nat → Nat → Nat → Int32 → Mem → Option (Bool × Mem)) (h28 : ∀ (l0 : Nat) (l1 : Nat) (l2 : Nat) (l3 : Nat) (l4 : Nat) (l5 : Int32) (M : Mem) (k n : Nat) (_ : kb 8 48 fu k n), V mi_L_law 28 [(0, .ref l0), (1, .ref l1), (2, .ref l2), (3, .ref l3), (4, .ref l4), (5, .int l5)] [] M k n (rc28 l0 l1 l2 l3 l4 l5 M) wZ) (l0 : Nat) (l1 : Nat) (l2 : Nat) (l3 : Nat) (l4 : Nat) (l5 : Int32) (M : Mem) (k n : Nat) (hb : kb 8 48 (fu + 1) k n) : V mi_L_law 1317 [(0, .ref l0), (1, .ref l1), (2, .ref l2), (3, .ref l3), (4, .ref l4), (5, .int l5)] [] M (k + 2) (n + 12) (f_L_law_1317 rc28 l0 l1 l2 l3 l4 l5 M) wZ := by
  unfold f_L_law_1317
  refine V_goto (q := 3275) dL_law_1317 (by decide) ?_
  exact (V_w (Nat.add_le_add_left (Nat.le_of_ble_eq_true rfl) _) (Nat.add_le_add_left (Nat.le_of_ble_eq_true rfl) _) (v_L_law_3275 fu rc28 h28 l0 l1 l2 l3 l4 l5 M k n hb))
theorem v_L_law_1252 (fu : Nat) (rc28 : Nat → Nat → Nat → Nat → Nat → Int32 → Mem → Option (Bool × Mem)) (h28 : ∀ (l0 : Nat) (l1 : Nat) (l2 : Nat) (l3 : Nat) (l4 : Nat) (l5 : Int32) (M : Mem) (k n : Nat) (_ : kb 8 48 fu k n), V mi_L_law 28 [(0, .ref l0), (1, .ref l1), (2, .ref l2), (3, .ref l3), (4, .ref l4), (5, .int l5)] [] M k n (rc28 l0 l1 l2 l3 l4 l5 M) wZ) (l0 : Nat) (l1 : Nat) (l2 : Nat) (l3 : Nat) (l4 : Nat) (l5 : Int32) (M : Mem) (k n : Nat) (hb : kb 8 48 (fu + 1) k n) : V mi_L_law 1252 [(0, .ref l0), (1, .ref l1), (2, .ref l2), (3, .ref l3), (4, .ref l4), (5, .int l5)] [] M (k + 0) (n + 0) (f_L_law_1252 rc28 l0 l1 l2 l3 l4 l5 M) wZ := by
  unfold f_L_law_1252
  refine V_aload_n dL_law_1252 rfl 1 rfl ?_
  refine V_aload_n dL_law_1253 rfl 0 rfl ?_
  refine V_iload dL_law_1254 rfl 5 rfl ?_
  refine V_iconst (x := 1) dL_law_1256 rfl rfl ?_
  refine V_iadd dL_law_1257 rfl ?_
  refine V_sC dL_law_1258 rfl (fun x166 => ?_)
  refine V_aload_n dL_law_1259 rfl 0 rfl ?_
  refine V_iload dL_law_1260 rfl 5 rfl ?_
  refine V_iconst (x := 2) dL_law_1262 rfl rfl ?_
  refine V_iadd dL_law_1263 rfl ?_
  refine V_sC dL_law_1264 rfl (fun x167 => ?_)
  refine V_aload_n dL_law_1265 rfl 3 rfl ?_
  refine V_cSWI (k2 := k + 2) (n2 := n + 12) (As := [.ref l1, .int x166, .int x167, .ref l3]) (k_L_common l1 x166 x167 l3 M) ok_L_common sm_L_common ml_L_233 ⟨⟨(Nat.le_of_ble_eq_true rfl), (Nat.le_of_ble_eq_true rfl)⟩, kb_c (o := 0) (c := 2) hb (Nat.le_of_ble_eq_true rfl), kb_s (o := 0) (c := 12) hb (Nat.le_of_ble_eq_true rfl)⟩ dL_law_1266 rfl rfl rfl (Nat.le_of_ble_eq_true rfl) rfl rfl (fun x168 M169 => ?_)
  refine V_istore (L' := [(0, .ref l0), (1, .ref l1), (2, .ref l2), (3, .ref l3), (4, .ref l4), (5, .int l5), (6, .int x168)]) dL_law_1269 rfl (by decide) rfl ?_
  refine V_aload_n dL_law_1271 rfl 2 rfl ?_
  refine V_aload_n dL_law_1272 rfl 0 rfl ?_
  refine V_iload dL_law_1273 rfl 5 rfl ?_
  refine V_iconst (x := 1) dL_law_1275 rfl rfl ?_
  refine V_iadd dL_law_1276 rfl ?_
  refine V_sC dL_law_1277 rfl (fun x170 => ?_)
  refine V_aload_n dL_law_1278 rfl 0 rfl ?_
  refine V_iload dL_law_1279 rfl 5 rfl ?_
  refine V_iconst (x := 2) dL_law_1281 rfl rfl ?_
  refine V_iadd dL_law_1282 rfl ?_
  refine V_sC dL_law_1283 rfl (fun x171 => ?_)
  refine V_cVwI (k2 := k + 2) (n2 := n + 12) (As := [.int x170, .int x171]) (k_X12_common l2 x170 x171 M169) (fun _ h => o_X12_common h) ok_X12_common im_X12_common se_X12_common rfl (ci := 11) rfl ml_L_235 ⟨⟨(Nat.le_of_ble_eq_true rfl), (Nat.le_of_ble_eq_true rfl)⟩, kb_c (o := 2) (c := 0) hb (Nat.le_of_ble_eq_true rfl), kb_s (o := 12) (c := 0) hb (Nat.le_of_ble_eq_true rfl)⟩ dL_law_1284 rfl rfl rfl (Nat.le_of_ble_eq_true rfl) rfl rfl (fun x172 M173 => ?_)
  refine V_istore (L' := [(0, .ref l0), (1, .ref l1), (2, .ref l2), (3, .ref l3), (4, .ref l4), (5, .int l5), (6, .int x168), (7, .int x172)]) dL_law_1287 rfl (by decide) rfl ?_
  refine V_aload_n dL_law_1289 rfl 2 rfl ?_
  refine V_cVeI (k2 := k + 2) (n2 := n + 12) (As := []) (k_X12_thrown l2 M173) (fun _ h => o_X12_thrown h) ok_X12_thrown im_X12_thrown se_X12_thrown rfl (ci := 11) rfl ml_L_167 ⟨⟨(Nat.le_of_ble_eq_true rfl), (Nat.le_of_ble_eq_true rfl)⟩, kb_c (o := 2) (c := 0) hb (Nat.le_of_ble_eq_true rfl), kb_s (o := 12) (c := 0) hb (Nat.le_of_ble_eq_true rfl)⟩ dL_law_1290 rfl rfl rfl (Nat.le_of_ble_eq_true rfl) rfl rfl (fun x174 => ?_)
  refine V_iload dL_law_1293 rfl 6 rfl ?_
  refine V_icmp_eq (q := 1300) (q2 := 1298) dL_law_1295 (by decide) rfl ?_ ?_
  · refine V_iload dL_law_1300 rfl 6 rfl ?_
    refine V_if_ne (q := 1317) (q2 := 1305) dL_law_1302 (by decide) rfl ?_ ?_
    · exact V_sub [0, 1, 2, 3, 4, 5] rfl (v_L_law_1317 fu rc28 h28 l0 l1 l2 l3 l4 l5 M173 k n hb)
    · refine V_aload_n dL_law_1305 rfl 3 rfl ?_
      refine V_iconst (x := 0) dL_law_1306 rfl rfl ?_
      refine V_laload dL_law_1307 rfl (fun x175 => ?_)
      refine V_iload dL_law_1308 rfl 7 rfl ?_
      refine V_i2l dL_law_1310 rfl ?_
      refine V_lcmp dL_law_1311 rfl ?_
      refine V_if_eq (q := 1317) (q2 := 1315) dL_law_1312 (by decide) rfl ?_ ?_
      · exact V_sub [0, 1, 2, 3, 4, 5] rfl (v_L_law_1317 fu rc28 h28 l0 l1 l2 l3 l4 l5 M173 k n hb)
      · refine V_iconst (x := 0) dL_law_1315 rfl rfl ?_
        exact V_zret (v := false) dL_law_1316 rfl rfl (kb_le hb (Nat.le_of_ble_eq_true rfl) (Nat.le_of_ble_eq_true rfl))
  · refine V_iconst (x := 0) dL_law_1298 rfl rfl ?_
    exact V_zret (v := false) dL_law_1299 rfl rfl (kb_le hb (Nat.le_of_ble_eq_true rfl) (Nat.le_of_ble_eq_true rfl))
theorem v_L_law_1385 (fu : Nat) (rc28 : Nat → Nat → Nat → Nat → Nat → Int32 → Mem → Option (Bool × Mem)) (h28 : ∀ (l0 : Nat) (l1 : Nat) (l2 : Nat) (l3 : Nat) (l4 : Nat) (l5 : Int32) (M : Mem) (k n : Nat) (_ : kb 8 48 fu k n), V mi_L_law 28 [(0, .ref l0), (1, .ref l1), (2, .ref l2), (3, .ref l3), (4, .ref l4), (5, .int l5)] [] M k n (rc28 l0 l1 l2 l3 l4 l5 M) wZ) (l0 : Nat) (l1 : Nat) (l2 : Nat) (l3 : Nat) (l4 : Nat) (l5 : Int32) (M : Mem) (k n : Nat) (hb : kb 8 48 (fu + 1) k n) : V mi_L_law 1385 [(0, .ref l0), (1, .ref l1), (2, .ref l2), (3, .ref l3), (4, .ref l4), (5, .int l5)] [] M (k + 1) (n + 6) (f_L_law_1385 rc28 l0 l1 l2 l3 l4 l5 M) wZ := by
  unfold f_L_law_1385
  refine V_goto (q := 3275) dL_law_1385 (by decide) ?_
  exact (V_w (Nat.add_le_add_left (Nat.le_of_ble_eq_true rfl) _) (Nat.add_le_add_left (Nat.le_of_ble_eq_true rfl) _) (v_L_law_3275 fu rc28 h28 l0 l1 l2 l3 l4 l5 M k n hb))
theorem v_L_law_1320 (fu : Nat) (rc28 : Nat → Nat → Nat → Nat → Nat → Int32 → Mem → Option (Bool × Mem)) (h28 : ∀ (l0 : Nat) (l1 : Nat) (l2 : Nat) (l3 : Nat) (l4 : Nat) (l5 : Int32) (M : Mem) (k n : Nat) (_ : kb 8 48 fu k n), V mi_L_law 28 [(0, .ref l0), (1, .ref l1), (2, .ref l2), (3, .ref l3), (4, .ref l4), (5, .int l5)] [] M k n (rc28 l0 l1 l2 l3 l4 l5 M) wZ) (l0 : Nat) (l1 : Nat) (l2 : Nat) (l3 : Nat) (l4 : Nat) (l5 : Int32) (M : Mem) (k n : Nat) (hb : kb 8 48 (fu + 1) k n) : V mi_L_law 1320 [(0, .ref l0), (1, .ref l1), (2, .ref l2), (3, .ref l3), (4, .ref l4), (5, .int l5)] [] M (k + 0) (n + 0) (f_L_law_1320 rc28 l0 l1 l2 l3 l4 l5 M) wZ := by
  unfold f_L_law_1320
  refine V_aload_n dL_law_1320 rfl 1 rfl ?_
  refine V_aload_n dL_law_1321 rfl 0 rfl ?_
  refine V_iload dL_law_1322 rfl 5 rfl ?_
  refine V_iconst (x := 1) dL_law_1324 rfl rfl ?_
  refine V_iadd dL_law_1325 rfl ?_
  refine V_sC dL_law_1326 rfl (fun x176 => ?_)
  refine V_aload_n dL_law_1327 rfl 0 rfl ?_
  refine V_iload dL_law_1328 rfl 5 rfl ?_
  refine V_iconst (x := 2) dL_law_1330 rfl rfl ?_
  refine V_iadd dL_law_1331 rfl ?_
  refine V_sC dL_law_1332 rfl (fun x177 => ?_)
  refine V_aload_n dL_law_1333 rfl 3 rfl ?_
  refine V_cSWI (k2 := k + 1) (n2 := n + 6) (As := [.ref l1, .int x176, .int x177, .ref l3]) (k_L_holders l1 x176 x177 l3 M) ok_L_holders sm_L_holders ml_L_236 ⟨⟨(Nat.le_of_ble_eq_true rfl), (Nat.le_of_ble_eq_true rfl)⟩, kb_c (o := 0) (c := 1) hb (Nat.le_of_ble_eq_true rfl), kb_s (o := 0) (c := 6) hb (Nat.le_of_ble_eq_true rfl)⟩ dL_law_1334 rfl rfl rfl (Nat.le_of_ble_eq_true rfl) rfl rfl (fun x178 M179 => ?_)
  refine V_istore (L' := [(0, .ref l0), (1, .ref l1), (2, .ref l2), (3, .ref l3), (4, .ref l4), (5, .int l5), (6, .int x178)]) dL_law_1337 rfl (by decide) rfl ?_
  refine V_aload_n dL_law_1339 rfl 2 rfl ?_
  refine V_aload_n dL_law_1340 rfl 0 rfl ?_
  refine V_iload dL_law_1341 rfl 5 rfl ?_
  refine V_iconst (x := 1) dL_law_1343 rfl rfl ?_
  refine V_iadd dL_law_1344 rfl ?_
  refine V_sC dL_law_1345 rfl (fun x180 => ?_)
  refine V_aload_n dL_law_1346 rfl 0 rfl ?_
  refine V_iload dL_law_1347 rfl 5 rfl ?_
  refine V_iconst (x := 2) dL_law_1349 rfl rfl ?_
  refine V_iadd dL_law_1350 rfl ?_
  refine V_sC dL_law_1351 rfl (fun x181 => ?_)
  refine V_cVwI (k2 := k + 1) (n2 := n + 6) (As := [.int x180, .int x181]) (k_X12_holders l2 x180 x181 M179) (fun _ h => o_X12_holders h) ok_X12_holders im_X12_holders se_X12_holders rfl (ci := 11) rfl ml_L_238 ⟨⟨(Nat.le_of_ble_eq_true rfl), (Nat.le_of_ble_eq_true rfl)⟩, kb_c (o := 1) (c := 0) hb (Nat.le_of_ble_eq_true rfl), kb_s (o := 6) (c := 0) hb (Nat.le_of_ble_eq_true rfl)⟩ dL_law_1352 rfl rfl rfl (Nat.le_of_ble_eq_true rfl) rfl rfl (fun x182 M183 => ?_)
  refine V_istore (L' := [(0, .ref l0), (1, .ref l1), (2, .ref l2), (3, .ref l3), (4, .ref l4), (5, .int l5), (6, .int x178), (7, .int x182)]) dL_law_1355 rfl (by decide) rfl ?_
  refine V_aload_n dL_law_1357 rfl 2 rfl ?_
  refine V_cVeI (k2 := k + 1) (n2 := n + 6) (As := []) (k_X12_thrown l2 M183) (fun _ h => o_X12_thrown h) ok_X12_thrown im_X12_thrown se_X12_thrown rfl (ci := 11) rfl ml_L_167 ⟨⟨(Nat.le_of_ble_eq_true rfl), (Nat.le_of_ble_eq_true rfl)⟩, kb_c (o := 1) (c := 0) hb (Nat.le_of_ble_eq_true rfl), kb_s (o := 6) (c := 0) hb (Nat.le_of_ble_eq_true rfl)⟩ dL_law_1358 rfl rfl rfl (Nat.le_of_ble_eq_true rfl) rfl rfl (fun x184 => ?_)
  refine V_iload dL_law_1361 rfl 6 rfl ?_
  refine V_icmp_eq (q := 1368) (q2 := 1366) dL_law_1363 (by decide) rfl ?_ ?_
  · refine V_iload dL_law_1368 rfl 6 rfl ?_
    refine V_if_ne (q := 1385) (q2 := 1373) dL_law_1370 (by decide) rfl ?_ ?_
    · exact V_sub [0, 1, 2, 3, 4, 5] rfl (v_L_law_1385 fu rc28 h28 l0 l1 l2 l3 l4 l5 M183 k n hb)
    · refine V_aload_n dL_law_1373 rfl 3 rfl ?_
      refine V_iconst (x := 0) dL_law_1374 rfl rfl ?_
      refine V_laload dL_law_1375 rfl (fun x185 => ?_)
      refine V_iload dL_law_1376 rfl 7 rfl ?_
      refine V_i2l dL_law_1378 rfl ?_
      refine V_lcmp dL_law_1379 rfl ?_
      refine V_if_eq (q := 1385) (q2 := 1383) dL_law_1380 (by decide) rfl ?_ ?_
      · exact V_sub [0, 1, 2, 3, 4, 5] rfl (v_L_law_1385 fu rc28 h28 l0 l1 l2 l3 l4 l5 M183 k n hb)
      · refine V_iconst (x := 0) dL_law_1383 rfl rfl ?_
        exact V_zret (v := false) dL_law_1384 rfl rfl (kb_le hb (Nat.le_of_ble_eq_true rfl) (Nat.le_of_ble_eq_true rfl))
  · refine V_iconst (x := 0) dL_law_1366 rfl rfl ?_
    exact V_zret (v := false) dL_law_1367 rfl rfl (kb_le hb (Nat.le_of_ble_eq_true rfl) (Nat.le_of_ble_eq_true rfl))
theorem v_L_law_1388 (fu : Nat) (rc28 : Nat → Nat → Nat → Nat → Nat → Int32 → Mem → Option (Bool × Mem)) (h28 : ∀ (l0 : Nat) (l1 : Nat) (l2 : Nat) (l3 : Nat) (l4 : Nat) (l5 : Int32) (M : Mem) (k n : Nat) (_ : kb 8 48 fu k n), V mi_L_law 28 [(0, .ref l0), (1, .ref l1), (2, .ref l2), (3, .ref l3), (4, .ref l4), (5, .int l5)] [] M k n (rc28 l0 l1 l2 l3 l4 l5 M) wZ) (l0 : Nat) (l1 : Nat) (l2 : Nat) (l3 : Nat) (l4 : Nat) (l5 : Int32) (M : Mem) (k n : Nat) (hb : kb 8 48 (fu + 1) k n) : V mi_L_law 1388 [(0, .ref l0), (1, .ref l1), (2, .ref l2), (3, .ref l3), (4, .ref l4), (5, .int l5)] [] M (k + 0) (n + 0) (f_L_law_1388 rc28 l0 l1 l2 l3 l4 l5 M) wZ := by
  unfold f_L_law_1388
  refine V_aload_n dL_law_1388 rfl 1 rfl ?_
  refine V_cVeI (k2 := k + 0) (n2 := n + 0) (As := []) (k_X11_stale l1 M) (fun _ h => o_X11_stale h) ok_X11_stale im_X11_stale se_X11_stale rfl (ci := 10) rfl ml_L_239 ⟨⟨(Nat.le_of_ble_eq_true rfl), (Nat.le_of_ble_eq_true rfl)⟩, kb_c (o := 0) (c := 0) hb (Nat.le_of_ble_eq_true rfl), kb_s (o := 0) (c := 0) hb (Nat.le_of_ble_eq_true rfl)⟩ dL_law_1389 rfl rfl rfl (Nat.le_of_ble_eq_true rfl) rfl rfl (fun x186 => ?_)
  refine V_aload_n dL_law_1392 rfl 2 rfl ?_
  refine V_cVwI (k2 := k + 0) (n2 := n + 0) (As := []) (k_X12_stale l2 M) (fun _ h => o_X12_stale h) ok_X12_stale im_X12_stale se_X12_stale rfl (ci := 11) rfl ml_L_242 ⟨⟨(Nat.le_of_ble_eq_true rfl), (Nat.le_of_ble_eq_true rfl)⟩, kb_c (o := 0) (c := 0) hb (Nat.le_of_ble_eq_true rfl), kb_s (o := 0) (c := 0) hb (Nat.le_of_ble_eq_true rfl)⟩ dL_law_1393 rfl rfl rfl (Nat.le_of_ble_eq_true rfl) rfl rfl (fun x187 M188 => ?_)
  refine V_icmp_eq (q := 3275) (q2 := 1399) dL_law_1396 (by decide) rfl ?_ ?_
  · exact (V_w (Nat.add_le_add_left (Nat.le_of_ble_eq_true rfl) _) (Nat.add_le_add_left (Nat.le_of_ble_eq_true rfl) _) (v_L_law_3275 fu rc28 h28 l0 l1 l2 l3 l4 l5 M188 k n hb))
  · refine V_iconst (x := 0) dL_law_1399 rfl rfl ?_
    exact V_zret (v := false) dL_law_1400 rfl rfl (kb_le hb (Nat.le_of_ble_eq_true rfl) (Nat.le_of_ble_eq_true rfl))
theorem v_L_law_1476 (fu : Nat) (rc28 : Nat → Nat → Nat → Nat → Nat → Int32 → Mem → Option (Bool × Mem)) (h28 : ∀ (l0 : Nat) (l1 : Nat) (l2 : Nat) (l3 : Nat) (l4 : Nat) (l5 : Int32) (M : Mem) (k n : Nat) (_ : kb 8 48 fu k n), V mi_L_law 28 [(0, .ref l0), (1, .ref l1), (2, .ref l2), (3, .ref l3), (4, .ref l4), (5, .int l5)] [] M k n (rc28 l0 l1 l2 l3 l4 l5 M) wZ) (l0 : Nat) (l1 : Nat) (l2 : Nat) (l3 : Nat) (l4 : Nat) (l5 : Int32) (M : Mem) (k n : Nat) (hb : kb 8 48 (fu + 1) k n) : V mi_L_law 1476 [(0, .ref l0), (1, .ref l1), (2, .ref l2), (3, .ref l3), (4, .ref l4), (5, .int l5)] [] M (k + 1) (n + 6) (f_L_law_1476 rc28 l0 l1 l2 l3 l4 l5 M) wZ := by
  unfold f_L_law_1476
  refine V_goto (q := 3275) dL_law_1476 (by decide) ?_
  exact (V_w (Nat.add_le_add_left (Nat.le_of_ble_eq_true rfl) _) (Nat.add_le_add_left (Nat.le_of_ble_eq_true rfl) _) (v_L_law_3275 fu rc28 h28 l0 l1 l2 l3 l4 l5 M k n hb))
theorem v_L_law_1401 (fu : Nat) (rc28 : Nat → Nat → Nat → Nat → Nat → Int32 → Mem → Option (Bool × Mem)) (h28 : ∀ (l0 : Nat) (l1 : Nat) (l2 : Nat) (l3 : Nat) (l4 : Nat) (l5 : Int32) (M : Mem) (k n : Nat) (_ : kb 8 48 fu k n), V mi_L_law 28 [(0, .ref l0), (1, .ref l1), (2, .ref l2), (3, .ref l3), (4, .ref l4), (5, .int l5)] [] M k n (rc28 l0 l1 l2 l3 l4 l5 M) wZ) (l0 : Nat) (l1 : Nat) (l2 : Nat) (l3 : Nat) (l4 : Nat) (l5 : Int32) (M : Mem) (k n : Nat) (hb : kb 8 48 (fu + 1) k n) : V mi_L_law 1401 [(0, .ref l0), (1, .ref l1), (2, .ref l2), (3, .ref l3), (4, .ref l4), (5, .int l5)] [] M (k + 0) (n + 0) (f_L_law_1401 rc28 l0 l1 l2 l3 l4 l5 M) wZ := by
  unfold f_L_law_1401
  refine V_aload_n dL_law_1401 rfl 1 rfl ?_
  refine V_aload_n dL_law_1402 rfl 0 rfl ?_
  refine V_iload dL_law_1403 rfl 5 rfl ?_
  refine V_iconst (x := 1) dL_law_1405 rfl rfl ?_
  refine V_iadd dL_law_1406 rfl ?_
  refine V_sC dL_law_1407 rfl (fun x189 => ?_)
  refine V_aload dL_law_1408 rfl 4 rfl ?_
  refine V_cSWI (k2 := k + 1) (n2 := n + 6) (As := [.ref l1, .int x189, .ref l4]) (k_L_unseen l1 x189 l4 M) ok_L_unseen sm_L_unseen ml_L_243 ⟨⟨(Nat.le_of_ble_eq_true rfl), (Nat.le_of_ble_eq_true rfl)⟩, kb_c (o := 0) (c := 1) hb (Nat.le_of_ble_eq_true rfl), kb_s (o := 0) (c := 6) hb (Nat.le_of_ble_eq_true rfl)⟩ dL_law_1410 rfl rfl rfl (Nat.le_of_ble_eq_true rfl) rfl rfl (fun x190 M191 => ?_)
  refine V_istore (L' := [(0, .ref l0), (1, .ref l1), (2, .ref l2), (3, .ref l3), (4, .ref l4), (5, .int l5), (6, .int x190)]) dL_law_1413 rfl (by decide) rfl ?_
  refine V_aload_n dL_law_1415 rfl 2 rfl ?_
  refine V_aload_n dL_law_1416 rfl 0 rfl ?_
  refine V_iload dL_law_1417 rfl 5 rfl ?_
  refine V_iconst (x := 1) dL_law_1419 rfl rfl ?_
  refine V_iadd dL_law_1420 rfl ?_
  refine V_sC dL_law_1421 rfl (fun x192 => ?_)
  refine V_cVwF (k2 := k + 1) (n2 := n + 6) (As := [.int x192]) (k_X12_unseen l2 x192 M191) (fun _ h => o_X12_unseen h) ok_X12_unseen im_X12_unseen se_X12_unseen rfl (ci := 11) rfl ml_L_246 ⟨⟨(Nat.le_of_ble_eq_true rfl), (Nat.le_of_ble_eq_true rfl)⟩, kb_c (o := 1) (c := 0) hb (Nat.le_of_ble_eq_true rfl), kb_s (o := 6) (c := 0) hb (Nat.le_of_ble_eq_true rfl)⟩ dL_law_1422 rfl rfl rfl (Nat.le_of_ble_eq_true rfl) rfl rfl (fun x193 M194 => ?_)
  refine V_fstore (L' := [(0, .ref l0), (1, .ref l1), (2, .ref l2), (3, .ref l3), (4, .ref l4), (5, .int l5), (6, .int x190), (7, .float x193)]) dL_law_1425 rfl (by decide) rfl ?_
  refine V_aload_n dL_law_1427 rfl 2 rfl ?_
  refine V_cVeI (k2 := k + 1) (n2 := n + 6) (As := []) (k_X12_thrown l2 M194) (fun _ h => o_X12_thrown h) ok_X12_thrown im_X12_thrown se_X12_thrown rfl (ci := 11) rfl ml_L_167 ⟨⟨(Nat.le_of_ble_eq_true rfl), (Nat.le_of_ble_eq_true rfl)⟩, kb_c (o := 1) (c := 0) hb (Nat.le_of_ble_eq_true rfl), kb_s (o := 6) (c := 0) hb (Nat.le_of_ble_eq_true rfl)⟩ dL_law_1428 rfl rfl rfl (Nat.le_of_ble_eq_true rfl) rfl rfl (fun x195 => ?_)
  refine V_iload dL_law_1431 rfl 6 rfl ?_
  refine V_icmp_eq (q := 1438) (q2 := 1436) dL_law_1433 (by decide) rfl ?_ ?_
  · refine V_iload dL_law_1438 rfl 6 rfl ?_
    refine V_if_ne (q := 1476) (q2 := 1443) dL_law_1440 (by decide) rfl ?_ ?_
    · exact V_sub [0, 1, 2, 3, 4, 5] rfl (v_L_law_1476 fu rc28 h28 l0 l1 l2 l3 l4 l5 M194 k n hb)
    · refine V_aload dL_law_1443 rfl 4 rfl ?_
      refine V_iconst (x := 0) dL_law_1445 rfl rfl ?_
      refine V_daload dL_law_1446 rfl (fun x196 => ?_)
      refine V_fload dL_law_1447 rfl 7 rfl ?_
      refine V_nf64 fun hy => ?_
      refine V_f2d dL_law_1449 rfl hy ?_
      refine V_dcmp dL_law_1450 rfl ?_
      refine V_if_eq (q := 1476) (q2 := 1454) dL_law_1451 (by decide) rfl ?_ ?_
      · exact V_sub [0, 1, 2, 3, 4, 5] rfl (v_L_law_1476 fu rc28 h28 l0 l1 l2 l3 l4 l5 M194 k n hb)
      · refine V_aload dL_law_1454 rfl 4 rfl ?_
        refine V_iconst (x := 0) dL_law_1456 rfl rfl ?_
        refine V_daload dL_law_1457 rfl (fun x197 => ?_)
        refine V_aload dL_law_1458 rfl 4 rfl ?_
        refine V_iconst (x := 0) dL_law_1460 rfl rfl ?_
        refine V_daload dL_law_1461 rfl (fun x198 => ?_)
        refine V_dcmp dL_law_1462 rfl ?_
        refine V_if_eq (q := 1474) (q2 := 1466) dL_law_1463 (by decide) rfl ?_ ?_
        · refine V_iconst (x := 0) dL_law_1474 rfl rfl ?_
          exact V_zret (v := false) dL_law_1475 rfl rfl (kb_le hb (Nat.le_of_ble_eq_true rfl) (Nat.le_of_ble_eq_true rfl))
        · refine V_fload dL_law_1466 rfl 7 rfl ?_
          refine V_fload dL_law_1468 rfl 7 rfl ?_
          refine V_fcmp dL_law_1470 rfl ?_
          refine V_if_ne (q := 1476) (q2 := 1474) dL_law_1471 (by decide) rfl ?_ ?_
          · exact V_sub [0, 1, 2, 3, 4, 5] rfl (v_L_law_1476 fu rc28 h28 l0 l1 l2 l3 l4 l5 M194 k n hb)
          · refine V_iconst (x := 0) dL_law_1474 rfl rfl ?_
            exact V_zret (v := false) dL_law_1475 rfl rfl (kb_le hb (Nat.le_of_ble_eq_true rfl) (Nat.le_of_ble_eq_true rfl))
  · refine V_iconst (x := 0) dL_law_1436 rfl rfl ?_
    exact V_zret (v := false) dL_law_1437 rfl rfl (kb_le hb (Nat.le_of_ble_eq_true rfl) (Nat.le_of_ble_eq_true rfl))
theorem v_L_law_1553 (fu : Nat) (rc28 : Nat → Nat → Nat → Nat → Nat → Int32 → Mem → Option (Bool × Mem)) (h28 : ∀ (l0 : Nat) (l1 : Nat) (l2 : Nat) (l3 : Nat) (l4 : Nat) (l5 : Int32) (M : Mem) (k n : Nat) (_ : kb 8 48 fu k n), V mi_L_law 28 [(0, .ref l0), (1, .ref l1), (2, .ref l2), (3, .ref l3), (4, .ref l4), (5, .int l5)] [] M k n (rc28 l0 l1 l2 l3 l4 l5 M) wZ) (l0 : Nat) (l1 : Nat) (l2 : Nat) (l3 : Nat) (l4 : Nat) (l5 : Int32) (M : Mem) (k n : Nat) (hb : kb 8 48 (fu + 1) k n) : V mi_L_law 1553 [(0, .ref l0), (1, .ref l1), (2, .ref l2), (3, .ref l3), (4, .ref l4), (5, .int l5)] [] M (k + 1) (n + 6) (f_L_law_1553 rc28 l0 l1 l2 l3 l4 l5 M) wZ := by
  unfold f_L_law_1553
  refine V_goto (q := 3275) dL_law_1553 (by decide) ?_
  exact (V_w (Nat.add_le_add_left (Nat.le_of_ble_eq_true rfl) _) (Nat.add_le_add_left (Nat.le_of_ble_eq_true rfl) _) (v_L_law_3275 fu rc28 h28 l0 l1 l2 l3 l4 l5 M k n hb))
theorem v_L_law_1479 (fu : Nat) (rc28 : Nat → Nat → Nat → Nat → Nat → Int32 → Mem → Option (Bool × Mem)) (h28 : ∀ (l0 : Nat) (l1 : Nat) (l2 : Nat) (l3 : Nat) (l4 : Nat) (l5 : Int32) (M : Mem) (k n : Nat) (_ : kb 8 48 fu k n), V mi_L_law 28 [(0, .ref l0), (1, .ref l1), (2, .ref l2), (3, .ref l3), (4, .ref l4), (5, .int l5)] [] M k n (rc28 l0 l1 l2 l3 l4 l5 M) wZ) (l0 : Nat) (l1 : Nat) (l2 : Nat) (l3 : Nat) (l4 : Nat) (l5 : Int32) (M : Mem) (k n : Nat) (hb : kb 8 48 (fu + 1) k n) : V mi_L_law 1479 [(0, .ref l0), (1, .ref l1), (2, .ref l2), (3, .ref l3), (4, .ref l4), (5, .int l5)] [] M (k + 0) (n + 0) (f_L_law_1479 rc28 l0 l1 l2 l3 l4 l5 M) wZ := by
  unfold f_L_law_1479
  refine V_aload_n dL_law_1479 rfl 1 rfl ?_
  refine V_aload_n dL_law_1480 rfl 0 rfl ?_
  refine V_iload dL_law_1481 rfl 5 rfl ?_
  refine V_iconst (x := 1) dL_law_1483 rfl rfl ?_
  refine V_iadd dL_law_1484 rfl ?_
  refine V_sC dL_law_1485 rfl (fun x199 => ?_)
  refine V_aload dL_law_1486 rfl 4 rfl ?_
  refine V_cSWI (k2 := k + 1) (n2 := n + 6) (As := [.ref l1, .int x199, .ref l4]) (k_L_mean l1 x199 l4 M) ok_L_mean sm_L_mean ml_L_247 ⟨⟨(Nat.le_of_ble_eq_true rfl), (Nat.le_of_ble_eq_true rfl)⟩, kb_c (o := 0) (c := 1) hb (Nat.le_of_ble_eq_true rfl), kb_s (o := 0) (c := 6) hb (Nat.le_of_ble_eq_true rfl)⟩ dL_law_1488 rfl rfl rfl (Nat.le_of_ble_eq_true rfl) rfl rfl (fun x200 M201 => ?_)
  refine V_istore (L' := [(0, .ref l0), (1, .ref l1), (2, .ref l2), (3, .ref l3), (4, .ref l4), (5, .int l5), (6, .int x200)]) dL_law_1491 rfl (by decide) rfl ?_
  refine V_aload_n dL_law_1493 rfl 2 rfl ?_
  refine V_aload_n dL_law_1494 rfl 0 rfl ?_
  refine V_iload dL_law_1495 rfl 5 rfl ?_
  refine V_iconst (x := 1) dL_law_1497 rfl rfl ?_
  refine V_iadd dL_law_1498 rfl ?_
  refine V_sC dL_law_1499 rfl (fun x202 => ?_)
  refine V_cVwD (k2 := k + 1) (n2 := n + 6) (As := [.int x202]) (k_X12_mean l2 x202 M201) (fun _ h => o_X12_mean h) ok_X12_mean im_X12_mean se_X12_mean rfl (ci := 11) rfl ml_L_249 ⟨⟨(Nat.le_of_ble_eq_true rfl), (Nat.le_of_ble_eq_true rfl)⟩, kb_c (o := 1) (c := 0) hb (Nat.le_of_ble_eq_true rfl), kb_s (o := 6) (c := 0) hb (Nat.le_of_ble_eq_true rfl)⟩ dL_law_1500 rfl rfl rfl (Nat.le_of_ble_eq_true rfl) rfl rfl (fun x203 M204 => ?_)
  refine V_dstore (L' := [(0, .ref l0), (1, .ref l1), (2, .ref l2), (3, .ref l3), (4, .ref l4), (5, .int l5), (6, .int x200), (7, .double x203)]) dL_law_1503 rfl (by decide) rfl ?_
  refine V_aload_n dL_law_1505 rfl 2 rfl ?_
  refine V_cVeI (k2 := k + 1) (n2 := n + 6) (As := []) (k_X12_thrown l2 M204) (fun _ h => o_X12_thrown h) ok_X12_thrown im_X12_thrown se_X12_thrown rfl (ci := 11) rfl ml_L_167 ⟨⟨(Nat.le_of_ble_eq_true rfl), (Nat.le_of_ble_eq_true rfl)⟩, kb_c (o := 1) (c := 0) hb (Nat.le_of_ble_eq_true rfl), kb_s (o := 6) (c := 0) hb (Nat.le_of_ble_eq_true rfl)⟩ dL_law_1506 rfl rfl rfl (Nat.le_of_ble_eq_true rfl) rfl rfl (fun x205 => ?_)
  refine V_iload dL_law_1509 rfl 6 rfl ?_
  refine V_icmp_eq (q := 1516) (q2 := 1514) dL_law_1511 (by decide) rfl ?_ ?_
  · refine V_iload dL_law_1516 rfl 6 rfl ?_
    refine V_if_ne (q := 1553) (q2 := 1521) dL_law_1518 (by decide) rfl ?_ ?_
    · exact V_sub [0, 1, 2, 3, 4, 5] rfl (v_L_law_1553 fu rc28 h28 l0 l1 l2 l3 l4 l5 M204 k n hb)
    · refine V_aload dL_law_1521 rfl 4 rfl ?_
      refine V_iconst (x := 0) dL_law_1523 rfl rfl ?_
      refine V_daload dL_law_1524 rfl (fun x206 => ?_)
      refine V_dload dL_law_1525 rfl 7 rfl ?_
      refine V_dcmp dL_law_1527 rfl ?_
      refine V_if_eq (q := 1553) (q2 := 1531) dL_law_1528 (by decide) rfl ?_ ?_
      · exact V_sub [0, 1, 2, 3, 4, 5] rfl (v_L_law_1553 fu rc28 h28 l0 l1 l2 l3 l4 l5 M204 k n hb)
      · refine V_aload dL_law_1531 rfl 4 rfl ?_
        refine V_iconst (x := 0) dL_law_1533 rfl rfl ?_
        refine V_daload dL_law_1534 rfl (fun x207 => ?_)
        refine V_aload dL_law_1535 rfl 4 rfl ?_
        refine V_iconst (x := 0) dL_law_1537 rfl rfl ?_
        refine V_daload dL_law_1538 rfl (fun x208 => ?_)
        refine V_dcmp dL_law_1539 rfl ?_
        refine V_if_eq (q := 1551) (q2 := 1543) dL_law_1540 (by decide) rfl ?_ ?_
        · refine V_iconst (x := 0) dL_law_1551 rfl rfl ?_
          exact V_zret (v := false) dL_law_1552 rfl rfl (kb_le hb (Nat.le_of_ble_eq_true rfl) (Nat.le_of_ble_eq_true rfl))
        · refine V_dload dL_law_1543 rfl 7 rfl ?_
          refine V_dload dL_law_1545 rfl 7 rfl ?_
          refine V_dcmp dL_law_1547 rfl ?_
          refine V_if_ne (q := 1553) (q2 := 1551) dL_law_1548 (by decide) rfl ?_ ?_
          · exact V_sub [0, 1, 2, 3, 4, 5] rfl (v_L_law_1553 fu rc28 h28 l0 l1 l2 l3 l4 l5 M204 k n hb)
          · refine V_iconst (x := 0) dL_law_1551 rfl rfl ?_
            exact V_zret (v := false) dL_law_1552 rfl rfl (kb_le hb (Nat.le_of_ble_eq_true rfl) (Nat.le_of_ble_eq_true rfl))
  · refine V_iconst (x := 0) dL_law_1514 rfl rfl ?_
    exact V_zret (v := false) dL_law_1515 rfl rfl (kb_le hb (Nat.le_of_ble_eq_true rfl) (Nat.le_of_ble_eq_true rfl))
theorem v_L_law_1621 (fu : Nat) (rc28 : Nat → Nat → Nat → Nat → Nat → Int32 → Mem → Option (Bool × Mem)) (h28 : ∀ (l0 : Nat) (l1 : Nat) (l2 : Nat) (l3 : Nat) (l4 : Nat) (l5 : Int32) (M : Mem) (k n : Nat) (_ : kb 8 48 fu k n), V mi_L_law 28 [(0, .ref l0), (1, .ref l1), (2, .ref l2), (3, .ref l3), (4, .ref l4), (5, .int l5)] [] M k n (rc28 l0 l1 l2 l3 l4 l5 M) wZ) (l0 : Nat) (l1 : Nat) (l2 : Nat) (l3 : Nat) (l4 : Nat) (l5 : Int32) (M : Mem) (k n : Nat) (hb : kb 8 48 (fu + 1) k n) : V mi_L_law 1621 [(0, .ref l0), (1, .ref l1), (2, .ref l2), (3, .ref l3), (4, .ref l4), (5, .int l5)] [] M (k + 2) (n + 12) (f_L_law_1621 rc28 l0 l1 l2 l3 l4 l5 M) wZ := by
  unfold f_L_law_1621
  refine V_goto (q := 3275) dL_law_1621 (by decide) ?_
  exact (V_w (Nat.add_le_add_left (Nat.le_of_ble_eq_true rfl) _) (Nat.add_le_add_left (Nat.le_of_ble_eq_true rfl) _) (v_L_law_3275 fu rc28 h28 l0 l1 l2 l3 l4 l5 M k n hb))
theorem v_L_law_1556 (fu : Nat) (rc28 : Nat → Nat → Nat → Nat → Nat → Int32 → Mem → Option (Bool × Mem)) (h28 : ∀ (l0 : Nat) (l1 : Nat) (l2 : Nat) (l3 : Nat) (l4 : Nat) (l5 : Int32) (M : Mem) (k n : Nat) (_ : kb 8 48 fu k n), V mi_L_law 28 [(0, .ref l0), (1, .ref l1), (2, .ref l2), (3, .ref l3), (4, .ref l4), (5, .int l5)] [] M k n (rc28 l0 l1 l2 l3 l4 l5 M) wZ) (l0 : Nat) (l1 : Nat) (l2 : Nat) (l3 : Nat) (l4 : Nat) (l5 : Int32) (M : Mem) (k n : Nat) (hb : kb 8 48 (fu + 1) k n) : V mi_L_law 1556 [(0, .ref l0), (1, .ref l1), (2, .ref l2), (3, .ref l3), (4, .ref l4), (5, .int l5)] [] M (k + 0) (n + 0) (f_L_law_1556 rc28 l0 l1 l2 l3 l4 l5 M) wZ := by
  unfold f_L_law_1556
  refine V_aload_n dL_law_1556 rfl 1 rfl ?_
  refine V_aload_n dL_law_1557 rfl 0 rfl ?_
  refine V_iload dL_law_1558 rfl 5 rfl ?_
  refine V_iconst (x := 1) dL_law_1560 rfl rfl ?_
  refine V_iadd dL_law_1561 rfl ?_
  refine V_sC dL_law_1562 rfl (fun x209 => ?_)
  refine V_aload_n dL_law_1563 rfl 0 rfl ?_
  refine V_iload dL_law_1564 rfl 5 rfl ?_
  refine V_iconst (x := 2) dL_law_1566 rfl rfl ?_
  refine V_iadd dL_law_1567 rfl ?_
  refine V_sC dL_law_1568 rfl (fun x210 => ?_)
  refine V_aload_n dL_law_1569 rfl 3 rfl ?_
  refine V_cSWI (k2 := k + 2) (n2 := n + 12) (As := [.ref l1, .int x209, .int x210, .ref l3]) (k_L_account l1 x209 x210 l3 M) ok_L_account sm_L_account ml_L_250 ⟨⟨(Nat.le_of_ble_eq_true rfl), (Nat.le_of_ble_eq_true rfl)⟩, kb_c (o := 0) (c := 2) hb (Nat.le_of_ble_eq_true rfl), kb_s (o := 0) (c := 12) hb (Nat.le_of_ble_eq_true rfl)⟩ dL_law_1570 rfl rfl rfl (Nat.le_of_ble_eq_true rfl) rfl rfl (fun x211 M212 => ?_)
  refine V_istore (L' := [(0, .ref l0), (1, .ref l1), (2, .ref l2), (3, .ref l3), (4, .ref l4), (5, .int l5), (6, .int x211)]) dL_law_1573 rfl (by decide) rfl ?_
  refine V_aload_n dL_law_1575 rfl 2 rfl ?_
  refine V_aload_n dL_law_1576 rfl 0 rfl ?_
  refine V_iload dL_law_1577 rfl 5 rfl ?_
  refine V_iconst (x := 1) dL_law_1579 rfl rfl ?_
  refine V_iadd dL_law_1580 rfl ?_
  refine V_sC dL_law_1581 rfl (fun x213 => ?_)
  refine V_aload_n dL_law_1582 rfl 0 rfl ?_
  refine V_iload dL_law_1583 rfl 5 rfl ?_
  refine V_iconst (x := 2) dL_law_1585 rfl rfl ?_
  refine V_iadd dL_law_1586 rfl ?_
  refine V_sC dL_law_1587 rfl (fun x214 => ?_)
  refine V_cVwI (k2 := k + 2) (n2 := n + 12) (As := [.int x213, .int x214]) (k_X12_account l2 x213 x214 M212) (fun _ h => o_X12_account h) ok_X12_account im_X12_account se_X12_account rfl (ci := 11) rfl ml_L_252 ⟨⟨(Nat.le_of_ble_eq_true rfl), (Nat.le_of_ble_eq_true rfl)⟩, kb_c (o := 2) (c := 0) hb (Nat.le_of_ble_eq_true rfl), kb_s (o := 12) (c := 0) hb (Nat.le_of_ble_eq_true rfl)⟩ dL_law_1588 rfl rfl rfl (Nat.le_of_ble_eq_true rfl) rfl rfl (fun x215 M216 => ?_)
  refine V_istore (L' := [(0, .ref l0), (1, .ref l1), (2, .ref l2), (3, .ref l3), (4, .ref l4), (5, .int l5), (6, .int x211), (7, .int x215)]) dL_law_1591 rfl (by decide) rfl ?_
  refine V_aload_n dL_law_1593 rfl 2 rfl ?_
  refine V_cVeI (k2 := k + 2) (n2 := n + 12) (As := []) (k_X12_thrown l2 M216) (fun _ h => o_X12_thrown h) ok_X12_thrown im_X12_thrown se_X12_thrown rfl (ci := 11) rfl ml_L_167 ⟨⟨(Nat.le_of_ble_eq_true rfl), (Nat.le_of_ble_eq_true rfl)⟩, kb_c (o := 2) (c := 0) hb (Nat.le_of_ble_eq_true rfl), kb_s (o := 12) (c := 0) hb (Nat.le_of_ble_eq_true rfl)⟩ dL_law_1594 rfl rfl rfl (Nat.le_of_ble_eq_true rfl) rfl rfl (fun x217 => ?_)
  refine V_iload dL_law_1597 rfl 6 rfl ?_
  refine V_icmp_eq (q := 1604) (q2 := 1602) dL_law_1599 (by decide) rfl ?_ ?_
  · refine V_iload dL_law_1604 rfl 6 rfl ?_
    refine V_if_ne (q := 1621) (q2 := 1609) dL_law_1606 (by decide) rfl ?_ ?_
    · exact V_sub [0, 1, 2, 3, 4, 5] rfl (v_L_law_1621 fu rc28 h28 l0 l1 l2 l3 l4 l5 M216 k n hb)
    · refine V_aload_n dL_law_1609 rfl 3 rfl ?_
      refine V_iconst (x := 0) dL_law_1610 rfl rfl ?_
      refine V_laload dL_law_1611 rfl (fun x218 => ?_)
      refine V_iload dL_law_1612 rfl 7 rfl ?_
      refine V_i2l dL_law_1614 rfl ?_
      refine V_lcmp dL_law_1615 rfl ?_
      refine V_if_eq (q := 1621) (q2 := 1619) dL_law_1616 (by decide) rfl ?_ ?_
      · exact V_sub [0, 1, 2, 3, 4, 5] rfl (v_L_law_1621 fu rc28 h28 l0 l1 l2 l3 l4 l5 M216 k n hb)
      · refine V_iconst (x := 0) dL_law_1619 rfl rfl ?_
        exact V_zret (v := false) dL_law_1620 rfl rfl (kb_le hb (Nat.le_of_ble_eq_true rfl) (Nat.le_of_ble_eq_true rfl))
  · refine V_iconst (x := 0) dL_law_1602 rfl rfl ?_
    exact V_zret (v := false) dL_law_1603 rfl rfl (kb_le hb (Nat.le_of_ble_eq_true rfl) (Nat.le_of_ble_eq_true rfl))
theorem v_L_law_1689 (fu : Nat) (rc28 : Nat → Nat → Nat → Nat → Nat → Int32 → Mem → Option (Bool × Mem)) (h28 : ∀ (l0 : Nat) (l1 : Nat) (l2 : Nat) (l3 : Nat) (l4 : Nat) (l5 : Int32) (M : Mem) (k n : Nat) (_ : kb 8 48 fu k n), V mi_L_law 28 [(0, .ref l0), (1, .ref l1), (2, .ref l2), (3, .ref l3), (4, .ref l4), (5, .int l5)] [] M k n (rc28 l0 l1 l2 l3 l4 l5 M) wZ) (l0 : Nat) (l1 : Nat) (l2 : Nat) (l3 : Nat) (l4 : Nat) (l5 : Int32) (M : Mem) (k n : Nat) (hb : kb 8 48 (fu + 1) k n) : V mi_L_law 1689 [(0, .ref l0), (1, .ref l1), (2, .ref l2), (3, .ref l3), (4, .ref l4), (5, .int l5)] [] M (k + 1) (n + 6) (f_L_law_1689 rc28 l0 l1 l2 l3 l4 l5 M) wZ := by
  unfold f_L_law_1689
  refine V_goto (q := 3275) dL_law_1689 (by decide) ?_
  exact (V_w (Nat.add_le_add_left (Nat.le_of_ble_eq_true rfl) _) (Nat.add_le_add_left (Nat.le_of_ble_eq_true rfl) _) (v_L_law_3275 fu rc28 h28 l0 l1 l2 l3 l4 l5 M k n hb))
theorem v_L_law_1624 (fu : Nat) (rc28 : Nat → Nat → Nat → Nat → Nat → Int32 → Mem → Option (Bool × Mem)) (h28 : ∀ (l0 : Nat) (l1 : Nat) (l2 : Nat) (l3 : Nat) (l4 : Nat) (l5 : Int32) (M : Mem) (k n : Nat) (_ : kb 8 48 fu k n), V mi_L_law 28 [(0, .ref l0), (1, .ref l1), (2, .ref l2), (3, .ref l3), (4, .ref l4), (5, .int l5)] [] M k n (rc28 l0 l1 l2 l3 l4 l5 M) wZ) (l0 : Nat) (l1 : Nat) (l2 : Nat) (l3 : Nat) (l4 : Nat) (l5 : Int32) (M : Mem) (k n : Nat) (hb : kb 8 48 (fu + 1) k n) : V mi_L_law 1624 [(0, .ref l0), (1, .ref l1), (2, .ref l2), (3, .ref l3), (4, .ref l4), (5, .int l5)] [] M (k + 0) (n + 0) (f_L_law_1624 rc28 l0 l1 l2 l3 l4 l5 M) wZ := by
  unfold f_L_law_1624
  refine V_aload_n dL_law_1624 rfl 1 rfl ?_
  refine V_aload_n dL_law_1625 rfl 0 rfl ?_
  refine V_iload dL_law_1626 rfl 5 rfl ?_
  refine V_iconst (x := 1) dL_law_1628 rfl rfl ?_
  refine V_iadd dL_law_1629 rfl ?_
  refine V_sC dL_law_1630 rfl (fun x219 => ?_)
  refine V_aload_n dL_law_1631 rfl 0 rfl ?_
  refine V_iload dL_law_1632 rfl 5 rfl ?_
  refine V_iconst (x := 2) dL_law_1634 rfl rfl ?_
  refine V_iadd dL_law_1635 rfl ?_
  refine V_sC dL_law_1636 rfl (fun x220 => ?_)
  refine V_aload_n dL_law_1637 rfl 3 rfl ?_
  refine V_cSWI (k2 := k + 1) (n2 := n + 6) (As := [.ref l1, .int x219, .int x220, .ref l3]) (k_L_notice l1 x219 x220 l3 M) ok_L_notice sm_L_notice ml_L_253 ⟨⟨(Nat.le_of_ble_eq_true rfl), (Nat.le_of_ble_eq_true rfl)⟩, kb_c (o := 0) (c := 1) hb (Nat.le_of_ble_eq_true rfl), kb_s (o := 0) (c := 6) hb (Nat.le_of_ble_eq_true rfl)⟩ dL_law_1638 rfl rfl rfl (Nat.le_of_ble_eq_true rfl) rfl rfl (fun x221 M222 => ?_)
  refine V_istore (L' := [(0, .ref l0), (1, .ref l1), (2, .ref l2), (3, .ref l3), (4, .ref l4), (5, .int l5), (6, .int x221)]) dL_law_1641 rfl (by decide) rfl ?_
  refine V_aload_n dL_law_1643 rfl 2 rfl ?_
  refine V_aload_n dL_law_1644 rfl 0 rfl ?_
  refine V_iload dL_law_1645 rfl 5 rfl ?_
  refine V_iconst (x := 1) dL_law_1647 rfl rfl ?_
  refine V_iadd dL_law_1648 rfl ?_
  refine V_sC dL_law_1649 rfl (fun x223 => ?_)
  refine V_aload_n dL_law_1650 rfl 0 rfl ?_
  refine V_iload dL_law_1651 rfl 5 rfl ?_
  refine V_iconst (x := 2) dL_law_1653 rfl rfl ?_
  refine V_iadd dL_law_1654 rfl ?_
  refine V_sC dL_law_1655 rfl (fun x224 => ?_)
  refine V_cVwI (k2 := k + 1) (n2 := n + 6) (As := [.int x223, .int x224]) (k_X12_notice l2 x223 x224 M222) (fun _ h => o_X12_notice h) ok_X12_notice im_X12_notice se_X12_notice rfl (ci := 11) rfl ml_L_255 ⟨⟨(Nat.le_of_ble_eq_true rfl), (Nat.le_of_ble_eq_true rfl)⟩, kb_c (o := 1) (c := 0) hb (Nat.le_of_ble_eq_true rfl), kb_s (o := 6) (c := 0) hb (Nat.le_of_ble_eq_true rfl)⟩ dL_law_1656 rfl rfl rfl (Nat.le_of_ble_eq_true rfl) rfl rfl (fun x225 M226 => ?_)
  refine V_istore (L' := [(0, .ref l0), (1, .ref l1), (2, .ref l2), (3, .ref l3), (4, .ref l4), (5, .int l5), (6, .int x221), (7, .int x225)]) dL_law_1659 rfl (by decide) rfl ?_
  refine V_aload_n dL_law_1661 rfl 2 rfl ?_
  refine V_cVeI (k2 := k + 1) (n2 := n + 6) (As := []) (k_X12_thrown l2 M226) (fun _ h => o_X12_thrown h) ok_X12_thrown im_X12_thrown se_X12_thrown rfl (ci := 11) rfl ml_L_167 ⟨⟨(Nat.le_of_ble_eq_true rfl), (Nat.le_of_ble_eq_true rfl)⟩, kb_c (o := 1) (c := 0) hb (Nat.le_of_ble_eq_true rfl), kb_s (o := 6) (c := 0) hb (Nat.le_of_ble_eq_true rfl)⟩ dL_law_1662 rfl rfl rfl (Nat.le_of_ble_eq_true rfl) rfl rfl (fun x227 => ?_)
  refine V_iload dL_law_1665 rfl 6 rfl ?_
  refine V_icmp_eq (q := 1672) (q2 := 1670) dL_law_1667 (by decide) rfl ?_ ?_
  · refine V_iload dL_law_1672 rfl 6 rfl ?_
    refine V_if_ne (q := 1689) (q2 := 1677) dL_law_1674 (by decide) rfl ?_ ?_
    · exact V_sub [0, 1, 2, 3, 4, 5] rfl (v_L_law_1689 fu rc28 h28 l0 l1 l2 l3 l4 l5 M226 k n hb)
    · refine V_aload_n dL_law_1677 rfl 3 rfl ?_
      refine V_iconst (x := 0) dL_law_1678 rfl rfl ?_
      refine V_laload dL_law_1679 rfl (fun x228 => ?_)
      refine V_iload dL_law_1680 rfl 7 rfl ?_
      refine V_i2l dL_law_1682 rfl ?_
      refine V_lcmp dL_law_1683 rfl ?_
      refine V_if_eq (q := 1689) (q2 := 1687) dL_law_1684 (by decide) rfl ?_ ?_
      · exact V_sub [0, 1, 2, 3, 4, 5] rfl (v_L_law_1689 fu rc28 h28 l0 l1 l2 l3 l4 l5 M226 k n hb)
      · refine V_iconst (x := 0) dL_law_1687 rfl rfl ?_
        exact V_zret (v := false) dL_law_1688 rfl rfl (kb_le hb (Nat.le_of_ble_eq_true rfl) (Nat.le_of_ble_eq_true rfl))
  · refine V_iconst (x := 0) dL_law_1670 rfl rfl ?_
    exact V_zret (v := false) dL_law_1671 rfl rfl (kb_le hb (Nat.le_of_ble_eq_true rfl) (Nat.le_of_ble_eq_true rfl))
theorem v_L_law_1745 (fu : Nat) (rc28 : Nat → Nat → Nat → Nat → Nat → Int32 → Mem → Option (Bool × Mem)) (h28 : ∀ (l0 : Nat) (l1 : Nat) (l2 : Nat) (l3 : Nat) (l4 : Nat) (l5 : Int32) (M : Mem) (k n : Nat) (_ : kb 8 48 fu k n), V mi_L_law 28 [(0, .ref l0), (1, .ref l1), (2, .ref l2), (3, .ref l3), (4, .ref l4), (5, .int l5)] [] M k n (rc28 l0 l1 l2 l3 l4 l5 M) wZ) (l0 : Nat) (l1 : Nat) (l2 : Nat) (l3 : Nat) (l4 : Nat) (l5 : Int32) (M : Mem) (k n : Nat) (hb : kb 8 48 (fu + 1) k n) : V mi_L_law 1745 [(0, .ref l0), (1, .ref l1), (2, .ref l2), (3, .ref l3), (4, .ref l4), (5, .int l5)] [] M (k + 1) (n + 6) (f_L_law_1745 rc28 l0 l1 l2 l3 l4 l5 M) wZ := by
  unfold f_L_law_1745
  refine V_goto (q := 3275) dL_law_1745 (by decide) ?_
  exact (V_w (Nat.add_le_add_left (Nat.le_of_ble_eq_true rfl) _) (Nat.add_le_add_left (Nat.le_of_ble_eq_true rfl) _) (v_L_law_3275 fu rc28 h28 l0 l1 l2 l3 l4 l5 M k n hb))
theorem v_L_law_1692 (fu : Nat) (rc28 : Nat → Nat → Nat → Nat → Nat → Int32 → Mem → Option (Bool × Mem)) (h28 : ∀ (l0 : Nat) (l1 : Nat) (l2 : Nat) (l3 : Nat) (l4 : Nat) (l5 : Int32) (M : Mem) (k n : Nat) (_ : kb 8 48 fu k n), V mi_L_law 28 [(0, .ref l0), (1, .ref l1), (2, .ref l2), (3, .ref l3), (4, .ref l4), (5, .int l5)] [] M k n (rc28 l0 l1 l2 l3 l4 l5 M) wZ) (l0 : Nat) (l1 : Nat) (l2 : Nat) (l3 : Nat) (l4 : Nat) (l5 : Int32) (M : Mem) (k n : Nat) (hb : kb 8 48 (fu + 1) k n) : V mi_L_law 1692 [(0, .ref l0), (1, .ref l1), (2, .ref l2), (3, .ref l3), (4, .ref l4), (5, .int l5)] [] M (k + 0) (n + 0) (f_L_law_1692 rc28 l0 l1 l2 l3 l4 l5 M) wZ := by
  unfold f_L_law_1692
  refine V_aload_n dL_law_1692 rfl 1 rfl ?_
  refine V_aload_n dL_law_1693 rfl 0 rfl ?_
  refine V_iload dL_law_1694 rfl 5 rfl ?_
  refine V_iconst (x := 1) dL_law_1696 rfl rfl ?_
  refine V_iadd dL_law_1697 rfl ?_
  refine V_sC dL_law_1698 rfl (fun x229 => ?_)
  refine V_aload_n dL_law_1699 rfl 3 rfl ?_
  refine V_cSWI (k2 := k + 1) (n2 := n + 6) (As := [.ref l1, .int x229, .ref l3]) (k_L_searchBox l1 x229 l3 M) ok_L_searchBox sm_L_searchBox ml_L_256 ⟨⟨(Nat.le_of_ble_eq_true rfl), (Nat.le_of_ble_eq_true rfl)⟩, kb_c (o := 0) (c := 1) hb (Nat.le_of_ble_eq_true rfl), kb_s (o := 0) (c := 6) hb (Nat.le_of_ble_eq_true rfl)⟩ dL_law_1700 rfl rfl rfl (Nat.le_of_ble_eq_true rfl) rfl rfl (fun x230 M231 => ?_)
  refine V_istore (L' := [(0, .ref l0), (1, .ref l1), (2, .ref l2), (3, .ref l3), (4, .ref l4), (5, .int l5), (6, .int x230)]) dL_law_1703 rfl (by decide) rfl ?_
  refine V_aload_n dL_law_1705 rfl 2 rfl ?_
  refine V_aload_n dL_law_1706 rfl 0 rfl ?_
  refine V_iload dL_law_1707 rfl 5 rfl ?_
  refine V_iconst (x := 1) dL_law_1709 rfl rfl ?_
  refine V_iadd dL_law_1710 rfl ?_
  refine V_sC dL_law_1711 rfl (fun x232 => ?_)
  refine V_cVwI (k2 := k + 1) (n2 := n + 6) (As := [.int x232]) (k_X12_searchBox l2 x232 M231) (fun _ h => o_X12_searchBox h) ok_X12_searchBox im_X12_searchBox se_X12_searchBox rfl (ci := 11) rfl ml_L_258 ⟨⟨(Nat.le_of_ble_eq_true rfl), (Nat.le_of_ble_eq_true rfl)⟩, kb_c (o := 1) (c := 0) hb (Nat.le_of_ble_eq_true rfl), kb_s (o := 6) (c := 0) hb (Nat.le_of_ble_eq_true rfl)⟩ dL_law_1712 rfl rfl rfl (Nat.le_of_ble_eq_true rfl) rfl rfl (fun x233 M234 => ?_)
  refine V_istore (L' := [(0, .ref l0), (1, .ref l1), (2, .ref l2), (3, .ref l3), (4, .ref l4), (5, .int l5), (6, .int x230), (7, .int x233)]) dL_law_1715 rfl (by decide) rfl ?_
  refine V_aload_n dL_law_1717 rfl 2 rfl ?_
  refine V_cVeI (k2 := k + 1) (n2 := n + 6) (As := []) (k_X12_thrown l2 M234) (fun _ h => o_X12_thrown h) ok_X12_thrown im_X12_thrown se_X12_thrown rfl (ci := 11) rfl ml_L_167 ⟨⟨(Nat.le_of_ble_eq_true rfl), (Nat.le_of_ble_eq_true rfl)⟩, kb_c (o := 1) (c := 0) hb (Nat.le_of_ble_eq_true rfl), kb_s (o := 6) (c := 0) hb (Nat.le_of_ble_eq_true rfl)⟩ dL_law_1718 rfl rfl rfl (Nat.le_of_ble_eq_true rfl) rfl rfl (fun x235 => ?_)
  refine V_iload dL_law_1721 rfl 6 rfl ?_
  refine V_icmp_eq (q := 1728) (q2 := 1726) dL_law_1723 (by decide) rfl ?_ ?_
  · refine V_iload dL_law_1728 rfl 6 rfl ?_
    refine V_if_ne (q := 1745) (q2 := 1733) dL_law_1730 (by decide) rfl ?_ ?_
    · exact V_sub [0, 1, 2, 3, 4, 5] rfl (v_L_law_1745 fu rc28 h28 l0 l1 l2 l3 l4 l5 M234 k n hb)
    · refine V_aload_n dL_law_1733 rfl 3 rfl ?_
      refine V_iconst (x := 0) dL_law_1734 rfl rfl ?_
      refine V_laload dL_law_1735 rfl (fun x236 => ?_)
      refine V_iload dL_law_1736 rfl 7 rfl ?_
      refine V_i2l dL_law_1738 rfl ?_
      refine V_lcmp dL_law_1739 rfl ?_
      refine V_if_eq (q := 1745) (q2 := 1743) dL_law_1740 (by decide) rfl ?_ ?_
      · exact V_sub [0, 1, 2, 3, 4, 5] rfl (v_L_law_1745 fu rc28 h28 l0 l1 l2 l3 l4 l5 M234 k n hb)
      · refine V_iconst (x := 0) dL_law_1743 rfl rfl ?_
        exact V_zret (v := false) dL_law_1744 rfl rfl (kb_le hb (Nat.le_of_ble_eq_true rfl) (Nat.le_of_ble_eq_true rfl))
  · refine V_iconst (x := 0) dL_law_1726 rfl rfl ?_
    exact V_zret (v := false) dL_law_1727 rfl rfl (kb_le hb (Nat.le_of_ble_eq_true rfl) (Nat.le_of_ble_eq_true rfl))
theorem v_L_law_1841 (fu : Nat) (rc28 : Nat → Nat → Nat → Nat → Nat → Int32 → Mem → Option (Bool × Mem)) (h28 : ∀ (l0 : Nat) (l1 : Nat) (l2 : Nat) (l3 : Nat) (l4 : Nat) (l5 : Int32) (M : Mem) (k n : Nat) (_ : kb 8 48 fu k n), V mi_L_law 28 [(0, .ref l0), (1, .ref l1), (2, .ref l2), (3, .ref l3), (4, .ref l4), (5, .int l5)] [] M k n (rc28 l0 l1 l2 l3 l4 l5 M) wZ) (l0 : Nat) (l1 : Nat) (l2 : Nat) (l3 : Nat) (l4 : Nat) (l5 : Int32) (M : Mem) (k n : Nat) (hb : kb 8 48 (fu + 1) k n) : V mi_L_law 1841 [(0, .ref l0), (1, .ref l1), (2, .ref l2), (3, .ref l3), (4, .ref l4), (5, .int l5)] [] M (k + 3) (n + 18) (f_L_law_1841 rc28 l0 l1 l2 l3 l4 l5 M) wZ := by
  unfold f_L_law_1841
  refine V_goto (q := 3275) dL_law_1841 (by decide) ?_
  exact (V_w (Nat.add_le_add_left (Nat.le_of_ble_eq_true rfl) _) (Nat.add_le_add_left (Nat.le_of_ble_eq_true rfl) _) (v_L_law_3275 fu rc28 h28 l0 l1 l2 l3 l4 l5 M k n hb))
theorem v_L_law_1808 (fu : Nat) (rc28 : Nat → Nat → Nat → Nat → Nat → Int32 → Mem → Option (Bool × Mem)) (h28 : ∀ (l0 : Nat) (l1 : Nat) (l2 : Nat) (l3 : Nat) (l4 : Nat) (l5 : Int32) (M : Mem) (k n : Nat) (_ : kb 8 48 fu k n), V mi_L_law 28 [(0, .ref l0), (1, .ref l1), (2, .ref l2), (3, .ref l3), (4, .ref l4), (5, .int l5)] [] M k n (rc28 l0 l1 l2 l3 l4 l5 M) wZ) (l0 : Nat) (l1 : Nat) (l2 : Nat) (l3 : Nat) (l4 : Nat) (l5 : Int32) (l6 : Int32) (s0 : Nat) (s1 : Int32) (s2 : Int32) (s3 : Bool) (M : Mem) (k n : Nat) (hb : kb 8 48 (fu + 1) k n) : V mi_L_law 1808 [(0, .ref l0), (1, .ref l1), (2, .ref l2), (3, .ref l3), (4, .ref l4), (5, .int l5), (6, .int l6)] [.int (b2i s3), .int s2, .int s1, .ref s0] M (k + 3) (n + 18) (f_L_law_1808 rc28 l0 l1 l2 l3 l4 l5 l6 s0 s1 s2 s3 M) wZ := by
  unfold f_L_law_1808
  refine V_cVwI (k2 := k + 3) (n2 := n + 18) (As := [.int s1, .int s2, .int (b2i s3)]) (k_X12_select s0 s1 s2 s3 M) (fun _ h => o_X12_select h) ok_X12_select im_X12_select se_X12_select rfl (ci := 11) rfl ml_L_262 ⟨⟨(Nat.le_of_ble_eq_true rfl), (Nat.le_of_ble_eq_true rfl)⟩, kb_c (o := 3) (c := 0) hb (Nat.le_of_ble_eq_true rfl), kb_s (o := 18) (c := 0) hb (Nat.le_of_ble_eq_true rfl)⟩ dL_law_1808 rfl rfl rfl (Nat.le_of_ble_eq_true rfl) rfl rfl (fun x245 M246 => ?_)
  refine V_istore (L' := [(0, .ref l0), (1, .ref l1), (2, .ref l2), (3, .ref l3), (4, .ref l4), (5, .int l5), (6, .int l6), (7, .int x245)]) dL_law_1811 rfl (by decide) rfl ?_
  refine V_aload_n dL_law_1813 rfl 2 rfl ?_
  refine V_cVeI (k2 := k + 3) (n2 := n + 18) (As := []) (k_X12_thrown l2 M246) (fun _ h => o_X12_thrown h) ok_X12_thrown im_X12_thrown se_X12_thrown rfl (ci := 11) rfl ml_L_167 ⟨⟨(Nat.le_of_ble_eq_true rfl), (Nat.le_of_ble_eq_true rfl)⟩, kb_c (o := 3) (c := 0) hb (Nat.le_of_ble_eq_true rfl), kb_s (o := 18) (c := 0) hb (Nat.le_of_ble_eq_true rfl)⟩ dL_law_1814 rfl rfl rfl (Nat.le_of_ble_eq_true rfl) rfl rfl (fun x247 => ?_)
  refine V_iload dL_law_1817 rfl 6 rfl ?_
  refine V_icmp_eq (q := 1824) (q2 := 1822) dL_law_1819 (by decide) rfl ?_ ?_
  · refine V_iload dL_law_1824 rfl 6 rfl ?_
    refine V_if_ne (q := 1841) (q2 := 1829) dL_law_1826 (by decide) rfl ?_ ?_
    · exact V_sub [0, 1, 2, 3, 4, 5] rfl (v_L_law_1841 fu rc28 h28 l0 l1 l2 l3 l4 l5 M246 k n hb)
    · refine V_aload_n dL_law_1829 rfl 3 rfl ?_
      refine V_iconst (x := 0) dL_law_1830 rfl rfl ?_
      refine V_laload dL_law_1831 rfl (fun x248 => ?_)
      refine V_iload dL_law_1832 rfl 7 rfl ?_
      refine V_i2l dL_law_1834 rfl ?_
      refine V_lcmp dL_law_1835 rfl ?_
      refine V_if_eq (q := 1841) (q2 := 1839) dL_law_1836 (by decide) rfl ?_ ?_
      · exact V_sub [0, 1, 2, 3, 4, 5] rfl (v_L_law_1841 fu rc28 h28 l0 l1 l2 l3 l4 l5 M246 k n hb)
      · refine V_iconst (x := 0) dL_law_1839 rfl rfl ?_
        exact V_zret (v := false) dL_law_1840 rfl rfl (kb_le hb (Nat.le_of_ble_eq_true rfl) (Nat.le_of_ble_eq_true rfl))
  · refine V_iconst (x := 0) dL_law_1822 rfl rfl ?_
    exact V_zret (v := false) dL_law_1823 rfl rfl (kb_le hb (Nat.le_of_ble_eq_true rfl) (Nat.le_of_ble_eq_true rfl))
theorem v_L_law_1775 (fu : Nat) (rc28 : Nat → Nat → Nat → Nat → Nat → Int32 → Mem → Option (Bool × Mem)) (h28 : ∀ (l0 : Nat) (l1 : Nat) (l2 : Nat) (l3 : Nat) (l4 : Nat) (l5 : Int32) (M : Mem) (k n : Nat) (_ : kb 8 48 fu k n), V mi_L_law 28 [(0, .ref l0), (1, .ref l1), (2, .ref l2), (3, .ref l3), (4, .ref l4), (5, .int l5)] [] M k n (rc28 l0 l1 l2 l3 l4 l5 M) wZ) (l0 : Nat) (l1 : Nat) (l2 : Nat) (l3 : Nat) (l4 : Nat) (l5 : Int32) (s0 : Nat) (s1 : Int32) (s2 : Int32) (s3 : Bool) (M : Mem) (k n : Nat) (hb : kb 8 48 (fu + 1) k n) : V mi_L_law 1775 [(0, .ref l0), (1, .ref l1), (2, .ref l2), (3, .ref l3), (4, .ref l4), (5, .int l5)] [.int (b2i s3), .int s2, .int s1, .ref s0] M (k + 0) (n + 0) (f_L_law_1775 rc28 l0 l1 l2 l3 l4 l5 s0 s1 s2 s3 M) wZ := by
  unfold f_L_law_1775
  refine V_aload_n dL_law_1775 rfl 3 rfl ?_
  refine V_cSWI (k2 := k + 3) (n2 := n + 18) (As := [.ref s0, .int s1, .int s2, .int (b2i s3), .ref l3]) (k_L_select s0 s1 s2 s3 l3 M) ok_L_select sm_L_select ml_L_259 ⟨⟨(Nat.le_of_ble_eq_true rfl), (Nat.le_of_ble_eq_true rfl)⟩, kb_c (o := 0) (c := 3) hb (Nat.le_of_ble_eq_true rfl), kb_s (o := 0) (c := 18) hb (Nat.le_of_ble_eq_true rfl)⟩ dL_law_1776 rfl rfl rfl (Nat.le_of_ble_eq_true rfl) rfl rfl (fun x240 M241 => ?_)
  refine V_istore (L' := [(0, .ref l0), (1, .ref l1), (2, .ref l2), (3, .ref l3), (4, .ref l4), (5, .int l5), (6, .int x240)]) dL_law_1779 rfl (by decide) rfl ?_
  refine V_aload_n dL_law_1781 rfl 2 rfl ?_
  refine V_aload_n dL_law_1782 rfl 0 rfl ?_
  refine V_iload dL_law_1783 rfl 5 rfl ?_
  refine V_iconst (x := 1) dL_law_1785 rfl rfl ?_
  refine V_iadd dL_law_1786 rfl ?_
  refine V_sC dL_law_1787 rfl (fun x242 => ?_)
  refine V_aload_n dL_law_1788 rfl 0 rfl ?_
  refine V_iload dL_law_1789 rfl 5 rfl ?_
  refine V_iconst (x := 2) dL_law_1791 rfl rfl ?_
  refine V_iadd dL_law_1792 rfl ?_
  refine V_sC dL_law_1793 rfl (fun x243 => ?_)
  refine V_aload_n dL_law_1794 rfl 0 rfl ?_
  refine V_iload dL_law_1795 rfl 5 rfl ?_
  refine V_iconst (x := 3) dL_law_1797 rfl rfl ?_
  refine V_iadd dL_law_1798 rfl ?_
  refine V_sC dL_law_1799 rfl (fun x244 => ?_)
  refine V_if_eq (q := 1807) (q2 := 1803) dL_law_1800 (by decide) rfl ?_ ?_
  · refine V_iconst (x := 0) dL_law_1807 rfl rfl ?_
    exact v_L_law_1808 fu rc28 h28 l0 l1 l2 l3 l4 l5 x240 l2 x242 x243 false M241 k n hb
  · refine V_iconst (x := 1) dL_law_1803 rfl rfl ?_
    refine V_goto (q := 1808) dL_law_1804 (by decide) ?_
    exact v_L_law_1808 fu rc28 h28 l0 l1 l2 l3 l4 l5 x240 l2 x242 x243 true M241 k n hb
theorem v_L_law_1748 (fu : Nat) (rc28 : Nat → Nat → Nat → Nat → Nat → Int32 → Mem → Option (Bool × Mem)) (h28 : ∀ (l0 : Nat) (l1 : Nat) (l2 : Nat) (l3 : Nat) (l4 : Nat) (l5 : Int32) (M : Mem) (k n : Nat) (_ : kb 8 48 fu k n), V mi_L_law 28 [(0, .ref l0), (1, .ref l1), (2, .ref l2), (3, .ref l3), (4, .ref l4), (5, .int l5)] [] M k n (rc28 l0 l1 l2 l3 l4 l5 M) wZ) (l0 : Nat) (l1 : Nat) (l2 : Nat) (l3 : Nat) (l4 : Nat) (l5 : Int32) (M : Mem) (k n : Nat) (hb : kb 8 48 (fu + 1) k n) : V mi_L_law 1748 [(0, .ref l0), (1, .ref l1), (2, .ref l2), (3, .ref l3), (4, .ref l4), (5, .int l5)] [] M (k + 0) (n + 0) (f_L_law_1748 rc28 l0 l1 l2 l3 l4 l5 M) wZ := by
  unfold f_L_law_1748
  refine V_aload_n dL_law_1748 rfl 1 rfl ?_
  refine V_aload_n dL_law_1749 rfl 0 rfl ?_
  refine V_iload dL_law_1750 rfl 5 rfl ?_
  refine V_iconst (x := 1) dL_law_1752 rfl rfl ?_
  refine V_iadd dL_law_1753 rfl ?_
  refine V_sC dL_law_1754 rfl (fun x237 => ?_)
  refine V_aload_n dL_law_1755 rfl 0 rfl ?_
  refine V_iload dL_law_1756 rfl 5 rfl ?_
  refine V_iconst (x := 2) dL_law_1758 rfl rfl ?_
  refine V_iadd dL_law_1759 rfl ?_
  refine V_sC dL_law_1760 rfl (fun x238 => ?_)
  refine V_aload_n dL_law_1761 rfl 0 rfl ?_
  refine V_iload dL_law_1762 rfl 5 rfl ?_
  refine V_iconst (x := 3) dL_law_1764 rfl rfl ?_
  refine V_iadd dL_law_1765 rfl ?_
  refine V_sC dL_law_1766 rfl (fun x239 => ?_)
  refine V_if_eq (q := 1774) (q2 := 1770) dL_law_1767 (by decide) rfl ?_ ?_
  · refine V_iconst (x := 0) dL_law_1774 rfl rfl ?_
    exact v_L_law_1775 fu rc28 h28 l0 l1 l2 l3 l4 l5 l1 x237 x238 false M k n hb
  · refine V_iconst (x := 1) dL_law_1770 rfl rfl ?_
    refine V_goto (q := 1775) dL_law_1771 (by decide) ?_
    exact v_L_law_1775 fu rc28 h28 l0 l1 l2 l3 l4 l5 l1 x237 x238 true M k n hb
theorem v_L_law_1897 (fu : Nat) (rc28 : Nat → Nat → Nat → Nat → Nat → Int32 → Mem → Option (Bool × Mem)) (h28 : ∀ (l0 : Nat) (l1 : Nat) (l2 : Nat) (l3 : Nat) (l4 : Nat) (l5 : Int32) (M : Mem) (k n : Nat) (_ : kb 8 48 fu k n), V mi_L_law 28 [(0, .ref l0), (1, .ref l1), (2, .ref l2), (3, .ref l3), (4, .ref l4), (5, .int l5)] [] M k n (rc28 l0 l1 l2 l3 l4 l5 M) wZ) (l0 : Nat) (l1 : Nat) (l2 : Nat) (l3 : Nat) (l4 : Nat) (l5 : Int32) (M : Mem) (k n : Nat) (hb : kb 8 48 (fu + 1) k n) : V mi_L_law 1897 [(0, .ref l0), (1, .ref l1), (2, .ref l2), (3, .ref l3), (4, .ref l4), (5, .int l5)] [] M (k + 2) (n + 12) (f_L_law_1897 rc28 l0 l1 l2 l3 l4 l5 M) wZ := by
  unfold f_L_law_1897
  refine V_goto (q := 3275) dL_law_1897 (by decide) ?_
  exact (V_w (Nat.add_le_add_left (Nat.le_of_ble_eq_true rfl) _) (Nat.add_le_add_left (Nat.le_of_ble_eq_true rfl) _) (v_L_law_3275 fu rc28 h28 l0 l1 l2 l3 l4 l5 M k n hb))
theorem v_L_law_1844 (fu : Nat) (rc28 : Nat → Nat → Nat → Nat → Nat → Int32 → Mem → Option (Bool × Mem)) (h28 : ∀ (l0 : Nat) (l1 : Nat) (l2 : Nat) (l3 : Nat) (l4 : Nat) (l5 : Int32) (M : Mem) (k n : Nat) (_ : kb 8 48 fu k n), V mi_L_law 28 [(0, .ref l0), (1, .ref l1), (2, .ref l2), (3, .ref l3), (4, .ref l4), (5, .int l5)] [] M k n (rc28 l0 l1 l2 l3 l4 l5 M) wZ) (l0 : Nat) (l1 : Nat) (l2 : Nat) (l3 : Nat) (l4 : Nat) (l5 : Int32) (M : Mem) (k n : Nat) (hb : kb 8 48 (fu + 1) k n) : V mi_L_law 1844 [(0, .ref l0), (1, .ref l1), (2, .ref l2), (3, .ref l3), (4, .ref l4), (5, .int l5)] [] M (k + 0) (n + 0) (f_L_law_1844 rc28 l0 l1 l2 l3 l4 l5 M) wZ := by
  unfold f_L_law_1844
  refine V_aload_n dL_law_1844 rfl 1 rfl ?_
  refine V_aload_n dL_law_1845 rfl 0 rfl ?_
  refine V_iload dL_law_1846 rfl 5 rfl ?_
  refine V_iconst (x := 1) dL_law_1848 rfl rfl ?_
  refine V_iadd dL_law_1849 rfl ?_
  refine V_sC dL_law_1850 rfl (fun x249 => ?_)
  refine V_aload_n dL_law_1851 rfl 3 rfl ?_
  refine V_cSWI (k2 := k + 2) (n2 := n + 12) (As := [.ref l1, .int x249, .ref l3]) (k_L_noop l1 x249 l3 M) ok_L_noop sm_L_noop ml_L_263 ⟨⟨(Nat.le_of_ble_eq_true rfl), (Nat.le_of_ble_eq_true rfl)⟩, kb_c (o := 0) (c := 2) hb (Nat.le_of_ble_eq_true rfl), kb_s (o := 0) (c := 12) hb (Nat.le_of_ble_eq_true rfl)⟩ dL_law_1852 rfl rfl rfl (Nat.le_of_ble_eq_true rfl) rfl rfl (fun x250 M251 => ?_)
  refine V_istore (L' := [(0, .ref l0), (1, .ref l1), (2, .ref l2), (3, .ref l3), (4, .ref l4), (5, .int l5), (6, .int x250)]) dL_law_1855 rfl (by decide) rfl ?_
  refine V_aload_n dL_law_1857 rfl 2 rfl ?_
  refine V_aload_n dL_law_1858 rfl 0 rfl ?_
  refine V_iload dL_law_1859 rfl 5 rfl ?_
  refine V_iconst (x := 1) dL_law_1861 rfl rfl ?_
  refine V_iadd dL_law_1862 rfl ?_
  refine V_sC dL_law_1863 rfl (fun x252 => ?_)
  refine V_cVwI (k2 := k + 2) (n2 := n + 12) (As := [.int x252]) (k_X12_noop l2 x252 M251) (fun _ h => o_X12_noop h) ok_X12_noop im_X12_noop se_X12_noop rfl (ci := 11) rfl ml_L_265 ⟨⟨(Nat.le_of_ble_eq_true rfl), (Nat.le_of_ble_eq_true rfl)⟩, kb_c (o := 2) (c := 0) hb (Nat.le_of_ble_eq_true rfl), kb_s (o := 12) (c := 0) hb (Nat.le_of_ble_eq_true rfl)⟩ dL_law_1864 rfl rfl rfl (Nat.le_of_ble_eq_true rfl) rfl rfl (fun x253 M254 => ?_)
  refine V_istore (L' := [(0, .ref l0), (1, .ref l1), (2, .ref l2), (3, .ref l3), (4, .ref l4), (5, .int l5), (6, .int x250), (7, .int x253)]) dL_law_1867 rfl (by decide) rfl ?_
  refine V_aload_n dL_law_1869 rfl 2 rfl ?_
  refine V_cVeI (k2 := k + 2) (n2 := n + 12) (As := []) (k_X12_thrown l2 M254) (fun _ h => o_X12_thrown h) ok_X12_thrown im_X12_thrown se_X12_thrown rfl (ci := 11) rfl ml_L_167 ⟨⟨(Nat.le_of_ble_eq_true rfl), (Nat.le_of_ble_eq_true rfl)⟩, kb_c (o := 2) (c := 0) hb (Nat.le_of_ble_eq_true rfl), kb_s (o := 12) (c := 0) hb (Nat.le_of_ble_eq_true rfl)⟩ dL_law_1870 rfl rfl rfl (Nat.le_of_ble_eq_true rfl) rfl rfl (fun x255 => ?_)
  refine V_iload dL_law_1873 rfl 6 rfl ?_
  refine V_icmp_eq (q := 1880) (q2 := 1878) dL_law_1875 (by decide) rfl ?_ ?_
  · refine V_iload dL_law_1880 rfl 6 rfl ?_
    refine V_if_ne (q := 1897) (q2 := 1885) dL_law_1882 (by decide) rfl ?_ ?_
    · exact V_sub [0, 1, 2, 3, 4, 5] rfl (v_L_law_1897 fu rc28 h28 l0 l1 l2 l3 l4 l5 M254 k n hb)
    · refine V_aload_n dL_law_1885 rfl 3 rfl ?_
      refine V_iconst (x := 0) dL_law_1886 rfl rfl ?_
      refine V_laload dL_law_1887 rfl (fun x256 => ?_)
      refine V_iload dL_law_1888 rfl 7 rfl ?_
      refine V_i2l dL_law_1890 rfl ?_
      refine V_lcmp dL_law_1891 rfl ?_
      refine V_if_eq (q := 1897) (q2 := 1895) dL_law_1892 (by decide) rfl ?_ ?_
      · exact V_sub [0, 1, 2, 3, 4, 5] rfl (v_L_law_1897 fu rc28 h28 l0 l1 l2 l3 l4 l5 M254 k n hb)
      · refine V_iconst (x := 0) dL_law_1895 rfl rfl ?_
        exact V_zret (v := false) dL_law_1896 rfl rfl (kb_le hb (Nat.le_of_ble_eq_true rfl) (Nat.le_of_ble_eq_true rfl))
  · refine V_iconst (x := 0) dL_law_1878 rfl rfl ?_
    exact V_zret (v := false) dL_law_1879 rfl rfl (kb_le hb (Nat.le_of_ble_eq_true rfl) (Nat.le_of_ble_eq_true rfl))
theorem v_L_law_1953 (fu : Nat) (rc28 : Nat → Nat → Nat → Nat → Nat → Int32 → Mem → Option (Bool × Mem)) (h28 : ∀ (l0 : Nat) (l1 : Nat) (l2 : Nat) (l3 : Nat) (l4 : Nat) (l5 : Int32) (M : Mem) (k n : Nat) (_ : kb 8 48 fu k n), V mi_L_law 28 [(0, .ref l0), (1, .ref l1), (2, .ref l2), (3, .ref l3), (4, .ref l4), (5, .int l5)] [] M k n (rc28 l0 l1 l2 l3 l4 l5 M) wZ) (l0 : Nat) (l1 : Nat) (l2 : Nat) (l3 : Nat) (l4 : Nat) (l5 : Int32) (M : Mem) (k n : Nat) (hb : kb 8 48 (fu + 1) k n) : V mi_L_law 1953 [(0, .ref l0), (1, .ref l1), (2, .ref l2), (3, .ref l3), (4, .ref l4), (5, .int l5)] [] M (k + 2) (n + 12) (f_L_law_1953 rc28 l0 l1 l2 l3 l4 l5 M) wZ := by
  unfold f_L_law_1953
  refine V_goto (q := 3275) dL_law_1953 (by decide) ?_
  exact (V_w (Nat.add_le_add_left (Nat.le_of_ble_eq_true rfl) _) (Nat.add_le_add_left (Nat.le_of_ble_eq_true rfl) _) (v_L_law_3275 fu rc28 h28 l0 l1 l2 l3 l4 l5 M k n hb))
theorem v_L_law_1900 (fu : Nat) (rc28 : Nat → Nat → Nat → Nat → Nat → Int32 → Mem → Option (Bool × Mem)) (h28 : ∀ (l0 : Nat) (l1 : Nat) (l2 : Nat) (l3 : Nat) (l4 : Nat) (l5 : Int32) (M : Mem) (k n : Nat) (_ : kb 8 48 fu k n), V mi_L_law 28 [(0, .ref l0), (1, .ref l1), (2, .ref l2), (3, .ref l3), (4, .ref l4), (5, .int l5)] [] M k n (rc28 l0 l1 l2 l3 l4 l5 M) wZ) (l0 : Nat) (l1 : Nat) (l2 : Nat) (l3 : Nat) (l4 : Nat) (l5 : Int32) (M : Mem) (k n : Nat) (hb : kb 8 48 (fu + 1) k n) : V mi_L_law 1900 [(0, .ref l0), (1, .ref l1), (2, .ref l2), (3, .ref l3), (4, .ref l4), (5, .int l5)] [] M (k + 0) (n + 0) (f_L_law_1900 rc28 l0 l1 l2 l3 l4 l5 M) wZ := by
  unfold f_L_law_1900
  refine V_aload_n dL_law_1900 rfl 1 rfl ?_
  refine V_aload_n dL_law_1901 rfl 0 rfl ?_
  refine V_iload dL_law_1902 rfl 5 rfl ?_
  refine V_iconst (x := 1) dL_law_1904 rfl rfl ?_
  refine V_iadd dL_law_1905 rfl ?_
  refine V_sC dL_law_1906 rfl (fun x257 => ?_)
  refine V_aload_n dL_law_1907 rfl 3 rfl ?_
  refine V_cSWI (k2 := k + 2) (n2 := n + 12) (As := [.ref l1, .int x257, .ref l3]) (k_L_startIdle l1 x257 l3 M) ok_L_startIdle sm_L_startIdle ml_L_266 ⟨⟨(Nat.le_of_ble_eq_true rfl), (Nat.le_of_ble_eq_true rfl)⟩, kb_c (o := 0) (c := 2) hb (Nat.le_of_ble_eq_true rfl), kb_s (o := 0) (c := 12) hb (Nat.le_of_ble_eq_true rfl)⟩ dL_law_1908 rfl rfl rfl (Nat.le_of_ble_eq_true rfl) rfl rfl (fun x258 M259 => ?_)
  refine V_istore (L' := [(0, .ref l0), (1, .ref l1), (2, .ref l2), (3, .ref l3), (4, .ref l4), (5, .int l5), (6, .int x258)]) dL_law_1911 rfl (by decide) rfl ?_
  refine V_aload_n dL_law_1913 rfl 2 rfl ?_
  refine V_aload_n dL_law_1914 rfl 0 rfl ?_
  refine V_iload dL_law_1915 rfl 5 rfl ?_
  refine V_iconst (x := 1) dL_law_1917 rfl rfl ?_
  refine V_iadd dL_law_1918 rfl ?_
  refine V_sC dL_law_1919 rfl (fun x260 => ?_)
  refine V_cVwI (k2 := k + 2) (n2 := n + 12) (As := [.int x260]) (k_X12_startIdle l2 x260 M259) (fun _ h => o_X12_startIdle h) ok_X12_startIdle im_X12_startIdle se_X12_startIdle rfl (ci := 11) rfl ml_L_268 ⟨⟨(Nat.le_of_ble_eq_true rfl), (Nat.le_of_ble_eq_true rfl)⟩, kb_c (o := 2) (c := 0) hb (Nat.le_of_ble_eq_true rfl), kb_s (o := 12) (c := 0) hb (Nat.le_of_ble_eq_true rfl)⟩ dL_law_1920 rfl rfl rfl (Nat.le_of_ble_eq_true rfl) rfl rfl (fun x261 M262 => ?_)
  refine V_istore (L' := [(0, .ref l0), (1, .ref l1), (2, .ref l2), (3, .ref l3), (4, .ref l4), (5, .int l5), (6, .int x258), (7, .int x261)]) dL_law_1923 rfl (by decide) rfl ?_
  refine V_aload_n dL_law_1925 rfl 2 rfl ?_
  refine V_cVeI (k2 := k + 2) (n2 := n + 12) (As := []) (k_X12_thrown l2 M262) (fun _ h => o_X12_thrown h) ok_X12_thrown im_X12_thrown se_X12_thrown rfl (ci := 11) rfl ml_L_167 ⟨⟨(Nat.le_of_ble_eq_true rfl), (Nat.le_of_ble_eq_true rfl)⟩, kb_c (o := 2) (c := 0) hb (Nat.le_of_ble_eq_true rfl), kb_s (o := 12) (c := 0) hb (Nat.le_of_ble_eq_true rfl)⟩ dL_law_1926 rfl rfl rfl (Nat.le_of_ble_eq_true rfl) rfl rfl (fun x263 => ?_)
  refine V_iload dL_law_1929 rfl 6 rfl ?_
  refine V_icmp_eq (q := 1936) (q2 := 1934) dL_law_1931 (by decide) rfl ?_ ?_
  · refine V_iload dL_law_1936 rfl 6 rfl ?_
    refine V_if_ne (q := 1953) (q2 := 1941) dL_law_1938 (by decide) rfl ?_ ?_
    · exact V_sub [0, 1, 2, 3, 4, 5] rfl (v_L_law_1953 fu rc28 h28 l0 l1 l2 l3 l4 l5 M262 k n hb)
    · refine V_aload_n dL_law_1941 rfl 3 rfl ?_
      refine V_iconst (x := 0) dL_law_1942 rfl rfl ?_
      refine V_laload dL_law_1943 rfl (fun x264 => ?_)
      refine V_iload dL_law_1944 rfl 7 rfl ?_
      refine V_i2l dL_law_1946 rfl ?_
      refine V_lcmp dL_law_1947 rfl ?_
      refine V_if_eq (q := 1953) (q2 := 1951) dL_law_1948 (by decide) rfl ?_ ?_
      · exact V_sub [0, 1, 2, 3, 4, 5] rfl (v_L_law_1953 fu rc28 h28 l0 l1 l2 l3 l4 l5 M262 k n hb)
      · refine V_iconst (x := 0) dL_law_1951 rfl rfl ?_
        exact V_zret (v := false) dL_law_1952 rfl rfl (kb_le hb (Nat.le_of_ble_eq_true rfl) (Nat.le_of_ble_eq_true rfl))
  · refine V_iconst (x := 0) dL_law_1934 rfl rfl ?_
    exact V_zret (v := false) dL_law_1935 rfl rfl (kb_le hb (Nat.le_of_ble_eq_true rfl) (Nat.le_of_ble_eq_true rfl))
theorem v_L_law_2009 (fu : Nat) (rc28 : Nat → Nat → Nat → Nat → Nat → Int32 → Mem → Option (Bool × Mem)) (h28 : ∀ (l0 : Nat) (l1 : Nat) (l2 : Nat) (l3 : Nat) (l4 : Nat) (l5 : Int32) (M : Mem) (k n : Nat) (_ : kb 8 48 fu k n), V mi_L_law 28 [(0, .ref l0), (1, .ref l1), (2, .ref l2), (3, .ref l3), (4, .ref l4), (5, .int l5)] [] M k n (rc28 l0 l1 l2 l3 l4 l5 M) wZ) (l0 : Nat) (l1 : Nat) (l2 : Nat) (l3 : Nat) (l4 : Nat) (l5 : Int32) (M : Mem) (k n : Nat) (hb : kb 8 48 (fu + 1) k n) : V mi_L_law 2009 [(0, .ref l0), (1, .ref l1), (2, .ref l2), (3, .ref l3), (4, .ref l4), (5, .int l5)] [] M (k + 2) (n + 12) (f_L_law_2009 rc28 l0 l1 l2 l3 l4 l5 M) wZ := by
  unfold f_L_law_2009
  refine V_goto (q := 3275) dL_law_2009 (by decide) ?_
  exact (V_w (Nat.add_le_add_left (Nat.le_of_ble_eq_true rfl) _) (Nat.add_le_add_left (Nat.le_of_ble_eq_true rfl) _) (v_L_law_3275 fu rc28 h28 l0 l1 l2 l3 l4 l5 M k n hb))
theorem v_L_law_1956 (fu : Nat) (rc28 : Nat → Nat → Nat → Nat → Nat → Int32 → Mem → Option (Bool × Mem)) (h28 : ∀ (l0 : Nat) (l1 : Nat) (l2 : Nat) (l3 : Nat) (l4 : Nat) (l5 : Int32) (M : Mem) (k n : Nat) (_ : kb 8 48 fu k n), V mi_L_law 28 [(0, .ref l0), (1, .ref l1), (2, .ref l2), (3, .ref l3), (4, .ref l4), (5, .int l5)] [] M k n (rc28 l0 l1 l2 l3 l4 l5 M) wZ) (l0 : Nat) (l1 : Nat) (l2 : Nat) (l3 : Nat) (l4 : Nat) (l5 : Int32) (M : Mem) (k n : Nat) (hb : kb 8 48 (fu + 1) k n) : V mi_L_law 1956 [(0, .ref l0), (1, .ref l1), (2, .ref l2), (3, .ref l3), (4, .ref l4), (5, .int l5)] [] M (k + 0) (n + 0) (f_L_law_1956 rc28 l0 l1 l2 l3 l4 l5 M) wZ := by
  unfold f_L_law_1956
  refine V_aload_n dL_law_1956 rfl 1 rfl ?_
  refine V_aload_n dL_law_1957 rfl 0 rfl ?_
  refine V_iload dL_law_1958 rfl 5 rfl ?_
  refine V_iconst (x := 1) dL_law_1960 rfl rfl ?_
  refine V_iadd dL_law_1961 rfl ?_
  refine V_sC dL_law_1962 rfl (fun x265 => ?_)
  refine V_aload_n dL_law_1963 rfl 3 rfl ?_
  refine V_cSWI (k2 := k + 2) (n2 := n + 12) (As := [.ref l1, .int x265, .ref l3]) (k_L_stopIdle l1 x265 l3 M) ok_L_stopIdle sm_L_stopIdle ml_L_269 ⟨⟨(Nat.le_of_ble_eq_true rfl), (Nat.le_of_ble_eq_true rfl)⟩, kb_c (o := 0) (c := 2) hb (Nat.le_of_ble_eq_true rfl), kb_s (o := 0) (c := 12) hb (Nat.le_of_ble_eq_true rfl)⟩ dL_law_1964 rfl rfl rfl (Nat.le_of_ble_eq_true rfl) rfl rfl (fun x266 M267 => ?_)
  refine V_istore (L' := [(0, .ref l0), (1, .ref l1), (2, .ref l2), (3, .ref l3), (4, .ref l4), (5, .int l5), (6, .int x266)]) dL_law_1967 rfl (by decide) rfl ?_
  refine V_aload_n dL_law_1969 rfl 2 rfl ?_
  refine V_aload_n dL_law_1970 rfl 0 rfl ?_
  refine V_iload dL_law_1971 rfl 5 rfl ?_
  refine V_iconst (x := 1) dL_law_1973 rfl rfl ?_
  refine V_iadd dL_law_1974 rfl ?_
  refine V_sC dL_law_1975 rfl (fun x268 => ?_)
  refine V_cVwI (k2 := k + 2) (n2 := n + 12) (As := [.int x268]) (k_X12_stopIdle l2 x268 M267) (fun _ h => o_X12_stopIdle h) ok_X12_stopIdle im_X12_stopIdle se_X12_stopIdle rfl (ci := 11) rfl ml_L_271 ⟨⟨(Nat.le_of_ble_eq_true rfl), (Nat.le_of_ble_eq_true rfl)⟩, kb_c (o := 2) (c := 0) hb (Nat.le_of_ble_eq_true rfl), kb_s (o := 12) (c := 0) hb (Nat.le_of_ble_eq_true rfl)⟩ dL_law_1976 rfl rfl rfl (Nat.le_of_ble_eq_true rfl) rfl rfl (fun x269 M270 => ?_)
  refine V_istore (L' := [(0, .ref l0), (1, .ref l1), (2, .ref l2), (3, .ref l3), (4, .ref l4), (5, .int l5), (6, .int x266), (7, .int x269)]) dL_law_1979 rfl (by decide) rfl ?_
  refine V_aload_n dL_law_1981 rfl 2 rfl ?_
  refine V_cVeI (k2 := k + 2) (n2 := n + 12) (As := []) (k_X12_thrown l2 M270) (fun _ h => o_X12_thrown h) ok_X12_thrown im_X12_thrown se_X12_thrown rfl (ci := 11) rfl ml_L_167 ⟨⟨(Nat.le_of_ble_eq_true rfl), (Nat.le_of_ble_eq_true rfl)⟩, kb_c (o := 2) (c := 0) hb (Nat.le_of_ble_eq_true rfl), kb_s (o := 12) (c := 0) hb (Nat.le_of_ble_eq_true rfl)⟩ dL_law_1982 rfl rfl rfl (Nat.le_of_ble_eq_true rfl) rfl rfl (fun x271 => ?_)
  refine V_iload dL_law_1985 rfl 6 rfl ?_
  refine V_icmp_eq (q := 1992) (q2 := 1990) dL_law_1987 (by decide) rfl ?_ ?_
  · refine V_iload dL_law_1992 rfl 6 rfl ?_
    refine V_if_ne (q := 2009) (q2 := 1997) dL_law_1994 (by decide) rfl ?_ ?_
    · exact V_sub [0, 1, 2, 3, 4, 5] rfl (v_L_law_2009 fu rc28 h28 l0 l1 l2 l3 l4 l5 M270 k n hb)
    · refine V_aload_n dL_law_1997 rfl 3 rfl ?_
      refine V_iconst (x := 0) dL_law_1998 rfl rfl ?_
      refine V_laload dL_law_1999 rfl (fun x272 => ?_)
      refine V_iload dL_law_2000 rfl 7 rfl ?_
      refine V_i2l dL_law_2002 rfl ?_
      refine V_lcmp dL_law_2003 rfl ?_
      refine V_if_eq (q := 2009) (q2 := 2007) dL_law_2004 (by decide) rfl ?_ ?_
      · exact V_sub [0, 1, 2, 3, 4, 5] rfl (v_L_law_2009 fu rc28 h28 l0 l1 l2 l3 l4 l5 M270 k n hb)
      · refine V_iconst (x := 0) dL_law_2007 rfl rfl ?_
        exact V_zret (v := false) dL_law_2008 rfl rfl (kb_le hb (Nat.le_of_ble_eq_true rfl) (Nat.le_of_ble_eq_true rfl))
  · refine V_iconst (x := 0) dL_law_1990 rfl rfl ?_
    exact V_zret (v := false) dL_law_1991 rfl rfl (kb_le hb (Nat.le_of_ble_eq_true rfl) (Nat.le_of_ble_eq_true rfl))
theorem v_L_law_2117 (fu : Nat) (rc28 : Nat → Nat → Nat → Nat → Nat → Int32 → Mem → Option (Bool × Mem)) (h28 : ∀ (l0 : Nat) (l1 : Nat) (l2 : Nat) (l3 : Nat) (l4 : Nat) (l5 : Int32) (M : Mem) (k n : Nat) (_ : kb 8 48 fu k n), V mi_L_law 28 [(0, .ref l0), (1, .ref l1), (2, .ref l2), (3, .ref l3), (4, .ref l4), (5, .int l5)] [] M k n (rc28 l0 l1 l2 l3 l4 l5 M) wZ) (l0 : Nat) (l1 : Nat) (l2 : Nat) (l3 : Nat) (l4 : Nat) (l5 : Int32) (M : Mem) (k n : Nat) (hb : kb 8 48 (fu + 1) k n) : V mi_L_law 2117 [(0, .ref l0), (1, .ref l1), (2, .ref l2), (3, .ref l3), (4, .ref l4), (5, .int l5)] [] M (k + 5) (n + 30) (f_L_law_2117 rc28 l0 l1 l2 l3 l4 l5 M) wZ := by
  unfold f_L_law_2117
  refine V_goto (q := 3275) dL_law_2117 (by decide) ?_
  exact (V_w (Nat.add_le_add_left (Nat.le_of_ble_eq_true rfl) _) (Nat.add_le_add_left (Nat.le_of_ble_eq_true rfl) _) (v_L_law_3275 fu rc28 h28 l0 l1 l2 l3 l4 l5 M k n hb))
theorem v_L_law_2084 (fu : Nat) (rc28 : Nat → Nat → Nat → Nat → Nat → Int32 → Mem → Option (Bool × Mem)) (h28 : ∀ (l0 : Nat) (l1 : Nat) (l2 : Nat) (l3 : Nat) (l4 : Nat) (l5 : Int32) (M : Mem) (k n : Nat) (_ : kb 8 48 fu k n), V mi_L_law 28 [(0, .ref l0), (1, .ref l1), (2, .ref l2), (3, .ref l3), (4, .ref l4), (5, .int l5)] [] M k n (rc28 l0 l1 l2 l3 l4 l5 M) wZ) (l0 : Nat) (l1 : Nat) (l2 : Nat) (l3 : Nat) (l4 : Nat) (l5 : Int32) (l6 : Int32) (s0 : Nat) (s1 : Int32) (s2 : Int32) (s3 : Int32) (s4 : Bool) (M : Mem) (k n : Nat) (hb : kb 8 48 (fu + 1) k n) : V mi_L_law 2084 [(0, .ref l0), (1, .ref l1), (2, .ref l2), (3, .ref l3), (4, .ref l4), (5, .int l5), (6, .int l6)] [.int (b2i s4), .int s3, .int s2, .int s1, .ref s0] M (k + 5) (n + 30) (f_L_law_2084 rc28 l0 l1 l2 l3 l4 l5 l6 s0 s1 s2 s3 s4 M) wZ := by
  unfold f_L_law_2084
  refine V_cVwI (k2 := k + 5) (n2 := n + 30) (As := [.int s1, .int s2, .int s3, .int (b2i s4)]) (k_X12_fetch s0 s1 s2 s3 s4 M) (fun _ h => o_X12_fetch h) ok_X12_fetch im_X12_fetch se_X12_fetch rfl (ci := 11) rfl ml_L_275 ⟨⟨(Nat.le_of_ble_eq_true rfl), (Nat.le_of_ble_eq_true rfl)⟩, kb_c (o := 5) (c := 0) hb (Nat.le_of_ble_eq_true rfl), kb_s (o := 30) (c := 0) hb (Nat.le_of_ble_eq_true rfl)⟩ dL_law_2084 rfl rfl rfl (Nat.le_of_ble_eq_true rfl) rfl rfl (fun x283 M284 => ?_)
  refine V_istore (L' := [(0, .ref l0), (1, .ref l1), (2, .ref l2), (3, .ref l3), (4, .ref l4), (5, .int l5), (6, .int l6), (7, .int x283)]) dL_law_2087 rfl (by decide) rfl ?_
  refine V_aload_n dL_law_2089 rfl 2 rfl ?_
  refine V_cVeI (k2 := k + 5) (n2 := n + 30) (As := []) (k_X12_thrown l2 M284) (fun _ h => o_X12_thrown h) ok_X12_thrown im_X12_thrown se_X12_thrown rfl (ci := 11) rfl ml_L_167 ⟨⟨(Nat.le_of_ble_eq_true rfl), (Nat.le_of_ble_eq_true rfl)⟩, kb_c (o := 5) (c := 0) hb (Nat.le_of_ble_eq_true rfl), kb_s (o := 30) (c := 0) hb (Nat.le_of_ble_eq_true rfl)⟩ dL_law_2090 rfl rfl rfl (Nat.le_of_ble_eq_true rfl) rfl rfl (fun x285 => ?_)
  refine V_iload dL_law_2093 rfl 6 rfl ?_
  refine V_icmp_eq (q := 2100) (q2 := 2098) dL_law_2095 (by decide) rfl ?_ ?_
  · refine V_iload dL_law_2100 rfl 6 rfl ?_
    refine V_if_ne (q := 2117) (q2 := 2105) dL_law_2102 (by decide) rfl ?_ ?_
    · exact V_sub [0, 1, 2, 3, 4, 5] rfl (v_L_law_2117 fu rc28 h28 l0 l1 l2 l3 l4 l5 M284 k n hb)
    · refine V_aload_n dL_law_2105 rfl 3 rfl ?_
      refine V_iconst (x := 0) dL_law_2106 rfl rfl ?_
      refine V_laload dL_law_2107 rfl (fun x286 => ?_)
      refine V_iload dL_law_2108 rfl 7 rfl ?_
      refine V_i2l dL_law_2110 rfl ?_
      refine V_lcmp dL_law_2111 rfl ?_
      refine V_if_eq (q := 2117) (q2 := 2115) dL_law_2112 (by decide) rfl ?_ ?_
      · exact V_sub [0, 1, 2, 3, 4, 5] rfl (v_L_law_2117 fu rc28 h28 l0 l1 l2 l3 l4 l5 M284 k n hb)
      · refine V_iconst (x := 0) dL_law_2115 rfl rfl ?_
        exact V_zret (v := false) dL_law_2116 rfl rfl (kb_le hb (Nat.le_of_ble_eq_true rfl) (Nat.le_of_ble_eq_true rfl))
  · refine V_iconst (x := 0) dL_law_2098 rfl rfl ?_
    exact V_zret (v := false) dL_law_2099 rfl rfl (kb_le hb (Nat.le_of_ble_eq_true rfl) (Nat.le_of_ble_eq_true rfl))
theorem v_L_law_2045 (fu : Nat) (rc28 : Nat → Nat → Nat → Nat → Nat → Int32 → Mem → Option (Bool × Mem)) (h28 : ∀ (l0 : Nat) (l1 : Nat) (l2 : Nat) (l3 : Nat) (l4 : Nat) (l5 : Int32) (M : Mem) (k n : Nat) (_ : kb 8 48 fu k n), V mi_L_law 28 [(0, .ref l0), (1, .ref l1), (2, .ref l2), (3, .ref l3), (4, .ref l4), (5, .int l5)] [] M k n (rc28 l0 l1 l2 l3 l4 l5 M) wZ) (l0 : Nat) (l1 : Nat) (l2 : Nat) (l3 : Nat) (l4 : Nat) (l5 : Int32) (s0 : Nat) (s1 : Int32) (s2 : Int32) (s3 : Int32) (s4 : Bool) (M : Mem) (k n : Nat) (hb : kb 8 48 (fu + 1) k n) : V mi_L_law 2045 [(0, .ref l0), (1, .ref l1), (2, .ref l2), (3, .ref l3), (4, .ref l4), (5, .int l5)] [.int (b2i s4), .int s3, .int s2, .int s1, .ref s0] M (k + 0) (n + 0) (f_L_law_2045 rc28 l0 l1 l2 l3 l4 l5 s0 s1 s2 s3 s4 M) wZ := by
  unfold f_L_law_2045
  refine V_aload_n dL_law_2045 rfl 3 rfl ?_
  refine V_cSWI (k2 := k + 5) (n2 := n + 30) (As := [.ref s0, .int s1, .int s2, .int s3, .int (b2i s4), .ref l3]) (k_L_fetch s0 s1 s2 s3 s4 l3 M) ok_L_fetch sm_L_fetch ml_L_272 ⟨⟨(Nat.le_of_ble_eq_true rfl), (Nat.le_of_ble_eq_true rfl)⟩, kb_c (o := 0) (c := 5) hb (Nat.le_of_ble_eq_true rfl), kb_s (o := 0) (c := 30) hb (Nat.le_of_ble_eq_true rfl)⟩ dL_law_2046 rfl rfl rfl (Nat.le_of_ble_eq_true rfl) rfl rfl (fun x277 M278 => ?_)
  refine V_istore (L' := [(0, .ref l0), (1, .ref l1), (2, .ref l2), (3, .ref l3), (4, .ref l4), (5, .int l5), (6, .int x277)]) dL_law_2049 rfl (by decide) rfl ?_
  refine V_aload_n dL_law_2051 rfl 2 rfl ?_
  refine V_aload_n dL_law_2052 rfl 0 rfl ?_
  refine V_iload dL_law_2053 rfl 5 rfl ?_
  refine V_iconst (x := 1) dL_law_2055 rfl rfl ?_
  refine V_iadd dL_law_2056 rfl ?_
  refine V_sC dL_law_2057 rfl (fun x279 => ?_)
  refine V_aload_n dL_law_2058 rfl 0 rfl ?_
  refine V_iload dL_law_2059 rfl 5 rfl ?_
  refine V_iconst (x := 2) dL_law_2061 rfl rfl ?_
  refine V_iadd dL_law_2062 rfl ?_
  refine V_sC dL_law_2063 rfl (fun x280 => ?_)
  refine V_aload_n dL_law_2064 rfl 0 rfl ?_
  refine V_iload dL_law_2065 rfl 5 rfl ?_
  refine V_iconst (x := 3) dL_law_2067 rfl rfl ?_
  refine V_iadd dL_law_2068 rfl ?_
  refine V_sC dL_law_2069 rfl (fun x281 => ?_)
  refine V_aload_n dL_law_2070 rfl 0 rfl ?_
  refine V_iload dL_law_2071 rfl 5 rfl ?_
  refine V_iconst (x := 4) dL_law_2073 rfl rfl ?_
  refine V_iadd dL_law_2074 rfl ?_
  refine V_sC dL_law_2075 rfl (fun x282 => ?_)
  refine V_if_eq (q := 2083) (q2 := 2079) dL_law_2076 (by decide) rfl ?_ ?_
  · refine V_iconst (x := 0) dL_law_2083 rfl rfl ?_
    exact v_L_law_2084 fu rc28 h28 l0 l1 l2 l3 l4 l5 x277 l2 x279 x280 x281 false M278 k n hb
  · refine V_iconst (x := 1) dL_law_2079 rfl rfl ?_
    refine V_goto (q := 2084) dL_law_2080 (by decide) ?_
    exact v_L_law_2084 fu rc28 h28 l0 l1 l2 l3 l4 l5 x277 l2 x279 x280 x281 true M278 k n hb
theorem v_L_law_2012 (fu : Nat) (rc28 : Nat → Nat → Nat → Nat → Nat → Int32 → Mem → Option (Bool × Mem)) (h28 : ∀ (l0 : Nat) (l1 : Nat) (l2 : Nat) (l3 : Nat) (l4 : Nat) (l5 : Int32) (M : Mem) (k n : Nat) (_ : kb 8 48 fu k n), V mi_L_law 28 [(0, .ref l0), (1, .ref l1), (2, .ref l2), (3, .ref l3), (4, .ref l4), (5, .int l5)] [] M k n (rc28 l0 l1 l2 l3 l4 l5 M) wZ) (l0 : Nat) (l1 : Nat) (l2 : Nat) (l3 : Nat) (l4 : Nat) (l5 : Int32) (M : Mem) (k n : Nat) (hb : kb 8 48 (fu + 1) k n) : V mi_L_law 2012 [(0, .ref l0), (1, .ref l1), (2, .ref l2), (3, .ref l3), (4, .ref l4), (5, .int l5)] [] M (k + 0) (n + 0) (f_L_law_2012 rc28 l0 l1 l2 l3 l4 l5 M) wZ := by
  unfold f_L_law_2012
  refine V_aload_n dL_law_2012 rfl 1 rfl ?_
  refine V_aload_n dL_law_2013 rfl 0 rfl ?_
  refine V_iload dL_law_2014 rfl 5 rfl ?_
  refine V_iconst (x := 1) dL_law_2016 rfl rfl ?_
  refine V_iadd dL_law_2017 rfl ?_
  refine V_sC dL_law_2018 rfl (fun x273 => ?_)
  refine V_aload_n dL_law_2019 rfl 0 rfl ?_
  refine V_iload dL_law_2020 rfl 5 rfl ?_
  refine V_iconst (x := 2) dL_law_2022 rfl rfl ?_
  refine V_iadd dL_law_2023 rfl ?_
  refine V_sC dL_law_2024 rfl (fun x274 => ?_)
  refine V_aload_n dL_law_2025 rfl 0 rfl ?_
  refine V_iload dL_law_2026 rfl 5 rfl ?_
  refine V_iconst (x := 3) dL_law_2028 rfl rfl ?_
  refine V_iadd dL_law_2029 rfl ?_
  refine V_sC dL_law_2030 rfl (fun x275 => ?_)
  refine V_aload_n dL_law_2031 rfl 0 rfl ?_
  refine V_iload dL_law_2032 rfl 5 rfl ?_
  refine V_iconst (x := 4) dL_law_2034 rfl rfl ?_
  refine V_iadd dL_law_2035 rfl ?_
  refine V_sC dL_law_2036 rfl (fun x276 => ?_)
  refine V_if_eq (q := 2044) (q2 := 2040) dL_law_2037 (by decide) rfl ?_ ?_
  · refine V_iconst (x := 0) dL_law_2044 rfl rfl ?_
    exact v_L_law_2045 fu rc28 h28 l0 l1 l2 l3 l4 l5 l1 x273 x274 x275 false M k n hb
  · refine V_iconst (x := 1) dL_law_2040 rfl rfl ?_
    refine V_goto (q := 2045) dL_law_2041 (by decide) ?_
    exact v_L_law_2045 fu rc28 h28 l0 l1 l2 l3 l4 l5 l1 x273 x274 x275 true M k n hb
theorem v_L_law_2251 (fu : Nat) (rc28 : Nat → Nat → Nat → Nat → Nat → Int32 → Mem → Option (Bool × Mem)) (h28 : ∀ (l0 : Nat) (l1 : Nat) (l2 : Nat) (l3 : Nat) (l4 : Nat) (l5 : Int32) (M : Mem) (k n : Nat) (_ : kb 8 48 fu k n), V mi_L_law 28 [(0, .ref l0), (1, .ref l1), (2, .ref l2), (3, .ref l3), (4, .ref l4), (5, .int l5)] [] M k n (rc28 l0 l1 l2 l3 l4 l5 M) wZ) (l0 : Nat) (l1 : Nat) (l2 : Nat) (l3 : Nat) (l4 : Nat) (l5 : Int32) (M : Mem) (k n : Nat) (hb : kb 8 48 (fu + 1) k n) : V mi_L_law 2251 [(0, .ref l0), (1, .ref l1), (2, .ref l2), (3, .ref l3), (4, .ref l4), (5, .int l5)] [] M (k + 7) (n + 42) (f_L_law_2251 rc28 l0 l1 l2 l3 l4 l5 M) wZ := by
  unfold f_L_law_2251
  refine V_goto (q := 3275) dL_law_2251 (by decide) ?_
  exact (V_w (Nat.add_le_add_left (Nat.le_of_ble_eq_true rfl) _) (Nat.add_le_add_left (Nat.le_of_ble_eq_true rfl) _) (v_L_law_3275 fu rc28 h28 l0 l1 l2 l3 l4 l5 M k n hb))
theorem v_L_law_2218 (fu : Nat) (rc28 : Nat → Nat → Nat → Nat → Nat → Int32 → Mem → Option (Bool × Mem)) (h28 : ∀ (l0 : Nat) (l1 : Nat) (l2 : Nat) (l3 : Nat) (l4 : Nat) (l5 : Int32) (M : Mem) (k n : Nat) (_ : kb 8 48 fu k n), V mi_L_law 28 [(0, .ref l0), (1, .ref l1), (2, .ref l2), (3, .ref l3), (4, .ref l4), (5, .int l5)] [] M k n (rc28 l0 l1 l2 l3 l4 l5 M) wZ) (l0 : Nat) (l1 : Nat) (l2 : Nat) (l3 : Nat) (l4 : Nat) (l5 : Int32) (l6 : Int32) (s0 : Nat) (s1 : Int32) (s2 : Int32) (s3 : Int32) (s4 : Int32) (s5 : Int32) (s6 : Bool) (M : Mem) (k n : Nat) (hb : kb 8 48 (fu + 1) k n) : V mi_L_law 2218 [(0, .ref l0), (1, .ref l1), (2, .ref l2), (3, .ref l3), (4, .ref l4), (5, .int l5), (6, .int l6)] [.int (b2i s6), .int s5, .int s4, .int s3, .int s2, .int s1, .ref s0] M (k + 7) (n + 42) (f_L_law_2218 rc28 l0 l1 l2 l3 l4 l5 l6 s0 s1 s2 s3 s4 s5 s6 M) wZ := by
  unfold f_L_law_2218
  refine V_cVwI (k2 := k + 7) (n2 := n + 42) (As := [.int s1, .int s2, .int s3, .int s4, .int s5, .int (b2i s6)]) (k_X12_store s0 s1 s2 s3 s4 s5 s6 M) (fun _ h => o_X12_store h) ok_X12_store im_X12_store se_X12_store rfl (ci := 11) rfl ml_L_279 ⟨⟨(Nat.le_of_ble_eq_true rfl), (Nat.le_of_ble_eq_true rfl)⟩, kb_c (o := 7) (c := 0) hb (Nat.le_of_ble_eq_true rfl), kb_s (o := 42) (c := 0) hb (Nat.le_of_ble_eq_true rfl)⟩ dL_law_2218 rfl rfl rfl (Nat.le_of_ble_eq_true rfl) rfl rfl (fun x301 M302 => ?_)
  refine V_istore (L' := [(0, .ref l0), (1, .ref l1), (2, .ref l2), (3, .ref l3), (4, .ref l4), (5, .int l5), (6, .int l6), (7, .int x301)]) dL_law_2221 rfl (by decide) rfl ?_
  refine V_aload_n dL_law_2223 rfl 2 rfl ?_
  refine V_cVeI (k2 := k + 7) (n2 := n + 42) (As := []) (k_X12_thrown l2 M302) (fun _ h => o_X12_thrown h) ok_X12_thrown im_X12_thrown se_X12_thrown rfl (ci := 11) rfl ml_L_167 ⟨⟨(Nat.le_of_ble_eq_true rfl), (Nat.le_of_ble_eq_true rfl)⟩, kb_c (o := 7) (c := 0) hb (Nat.le_of_ble_eq_true rfl), kb_s (o := 42) (c := 0) hb (Nat.le_of_ble_eq_true rfl)⟩ dL_law_2224 rfl rfl rfl (Nat.le_of_ble_eq_true rfl) rfl rfl (fun x303 => ?_)
  refine V_iload dL_law_2227 rfl 6 rfl ?_
  refine V_icmp_eq (q := 2234) (q2 := 2232) dL_law_2229 (by decide) rfl ?_ ?_
  · refine V_iload dL_law_2234 rfl 6 rfl ?_
    refine V_if_ne (q := 2251) (q2 := 2239) dL_law_2236 (by decide) rfl ?_ ?_
    · exact V_sub [0, 1, 2, 3, 4, 5] rfl (v_L_law_2251 fu rc28 h28 l0 l1 l2 l3 l4 l5 M302 k n hb)
    · refine V_aload_n dL_law_2239 rfl 3 rfl ?_
      refine V_iconst (x := 0) dL_law_2240 rfl rfl ?_
      refine V_laload dL_law_2241 rfl (fun x304 => ?_)
      refine V_iload dL_law_2242 rfl 7 rfl ?_
      refine V_i2l dL_law_2244 rfl ?_
      refine V_lcmp dL_law_2245 rfl ?_
      refine V_if_eq (q := 2251) (q2 := 2249) dL_law_2246 (by decide) rfl ?_ ?_
      · exact V_sub [0, 1, 2, 3, 4, 5] rfl (v_L_law_2251 fu rc28 h28 l0 l1 l2 l3 l4 l5 M302 k n hb)
      · refine V_iconst (x := 0) dL_law_2249 rfl rfl ?_
        exact V_zret (v := false) dL_law_2250 rfl rfl (kb_le hb (Nat.le_of_ble_eq_true rfl) (Nat.le_of_ble_eq_true rfl))
  · refine V_iconst (x := 0) dL_law_2232 rfl rfl ?_
    exact V_zret (v := false) dL_law_2233 rfl rfl (kb_le hb (Nat.le_of_ble_eq_true rfl) (Nat.le_of_ble_eq_true rfl))
theorem v_L_law_2166 (fu : Nat) (rc28 : Nat → Nat → Nat → Nat → Nat → Int32 → Mem → Option (Bool × Mem)) (h28 : ∀ (l0 : Nat) (l1 : Nat) (l2 : Nat) (l3 : Nat) (l4 : Nat) (l5 : Int32) (M : Mem) (k n : Nat) (_ : kb 8 48 fu k n), V mi_L_law 28 [(0, .ref l0), (1, .ref l1), (2, .ref l2), (3, .ref l3), (4, .ref l4), (5, .int l5)] [] M k n (rc28 l0 l1 l2 l3 l4 l5 M) wZ) (l0 : Nat) (l1 : Nat) (l2 : Nat) (l3 : Nat) (l4 : Nat) (l5 : Int32) (s0 : Nat) (s1 : Int32) (s2 : Int32) (s3 : Int32) (s4 : Int32) (s5 : Int32) (s6 : Bool) (M : Mem) (k n : Nat) (hb : kb 8 48 (fu + 1) k n) : V mi_L_law 2166 [(0, .ref l0), (1, .ref l1), (2, .ref l2), (3, .ref l3), (4, .ref l4), (5, .int l5)] [.int (b2i s6), .int s5, .int s4, .int s3, .int s2, .int s1, .ref s0] M (k + 0) (n + 0) (f_L_law_2166 rc28 l0 l1 l2 l3 l4 l5 s0 s1 s2 s3 s4 s5 s6 M) wZ := by
  unfold f_L_law_2166
  refine V_aload_n dL_law_2166 rfl 3 rfl ?_
  refine V_cSWI (k2 := k + 7) (n2 := n + 42) (As := [.ref s0, .int s1, .int s2, .int s3, .int s4, .int s5, .int (b2i s6), .ref l3]) (k_L_store s0 s1 s2 s3 s4 s5 s6 l3 M) ok_L_store sm_L_store ml_L_276 ⟨⟨(Nat.le_of_ble_eq_true rfl), (Nat.le_of_ble_eq_true rfl)⟩, kb_c (o := 0) (c := 7) hb (Nat.le_of_ble_eq_true rfl), kb_s (o := 0) (c := 42) hb (Nat.le_of_ble_eq_true rfl)⟩ dL_law_2167 rfl rfl rfl (Nat.le_of_ble_eq_true rfl) rfl rfl (fun x293 M294 => ?_)
  refine V_istore (L' := [(0, .ref l0), (1, .ref l1), (2, .ref l2), (3, .ref l3), (4, .ref l4), (5, .int l5), (6, .int x293)]) dL_law_2170 rfl (by decide) rfl ?_
  refine V_aload_n dL_law_2172 rfl 2 rfl ?_
  refine V_aload_n dL_law_2173 rfl 0 rfl ?_
  refine V_iload dL_law_2174 rfl 5 rfl ?_
  refine V_iconst (x := 1) dL_law_2176 rfl rfl ?_
  refine V_iadd dL_law_2177 rfl ?_
  refine V_sC dL_law_2178 rfl (fun x295 => ?_)
  refine V_aload_n dL_law_2179 rfl 0 rfl ?_
  refine V_iload dL_law_2180 rfl 5 rfl ?_
  refine V_iconst (x := 2) dL_law_2182 rfl rfl ?_
  refine V_iadd dL_law_2183 rfl ?_
  refine V_sC dL_law_2184 rfl (fun x296 => ?_)
  refine V_aload_n dL_law_2185 rfl 0 rfl ?_
  refine V_iload dL_law_2186 rfl 5 rfl ?_
  refine V_iconst (x := 3) dL_law_2188 rfl rfl ?_
  refine V_iadd dL_law_2189 rfl ?_
  refine V_sC dL_law_2190 rfl (fun x297 => ?_)
  refine V_aload_n dL_law_2191 rfl 0 rfl ?_
  refine V_iload dL_law_2192 rfl 5 rfl ?_
  refine V_iconst (x := 4) dL_law_2194 rfl rfl ?_
  refine V_iadd dL_law_2195 rfl ?_
  refine V_sC dL_law_2196 rfl (fun x298 => ?_)
  refine V_aload_n dL_law_2197 rfl 0 rfl ?_
  refine V_iload dL_law_2198 rfl 5 rfl ?_
  refine V_iconst (x := 5) dL_law_2200 rfl rfl ?_
  refine V_iadd dL_law_2201 rfl ?_
  refine V_sC dL_law_2202 rfl (fun x299 => ?_)
  refine V_aload_n dL_law_2203 rfl 0 rfl ?_
  refine V_iload dL_law_2204 rfl 5 rfl ?_
  refine V_bipush (x := 6) dL_law_2206 rfl rfl ?_
  refine V_iadd dL_law_2208 rfl ?_
  refine V_sC dL_law_2209 rfl (fun x300 => ?_)
  refine V_if_eq (q := 2217) (q2 := 2213) dL_law_2210 (by decide) rfl ?_ ?_
  · refine V_iconst (x := 0) dL_law_2217 rfl rfl ?_
    exact v_L_law_2218 fu rc28 h28 l0 l1 l2 l3 l4 l5 x293 l2 x295 x296 x297 x298 x299 false M294 k n hb
  · refine V_iconst (x := 1) dL_law_2213 rfl rfl ?_
    refine V_goto (q := 2218) dL_law_2214 (by decide) ?_
    exact v_L_law_2218 fu rc28 h28 l0 l1 l2 l3 l4 l5 x293 l2 x295 x296 x297 x298 x299 true M294 k n hb
theorem v_L_law_2120 (fu : Nat) (rc28 : Nat → Nat → Nat → Nat → Nat → Int32 → Mem → Option (Bool × Mem)) (h28 : ∀ (l0 : Nat) (l1 : Nat) (l2 : Nat) (l3 : Nat) (l4 : Nat) (l5 : Int32) (M : Mem) (k n : Nat) (_ : kb 8 48 fu k n), V mi_L_law 28 [(0, .ref l0), (1, .ref l1), (2, .ref l2), (3, .ref l3), (4, .ref l4), (5, .int l5)] [] M k n (rc28 l0 l1 l2 l3 l4 l5 M) wZ) (l0 : Nat) (l1 : Nat) (l2 : Nat) (l3 : Nat) (l4 : Nat) (l5 : Int32) (M : Mem) (k n : Nat) (hb : kb 8 48 (fu + 1) k n) : V mi_L_law 2120 [(0, .ref l0), (1, .ref l1), (2, .ref l2), (3, .ref l3), (4, .ref l4), (5, .int l5)] [] M (k + 0) (n + 0) (f_L_law_2120 rc28 l0 l1 l2 l3 l4 l5 M) wZ := by
  unfold f_L_law_2120
  refine V_aload_n dL_law_2120 rfl 1 rfl ?_
  refine V_aload_n dL_law_2121 rfl 0 rfl ?_
  refine V_iload dL_law_2122 rfl 5 rfl ?_
  refine V_iconst (x := 1) dL_law_2124 rfl rfl ?_
  refine V_iadd dL_law_2125 rfl ?_
  refine V_sC dL_law_2126 rfl (fun x287 => ?_)
  refine V_aload_n dL_law_2127 rfl 0 rfl ?_
  refine V_iload dL_law_2128 rfl 5 rfl ?_
  refine V_iconst (x := 2) dL_law_2130 rfl rfl ?_
  refine V_iadd dL_law_2131 rfl ?_
  refine V_sC dL_law_2132 rfl (fun x288 => ?_)
  refine V_aload_n dL_law_2133 rfl 0 rfl ?_
  refine V_iload dL_law_2134 rfl 5 rfl ?_
  refine V_iconst (x := 3) dL_law_2136 rfl rfl ?_
  refine V_iadd dL_law_2137 rfl ?_
  refine V_sC dL_law_2138 rfl (fun x289 => ?_)
  refine V_aload_n dL_law_2139 rfl 0 rfl ?_
  refine V_iload dL_law_2140 rfl 5 rfl ?_
  refine V_iconst (x := 4) dL_law_2142 rfl rfl ?_
  refine V_iadd dL_law_2143 rfl ?_
  refine V_sC dL_law_2144 rfl (fun x290 => ?_)
  refine V_aload_n dL_law_2145 rfl 0 rfl ?_
  refine V_iload dL_law_2146 rfl 5 rfl ?_
  refine V_iconst (x := 5) dL_law_2148 rfl rfl ?_
  refine V_iadd dL_law_2149 rfl ?_
  refine V_sC dL_law_2150 rfl (fun x291 => ?_)
  refine V_aload_n dL_law_2151 rfl 0 rfl ?_
  refine V_iload dL_law_2152 rfl 5 rfl ?_
  refine V_bipush (x := 6) dL_law_2154 rfl rfl ?_
  refine V_iadd dL_law_2156 rfl ?_
  refine V_sC dL_law_2157 rfl (fun x292 => ?_)
  refine V_if_eq (q := 2165) (q2 := 2161) dL_law_2158 (by decide) rfl ?_ ?_
  · refine V_iconst (x := 0) dL_law_2165 rfl rfl ?_
    exact v_L_law_2166 fu rc28 h28 l0 l1 l2 l3 l4 l5 l1 x287 x288 x289 x290 x291 false M k n hb
  · refine V_iconst (x := 1) dL_law_2161 rfl rfl ?_
    refine V_goto (q := 2166) dL_law_2162 (by decide) ?_
    exact v_L_law_2166 fu rc28 h28 l0 l1 l2 l3 l4 l5 l1 x287 x288 x289 x290 x291 true M k n hb
theorem v_L_law_2355 (fu : Nat) (rc28 : Nat → Nat → Nat → Nat → Nat → Int32 → Mem → Option (Bool × Mem)) (h28 : ∀ (l0 : Nat) (l1 : Nat) (l2 : Nat) (l3 : Nat) (l4 : Nat) (l5 : Int32) (M : Mem) (k n : Nat) (_ : kb 8 48 fu k n), V mi_L_law 28 [(0, .ref l0), (1, .ref l1), (2, .ref l2), (3, .ref l3), (4, .ref l4), (5, .int l5)] [] M k n (rc28 l0 l1 l2 l3 l4 l5 M) wZ) (l0 : Nat) (l1 : Nat) (l2 : Nat) (l3 : Nat) (l4 : Nat) (l5 : Int32) (M : Mem) (k n : Nat) (hb : kb 8 48 (fu + 1) k n) : V mi_L_law 2355 [(0, .ref l0), (1, .ref l1), (2, .ref l2), (3, .ref l3), (4, .ref l4), (5, .int l5)] [] M (k + 4) (n + 24) (f_L_law_2355 rc28 l0 l1 l2 l3 l4 l5 M) wZ := by
  unfold f_L_law_2355
  refine V_goto (q := 3275) dL_law_2355 (by decide) ?_
  exact (V_w (Nat.add_le_add_left (Nat.le_of_ble_eq_true rfl) _) (Nat.add_le_add_left (Nat.le_of_ble_eq_true rfl) _) (v_L_law_3275 fu rc28 h28 l0 l1 l2 l3 l4 l5 M k n hb))
theorem v_L_law_2254 (fu : Nat) (rc28 : Nat → Nat → Nat → Nat → Nat → Int32 → Mem → Option (Bool × Mem)) (h28 : ∀ (l0 : Nat) (l1 : Nat) (l2 : Nat) (l3 : Nat) (l4 : Nat) (l5 : Int32) (M : Mem) (k n : Nat) (_ : kb 8 48 fu k n), V mi_L_law 28 [(0, .ref l0), (1, .ref l1), (2, .ref l2), (3, .ref l3), (4, .ref l4), (5, .int l5)] [] M k n (rc28 l0 l1 l2 l3 l4 l5 M) wZ) (l0 : Nat) (l1 : Nat) (l2 : Nat) (l3 : Nat) (l4 : Nat) (l5 : Int32) (M : Mem) (k n : Nat) (hb : kb 8 48 (fu + 1) k n) : V mi_L_law 2254 [(0, .ref l0), (1, .ref l1), (2, .ref l2), (3, .ref l3), (4, .ref l4), (5, .int l5)] [] M (k + 0) (n + 0) (f_L_law_2254 rc28 l0 l1 l2 l3 l4 l5 M) wZ := by
  unfold f_L_law_2254
  refine V_aload_n dL_law_2254 rfl 1 rfl ?_
  refine V_aload_n dL_law_2255 rfl 0 rfl ?_
  refine V_iload dL_law_2256 rfl 5 rfl ?_
  refine V_iconst (x := 1) dL_law_2258 rfl rfl ?_
  refine V_iadd dL_law_2259 rfl ?_
  refine V_sC dL_law_2260 rfl (fun x305 => ?_)
  refine V_aload_n dL_law_2261 rfl 0 rfl ?_
  refine V_iload dL_law_2262 rfl 5 rfl ?_
  refine V_iconst (x := 2) dL_law_2264 rfl rfl ?_
  refine V_iadd dL_law_2265 rfl ?_
  refine V_sC dL_law_2266 rfl (fun x306 => ?_)
  refine V_aload_n dL_law_2267 rfl 0 rfl ?_
  refine V_iload dL_law_2268 rfl 5 rfl ?_
  refine V_iconst (x := 3) dL_law_2270 rfl rfl ?_
  refine V_iadd dL_law_2271 rfl ?_
  refine V_sC dL_law_2272 rfl (fun x307 => ?_)
  refine V_aload_n dL_law_2273 rfl 0 rfl ?_
  refine V_iload dL_law_2274 rfl 5 rfl ?_
  refine V_iconst (x := 4) dL_law_2276 rfl rfl ?_
  refine V_iadd dL_law_2277 rfl ?_
  refine V_sC dL_law_2278 rfl (fun x308 => ?_)
  refine V_aload_n dL_law_2279 rfl 0 rfl ?_
  refine V_iload dL_law_2280 rfl 5 rfl ?_
  refine V_iconst (x := 5) dL_law_2282 rfl rfl ?_
  refine V_iadd dL_law_2283 rfl ?_
  refine V_sC dL_law_2284 rfl (fun x309 => ?_)
  refine V_aload_n dL_law_2285 rfl 3 rfl ?_
  refine V_cSWI (k2 := k + 4) (n2 := n + 24) (As := [.ref l1, .int x305, .int x306, .int x307, .int x308, .int x309, .ref l3]) (k_L_uidStore l1 x305 x306 x307 x308 x309 l3 M) ok_L_uidStore sm_L_uidStore ml_L_280 ⟨⟨(Nat.le_of_ble_eq_true rfl), (Nat.le_of_ble_eq_true rfl)⟩, kb_c (o := 0) (c := 4) hb (Nat.le_of_ble_eq_true rfl), kb_s (o := 0) (c := 24) hb (Nat.le_of_ble_eq_true rfl)⟩ dL_law_2286 rfl rfl rfl (Nat.le_of_ble_eq_true rfl) rfl rfl (fun x310 M311 => ?_)
  refine V_istore (L' := [(0, .ref l0), (1, .ref l1), (2, .ref l2), (3, .ref l3), (4, .ref l4), (5, .int l5), (6, .int x310)]) dL_law_2289 rfl (by decide) rfl ?_
  refine V_aload_n dL_law_2291 rfl 2 rfl ?_
  refine V_aload_n dL_law_2292 rfl 0 rfl ?_
  refine V_iload dL_law_2293 rfl 5 rfl ?_
  refine V_iconst (x := 1) dL_law_2295 rfl rfl ?_
  refine V_iadd dL_law_2296 rfl ?_
  refine V_sC dL_law_2297 rfl (fun x312 => ?_)
  refine V_aload_n dL_law_2298 rfl 0 rfl ?_
  refine V_iload dL_law_2299 rfl 5 rfl ?_
  refine V_iconst (x := 2) dL_law_2301 rfl rfl ?_
  refine V_iadd dL_law_2302 rfl ?_
  refine V_sC dL_law_2303 rfl (fun x313 => ?_)
  refine V_aload_n dL_law_2304 rfl 0 rfl ?_
  refine V_iload dL_law_2305 rfl 5 rfl ?_
  refine V_iconst (x := 3) dL_law_2307 rfl rfl ?_
  refine V_iadd dL_law_2308 rfl ?_
  refine V_sC dL_law_2309 rfl (fun x314 => ?_)
  refine V_aload_n dL_law_2310 rfl 0 rfl ?_
  refine V_iload dL_law_2311 rfl 5 rfl ?_
  refine V_iconst (x := 4) dL_law_2313 rfl rfl ?_
  refine V_iadd dL_law_2314 rfl ?_
  refine V_sC dL_law_2315 rfl (fun x315 => ?_)
  refine V_aload_n dL_law_2316 rfl 0 rfl ?_
  refine V_iload dL_law_2317 rfl 5 rfl ?_
  refine V_iconst (x := 5) dL_law_2319 rfl rfl ?_
  refine V_iadd dL_law_2320 rfl ?_
  refine V_sC dL_law_2321 rfl (fun x316 => ?_)
  refine V_cVwI (k2 := k + 4) (n2 := n + 24) (As := [.int x312, .int x313, .int x314, .int x315, .int x316]) (k_X12_uidStore l2 x312 x313 x314 x315 x316 M311) (fun _ h => o_X12_uidStore h) ok_X12_uidStore im_X12_uidStore se_X12_uidStore rfl (ci := 11) rfl ml_L_282 ⟨⟨(Nat.le_of_ble_eq_true rfl), (Nat.le_of_ble_eq_true rfl)⟩, kb_c (o := 4) (c := 0) hb (Nat.le_of_ble_eq_true rfl), kb_s (o := 24) (c := 0) hb (Nat.le_of_ble_eq_true rfl)⟩ dL_law_2322 rfl rfl rfl (Nat.le_of_ble_eq_true rfl) rfl rfl (fun x317 M318 => ?_)
  refine V_istore (L' := [(0, .ref l0), (1, .ref l1), (2, .ref l2), (3, .ref l3), (4, .ref l4), (5, .int l5), (6, .int x310), (7, .int x317)]) dL_law_2325 rfl (by decide) rfl ?_
  refine V_aload_n dL_law_2327 rfl 2 rfl ?_
  refine V_cVeI (k2 := k + 4) (n2 := n + 24) (As := []) (k_X12_thrown l2 M318) (fun _ h => o_X12_thrown h) ok_X12_thrown im_X12_thrown se_X12_thrown rfl (ci := 11) rfl ml_L_167 ⟨⟨(Nat.le_of_ble_eq_true rfl), (Nat.le_of_ble_eq_true rfl)⟩, kb_c (o := 4) (c := 0) hb (Nat.le_of_ble_eq_true rfl), kb_s (o := 24) (c := 0) hb (Nat.le_of_ble_eq_true rfl)⟩ dL_law_2328 rfl rfl rfl (Nat.le_of_ble_eq_true rfl) rfl rfl (fun x319 => ?_)
  refine V_iload dL_law_2331 rfl 6 rfl ?_
  refine V_icmp_eq (q := 2338) (q2 := 2336) dL_law_2333 (by decide) rfl ?_ ?_
  · refine V_iload dL_law_2338 rfl 6 rfl ?_
    refine V_if_ne (q := 2355) (q2 := 2343) dL_law_2340 (by decide) rfl ?_ ?_
    · exact V_sub [0, 1, 2, 3, 4, 5] rfl (v_L_law_2355 fu rc28 h28 l0 l1 l2 l3 l4 l5 M318 k n hb)
    · refine V_aload_n dL_law_2343 rfl 3 rfl ?_
      refine V_iconst (x := 0) dL_law_2344 rfl rfl ?_
      refine V_laload dL_law_2345 rfl (fun x320 => ?_)
      refine V_iload dL_law_2346 rfl 7 rfl ?_
      refine V_i2l dL_law_2348 rfl ?_
      refine V_lcmp dL_law_2349 rfl ?_
      refine V_if_eq (q := 2355) (q2 := 2353) dL_law_2350 (by decide) rfl ?_ ?_
      · exact V_sub [0, 1, 2, 3, 4, 5] rfl (v_L_law_2355 fu rc28 h28 l0 l1 l2 l3 l4 l5 M318 k n hb)
      · refine V_iconst (x := 0) dL_law_2353 rfl rfl ?_
        exact V_zret (v := false) dL_law_2354 rfl rfl (kb_le hb (Nat.le_of_ble_eq_true rfl) (Nat.le_of_ble_eq_true rfl))
  · refine V_iconst (x := 0) dL_law_2336 rfl rfl ?_
    exact V_zret (v := false) dL_law_2337 rfl rfl (kb_le hb (Nat.le_of_ble_eq_true rfl) (Nat.le_of_ble_eq_true rfl))
theorem v_L_law_2410 (fu : Nat) (rc28 : Nat → Nat → Nat → Nat → Nat → Int32 → Mem → Option (Bool × Mem)) (h28 : ∀ (l0 : Nat) (l1 : Nat) (l2 : Nat) (l3 : Nat) (l4 : Nat) (l5 : Int32) (M : Mem) (k n : Nat) (_ : kb 8 48 fu k n), V mi_L_law 28 [(0, .ref l0), (1, .ref l1), (2, .ref l2), (3, .ref l3), (4, .ref l4), (5, .int l5)] [] M k n (rc28 l0 l1 l2 l3 l4 l5 M) wZ) (l0 : Nat) (l1 : Nat) (l2 : Nat) (l3 : Nat) (l4 : Nat) (l5 : Int32) (M : Mem) (k n : Nat) (hb : kb 8 48 (fu + 1) k n) : V mi_L_law 2410 [(0, .ref l0), (1, .ref l1), (2, .ref l2), (3, .ref l3), (4, .ref l4), (5, .int l5)] [] M (k + 2) (n + 12) (f_L_law_2410 rc28 l0 l1 l2 l3 l4 l5 M) wZ := by
  unfold f_L_law_2410
  refine V_goto (q := 3275) dL_law_2410 (by decide) ?_
  exact (V_w (Nat.add_le_add_left (Nat.le_of_ble_eq_true rfl) _) (Nat.add_le_add_left (Nat.le_of_ble_eq_true rfl) _) (v_L_law_3275 fu rc28 h28 l0 l1 l2 l3 l4 l5 M k n hb))
theorem v_L_law_2358 (fu : Nat) (rc28 : Nat → Nat → Nat → Nat → Nat → Int32 → Mem → Option (Bool × Mem)) (h28 : ∀ (l0 : Nat) (l1 : Nat) (l2 : Nat) (l3 : Nat) (l4 : Nat) (l5 : Int32) (M : Mem) (k n : Nat) (_ : kb 8 48 fu k n), V mi_L_law 28 [(0, .ref l0), (1, .ref l1), (2, .ref l2), (3, .ref l3), (4, .ref l4), (5, .int l5)] [] M k n (rc28 l0 l1 l2 l3 l4 l5 M) wZ) (l0 : Nat) (l1 : Nat) (l2 : Nat) (l3 : Nat) (l4 : Nat) (l5 : Int32) (M : Mem) (k n : Nat) (hb : kb 8 48 (fu + 1) k n) : V mi_L_law 2358 [(0, .ref l0), (1, .ref l1), (2, .ref l2), (3, .ref l3), (4, .ref l4), (5, .int l5)] [] M (k + 0) (n + 0) (f_L_law_2358 rc28 l0 l1 l2 l3 l4 l5 M) wZ := by
  unfold f_L_law_2358
  refine V_aload_n dL_law_2358 rfl 1 rfl ?_
  refine V_aload_n dL_law_2359 rfl 0 rfl ?_
  refine V_iload dL_law_2360 rfl 5 rfl ?_
  refine V_iconst (x := 1) dL_law_2362 rfl rfl ?_
  refine V_iadd dL_law_2363 rfl ?_
  refine V_sC dL_law_2364 rfl (fun x321 => ?_)
  refine V_aload_n dL_law_2365 rfl 3 rfl ?_
  refine V_cSWI (k2 := k + 2) (n2 := n + 12) (As := [.ref l1, .int x321, .ref l3]) (k_L_search l1 x321 l3 M) ok_L_search sm_L_search ml_L_283 ⟨⟨(Nat.le_of_ble_eq_true rfl), (Nat.le_of_ble_eq_true rfl)⟩, kb_c (o := 0) (c := 2) hb (Nat.le_of_ble_eq_true rfl), kb_s (o := 0) (c := 12) hb (Nat.le_of_ble_eq_true rfl)⟩ dL_law_2366 rfl rfl rfl (Nat.le_of_ble_eq_true rfl) rfl rfl (fun x322 M323 => ?_)
  refine V_istore (L' := [(0, .ref l0), (1, .ref l1), (2, .ref l2), (3, .ref l3), (4, .ref l4), (5, .int l5), (6, .int x322)]) dL_law_2369 rfl (by decide) rfl ?_
  refine V_aload_n dL_law_2371 rfl 2 rfl ?_
  refine V_aload_n dL_law_2372 rfl 0 rfl ?_
  refine V_iload dL_law_2373 rfl 5 rfl ?_
  refine V_iconst (x := 1) dL_law_2375 rfl rfl ?_
  refine V_iadd dL_law_2376 rfl ?_
  refine V_sC dL_law_2377 rfl (fun x324 => ?_)
  refine V_cVwJ (k2 := k + 2) (n2 := n + 12) (As := [.int x324]) (k_X12_search l2 x324 M323) (fun _ h => o_X12_search h) ok_X12_search im_X12_search se_X12_search rfl (ci := 11) rfl ml_L_285 ⟨⟨(Nat.le_of_ble_eq_true rfl), (Nat.le_of_ble_eq_true rfl)⟩, kb_c (o := 2) (c := 0) hb (Nat.le_of_ble_eq_true rfl), kb_s (o := 12) (c := 0) hb (Nat.le_of_ble_eq_true rfl)⟩ dL_law_2378 rfl rfl rfl (Nat.le_of_ble_eq_true rfl) rfl rfl (fun x325 M326 => ?_)
  refine V_lstore (L' := [(0, .ref l0), (1, .ref l1), (2, .ref l2), (3, .ref l3), (4, .ref l4), (5, .int l5), (6, .int x322), (7, .long x325)]) dL_law_2381 rfl (by decide) rfl ?_
  refine V_aload_n dL_law_2383 rfl 2 rfl ?_
  refine V_cVeI (k2 := k + 2) (n2 := n + 12) (As := []) (k_X12_thrown l2 M326) (fun _ h => o_X12_thrown h) ok_X12_thrown im_X12_thrown se_X12_thrown rfl (ci := 11) rfl ml_L_167 ⟨⟨(Nat.le_of_ble_eq_true rfl), (Nat.le_of_ble_eq_true rfl)⟩, kb_c (o := 2) (c := 0) hb (Nat.le_of_ble_eq_true rfl), kb_s (o := 12) (c := 0) hb (Nat.le_of_ble_eq_true rfl)⟩ dL_law_2384 rfl rfl rfl (Nat.le_of_ble_eq_true rfl) rfl rfl (fun x327 => ?_)
  refine V_iload dL_law_2387 rfl 6 rfl ?_
  refine V_icmp_eq (q := 2394) (q2 := 2392) dL_law_2389 (by decide) rfl ?_ ?_
  · refine V_iload dL_law_2394 rfl 6 rfl ?_
    refine V_if_ne (q := 2410) (q2 := 2399) dL_law_2396 (by decide) rfl ?_ ?_
    · exact V_sub [0, 1, 2, 3, 4, 5] rfl (v_L_law_2410 fu rc28 h28 l0 l1 l2 l3 l4 l5 M326 k n hb)
    · refine V_aload_n dL_law_2399 rfl 3 rfl ?_
      refine V_iconst (x := 0) dL_law_2400 rfl rfl ?_
      refine V_laload dL_law_2401 rfl (fun x328 => ?_)
      refine V_lload dL_law_2402 rfl 7 rfl ?_
      refine V_lcmp dL_law_2404 rfl ?_
      refine V_if_eq (q := 2410) (q2 := 2408) dL_law_2405 (by decide) rfl ?_ ?_
      · exact V_sub [0, 1, 2, 3, 4, 5] rfl (v_L_law_2410 fu rc28 h28 l0 l1 l2 l3 l4 l5 M326 k n hb)
      · refine V_iconst (x := 0) dL_law_2408 rfl rfl ?_
        exact V_zret (v := false) dL_law_2409 rfl rfl (kb_le hb (Nat.le_of_ble_eq_true rfl) (Nat.le_of_ble_eq_true rfl))
  · refine V_iconst (x := 0) dL_law_2392 rfl rfl ?_
    exact V_zret (v := false) dL_law_2393 rfl rfl (kb_le hb (Nat.le_of_ble_eq_true rfl) (Nat.le_of_ble_eq_true rfl))
theorem v_L_law_2466 (fu : Nat) (rc28 : Nat → Nat → Nat → Nat → Nat → Int32 → Mem → Option (Bool × Mem)) (h28 : ∀ (l0 : Nat) (l1 : Nat) (l2 : Nat) (l3 : Nat) (l4 : Nat) (l5 : Int32) (M : Mem) (k n : Nat) (_ : kb 8 48 fu k n), V mi_L_law 28 [(0, .ref l0), (1, .ref l1), (2, .ref l2), (3, .ref l3), (4, .ref l4), (5, .int l5)] [] M k n (rc28 l0 l1 l2 l3 l4 l5 M) wZ) (l0 : Nat) (l1 : Nat) (l2 : Nat) (l3 : Nat) (l4 : Nat) (l5 : Int32) (M : Mem) (k n : Nat) (hb : kb 8 48 (fu + 1) k n) : V mi_L_law 2466 [(0, .ref l0), (1, .ref l1), (2, .ref l2), (3, .ref l3), (4, .ref l4), (5, .int l5)] [] M (k + 3) (n + 18) (f_L_law_2466 rc28 l0 l1 l2 l3 l4 l5 M) wZ := by
  unfold f_L_law_2466
  refine V_goto (q := 3275) dL_law_2466 (by decide) ?_
  exact (V_w (Nat.add_le_add_left (Nat.le_of_ble_eq_true rfl) _) (Nat.add_le_add_left (Nat.le_of_ble_eq_true rfl) _) (v_L_law_3275 fu rc28 h28 l0 l1 l2 l3 l4 l5 M k n hb))
theorem v_L_law_2413 (fu : Nat) (rc28 : Nat → Nat → Nat → Nat → Nat → Int32 → Mem → Option (Bool × Mem)) (h28 : ∀ (l0 : Nat) (l1 : Nat) (l2 : Nat) (l3 : Nat) (l4 : Nat) (l5 : Int32) (M : Mem) (k n : Nat) (_ : kb 8 48 fu k n), V mi_L_law 28 [(0, .ref l0), (1, .ref l1), (2, .ref l2), (3, .ref l3), (4, .ref l4), (5, .int l5)] [] M k n (rc28 l0 l1 l2 l3 l4 l5 M) wZ) (l0 : Nat) (l1 : Nat) (l2 : Nat) (l3 : Nat) (l4 : Nat) (l5 : Int32) (M : Mem) (k n : Nat) (hb : kb 8 48 (fu + 1) k n) : V mi_L_law 2413 [(0, .ref l0), (1, .ref l1), (2, .ref l2), (3, .ref l3), (4, .ref l4), (5, .int l5)] [] M (k + 0) (n + 0) (f_L_law_2413 rc28 l0 l1 l2 l3 l4 l5 M) wZ := by
  unfold f_L_law_2413
  refine V_aload_n dL_law_2413 rfl 1 rfl ?_
  refine V_aload_n dL_law_2414 rfl 0 rfl ?_
  refine V_iload dL_law_2415 rfl 5 rfl ?_
  refine V_iconst (x := 1) dL_law_2417 rfl rfl ?_
  refine V_iadd dL_law_2418 rfl ?_
  refine V_sC dL_law_2419 rfl (fun x329 => ?_)
  refine V_aload_n dL_law_2420 rfl 3 rfl ?_
  refine V_cSWI (k2 := k + 3) (n2 := n + 18) (As := [.ref l1, .int x329, .ref l3]) (k_L_expunge l1 x329 l3 M) ok_L_expunge sm_L_expunge ml_L_286 ⟨⟨(Nat.le_of_ble_eq_true rfl), (Nat.le_of_ble_eq_true rfl)⟩, kb_c (o := 0) (c := 3) hb (Nat.le_of_ble_eq_true rfl), kb_s (o := 0) (c := 18) hb (Nat.le_of_ble_eq_true rfl)⟩ dL_law_2421 rfl rfl rfl (Nat.le_of_ble_eq_true rfl) rfl rfl (fun x330 M331 => ?_)
  refine V_istore (L' := [(0, .ref l0), (1, .ref l1), (2, .ref l2), (3, .ref l3), (4, .ref l4), (5, .int l5), (6, .int x330)]) dL_law_2424 rfl (by decide) rfl ?_
  refine V_aload_n dL_law_2426 rfl 2 rfl ?_
  refine V_aload_n dL_law_2427 rfl 0 rfl ?_
  refine V_iload dL_law_2428 rfl 5 rfl ?_
  refine V_iconst (x := 1) dL_law_2430 rfl rfl ?_
  refine V_iadd dL_law_2431 rfl ?_
  refine V_sC dL_law_2432 rfl (fun x332 => ?_)
  refine V_cVwI (k2 := k + 3) (n2 := n + 18) (As := [.int x332]) (k_X12_expunge l2 x332 M331) (fun _ h => o_X12_expunge h) ok_X12_expunge im_X12_expunge se_X12_expunge rfl (ci := 11) rfl ml_L_288 ⟨⟨(Nat.le_of_ble_eq_true rfl), (Nat.le_of_ble_eq_true rfl)⟩, kb_c (o := 3) (c := 0) hb (Nat.le_of_ble_eq_true rfl), kb_s (o := 18) (c := 0) hb (Nat.le_of_ble_eq_true rfl)⟩ dL_law_2433 rfl rfl rfl (Nat.le_of_ble_eq_true rfl) rfl rfl (fun x333 M334 => ?_)
  refine V_istore (L' := [(0, .ref l0), (1, .ref l1), (2, .ref l2), (3, .ref l3), (4, .ref l4), (5, .int l5), (6, .int x330), (7, .int x333)]) dL_law_2436 rfl (by decide) rfl ?_
  refine V_aload_n dL_law_2438 rfl 2 rfl ?_
  refine V_cVeI (k2 := k + 3) (n2 := n + 18) (As := []) (k_X12_thrown l2 M334) (fun _ h => o_X12_thrown h) ok_X12_thrown im_X12_thrown se_X12_thrown rfl (ci := 11) rfl ml_L_167 ⟨⟨(Nat.le_of_ble_eq_true rfl), (Nat.le_of_ble_eq_true rfl)⟩, kb_c (o := 3) (c := 0) hb (Nat.le_of_ble_eq_true rfl), kb_s (o := 18) (c := 0) hb (Nat.le_of_ble_eq_true rfl)⟩ dL_law_2439 rfl rfl rfl (Nat.le_of_ble_eq_true rfl) rfl rfl (fun x335 => ?_)
  refine V_iload dL_law_2442 rfl 6 rfl ?_
  refine V_icmp_eq (q := 2449) (q2 := 2447) dL_law_2444 (by decide) rfl ?_ ?_
  · refine V_iload dL_law_2449 rfl 6 rfl ?_
    refine V_if_ne (q := 2466) (q2 := 2454) dL_law_2451 (by decide) rfl ?_ ?_
    · exact V_sub [0, 1, 2, 3, 4, 5] rfl (v_L_law_2466 fu rc28 h28 l0 l1 l2 l3 l4 l5 M334 k n hb)
    · refine V_aload_n dL_law_2454 rfl 3 rfl ?_
      refine V_iconst (x := 0) dL_law_2455 rfl rfl ?_
      refine V_laload dL_law_2456 rfl (fun x336 => ?_)
      refine V_iload dL_law_2457 rfl 7 rfl ?_
      refine V_i2l dL_law_2459 rfl ?_
      refine V_lcmp dL_law_2460 rfl ?_
      refine V_if_eq (q := 2466) (q2 := 2464) dL_law_2461 (by decide) rfl ?_ ?_
      · exact V_sub [0, 1, 2, 3, 4, 5] rfl (v_L_law_2466 fu rc28 h28 l0 l1 l2 l3 l4 l5 M334 k n hb)
      · refine V_iconst (x := 0) dL_law_2464 rfl rfl ?_
        exact V_zret (v := false) dL_law_2465 rfl rfl (kb_le hb (Nat.le_of_ble_eq_true rfl) (Nat.le_of_ble_eq_true rfl))
  · refine V_iconst (x := 0) dL_law_2447 rfl rfl ?_
    exact V_zret (v := false) dL_law_2448 rfl rfl (kb_le hb (Nat.le_of_ble_eq_true rfl) (Nat.le_of_ble_eq_true rfl))
theorem v_L_law_2546 (fu : Nat) (rc28 : Nat → Nat → Nat → Nat → Nat → Int32 → Mem → Option (Bool × Mem)) (h28 : ∀ (l0 : Nat) (l1 : Nat) (l2 : Nat) (l3 : Nat) (l4 : Nat) (l5 : Int32) (M : Mem) (k n : Nat) (_ : kb 8 48 fu k n), V mi_L_law 28 [(0, .ref l0), (1, .ref l1), (2, .ref l2), (3, .ref l3), (4, .ref l4), (5, .int l5)] [] M k n (rc28 l0 l1 l2 l3 l4 l5 M) wZ) (l0 : Nat) (l1 : Nat) (l2 : Nat) (l3 : Nat) (l4 : Nat) (l5 : Int32) (M : Mem) (k n : Nat) (hb : kb 8 48 (fu + 1) k n) : V mi_L_law 2546 [(0, .ref l0), (1, .ref l1), (2, .ref l2), (3, .ref l3), (4, .ref l4), (5, .int l5)] [] M (k + 3) (n + 18) (f_L_law_2546 rc28 l0 l1 l2 l3 l4 l5 M) wZ := by
  unfold f_L_law_2546
  refine V_goto (q := 3275) dL_law_2546 (by decide) ?_
  exact (V_w (Nat.add_le_add_left (Nat.le_of_ble_eq_true rfl) _) (Nat.add_le_add_left (Nat.le_of_ble_eq_true rfl) _) (v_L_law_3275 fu rc28 h28 l0 l1 l2 l3 l4 l5 M k n hb))
theorem v_L_law_2469 (fu : Nat) (rc28 : Nat → Nat → Nat → Nat → Nat → Int32 → Mem → Option (Bool × Mem)) (h28 : ∀ (l0 : Nat) (l1 : Nat) (l2 : Nat) (l3 : Nat) (l4 : Nat) (l5 : Int32) (M : Mem) (k n : Nat) (_ : kb 8 48 fu k n), V mi_L_law 28 [(0, .ref l0), (1, .ref l1), (2, .ref l2), (3, .ref l3), (4, .ref l4), (5, .int l5)] [] M k n (rc28 l0 l1 l2 l3 l4 l5 M) wZ) (l0 : Nat) (l1 : Nat) (l2 : Nat) (l3 : Nat) (l4 : Nat) (l5 : Int32) (M : Mem) (k n : Nat) (hb : kb 8 48 (fu + 1) k n) : V mi_L_law 2469 [(0, .ref l0), (1, .ref l1), (2, .ref l2), (3, .ref l3), (4, .ref l4), (5, .int l5)] [] M (k + 0) (n + 0) (f_L_law_2469 rc28 l0 l1 l2 l3 l4 l5 M) wZ := by
  unfold f_L_law_2469
  refine V_aload_n dL_law_2469 rfl 1 rfl ?_
  refine V_aload_n dL_law_2470 rfl 0 rfl ?_
  refine V_iload dL_law_2471 rfl 5 rfl ?_
  refine V_iconst (x := 1) dL_law_2473 rfl rfl ?_
  refine V_iadd dL_law_2474 rfl ?_
  refine V_sC dL_law_2475 rfl (fun x337 => ?_)
  refine V_aload_n dL_law_2476 rfl 0 rfl ?_
  refine V_iload dL_law_2477 rfl 5 rfl ?_
  refine V_iconst (x := 2) dL_law_2479 rfl rfl ?_
  refine V_iadd dL_law_2480 rfl ?_
  refine V_sC dL_law_2481 rfl (fun x338 => ?_)
  refine V_aload_n dL_law_2482 rfl 0 rfl ?_
  refine V_iload dL_law_2483 rfl 5 rfl ?_
  refine V_iconst (x := 3) dL_law_2485 rfl rfl ?_
  refine V_iadd dL_law_2486 rfl ?_
  refine V_sC dL_law_2487 rfl (fun x339 => ?_)
  refine V_aload_n dL_law_2488 rfl 3 rfl ?_
  refine V_cSWI (k2 := k + 3) (n2 := n + 18) (As := [.ref l1, .int x337, .int x338, .int x339, .ref l3]) (k_L_uidExpunge l1 x337 x338 x339 l3 M) ok_L_uidExpunge sm_L_uidExpunge ml_L_289 ⟨⟨(Nat.le_of_ble_eq_true rfl), (Nat.le_of_ble_eq_true rfl)⟩, kb_c (o := 0) (c := 3) hb (Nat.le_of_ble_eq_true rfl), kb_s (o := 0) (c := 18) hb (Nat.le_of_ble_eq_true rfl)⟩ dL_law_2489 rfl rfl rfl (Nat.le_of_ble_eq_true rfl) rfl rfl (fun x340 M341 => ?_)
  refine V_istore (L' := [(0, .ref l0), (1, .ref l1), (2, .ref l2), (3, .ref l3), (4, .ref l4), (5, .int l5), (6, .int x340)]) dL_law_2492 rfl (by decide) rfl ?_
  refine V_aload_n dL_law_2494 rfl 2 rfl ?_
  refine V_aload_n dL_law_2495 rfl 0 rfl ?_
  refine V_iload dL_law_2496 rfl 5 rfl ?_
  refine V_iconst (x := 1) dL_law_2498 rfl rfl ?_
  refine V_iadd dL_law_2499 rfl ?_
  refine V_sC dL_law_2500 rfl (fun x342 => ?_)
  refine V_aload_n dL_law_2501 rfl 0 rfl ?_
  refine V_iload dL_law_2502 rfl 5 rfl ?_
  refine V_iconst (x := 2) dL_law_2504 rfl rfl ?_
  refine V_iadd dL_law_2505 rfl ?_
  refine V_sC dL_law_2506 rfl (fun x343 => ?_)
  refine V_aload_n dL_law_2507 rfl 0 rfl ?_
  refine V_iload dL_law_2508 rfl 5 rfl ?_
  refine V_iconst (x := 3) dL_law_2510 rfl rfl ?_
  refine V_iadd dL_law_2511 rfl ?_
  refine V_sC dL_law_2512 rfl (fun x344 => ?_)
  refine V_cVwI (k2 := k + 3) (n2 := n + 18) (As := [.int x342, .int x343, .int x344]) (k_X12_uidExpunge l2 x342 x343 x344 M341) (fun _ h => o_X12_uidExpunge h) ok_X12_uidExpunge im_X12_uidExpunge se_X12_uidExpunge rfl (ci := 11) rfl ml_L_291 ⟨⟨(Nat.le_of_ble_eq_true rfl), (Nat.le_of_ble_eq_true rfl)⟩, kb_c (o := 3) (c := 0) hb (Nat.le_of_ble_eq_true rfl), kb_s (o := 18) (c := 0) hb (Nat.le_of_ble_eq_true rfl)⟩ dL_law_2513 rfl rfl rfl (Nat.le_of_ble_eq_true rfl) rfl rfl (fun x345 M346 => ?_)
  refine V_istore (L' := [(0, .ref l0), (1, .ref l1), (2, .ref l2), (3, .ref l3), (4, .ref l4), (5, .int l5), (6, .int x340), (7, .int x345)]) dL_law_2516 rfl (by decide) rfl ?_
  refine V_aload_n dL_law_2518 rfl 2 rfl ?_
  refine V_cVeI (k2 := k + 3) (n2 := n + 18) (As := []) (k_X12_thrown l2 M346) (fun _ h => o_X12_thrown h) ok_X12_thrown im_X12_thrown se_X12_thrown rfl (ci := 11) rfl ml_L_167 ⟨⟨(Nat.le_of_ble_eq_true rfl), (Nat.le_of_ble_eq_true rfl)⟩, kb_c (o := 3) (c := 0) hb (Nat.le_of_ble_eq_true rfl), kb_s (o := 18) (c := 0) hb (Nat.le_of_ble_eq_true rfl)⟩ dL_law_2519 rfl rfl rfl (Nat.le_of_ble_eq_true rfl) rfl rfl (fun x347 => ?_)
  refine V_iload dL_law_2522 rfl 6 rfl ?_
  refine V_icmp_eq (q := 2529) (q2 := 2527) dL_law_2524 (by decide) rfl ?_ ?_
  · refine V_iload dL_law_2529 rfl 6 rfl ?_
    refine V_if_ne (q := 2546) (q2 := 2534) dL_law_2531 (by decide) rfl ?_ ?_
    · exact V_sub [0, 1, 2, 3, 4, 5] rfl (v_L_law_2546 fu rc28 h28 l0 l1 l2 l3 l4 l5 M346 k n hb)
    · refine V_aload_n dL_law_2534 rfl 3 rfl ?_
      refine V_iconst (x := 0) dL_law_2535 rfl rfl ?_
      refine V_laload dL_law_2536 rfl (fun x348 => ?_)
      refine V_iload dL_law_2537 rfl 7 rfl ?_
      refine V_i2l dL_law_2539 rfl ?_
      refine V_lcmp dL_law_2540 rfl ?_
      refine V_if_eq (q := 2546) (q2 := 2544) dL_law_2541 (by decide) rfl ?_ ?_
      · exact V_sub [0, 1, 2, 3, 4, 5] rfl (v_L_law_2546 fu rc28 h28 l0 l1 l2 l3 l4 l5 M346 k n hb)
      · refine V_iconst (x := 0) dL_law_2544 rfl rfl ?_
        exact V_zret (v := false) dL_law_2545 rfl rfl (kb_le hb (Nat.le_of_ble_eq_true rfl) (Nat.le_of_ble_eq_true rfl))
  · refine V_iconst (x := 0) dL_law_2527 rfl rfl ?_
    exact V_zret (v := false) dL_law_2528 rfl rfl (kb_le hb (Nat.le_of_ble_eq_true rfl) (Nat.le_of_ble_eq_true rfl))
theorem v_L_law_2638 (fu : Nat) (rc28 : Nat → Nat → Nat → Nat → Nat → Int32 → Mem → Option (Bool × Mem)) (h28 : ∀ (l0 : Nat) (l1 : Nat) (l2 : Nat) (l3 : Nat) (l4 : Nat) (l5 : Int32) (M : Mem) (k n : Nat) (_ : kb 8 48 fu k n), V mi_L_law 28 [(0, .ref l0), (1, .ref l1), (2, .ref l2), (3, .ref l3), (4, .ref l4), (5, .int l5)] [] M k n (rc28 l0 l1 l2 l3 l4 l5 M) wZ) (l0 : Nat) (l1 : Nat) (l2 : Nat) (l3 : Nat) (l4 : Nat) (l5 : Int32) (M : Mem) (k n : Nat) (hb : kb 8 48 (fu + 1) k n) : V mi_L_law 2638 [(0, .ref l0), (1, .ref l1), (2, .ref l2), (3, .ref l3), (4, .ref l4), (5, .int l5)] [] M (k + 7) (n + 42) (f_L_law_2638 rc28 l0 l1 l2 l3 l4 l5 M) wZ := by
  unfold f_L_law_2638
  refine V_goto (q := 3275) dL_law_2638 (by decide) ?_
  exact (V_w (Nat.add_le_add_left (Nat.le_of_ble_eq_true rfl) _) (Nat.add_le_add_left (Nat.le_of_ble_eq_true rfl) _) (v_L_law_3275 fu rc28 h28 l0 l1 l2 l3 l4 l5 M k n hb))
theorem v_L_law_2549 (fu : Nat) (rc28 : Nat → Nat → Nat → Nat → Nat → Int32 → Mem → Option (Bool × Mem)) (h28 : ∀ (l0 : Nat) (l1 : Nat) (l2 : Nat) (l3 : Nat) (l4 : Nat) (l5 : Int32) (M : Mem) (k n : Nat) (_ : kb 8 48 fu k n), V mi_L_law 28 [(0, .ref l0), (1, .ref l1), (2, .ref l2), (3, .ref l3), (4, .ref l4), (5, .int l5)] [] M k n (rc28 l0 l1 l2 l3 l4 l5 M) wZ) (l0 : Nat) (l1 : Nat) (l2 : Nat) (l3 : Nat) (l4 : Nat) (l5 : Int32) (M : Mem) (k n : Nat) (hb : kb 8 48 (fu + 1) k n) : V mi_L_law 2549 [(0, .ref l0), (1, .ref l1), (2, .ref l2), (3, .ref l3), (4, .ref l4), (5, .int l5)] [] M (k + 0) (n + 0) (f_L_law_2549 rc28 l0 l1 l2 l3 l4 l5 M) wZ := by
  unfold f_L_law_2549
  refine V_aload_n dL_law_2549 rfl 1 rfl ?_
  refine V_aload_n dL_law_2550 rfl 0 rfl ?_
  refine V_iload dL_law_2551 rfl 5 rfl ?_
  refine V_iconst (x := 1) dL_law_2553 rfl rfl ?_
  refine V_iadd dL_law_2554 rfl ?_
  refine V_sC dL_law_2555 rfl (fun x349 => ?_)
  refine V_aload_n dL_law_2556 rfl 0 rfl ?_
  refine V_iload dL_law_2557 rfl 5 rfl ?_
  refine V_iconst (x := 2) dL_law_2559 rfl rfl ?_
  refine V_iadd dL_law_2560 rfl ?_
  refine V_sC dL_law_2561 rfl (fun x350 => ?_)
  refine V_aload_n dL_law_2562 rfl 0 rfl ?_
  refine V_iload dL_law_2563 rfl 5 rfl ?_
  refine V_iconst (x := 3) dL_law_2565 rfl rfl ?_
  refine V_iadd dL_law_2566 rfl ?_
  refine V_sC dL_law_2567 rfl (fun x351 => ?_)
  refine V_aload_n dL_law_2568 rfl 0 rfl ?_
  refine V_iload dL_law_2569 rfl 5 rfl ?_
  refine V_iconst (x := 4) dL_law_2571 rfl rfl ?_
  refine V_iadd dL_law_2572 rfl ?_
  refine V_sC dL_law_2573 rfl (fun x352 => ?_)
  refine V_aload_n dL_law_2574 rfl 3 rfl ?_
  refine V_cSWI (k2 := k + 7) (n2 := n + 42) (As := [.ref l1, .int x349, .int x350, .int x351, .int x352, .ref l3]) (k_L_copy l1 x349 x350 x351 x352 l3 M) ok_L_copy sm_L_copy ml_L_292 ⟨⟨(Nat.le_of_ble_eq_true rfl), (Nat.le_of_ble_eq_true rfl)⟩, kb_c (o := 0) (c := 7) hb (Nat.le_of_ble_eq_true rfl), kb_s (o := 0) (c := 42) hb (Nat.le_of_ble_eq_true rfl)⟩ dL_law_2575 rfl rfl rfl (Nat.le_of_ble_eq_true rfl) rfl rfl (fun x353 M354 => ?_)
  refine V_istore (L' := [(0, .ref l0), (1, .ref l1), (2, .ref l2), (3, .ref l3), (4, .ref l4), (5, .int l5), (6, .int x353)]) dL_law_2578 rfl (by decide) rfl ?_
  refine V_aload_n dL_law_2580 rfl 2 rfl ?_
  refine V_aload_n dL_law_2581 rfl 0 rfl ?_
  refine V_iload dL_law_2582 rfl 5 rfl ?_
  refine V_iconst (x := 1) dL_law_2584 rfl rfl ?_
  refine V_iadd dL_law_2585 rfl ?_
  refine V_sC dL_law_2586 rfl (fun x355 => ?_)
  refine V_aload_n dL_law_2587 rfl 0 rfl ?_
  refine V_iload dL_law_2588 rfl 5 rfl ?_
  refine V_iconst (x := 2) dL_law_2590 rfl rfl ?_
  refine V_iadd dL_law_2591 rfl ?_
  refine V_sC dL_law_2592 rfl (fun x356 => ?_)
  refine V_aload_n dL_law_2593 rfl 0 rfl ?_
  refine V_iload dL_law_2594 rfl 5 rfl ?_
  refine V_iconst (x := 3) dL_law_2596 rfl rfl ?_
  refine V_iadd dL_law_2597 rfl ?_
  refine V_sC dL_law_2598 rfl (fun x357 => ?_)
  refine V_aload_n dL_law_2599 rfl 0 rfl ?_
  refine V_iload dL_law_2600 rfl 5 rfl ?_
  refine V_iconst (x := 4) dL_law_2602 rfl rfl ?_
  refine V_iadd dL_law_2603 rfl ?_
  refine V_sC dL_law_2604 rfl (fun x358 => ?_)
  refine V_cVwI (k2 := k + 7) (n2 := n + 42) (As := [.int x355, .int x356, .int x357, .int x358]) (k_X12_copy l2 x355 x356 x357 x358 M354) (fun _ h => o_X12_copy h) ok_X12_copy im_X12_copy se_X12_copy rfl (ci := 11) rfl ml_L_295 ⟨⟨(Nat.le_of_ble_eq_true rfl), (Nat.le_of_ble_eq_true rfl)⟩, kb_c (o := 7) (c := 0) hb (Nat.le_of_ble_eq_true rfl), kb_s (o := 42) (c := 0) hb (Nat.le_of_ble_eq_true rfl)⟩ dL_law_2605 rfl rfl rfl (Nat.le_of_ble_eq_true rfl) rfl rfl (fun x359 M360 => ?_)
  refine V_istore (L' := [(0, .ref l0), (1, .ref l1), (2, .ref l2), (3, .ref l3), (4, .ref l4), (5, .int l5), (6, .int x353), (7, .int x359)]) dL_law_2608 rfl (by decide) rfl ?_
  refine V_aload_n dL_law_2610 rfl 2 rfl ?_
  refine V_cVeI (k2 := k + 7) (n2 := n + 42) (As := []) (k_X12_thrown l2 M360) (fun _ h => o_X12_thrown h) ok_X12_thrown im_X12_thrown se_X12_thrown rfl (ci := 11) rfl ml_L_167 ⟨⟨(Nat.le_of_ble_eq_true rfl), (Nat.le_of_ble_eq_true rfl)⟩, kb_c (o := 7) (c := 0) hb (Nat.le_of_ble_eq_true rfl), kb_s (o := 42) (c := 0) hb (Nat.le_of_ble_eq_true rfl)⟩ dL_law_2611 rfl rfl rfl (Nat.le_of_ble_eq_true rfl) rfl rfl (fun x361 => ?_)
  refine V_iload dL_law_2614 rfl 6 rfl ?_
  refine V_icmp_eq (q := 2621) (q2 := 2619) dL_law_2616 (by decide) rfl ?_ ?_
  · refine V_iload dL_law_2621 rfl 6 rfl ?_
    refine V_if_ne (q := 2638) (q2 := 2626) dL_law_2623 (by decide) rfl ?_ ?_
    · exact V_sub [0, 1, 2, 3, 4, 5] rfl (v_L_law_2638 fu rc28 h28 l0 l1 l2 l3 l4 l5 M360 k n hb)
    · refine V_aload_n dL_law_2626 rfl 3 rfl ?_
      refine V_iconst (x := 0) dL_law_2627 rfl rfl ?_
      refine V_laload dL_law_2628 rfl (fun x362 => ?_)
      refine V_iload dL_law_2629 rfl 7 rfl ?_
      refine V_i2l dL_law_2631 rfl ?_
      refine V_lcmp dL_law_2632 rfl ?_
      refine V_if_eq (q := 2638) (q2 := 2636) dL_law_2633 (by decide) rfl ?_ ?_
      · exact V_sub [0, 1, 2, 3, 4, 5] rfl (v_L_law_2638 fu rc28 h28 l0 l1 l2 l3 l4 l5 M360 k n hb)
      · refine V_iconst (x := 0) dL_law_2636 rfl rfl ?_
        exact V_zret (v := false) dL_law_2637 rfl rfl (kb_le hb (Nat.le_of_ble_eq_true rfl) (Nat.le_of_ble_eq_true rfl))
  · refine V_iconst (x := 0) dL_law_2619 rfl rfl ?_
    exact V_zret (v := false) dL_law_2620 rfl rfl (kb_le hb (Nat.le_of_ble_eq_true rfl) (Nat.le_of_ble_eq_true rfl))
theorem v_L_law_2730 (fu : Nat) (rc28 : Nat → Nat → Nat → Nat → Nat → Int32 → Mem → Option (Bool × Mem)) (h28 : ∀ (l0 : Nat) (l1 : Nat) (l2 : Nat) (l3 : Nat) (l4 : Nat) (l5 : Int32) (M : Mem) (k n : Nat) (_ : kb 8 48 fu k n), V mi_L_law 28 [(0, .ref l0), (1, .ref l1), (2, .ref l2), (3, .ref l3), (4, .ref l4), (5, .int l5)] [] M k n (rc28 l0 l1 l2 l3 l4 l5 M) wZ) (l0 : Nat) (l1 : Nat) (l2 : Nat) (l3 : Nat) (l4 : Nat) (l5 : Int32) (M : Mem) (k n : Nat) (hb : kb 8 48 (fu + 1) k n) : V mi_L_law 2730 [(0, .ref l0), (1, .ref l1), (2, .ref l2), (3, .ref l3), (4, .ref l4), (5, .int l5)] [] M (k + 8) (n + 48) (f_L_law_2730 rc28 l0 l1 l2 l3 l4 l5 M) wZ := by
  unfold f_L_law_2730
  refine V_goto (q := 3275) dL_law_2730 (by decide) ?_
  exact v_L_law_3275 fu rc28 h28 l0 l1 l2 l3 l4 l5 M k n hb
theorem v_L_law_2641 (fu : Nat) (rc28 : Nat → Nat → Nat → Nat → Nat → Int32 → Mem → Option (Bool × Mem)) (h28 : ∀ (l0 : Nat) (l1 : Nat) (l2 : Nat) (l3 : Nat) (l4 : Nat) (l5 : Int32) (M : Mem) (k n : Nat) (_ : kb 8 48 fu k n), V mi_L_law 28 [(0, .ref l0), (1, .ref l1), (2, .ref l2), (3, .ref l3), (4, .ref l4), (5, .int l5)] [] M k n (rc28 l0 l1 l2 l3 l4 l5 M) wZ) (l0 : Nat) (l1 : Nat) (l2 : Nat) (l3 : Nat) (l4 : Nat) (l5 : Int32) (M : Mem) (k n : Nat) (hb : kb 8 48 (fu + 1) k n) : V mi_L_law 2641 [(0, .ref l0), (1, .ref l1), (2, .ref l2), (3, .ref l3), (4, .ref l4), (5, .int l5)] [] M (k + 0) (n + 0) (f_L_law_2641 rc28 l0 l1 l2 l3 l4 l5 M) wZ := by
  unfold f_L_law_2641
  refine V_aload_n dL_law_2641 rfl 1 rfl ?_
  refine V_aload_n dL_law_2642 rfl 0 rfl ?_
  refine V_iload dL_law_2643 rfl 5 rfl ?_
  refine V_iconst (x := 1) dL_law_2645 rfl rfl ?_
  refine V_iadd dL_law_2646 rfl ?_
  refine V_sC dL_law_2647 rfl (fun x363 => ?_)
  refine V_aload_n dL_law_2648 rfl 0 rfl ?_
  refine V_iload dL_law_2649 rfl 5 rfl ?_
  refine V_iconst (x := 2) dL_law_2651 rfl rfl ?_
  refine V_iadd dL_law_2652 rfl ?_
  refine V_sC dL_law_2653 rfl (fun x364 => ?_)
  refine V_aload_n dL_law_2654 rfl 0 rfl ?_
  refine V_iload dL_law_2655 rfl 5 rfl ?_
  refine V_iconst (x := 3) dL_law_2657 rfl rfl ?_
  refine V_iadd dL_law_2658 rfl ?_
  refine V_sC dL_law_2659 rfl (fun x365 => ?_)
  refine V_aload_n dL_law_2660 rfl 0 rfl ?_
  refine V_iload dL_law_2661 rfl 5 rfl ?_
  refine V_iconst (x := 4) dL_law_2663 rfl rfl ?_
  refine V_iadd dL_law_2664 rfl ?_
  refine V_sC dL_law_2665 rfl (fun x366 => ?_)
  refine V_aload_n dL_law_2666 rfl 3 rfl ?_
  refine V_cSWI (k2 := k + 8) (n2 := n + 48) (As := [.ref l1, .int x363, .int x364, .int x365, .int x366, .ref l3]) (k_L_move l1 x363 x364 x365 x366 l3 M) ok_L_move sm_L_move ml_L_296 ⟨⟨(Nat.le_of_ble_eq_true rfl), (Nat.le_of_ble_eq_true rfl)⟩, kb_c (o := 0) (c := 8) hb (Nat.le_of_ble_eq_true rfl), kb_s (o := 0) (c := 48) hb (Nat.le_of_ble_eq_true rfl)⟩ dL_law_2667 rfl rfl rfl (Nat.le_of_ble_eq_true rfl) rfl rfl (fun x367 M368 => ?_)
  refine V_istore (L' := [(0, .ref l0), (1, .ref l1), (2, .ref l2), (3, .ref l3), (4, .ref l4), (5, .int l5), (6, .int x367)]) dL_law_2670 rfl (by decide) rfl ?_
  refine V_aload_n dL_law_2672 rfl 2 rfl ?_
  refine V_aload_n dL_law_2673 rfl 0 rfl ?_
  refine V_iload dL_law_2674 rfl 5 rfl ?_
  refine V_iconst (x := 1) dL_law_2676 rfl rfl ?_
  refine V_iadd dL_law_2677 rfl ?_
  refine V_sC dL_law_2678 rfl (fun x369 => ?_)
  refine V_aload_n dL_law_2679 rfl 0 rfl ?_
  refine V_iload dL_law_2680 rfl 5 rfl ?_
  refine V_iconst (x := 2) dL_law_2682 rfl rfl ?_
  refine V_iadd dL_law_2683 rfl ?_
  refine V_sC dL_law_2684 rfl (fun x370 => ?_)
  refine V_aload_n dL_law_2685 rfl 0 rfl ?_
  refine V_iload dL_law_2686 rfl 5 rfl ?_
  refine V_iconst (x := 3) dL_law_2688 rfl rfl ?_
  refine V_iadd dL_law_2689 rfl ?_
  refine V_sC dL_law_2690 rfl (fun x371 => ?_)
  refine V_aload_n dL_law_2691 rfl 0 rfl ?_
  refine V_iload dL_law_2692 rfl 5 rfl ?_
  refine V_iconst (x := 4) dL_law_2694 rfl rfl ?_
  refine V_iadd dL_law_2695 rfl ?_
  refine V_sC dL_law_2696 rfl (fun x372 => ?_)
  refine V_cVwI (k2 := k + 8) (n2 := n + 48) (As := [.int x369, .int x370, .int x371, .int x372]) (k_X12_move l2 x369 x370 x371 x372 M368) (fun _ h => o_X12_move h) ok_X12_move im_X12_move se_X12_move rfl (ci := 11) rfl ml_L_298 ⟨⟨(Nat.le_of_ble_eq_true rfl), (Nat.le_of_ble_eq_true rfl)⟩, kb_c (o := 8) (c := 0) hb (Nat.le_of_ble_eq_true rfl), kb_s (o := 48) (c := 0) hb (Nat.le_of_ble_eq_true rfl)⟩ dL_law_2697 rfl rfl rfl (Nat.le_of_ble_eq_true rfl) rfl rfl (fun x373 M374 => ?_)
  refine V_istore (L' := [(0, .ref l0), (1, .ref l1), (2, .ref l2), (3, .ref l3), (4, .ref l4), (5, .int l5), (6, .int x367), (7, .int x373)]) dL_law_2700 rfl (by decide) rfl ?_
  refine V_aload_n dL_law_2702 rfl 2 rfl ?_
  refine V_cVeI (k2 := k + 8) (n2 := n + 48) (As := []) (k_X12_thrown l2 M374) (fun _ h => o_X12_thrown h) ok_X12_thrown im_X12_thrown se_X12_thrown rfl (ci := 11) rfl ml_L_167 ⟨⟨(Nat.le_of_ble_eq_true rfl), (Nat.le_of_ble_eq_true rfl)⟩, kb_c (o := 8) (c := 0) hb (Nat.le_of_ble_eq_true rfl), kb_s (o := 48) (c := 0) hb (Nat.le_of_ble_eq_true rfl)⟩ dL_law_2703 rfl rfl rfl (Nat.le_of_ble_eq_true rfl) rfl rfl (fun x375 => ?_)
  refine V_iload dL_law_2706 rfl 6 rfl ?_
  refine V_icmp_eq (q := 2713) (q2 := 2711) dL_law_2708 (by decide) rfl ?_ ?_
  · refine V_iload dL_law_2713 rfl 6 rfl ?_
    refine V_if_ne (q := 2730) (q2 := 2718) dL_law_2715 (by decide) rfl ?_ ?_
    · exact V_sub [0, 1, 2, 3, 4, 5] rfl (v_L_law_2730 fu rc28 h28 l0 l1 l2 l3 l4 l5 M374 k n hb)
    · refine V_aload_n dL_law_2718 rfl 3 rfl ?_
      refine V_iconst (x := 0) dL_law_2719 rfl rfl ?_
      refine V_laload dL_law_2720 rfl (fun x376 => ?_)
      refine V_iload dL_law_2721 rfl 7 rfl ?_
      refine V_i2l dL_law_2723 rfl ?_
      refine V_lcmp dL_law_2724 rfl ?_
      refine V_if_eq (q := 2730) (q2 := 2728) dL_law_2725 (by decide) rfl ?_ ?_
      · exact V_sub [0, 1, 2, 3, 4, 5] rfl (v_L_law_2730 fu rc28 h28 l0 l1 l2 l3 l4 l5 M374 k n hb)
      · refine V_iconst (x := 0) dL_law_2728 rfl rfl ?_
        exact V_zret (v := false) dL_law_2729 rfl rfl (kb_le hb (Nat.le_of_ble_eq_true rfl) (Nat.le_of_ble_eq_true rfl))
  · refine V_iconst (x := 0) dL_law_2711 rfl rfl ?_
    exact V_zret (v := false) dL_law_2712 rfl rfl (kb_le hb (Nat.le_of_ble_eq_true rfl) (Nat.le_of_ble_eq_true rfl))
theorem v_L_law_2786 (fu : Nat) (rc28 : Nat → Nat → Nat → Nat → Nat → Int32 → Mem → Option (Bool × Mem)) (h28 : ∀ (l0 : Nat) (l1 : Nat) (l2 : Nat) (l3 : Nat) (l4 : Nat) (l5 : Int32) (M : Mem) (k n : Nat) (_ : kb 8 48 fu k n), V mi_L_law 28 [(0, .ref l0), (1, .ref l1), (2, .ref l2), (3, .ref l3), (4, .ref l4), (5, .int l5)] [] M k n (rc28 l0 l1 l2 l3 l4 l5 M) wZ) (l0 : Nat) (l1 : Nat) (l2 : Nat) (l3 : Nat) (l4 : Nat) (l5 : Int32) (M : Mem) (k n : Nat) (hb : kb 8 48 (fu + 1) k n) : V mi_L_law 2786 [(0, .ref l0), (1, .ref l1), (2, .ref l2), (3, .ref l3), (4, .ref l4), (5, .int l5)] [] M (k + 2) (n + 12) (f_L_law_2786 rc28 l0 l1 l2 l3 l4 l5 M) wZ := by
  unfold f_L_law_2786
  refine V_goto (q := 3275) dL_law_2786 (by decide) ?_
  exact (V_w (Nat.add_le_add_left (Nat.le_of_ble_eq_true rfl) _) (Nat.add_le_add_left (Nat.le_of_ble_eq_true rfl) _) (v_L_law_3275 fu rc28 h28 l0 l1 l2 l3 l4 l5 M k n hb))
theorem v_L_law_2733 (fu : Nat) (rc28 : Nat → Nat → Nat → Nat → Nat → Int32 → Mem → Option (Bool × Mem)) (h28 : ∀ (l0 : Nat) (l1 : Nat) (l2 : Nat) (l3 : Nat) (l4 : Nat) (l5 : Int32) (M : Mem) (k n : Nat) (_ : kb 8 48 fu k n), V mi_L_law 28 [(0, .ref l0), (1, .ref l1), (2, .ref l2), (3, .ref l3), (4, .ref l4), (5, .int l5)] [] M k n (rc28 l0 l1 l2 l3 l4 l5 M) wZ) (l0 : Nat) (l1 : Nat) (l2 : Nat) (l3 : Nat) (l4 : Nat) (l5 : Int32) (M : Mem) (k n : Nat) (hb : kb 8 48 (fu + 1) k n) : V mi_L_law 2733 [(0, .ref l0), (1, .ref l1), (2, .ref l2), (3, .ref l3), (4, .ref l4), (5, .int l5)] [] M (k + 0) (n + 0) (f_L_law_2733 rc28 l0 l1 l2 l3 l4 l5 M) wZ := by
  unfold f_L_law_2733
  refine V_aload_n dL_law_2733 rfl 1 rfl ?_
  refine V_aload_n dL_law_2734 rfl 0 rfl ?_
  refine V_iload dL_law_2735 rfl 5 rfl ?_
  refine V_iconst (x := 1) dL_law_2737 rfl rfl ?_
  refine V_iadd dL_law_2738 rfl ?_
  refine V_sC dL_law_2739 rfl (fun x377 => ?_)
  refine V_aload_n dL_law_2740 rfl 3 rfl ?_
  refine V_cSWI (k2 := k + 2) (n2 := n + 12) (As := [.ref l1, .int x377, .ref l3]) (k_L_close l1 x377 l3 M) ok_L_close sm_L_close ml_L_299 ⟨⟨(Nat.le_of_ble_eq_true rfl), (Nat.le_of_ble_eq_true rfl)⟩, kb_c (o := 0) (c := 2) hb (Nat.le_of_ble_eq_true rfl), kb_s (o := 0) (c := 12) hb (Nat.le_of_ble_eq_true rfl)⟩ dL_law_2741 rfl rfl rfl (Nat.le_of_ble_eq_true rfl) rfl rfl (fun x378 M379 => ?_)
  refine V_istore (L' := [(0, .ref l0), (1, .ref l1), (2, .ref l2), (3, .ref l3), (4, .ref l4), (5, .int l5), (6, .int x378)]) dL_law_2744 rfl (by decide) rfl ?_
  refine V_aload_n dL_law_2746 rfl 2 rfl ?_
  refine V_aload_n dL_law_2747 rfl 0 rfl ?_
  refine V_iload dL_law_2748 rfl 5 rfl ?_
  refine V_iconst (x := 1) dL_law_2750 rfl rfl ?_
  refine V_iadd dL_law_2751 rfl ?_
  refine V_sC dL_law_2752 rfl (fun x380 => ?_)
  refine V_cVwI (k2 := k + 2) (n2 := n + 12) (As := [.int x380]) (k_X12_close l2 x380 M379) (fun _ h => o_X12_close h) ok_X12_close im_X12_close se_X12_close rfl (ci := 11) rfl ml_L_301 ⟨⟨(Nat.le_of_ble_eq_true rfl), (Nat.le_of_ble_eq_true rfl)⟩, kb_c (o := 2) (c := 0) hb (Nat.le_of_ble_eq_true rfl), kb_s (o := 12) (c := 0) hb (Nat.le_of_ble_eq_true rfl)⟩ dL_law_2753 rfl rfl rfl (Nat.le_of_ble_eq_true rfl) rfl rfl (fun x381 M382 => ?_)
  refine V_istore (L' := [(0, .ref l0), (1, .ref l1), (2, .ref l2), (3, .ref l3), (4, .ref l4), (5, .int l5), (6, .int x378), (7, .int x381)]) dL_law_2756 rfl (by decide) rfl ?_
  refine V_aload_n dL_law_2758 rfl 2 rfl ?_
  refine V_cVeI (k2 := k + 2) (n2 := n + 12) (As := []) (k_X12_thrown l2 M382) (fun _ h => o_X12_thrown h) ok_X12_thrown im_X12_thrown se_X12_thrown rfl (ci := 11) rfl ml_L_167 ⟨⟨(Nat.le_of_ble_eq_true rfl), (Nat.le_of_ble_eq_true rfl)⟩, kb_c (o := 2) (c := 0) hb (Nat.le_of_ble_eq_true rfl), kb_s (o := 12) (c := 0) hb (Nat.le_of_ble_eq_true rfl)⟩ dL_law_2759 rfl rfl rfl (Nat.le_of_ble_eq_true rfl) rfl rfl (fun x383 => ?_)
  refine V_iload dL_law_2762 rfl 6 rfl ?_
  refine V_icmp_eq (q := 2769) (q2 := 2767) dL_law_2764 (by decide) rfl ?_ ?_
  · refine V_iload dL_law_2769 rfl 6 rfl ?_
    refine V_if_ne (q := 2786) (q2 := 2774) dL_law_2771 (by decide) rfl ?_ ?_
    · exact V_sub [0, 1, 2, 3, 4, 5] rfl (v_L_law_2786 fu rc28 h28 l0 l1 l2 l3 l4 l5 M382 k n hb)
    · refine V_aload_n dL_law_2774 rfl 3 rfl ?_
      refine V_iconst (x := 0) dL_law_2775 rfl rfl ?_
      refine V_laload dL_law_2776 rfl (fun x384 => ?_)
      refine V_iload dL_law_2777 rfl 7 rfl ?_
      refine V_i2l dL_law_2779 rfl ?_
      refine V_lcmp dL_law_2780 rfl ?_
      refine V_if_eq (q := 2786) (q2 := 2784) dL_law_2781 (by decide) rfl ?_ ?_
      · exact V_sub [0, 1, 2, 3, 4, 5] rfl (v_L_law_2786 fu rc28 h28 l0 l1 l2 l3 l4 l5 M382 k n hb)
      · refine V_iconst (x := 0) dL_law_2784 rfl rfl ?_
        exact V_zret (v := false) dL_law_2785 rfl rfl (kb_le hb (Nat.le_of_ble_eq_true rfl) (Nat.le_of_ble_eq_true rfl))
  · refine V_iconst (x := 0) dL_law_2767 rfl rfl ?_
    exact V_zret (v := false) dL_law_2768 rfl rfl (kb_le hb (Nat.le_of_ble_eq_true rfl) (Nat.le_of_ble_eq_true rfl))
theorem v_L_law_2866 (fu : Nat) (rc28 : Nat → Nat → Nat → Nat → Nat → Int32 → Mem → Option (Bool × Mem)) (h28 : ∀ (l0 : Nat) (l1 : Nat) (l2 : Nat) (l3 : Nat) (l4 : Nat) (l5 : Int32) (M : Mem) (k n : Nat) (_ : kb 8 48 fu k n), V mi_L_law 28 [(0, .ref l0), (1, .ref l1), (2, .ref l2), (3, .ref l3), (4, .ref l4), (5, .int l5)] [] M k n (rc28 l0 l1 l2 l3 l4 l5 M) wZ) (l0 : Nat) (l1 : Nat) (l2 : Nat) (l3 : Nat) (l4 : Nat) (l5 : Int32) (M : Mem) (k n : Nat) (hb : kb 8 48 (fu + 1) k n) : V mi_L_law 2866 [(0, .ref l0), (1, .ref l1), (2, .ref l2), (3, .ref l3), (4, .ref l4), (5, .int l5)] [] M (k + 2) (n + 12) (f_L_law_2866 rc28 l0 l1 l2 l3 l4 l5 M) wZ := by
  unfold f_L_law_2866
  refine V_goto (q := 3275) dL_law_2866 (by decide) ?_
  exact (V_w (Nat.add_le_add_left (Nat.le_of_ble_eq_true rfl) _) (Nat.add_le_add_left (Nat.le_of_ble_eq_true rfl) _) (v_L_law_3275 fu rc28 h28 l0 l1 l2 l3 l4 l5 M k n hb))
theorem v_L_law_2789 (fu : Nat) (rc28 : Nat → Nat → Nat → Nat → Nat → Int32 → Mem → Option (Bool × Mem)) (h28 : ∀ (l0 : Nat) (l1 : Nat) (l2 : Nat) (l3 : Nat) (l4 : Nat) (l5 : Int32) (M : Mem) (k n : Nat) (_ : kb 8 48 fu k n), V mi_L_law 28 [(0, .ref l0), (1, .ref l1), (2, .ref l2), (3, .ref l3), (4, .ref l4), (5, .int l5)] [] M k n (rc28 l0 l1 l2 l3 l4 l5 M) wZ) (l0 : Nat) (l1 : Nat) (l2 : Nat) (l3 : Nat) (l4 : Nat) (l5 : Int32) (M : Mem) (k n : Nat) (hb : kb 8 48 (fu + 1) k n) : V mi_L_law 2789 [(0, .ref l0), (1, .ref l1), (2, .ref l2), (3, .ref l3), (4, .ref l4), (5, .int l5)] [] M (k + 0) (n + 0) (f_L_law_2789 rc28 l0 l1 l2 l3 l4 l5 M) wZ := by
  unfold f_L_law_2789
  refine V_aload_n dL_law_2789 rfl 1 rfl ?_
  refine V_aload_n dL_law_2790 rfl 0 rfl ?_
  refine V_iload dL_law_2791 rfl 5 rfl ?_
  refine V_iconst (x := 1) dL_law_2793 rfl rfl ?_
  refine V_iadd dL_law_2794 rfl ?_
  refine V_sC dL_law_2795 rfl (fun x385 => ?_)
  refine V_aload_n dL_law_2796 rfl 0 rfl ?_
  refine V_iload dL_law_2797 rfl 5 rfl ?_
  refine V_iconst (x := 2) dL_law_2799 rfl rfl ?_
  refine V_iadd dL_law_2800 rfl ?_
  refine V_sC dL_law_2801 rfl (fun x386 => ?_)
  refine V_aload_n dL_law_2802 rfl 0 rfl ?_
  refine V_iload dL_law_2803 rfl 5 rfl ?_
  refine V_iconst (x := 3) dL_law_2805 rfl rfl ?_
  refine V_iadd dL_law_2806 rfl ?_
  refine V_sC dL_law_2807 rfl (fun x387 => ?_)
  refine V_aload_n dL_law_2808 rfl 3 rfl ?_
  refine V_cSWI (k2 := k + 2) (n2 := n + 12) (As := [.ref l1, .int x385, .int x386, .int x387, .ref l3]) (k_L_deliver l1 x385 x386 x387 l3 M) ok_L_deliver sm_L_deliver ml_L_302 ⟨⟨(Nat.le_of_ble_eq_true rfl), (Nat.le_of_ble_eq_true rfl)⟩, kb_c (o := 0) (c := 2) hb (Nat.le_of_ble_eq_true rfl), kb_s (o := 0) (c := 12) hb (Nat.le_of_ble_eq_true rfl)⟩ dL_law_2809 rfl rfl rfl (Nat.le_of_ble_eq_true rfl) rfl rfl (fun x388 M389 => ?_)
  refine V_istore (L' := [(0, .ref l0), (1, .ref l1), (2, .ref l2), (3, .ref l3), (4, .ref l4), (5, .int l5), (6, .int x388)]) dL_law_2812 rfl (by decide) rfl ?_
  refine V_aload_n dL_law_2814 rfl 2 rfl ?_
  refine V_aload_n dL_law_2815 rfl 0 rfl ?_
  refine V_iload dL_law_2816 rfl 5 rfl ?_
  refine V_iconst (x := 1) dL_law_2818 rfl rfl ?_
  refine V_iadd dL_law_2819 rfl ?_
  refine V_sC dL_law_2820 rfl (fun x390 => ?_)
  refine V_aload_n dL_law_2821 rfl 0 rfl ?_
  refine V_iload dL_law_2822 rfl 5 rfl ?_
  refine V_iconst (x := 2) dL_law_2824 rfl rfl ?_
  refine V_iadd dL_law_2825 rfl ?_
  refine V_sC dL_law_2826 rfl (fun x391 => ?_)
  refine V_aload_n dL_law_2827 rfl 0 rfl ?_
  refine V_iload dL_law_2828 rfl 5 rfl ?_
  refine V_iconst (x := 3) dL_law_2830 rfl rfl ?_
  refine V_iadd dL_law_2831 rfl ?_
  refine V_sC dL_law_2832 rfl (fun x392 => ?_)
  refine V_cVwI (k2 := k + 2) (n2 := n + 12) (As := [.int x390, .int x391, .int x392]) (k_X12_deliver l2 x390 x391 x392 M389) (fun _ h => o_X12_deliver h) ok_X12_deliver im_X12_deliver se_X12_deliver rfl (ci := 11) rfl ml_L_304 ⟨⟨(Nat.le_of_ble_eq_true rfl), (Nat.le_of_ble_eq_true rfl)⟩, kb_c (o := 2) (c := 0) hb (Nat.le_of_ble_eq_true rfl), kb_s (o := 12) (c := 0) hb (Nat.le_of_ble_eq_true rfl)⟩ dL_law_2833 rfl rfl rfl (Nat.le_of_ble_eq_true rfl) rfl rfl (fun x393 M394 => ?_)
  refine V_istore (L' := [(0, .ref l0), (1, .ref l1), (2, .ref l2), (3, .ref l3), (4, .ref l4), (5, .int l5), (6, .int x388), (7, .int x393)]) dL_law_2836 rfl (by decide) rfl ?_
  refine V_aload_n dL_law_2838 rfl 2 rfl ?_
  refine V_cVeI (k2 := k + 2) (n2 := n + 12) (As := []) (k_X12_thrown l2 M394) (fun _ h => o_X12_thrown h) ok_X12_thrown im_X12_thrown se_X12_thrown rfl (ci := 11) rfl ml_L_167 ⟨⟨(Nat.le_of_ble_eq_true rfl), (Nat.le_of_ble_eq_true rfl)⟩, kb_c (o := 2) (c := 0) hb (Nat.le_of_ble_eq_true rfl), kb_s (o := 12) (c := 0) hb (Nat.le_of_ble_eq_true rfl)⟩ dL_law_2839 rfl rfl rfl (Nat.le_of_ble_eq_true rfl) rfl rfl (fun x395 => ?_)
  refine V_iload dL_law_2842 rfl 6 rfl ?_
  refine V_icmp_eq (q := 2849) (q2 := 2847) dL_law_2844 (by decide) rfl ?_ ?_
  · refine V_iload dL_law_2849 rfl 6 rfl ?_
    refine V_if_ne (q := 2866) (q2 := 2854) dL_law_2851 (by decide) rfl ?_ ?_
    · exact V_sub [0, 1, 2, 3, 4, 5] rfl (v_L_law_2866 fu rc28 h28 l0 l1 l2 l3 l4 l5 M394 k n hb)
    · refine V_aload_n dL_law_2854 rfl 3 rfl ?_
      refine V_iconst (x := 0) dL_law_2855 rfl rfl ?_
      refine V_laload dL_law_2856 rfl (fun x396 => ?_)
      refine V_iload dL_law_2857 rfl 7 rfl ?_
      refine V_i2l dL_law_2859 rfl ?_
      refine V_lcmp dL_law_2860 rfl ?_
      refine V_if_eq (q := 2866) (q2 := 2864) dL_law_2861 (by decide) rfl ?_ ?_
      · exact V_sub [0, 1, 2, 3, 4, 5] rfl (v_L_law_2866 fu rc28 h28 l0 l1 l2 l3 l4 l5 M394 k n hb)
      · refine V_iconst (x := 0) dL_law_2864 rfl rfl ?_
        exact V_zret (v := false) dL_law_2865 rfl rfl (kb_le hb (Nat.le_of_ble_eq_true rfl) (Nat.le_of_ble_eq_true rfl))
  · refine V_iconst (x := 0) dL_law_2847 rfl rfl ?_
    exact V_zret (v := false) dL_law_2848 rfl rfl (kb_le hb (Nat.le_of_ble_eq_true rfl) (Nat.le_of_ble_eq_true rfl))
theorem v_L_law_2922 (fu : Nat) (rc28 : Nat → Nat → Nat → Nat → Nat → Int32 → Mem → Option (Bool × Mem)) (h28 : ∀ (l0 : Nat) (l1 : Nat) (l2 : Nat) (l3 : Nat) (l4 : Nat) (l5 : Int32) (M : Mem) (k n : Nat) (_ : kb 8 48 fu k n), V mi_L_law 28 [(0, .ref l0), (1, .ref l1), (2, .ref l2), (3, .ref l3), (4, .ref l4), (5, .int l5)] [] M k n (rc28 l0 l1 l2 l3 l4 l5 M) wZ) (l0 : Nat) (l1 : Nat) (l2 : Nat) (l3 : Nat) (l4 : Nat) (l5 : Int32) (M : Mem) (k n : Nat) (hb : kb 8 48 (fu + 1) k n) : V mi_L_law 2922 [(0, .ref l0), (1, .ref l1), (2, .ref l2), (3, .ref l3), (4, .ref l4), (5, .int l5)] [] M (k + 1) (n + 6) (f_L_law_2922 rc28 l0 l1 l2 l3 l4 l5 M) wZ := by
  unfold f_L_law_2922
  refine V_goto (q := 3275) dL_law_2922 (by decide) ?_
  exact (V_w (Nat.add_le_add_left (Nat.le_of_ble_eq_true rfl) _) (Nat.add_le_add_left (Nat.le_of_ble_eq_true rfl) _) (v_L_law_3275 fu rc28 h28 l0 l1 l2 l3 l4 l5 M k n hb))
theorem v_L_law_2869 (fu : Nat) (rc28 : Nat → Nat → Nat → Nat → Nat → Int32 → Mem → Option (Bool × Mem)) (h28 : ∀ (l0 : Nat) (l1 : Nat) (l2 : Nat) (l3 : Nat) (l4 : Nat) (l5 : Int32) (M : Mem) (k n : Nat) (_ : kb 8 48 fu k n), V mi_L_law 28 [(0, .ref l0), (1, .ref l1), (2, .ref l2), (3, .ref l3), (4, .ref l4), (5, .int l5)] [] M k n (rc28 l0 l1 l2 l3 l4 l5 M) wZ) (l0 : Nat) (l1 : Nat) (l2 : Nat) (l3 : Nat) (l4 : Nat) (l5 : Int32) (M : Mem) (k n : Nat) (hb : kb 8 48 (fu + 1) k n) : V mi_L_law 2869 [(0, .ref l0), (1, .ref l1), (2, .ref l2), (3, .ref l3), (4, .ref l4), (5, .int l5)] [] M (k + 0) (n + 0) (f_L_law_2869 rc28 l0 l1 l2 l3 l4 l5 M) wZ := by
  unfold f_L_law_2869
  refine V_aload_n dL_law_2869 rfl 1 rfl ?_
  refine V_aload_n dL_law_2870 rfl 0 rfl ?_
  refine V_iload dL_law_2871 rfl 5 rfl ?_
  refine V_iconst (x := 1) dL_law_2873 rfl rfl ?_
  refine V_iadd dL_law_2874 rfl ?_
  refine V_sC dL_law_2875 rfl (fun x397 => ?_)
  refine V_aload_n dL_law_2876 rfl 3 rfl ?_
  refine V_cSWI (k2 := k + 1) (n2 := n + 6) (As := [.ref l1, .int x397, .ref l3]) (k_L_setLimit l1 x397 l3 M) ok_L_setLimit sm_L_setLimit ml_L_305 ⟨⟨(Nat.le_of_ble_eq_true rfl), (Nat.le_of_ble_eq_true rfl)⟩, kb_c (o := 0) (c := 1) hb (Nat.le_of_ble_eq_true rfl), kb_s (o := 0) (c := 6) hb (Nat.le_of_ble_eq_true rfl)⟩ dL_law_2877 rfl rfl rfl (Nat.le_of_ble_eq_true rfl) rfl rfl (fun x398 M399 => ?_)
  refine V_istore (L' := [(0, .ref l0), (1, .ref l1), (2, .ref l2), (3, .ref l3), (4, .ref l4), (5, .int l5), (6, .int x398)]) dL_law_2880 rfl (by decide) rfl ?_
  refine V_aload_n dL_law_2882 rfl 2 rfl ?_
  refine V_aload_n dL_law_2883 rfl 0 rfl ?_
  refine V_iload dL_law_2884 rfl 5 rfl ?_
  refine V_iconst (x := 1) dL_law_2886 rfl rfl ?_
  refine V_iadd dL_law_2887 rfl ?_
  refine V_sC dL_law_2888 rfl (fun x400 => ?_)
  refine V_cVwI (k2 := k + 1) (n2 := n + 6) (As := [.int x400]) (k_X12_setLimit l2 x400 M399) (fun _ h => o_X12_setLimit h) ok_X12_setLimit im_X12_setLimit se_X12_setLimit rfl (ci := 11) rfl ml_L_307 ⟨⟨(Nat.le_of_ble_eq_true rfl), (Nat.le_of_ble_eq_true rfl)⟩, kb_c (o := 1) (c := 0) hb (Nat.le_of_ble_eq_true rfl), kb_s (o := 6) (c := 0) hb (Nat.le_of_ble_eq_true rfl)⟩ dL_law_2889 rfl rfl rfl (Nat.le_of_ble_eq_true rfl) rfl rfl (fun x401 M402 => ?_)
  refine V_istore (L' := [(0, .ref l0), (1, .ref l1), (2, .ref l2), (3, .ref l3), (4, .ref l4), (5, .int l5), (6, .int x398), (7, .int x401)]) dL_law_2892 rfl (by decide) rfl ?_
  refine V_aload_n dL_law_2894 rfl 2 rfl ?_
  refine V_cVeI (k2 := k + 1) (n2 := n + 6) (As := []) (k_X12_thrown l2 M402) (fun _ h => o_X12_thrown h) ok_X12_thrown im_X12_thrown se_X12_thrown rfl (ci := 11) rfl ml_L_167 ⟨⟨(Nat.le_of_ble_eq_true rfl), (Nat.le_of_ble_eq_true rfl)⟩, kb_c (o := 1) (c := 0) hb (Nat.le_of_ble_eq_true rfl), kb_s (o := 6) (c := 0) hb (Nat.le_of_ble_eq_true rfl)⟩ dL_law_2895 rfl rfl rfl (Nat.le_of_ble_eq_true rfl) rfl rfl (fun x403 => ?_)
  refine V_iload dL_law_2898 rfl 6 rfl ?_
  refine V_icmp_eq (q := 2905) (q2 := 2903) dL_law_2900 (by decide) rfl ?_ ?_
  · refine V_iload dL_law_2905 rfl 6 rfl ?_
    refine V_if_ne (q := 2922) (q2 := 2910) dL_law_2907 (by decide) rfl ?_ ?_
    · exact V_sub [0, 1, 2, 3, 4, 5] rfl (v_L_law_2922 fu rc28 h28 l0 l1 l2 l3 l4 l5 M402 k n hb)
    · refine V_aload_n dL_law_2910 rfl 3 rfl ?_
      refine V_iconst (x := 0) dL_law_2911 rfl rfl ?_
      refine V_laload dL_law_2912 rfl (fun x404 => ?_)
      refine V_iload dL_law_2913 rfl 7 rfl ?_
      refine V_i2l dL_law_2915 rfl ?_
      refine V_lcmp dL_law_2916 rfl ?_
      refine V_if_eq (q := 2922) (q2 := 2920) dL_law_2917 (by decide) rfl ?_ ?_
      · exact V_sub [0, 1, 2, 3, 4, 5] rfl (v_L_law_2922 fu rc28 h28 l0 l1 l2 l3 l4 l5 M402 k n hb)
      · refine V_iconst (x := 0) dL_law_2920 rfl rfl ?_
        exact V_zret (v := false) dL_law_2921 rfl rfl (kb_le hb (Nat.le_of_ble_eq_true rfl) (Nat.le_of_ble_eq_true rfl))
  · refine V_iconst (x := 0) dL_law_2903 rfl rfl ?_
    exact V_zret (v := false) dL_law_2904 rfl rfl (kb_le hb (Nat.le_of_ble_eq_true rfl) (Nat.le_of_ble_eq_true rfl))
theorem v_L_law_2978 (fu : Nat) (rc28 : Nat → Nat → Nat → Nat → Nat → Int32 → Mem → Option (Bool × Mem)) (h28 : ∀ (l0 : Nat) (l1 : Nat) (l2 : Nat) (l3 : Nat) (l4 : Nat) (l5 : Int32) (M : Mem) (k n : Nat) (_ : kb 8 48 fu k n), V mi_L_law 28 [(0, .ref l0), (1, .ref l1), (2, .ref l2), (3, .ref l3), (4, .ref l4), (5, .int l5)] [] M k n (rc28 l0 l1 l2 l3 l4 l5 M) wZ) (l0 : Nat) (l1 : Nat) (l2 : Nat) (l3 : Nat) (l4 : Nat) (l5 : Int32) (M : Mem) (k n : Nat) (hb : kb 8 48 (fu + 1) k n) : V mi_L_law 2978 [(0, .ref l0), (1, .ref l1), (2, .ref l2), (3, .ref l3), (4, .ref l4), (5, .int l5)] [] M (k + 1) (n + 6) (f_L_law_2978 rc28 l0 l1 l2 l3 l4 l5 M) wZ := by
  unfold f_L_law_2978
  refine V_goto (q := 3275) dL_law_2978 (by decide) ?_
  exact (V_w (Nat.add_le_add_left (Nat.le_of_ble_eq_true rfl) _) (Nat.add_le_add_left (Nat.le_of_ble_eq_true rfl) _) (v_L_law_3275 fu rc28 h28 l0 l1 l2 l3 l4 l5 M k n hb))
theorem v_L_law_2925 (fu : Nat) (rc28 : Nat → Nat → Nat → Nat → Nat → Int32 → Mem → Option (Bool × Mem)) (h28 : ∀ (l0 : Nat) (l1 : Nat) (l2 : Nat) (l3 : Nat) (l4 : Nat) (l5 : Int32) (M : Mem) (k n : Nat) (_ : kb 8 48 fu k n), V mi_L_law 28 [(0, .ref l0), (1, .ref l1), (2, .ref l2), (3, .ref l3), (4, .ref l4), (5, .int l5)] [] M k n (rc28 l0 l1 l2 l3 l4 l5 M) wZ) (l0 : Nat) (l1 : Nat) (l2 : Nat) (l3 : Nat) (l4 : Nat) (l5 : Int32) (M : Mem) (k n : Nat) (hb : kb 8 48 (fu + 1) k n) : V mi_L_law 2925 [(0, .ref l0), (1, .ref l1), (2, .ref l2), (3, .ref l3), (4, .ref l4), (5, .int l5)] [] M (k + 0) (n + 0) (f_L_law_2925 rc28 l0 l1 l2 l3 l4 l5 M) wZ := by
  unfold f_L_law_2925
  refine V_aload_n dL_law_2925 rfl 1 rfl ?_
  refine V_aload_n dL_law_2926 rfl 0 rfl ?_
  refine V_iload dL_law_2927 rfl 5 rfl ?_
  refine V_iconst (x := 1) dL_law_2929 rfl rfl ?_
  refine V_iadd dL_law_2930 rfl ?_
  refine V_sC dL_law_2931 rfl (fun x405 => ?_)
  refine V_aload_n dL_law_2932 rfl 3 rfl ?_
  refine V_cSWI (k2 := k + 1) (n2 := n + 6) (As := [.ref l1, .int x405, .ref l3]) (k_L_keep l1 x405 l3 M) ok_L_keep sm_L_keep ml_L_308 ⟨⟨(Nat.le_of_ble_eq_true rfl), (Nat.le_of_ble_eq_true rfl)⟩, kb_c (o := 0) (c := 1) hb (Nat.le_of_ble_eq_true rfl), kb_s (o := 0) (c := 6) hb (Nat.le_of_ble_eq_true rfl)⟩ dL_law_2933 rfl rfl rfl (Nat.le_of_ble_eq_true rfl) rfl rfl (fun x406 M407 => ?_)
  refine V_istore (L' := [(0, .ref l0), (1, .ref l1), (2, .ref l2), (3, .ref l3), (4, .ref l4), (5, .int l5), (6, .int x406)]) dL_law_2936 rfl (by decide) rfl ?_
  refine V_aload_n dL_law_2938 rfl 2 rfl ?_
  refine V_aload_n dL_law_2939 rfl 0 rfl ?_
  refine V_iload dL_law_2940 rfl 5 rfl ?_
  refine V_iconst (x := 1) dL_law_2942 rfl rfl ?_
  refine V_iadd dL_law_2943 rfl ?_
  refine V_sC dL_law_2944 rfl (fun x408 => ?_)
  refine V_cVwI (k2 := k + 1) (n2 := n + 6) (As := [.int x408]) (k_X12_keep l2 x408 M407) (fun _ h => o_X12_keep h) ok_X12_keep im_X12_keep se_X12_keep rfl (ci := 11) rfl ml_L_310 ⟨⟨(Nat.le_of_ble_eq_true rfl), (Nat.le_of_ble_eq_true rfl)⟩, kb_c (o := 1) (c := 0) hb (Nat.le_of_ble_eq_true rfl), kb_s (o := 6) (c := 0) hb (Nat.le_of_ble_eq_true rfl)⟩ dL_law_2945 rfl rfl rfl (Nat.le_of_ble_eq_true rfl) rfl rfl (fun x409 M410 => ?_)
  refine V_istore (L' := [(0, .ref l0), (1, .ref l1), (2, .ref l2), (3, .ref l3), (4, .ref l4), (5, .int l5), (6, .int x406), (7, .int x409)]) dL_law_2948 rfl (by decide) rfl ?_
  refine V_aload_n dL_law_2950 rfl 2 rfl ?_
  refine V_cVeI (k2 := k + 1) (n2 := n + 6) (As := []) (k_X12_thrown l2 M410) (fun _ h => o_X12_thrown h) ok_X12_thrown im_X12_thrown se_X12_thrown rfl (ci := 11) rfl ml_L_167 ⟨⟨(Nat.le_of_ble_eq_true rfl), (Nat.le_of_ble_eq_true rfl)⟩, kb_c (o := 1) (c := 0) hb (Nat.le_of_ble_eq_true rfl), kb_s (o := 6) (c := 0) hb (Nat.le_of_ble_eq_true rfl)⟩ dL_law_2951 rfl rfl rfl (Nat.le_of_ble_eq_true rfl) rfl rfl (fun x411 => ?_)
  refine V_iload dL_law_2954 rfl 6 rfl ?_
  refine V_icmp_eq (q := 2961) (q2 := 2959) dL_law_2956 (by decide) rfl ?_ ?_
  · refine V_iload dL_law_2961 rfl 6 rfl ?_
    refine V_if_ne (q := 2978) (q2 := 2966) dL_law_2963 (by decide) rfl ?_ ?_
    · exact V_sub [0, 1, 2, 3, 4, 5] rfl (v_L_law_2978 fu rc28 h28 l0 l1 l2 l3 l4 l5 M410 k n hb)
    · refine V_aload_n dL_law_2966 rfl 3 rfl ?_
      refine V_iconst (x := 0) dL_law_2967 rfl rfl ?_
      refine V_laload dL_law_2968 rfl (fun x412 => ?_)
      refine V_iload dL_law_2969 rfl 7 rfl ?_
      refine V_i2l dL_law_2971 rfl ?_
      refine V_lcmp dL_law_2972 rfl ?_
      refine V_if_eq (q := 2978) (q2 := 2976) dL_law_2973 (by decide) rfl ?_ ?_
      · exact V_sub [0, 1, 2, 3, 4, 5] rfl (v_L_law_2978 fu rc28 h28 l0 l1 l2 l3 l4 l5 M410 k n hb)
      · refine V_iconst (x := 0) dL_law_2976 rfl rfl ?_
        exact V_zret (v := false) dL_law_2977 rfl rfl (kb_le hb (Nat.le_of_ble_eq_true rfl) (Nat.le_of_ble_eq_true rfl))
  · refine V_iconst (x := 0) dL_law_2959 rfl rfl ?_
    exact V_zret (v := false) dL_law_2960 rfl rfl (kb_le hb (Nat.le_of_ble_eq_true rfl) (Nat.le_of_ble_eq_true rfl))
theorem v_L_law_3034 (fu : Nat) (rc28 : Nat → Nat → Nat → Nat → Nat → Int32 → Mem → Option (Bool × Mem)) (h28 : ∀ (l0 : Nat) (l1 : Nat) (l2 : Nat) (l3 : Nat) (l4 : Nat) (l5 : Int32) (M : Mem) (k n : Nat) (_ : kb 8 48 fu k n), V mi_L_law 28 [(0, .ref l0), (1, .ref l1), (2, .ref l2), (3, .ref l3), (4, .ref l4), (5, .int l5)] [] M k n (rc28 l0 l1 l2 l3 l4 l5 M) wZ) (l0 : Nat) (l1 : Nat) (l2 : Nat) (l3 : Nat) (l4 : Nat) (l5 : Int32) (M : Mem) (k n : Nat) (hb : kb 8 48 (fu + 1) k n) : V mi_L_law 3034 [(0, .ref l0), (1, .ref l1), (2, .ref l2), (3, .ref l3), (4, .ref l4), (5, .int l5)] [] M (k + 2) (n + 12) (f_L_law_3034 rc28 l0 l1 l2 l3 l4 l5 M) wZ := by
  unfold f_L_law_3034
  refine V_goto (q := 3275) dL_law_3034 (by decide) ?_
  exact (V_w (Nat.add_le_add_left (Nat.le_of_ble_eq_true rfl) _) (Nat.add_le_add_left (Nat.le_of_ble_eq_true rfl) _) (v_L_law_3275 fu rc28 h28 l0 l1 l2 l3 l4 l5 M k n hb))
theorem v_L_law_2981 (fu : Nat) (rc28 : Nat → Nat → Nat → Nat → Nat → Int32 → Mem → Option (Bool × Mem)) (h28 : ∀ (l0 : Nat) (l1 : Nat) (l2 : Nat) (l3 : Nat) (l4 : Nat) (l5 : Int32) (M : Mem) (k n : Nat) (_ : kb 8 48 fu k n), V mi_L_law 28 [(0, .ref l0), (1, .ref l1), (2, .ref l2), (3, .ref l3), (4, .ref l4), (5, .int l5)] [] M k n (rc28 l0 l1 l2 l3 l4 l5 M) wZ) (l0 : Nat) (l1 : Nat) (l2 : Nat) (l3 : Nat) (l4 : Nat) (l5 : Int32) (M : Mem) (k n : Nat) (hb : kb 8 48 (fu + 1) k n) : V mi_L_law 2981 [(0, .ref l0), (1, .ref l1), (2, .ref l2), (3, .ref l3), (4, .ref l4), (5, .int l5)] [] M (k + 0) (n + 0) (f_L_law_2981 rc28 l0 l1 l2 l3 l4 l5 M) wZ := by
  unfold f_L_law_2981
  refine V_aload_n dL_law_2981 rfl 1 rfl ?_
  refine V_aload_n dL_law_2982 rfl 0 rfl ?_
  refine V_iload dL_law_2983 rfl 5 rfl ?_
  refine V_iconst (x := 1) dL_law_2985 rfl rfl ?_
  refine V_iadd dL_law_2986 rfl ?_
  refine V_sC dL_law_2987 rfl (fun x413 => ?_)
  refine V_aload_n dL_law_2988 rfl 3 rfl ?_
  refine V_cSWI (k2 := k + 2) (n2 := n + 12) (As := [.ref l1, .int x413, .ref l3]) (k_L_restore l1 x413 l3 M) ok_L_restore sm_L_restore ml_L_311 ⟨⟨(Nat.le_of_ble_eq_true rfl), (Nat.le_of_ble_eq_true rfl)⟩, kb_c (o := 0) (c := 2) hb (Nat.le_of_ble_eq_true rfl), kb_s (o := 0) (c := 12) hb (Nat.le_of_ble_eq_true rfl)⟩ dL_law_2989 rfl rfl rfl (Nat.le_of_ble_eq_true rfl) rfl rfl (fun x414 M415 => ?_)
  refine V_istore (L' := [(0, .ref l0), (1, .ref l1), (2, .ref l2), (3, .ref l3), (4, .ref l4), (5, .int l5), (6, .int x414)]) dL_law_2992 rfl (by decide) rfl ?_
  refine V_aload_n dL_law_2994 rfl 2 rfl ?_
  refine V_aload_n dL_law_2995 rfl 0 rfl ?_
  refine V_iload dL_law_2996 rfl 5 rfl ?_
  refine V_iconst (x := 1) dL_law_2998 rfl rfl ?_
  refine V_iadd dL_law_2999 rfl ?_
  refine V_sC dL_law_3000 rfl (fun x416 => ?_)
  refine V_cVwI (k2 := k + 2) (n2 := n + 12) (As := [.int x416]) (k_X12_restore l2 x416 M415) (fun _ h => o_X12_restore h) ok_X12_restore im_X12_restore se_X12_restore rfl (ci := 11) rfl ml_L_313 ⟨⟨(Nat.le_of_ble_eq_true rfl), (Nat.le_of_ble_eq_true rfl)⟩, kb_c (o := 2) (c := 0) hb (Nat.le_of_ble_eq_true rfl), kb_s (o := 12) (c := 0) hb (Nat.le_of_ble_eq_true rfl)⟩ dL_law_3001 rfl rfl rfl (Nat.le_of_ble_eq_true rfl) rfl rfl (fun x417 M418 => ?_)
  refine V_istore (L' := [(0, .ref l0), (1, .ref l1), (2, .ref l2), (3, .ref l3), (4, .ref l4), (5, .int l5), (6, .int x414), (7, .int x417)]) dL_law_3004 rfl (by decide) rfl ?_
  refine V_aload_n dL_law_3006 rfl 2 rfl ?_
  refine V_cVeI (k2 := k + 2) (n2 := n + 12) (As := []) (k_X12_thrown l2 M418) (fun _ h => o_X12_thrown h) ok_X12_thrown im_X12_thrown se_X12_thrown rfl (ci := 11) rfl ml_L_167 ⟨⟨(Nat.le_of_ble_eq_true rfl), (Nat.le_of_ble_eq_true rfl)⟩, kb_c (o := 2) (c := 0) hb (Nat.le_of_ble_eq_true rfl), kb_s (o := 12) (c := 0) hb (Nat.le_of_ble_eq_true rfl)⟩ dL_law_3007 rfl rfl rfl (Nat.le_of_ble_eq_true rfl) rfl rfl (fun x419 => ?_)
  refine V_iload dL_law_3010 rfl 6 rfl ?_
  refine V_icmp_eq (q := 3017) (q2 := 3015) dL_law_3012 (by decide) rfl ?_ ?_
  · refine V_iload dL_law_3017 rfl 6 rfl ?_
    refine V_if_ne (q := 3034) (q2 := 3022) dL_law_3019 (by decide) rfl ?_ ?_
    · exact V_sub [0, 1, 2, 3, 4, 5] rfl (v_L_law_3034 fu rc28 h28 l0 l1 l2 l3 l4 l5 M418 k n hb)
    · refine V_aload_n dL_law_3022 rfl 3 rfl ?_
      refine V_iconst (x := 0) dL_law_3023 rfl rfl ?_
      refine V_laload dL_law_3024 rfl (fun x420 => ?_)
      refine V_iload dL_law_3025 rfl 7 rfl ?_
      refine V_i2l dL_law_3027 rfl ?_
      refine V_lcmp dL_law_3028 rfl ?_
      refine V_if_eq (q := 3034) (q2 := 3032) dL_law_3029 (by decide) rfl ?_ ?_
      · exact V_sub [0, 1, 2, 3, 4, 5] rfl (v_L_law_3034 fu rc28 h28 l0 l1 l2 l3 l4 l5 M418 k n hb)
      · refine V_iconst (x := 0) dL_law_3032 rfl rfl ?_
        exact V_zret (v := false) dL_law_3033 rfl rfl (kb_le hb (Nat.le_of_ble_eq_true rfl) (Nat.le_of_ble_eq_true rfl))
  · refine V_iconst (x := 0) dL_law_3015 rfl rfl ?_
    exact V_zret (v := false) dL_law_3016 rfl rfl (kb_le hb (Nat.le_of_ble_eq_true rfl) (Nat.le_of_ble_eq_true rfl))
theorem v_L_law_3078 (fu : Nat) (rc28 : Nat → Nat → Nat → Nat → Nat → Int32 → Mem → Option (Bool × Mem)) (h28 : ∀ (l0 : Nat) (l1 : Nat) (l2 : Nat) (l3 : Nat) (l4 : Nat) (l5 : Int32) (M : Mem) (k n : Nat) (_ : kb 8 48 fu k n), V mi_L_law 28 [(0, .ref l0), (1, .ref l1), (2, .ref l2), (3, .ref l3), (4, .ref l4), (5, .int l5)] [] M k n (rc28 l0 l1 l2 l3 l4 l5 M) wZ) (l0 : Nat) (l1 : Nat) (l2 : Nat) (l3 : Nat) (l4 : Nat) (l5 : Int32) (M : Mem) (k n : Nat) (hb : kb 8 48 (fu + 1) k n) : V mi_L_law 3078 [(0, .ref l0), (1, .ref l1), (2, .ref l2), (3, .ref l3), (4, .ref l4), (5, .int l5)] [] M (k + 1) (n + 6) (f_L_law_3078 rc28 l0 l1 l2 l3 l4 l5 M) wZ := by
  unfold f_L_law_3078
  refine V_goto (q := 3275) dL_law_3078 (by decide) ?_
  exact (V_w (Nat.add_le_add_left (Nat.le_of_ble_eq_true rfl) _) (Nat.add_le_add_left (Nat.le_of_ble_eq_true rfl) _) (v_L_law_3275 fu rc28 h28 l0 l1 l2 l3 l4 l5 M k n hb))
theorem v_L_law_3037 (fu : Nat) (rc28 : Nat → Nat → Nat → Nat → Nat → Int32 → Mem → Option (Bool × Mem)) (h28 : ∀ (l0 : Nat) (l1 : Nat) (l2 : Nat) (l3 : Nat) (l4 : Nat) (l5 : Int32) (M : Mem) (k n : Nat) (_ : kb 8 48 fu k n), V mi_L_law 28 [(0, .ref l0), (1, .ref l1), (2, .ref l2), (3, .ref l3), (4, .ref l4), (5, .int l5)] [] M k n (rc28 l0 l1 l2 l3 l4 l5 M) wZ) (l0 : Nat) (l1 : Nat) (l2 : Nat) (l3 : Nat) (l4 : Nat) (l5 : Int32) (M : Mem) (k n : Nat) (hb : kb 8 48 (fu + 1) k n) : V mi_L_law 3037 [(0, .ref l0), (1, .ref l1), (2, .ref l2), (3, .ref l3), (4, .ref l4), (5, .int l5)] [] M (k + 0) (n + 0) (f_L_law_3037 rc28 l0 l1 l2 l3 l4 l5 M) wZ := by
  unfold f_L_law_3037
  refine V_aload_n dL_law_3037 rfl 1 rfl ?_
  refine V_aload_n dL_law_3038 rfl 3 rfl ?_
  refine V_cSWI (k2 := k + 1) (n2 := n + 6) (As := [.ref l1, .ref l3]) (k_L_undo l1 l3 M) ok_L_undo sm_L_undo ml_L_314 ⟨⟨(Nat.le_of_ble_eq_true rfl), (Nat.le_of_ble_eq_true rfl)⟩, kb_c (o := 0) (c := 1) hb (Nat.le_of_ble_eq_true rfl), kb_s (o := 0) (c := 6) hb (Nat.le_of_ble_eq_true rfl)⟩ dL_law_3039 rfl rfl rfl (Nat.le_of_ble_eq_true rfl) rfl rfl (fun x421 M422 => ?_)
  refine V_istore (L' := [(0, .ref l0), (1, .ref l1), (2, .ref l2), (3, .ref l3), (4, .ref l4), (5, .int l5), (6, .int x421)]) dL_law_3042 rfl (by decide) rfl ?_
  refine V_aload_n dL_law_3044 rfl 2 rfl ?_
  refine V_cVwI (k2 := k + 1) (n2 := n + 6) (As := []) (k_X12_undo l2 M422) (fun _ h => o_X12_undo h) ok_X12_undo im_X12_undo se_X12_undo rfl (ci := 11) rfl ml_L_317 ⟨⟨(Nat.le_of_ble_eq_true rfl), (Nat.le_of_ble_eq_true rfl)⟩, kb_c (o := 1) (c := 0) hb (Nat.le_of_ble_eq_true rfl), kb_s (o := 6) (c := 0) hb (Nat.le_of_ble_eq_true rfl)⟩ dL_law_3045 rfl rfl rfl (Nat.le_of_ble_eq_true rfl) rfl rfl (fun x423 M424 => ?_)
  refine V_istore (L' := [(0, .ref l0), (1, .ref l1), (2, .ref l2), (3, .ref l3), (4, .ref l4), (5, .int l5), (6, .int x421), (7, .int x423)]) dL_law_3048 rfl (by decide) rfl ?_
  refine V_aload_n dL_law_3050 rfl 2 rfl ?_
  refine V_cVeI (k2 := k + 1) (n2 := n + 6) (As := []) (k_X12_thrown l2 M424) (fun _ h => o_X12_thrown h) ok_X12_thrown im_X12_thrown se_X12_thrown rfl (ci := 11) rfl ml_L_167 ⟨⟨(Nat.le_of_ble_eq_true rfl), (Nat.le_of_ble_eq_true rfl)⟩, kb_c (o := 1) (c := 0) hb (Nat.le_of_ble_eq_true rfl), kb_s (o := 6) (c := 0) hb (Nat.le_of_ble_eq_true rfl)⟩ dL_law_3051 rfl rfl rfl (Nat.le_of_ble_eq_true rfl) rfl rfl (fun x425 => ?_)
  refine V_iload dL_law_3054 rfl 6 rfl ?_
  refine V_icmp_eq (q := 3061) (q2 := 3059) dL_law_3056 (by decide) rfl ?_ ?_
  · refine V_iload dL_law_3061 rfl 6 rfl ?_
    refine V_if_ne (q := 3078) (q2 := 3066) dL_law_3063 (by decide) rfl ?_ ?_
    · exact V_sub [0, 1, 2, 3, 4, 5] rfl (v_L_law_3078 fu rc28 h28 l0 l1 l2 l3 l4 l5 M424 k n hb)
    · refine V_aload_n dL_law_3066 rfl 3 rfl ?_
      refine V_iconst (x := 0) dL_law_3067 rfl rfl ?_
      refine V_laload dL_law_3068 rfl (fun x426 => ?_)
      refine V_iload dL_law_3069 rfl 7 rfl ?_
      refine V_i2l dL_law_3071 rfl ?_
      refine V_lcmp dL_law_3072 rfl ?_
      refine V_if_eq (q := 3078) (q2 := 3076) dL_law_3073 (by decide) rfl ?_ ?_
      · exact V_sub [0, 1, 2, 3, 4, 5] rfl (v_L_law_3078 fu rc28 h28 l0 l1 l2 l3 l4 l5 M424 k n hb)
      · refine V_iconst (x := 0) dL_law_3076 rfl rfl ?_
        exact V_zret (v := false) dL_law_3077 rfl rfl (kb_le hb (Nat.le_of_ble_eq_true rfl) (Nat.le_of_ble_eq_true rfl))
  · refine V_iconst (x := 0) dL_law_3059 rfl rfl ?_
    exact V_zret (v := false) dL_law_3060 rfl rfl (kb_le hb (Nat.le_of_ble_eq_true rfl) (Nat.le_of_ble_eq_true rfl))
theorem v_L_law_3081 (fu : Nat) (rc28 : Nat → Nat → Nat → Nat → Nat → Int32 → Mem → Option (Bool × Mem)) (h28 : ∀ (l0 : Nat) (l1 : Nat) (l2 : Nat) (l3 : Nat) (l4 : Nat) (l5 : Int32) (M : Mem) (k n : Nat) (_ : kb 8 48 fu k n), V mi_L_law 28 [(0, .ref l0), (1, .ref l1), (2, .ref l2), (3, .ref l3), (4, .ref l4), (5, .int l5)] [] M k n (rc28 l0 l1 l2 l3 l4 l5 M) wZ) (l0 : Nat) (l1 : Nat) (l2 : Nat) (l3 : Nat) (l4 : Nat) (l5 : Int32) (M : Mem) (k n : Nat) (hb : kb 8 48 (fu + 1) k n) : V mi_L_law 3081 [(0, .ref l0), (1, .ref l1), (2, .ref l2), (3, .ref l3), (4, .ref l4), (5, .int l5)] [] M (k + 0) (n + 0) (f_L_law_3081 rc28 l0 l1 l2 l3 l4 l5 M) wZ := by
  unfold f_L_law_3081
  refine V_aload_n dL_law_3081 rfl 1 rfl ?_
  refine V_cVeI (k2 := k + 0) (n2 := n + 0) (As := []) (k_X11_undoCount l1 M) (fun _ h => o_X11_undoCount h) ok_X11_undoCount im_X11_undoCount se_X11_undoCount rfl (ci := 10) rfl ml_L_318 ⟨⟨(Nat.le_of_ble_eq_true rfl), (Nat.le_of_ble_eq_true rfl)⟩, kb_c (o := 0) (c := 0) hb (Nat.le_of_ble_eq_true rfl), kb_s (o := 0) (c := 0) hb (Nat.le_of_ble_eq_true rfl)⟩ dL_law_3082 rfl rfl rfl (Nat.le_of_ble_eq_true rfl) rfl rfl (fun x427 => ?_)
  refine V_aload_n dL_law_3085 rfl 2 rfl ?_
  refine V_cVwI (k2 := k + 0) (n2 := n + 0) (As := []) (k_X12_undoCount l2 M) (fun _ h => o_X12_undoCount h) ok_X12_undoCount im_X12_undoCount se_X12_undoCount rfl (ci := 11) rfl ml_L_321 ⟨⟨(Nat.le_of_ble_eq_true rfl), (Nat.le_of_ble_eq_true rfl)⟩, kb_c (o := 0) (c := 0) hb (Nat.le_of_ble_eq_true rfl), kb_s (o := 0) (c := 0) hb (Nat.le_of_ble_eq_true rfl)⟩ dL_law_3086 rfl rfl rfl (Nat.le_of_ble_eq_true rfl) rfl rfl (fun x428 M429 => ?_)
  refine V_icmp_eq (q := 3275) (q2 := 3092) dL_law_3089 (by decide) rfl ?_ ?_
  · exact (V_w (Nat.add_le_add_left (Nat.le_of_ble_eq_true rfl) _) (Nat.add_le_add_left (Nat.le_of_ble_eq_true rfl) _) (v_L_law_3275 fu rc28 h28 l0 l1 l2 l3 l4 l5 M429 k n hb))
  · refine V_iconst (x := 0) dL_law_3092 rfl rfl ?_
    exact V_zret (v := false) dL_law_3093 rfl rfl (kb_le hb (Nat.le_of_ble_eq_true rfl) (Nat.le_of_ble_eq_true rfl))
theorem v_L_law_3147 (fu : Nat) (rc28 : Nat → Nat → Nat → Nat → Nat → Int32 → Mem → Option (Bool × Mem)) (h28 : ∀ (l0 : Nat) (l1 : Nat) (l2 : Nat) (l3 : Nat) (l4 : Nat) (l5 : Int32) (M : Mem) (k n : Nat) (_ : kb 8 48 fu k n), V mi_L_law 28 [(0, .ref l0), (1, .ref l1), (2, .ref l2), (3, .ref l3), (4, .ref l4), (5, .int l5)] [] M k n (rc28 l0 l1 l2 l3 l4 l5 M) wZ) (l0 : Nat) (l1 : Nat) (l2 : Nat) (l3 : Nat) (l4 : Nat) (l5 : Int32) (M : Mem) (k n : Nat) (hb : kb 8 48 (fu + 1) k n) : V mi_L_law 3147 [(0, .ref l0), (1, .ref l1), (2, .ref l2), (3, .ref l3), (4, .ref l4), (5, .int l5)] [] M (k + 1) (n + 6) (f_L_law_3147 rc28 l0 l1 l2 l3 l4 l5 M) wZ := by
  unfold f_L_law_3147
  refine V_goto (q := 3275) dL_law_3147 (by decide) ?_
  exact (V_w (Nat.add_le_add_left (Nat.le_of_ble_eq_true rfl) _) (Nat.add_le_add_left (Nat.le_of_ble_eq_true rfl) _) (v_L_law_3275 fu rc28 h28 l0 l1 l2 l3 l4 l5 M k n hb))
theorem v_L_law_3094 (fu : Nat) (rc28 : Nat → Nat → Nat → Nat → Nat → Int32 → Mem → Option (Bool × Mem)) (h28 : ∀ (l0 : Nat) (l1 : Nat) (l2 : Nat) (l3 : Nat) (l4 : Nat) (l5 : Int32) (M : Mem) (k n : Nat) (_ : kb 8 48 fu k n), V mi_L_law 28 [(0, .ref l0), (1, .ref l1), (2, .ref l2), (3, .ref l3), (4, .ref l4), (5, .int l5)] [] M k n (rc28 l0 l1 l2 l3 l4 l5 M) wZ) (l0 : Nat) (l1 : Nat) (l2 : Nat) (l3 : Nat) (l4 : Nat) (l5 : Int32) (M : Mem) (k n : Nat) (hb : kb 8 48 (fu + 1) k n) : V mi_L_law 3094 [(0, .ref l0), (1, .ref l1), (2, .ref l2), (3, .ref l3), (4, .ref l4), (5, .int l5)] [] M (k + 0) (n + 0) (f_L_law_3094 rc28 l0 l1 l2 l3 l4 l5 M) wZ := by
  unfold f_L_law_3094
  refine V_aload_n dL_law_3094 rfl 1 rfl ?_
  refine V_aload_n dL_law_3095 rfl 0 rfl ?_
  refine V_iload dL_law_3096 rfl 5 rfl ?_
  refine V_iconst (x := 1) dL_law_3098 rfl rfl ?_
  refine V_iadd dL_law_3099 rfl ?_
  refine V_sC dL_law_3100 rfl (fun x430 => ?_)
  refine V_aload_n dL_law_3101 rfl 3 rfl ?_
  refine V_cSWI (k2 := k + 1) (n2 := n + 6) (As := [.ref l1, .int x430, .ref l3]) (k_L_writeBox l1 x430 l3 M) ok_L_writeBox sm_L_writeBox ml_L_322 ⟨⟨(Nat.le_of_ble_eq_true rfl), (Nat.le_of_ble_eq_true rfl)⟩, kb_c (o := 0) (c := 1) hb (Nat.le_of_ble_eq_true rfl), kb_s (o := 0) (c := 6) hb (Nat.le_of_ble_eq_true rfl)⟩ dL_law_3102 rfl rfl rfl (Nat.le_of_ble_eq_true rfl) rfl rfl (fun x431 M432 => ?_)
  refine V_istore (L' := [(0, .ref l0), (1, .ref l1), (2, .ref l2), (3, .ref l3), (4, .ref l4), (5, .int l5), (6, .int x431)]) dL_law_3105 rfl (by decide) rfl ?_
  refine V_aload_n dL_law_3107 rfl 2 rfl ?_
  refine V_aload_n dL_law_3108 rfl 0 rfl ?_
  refine V_iload dL_law_3109 rfl 5 rfl ?_
  refine V_iconst (x := 1) dL_law_3111 rfl rfl ?_
  refine V_iadd dL_law_3112 rfl ?_
  refine V_sC dL_law_3113 rfl (fun x433 => ?_)
  refine V_cVwI (k2 := k + 1) (n2 := n + 6) (As := [.int x433]) (k_X12_writeBox l2 x433 M432) (fun _ h => o_X12_writeBox h) ok_X12_writeBox im_X12_writeBox se_X12_writeBox rfl (ci := 11) rfl ml_L_324 ⟨⟨(Nat.le_of_ble_eq_true rfl), (Nat.le_of_ble_eq_true rfl)⟩, kb_c (o := 1) (c := 0) hb (Nat.le_of_ble_eq_true rfl), kb_s (o := 6) (c := 0) hb (Nat.le_of_ble_eq_true rfl)⟩ dL_law_3114 rfl rfl rfl (Nat.le_of_ble_eq_true rfl) rfl rfl (fun x434 M435 => ?_)
  refine V_istore (L' := [(0, .ref l0), (1, .ref l1), (2, .ref l2), (3, .ref l3), (4, .ref l4), (5, .int l5), (6, .int x431), (7, .int x434)]) dL_law_3117 rfl (by decide) rfl ?_
  refine V_aload_n dL_law_3119 rfl 2 rfl ?_
  refine V_cVeI (k2 := k + 1) (n2 := n + 6) (As := []) (k_X12_thrown l2 M435) (fun _ h => o_X12_thrown h) ok_X12_thrown im_X12_thrown se_X12_thrown rfl (ci := 11) rfl ml_L_167 ⟨⟨(Nat.le_of_ble_eq_true rfl), (Nat.le_of_ble_eq_true rfl)⟩, kb_c (o := 1) (c := 0) hb (Nat.le_of_ble_eq_true rfl), kb_s (o := 6) (c := 0) hb (Nat.le_of_ble_eq_true rfl)⟩ dL_law_3120 rfl rfl rfl (Nat.le_of_ble_eq_true rfl) rfl rfl (fun x436 => ?_)
  refine V_iload dL_law_3123 rfl 6 rfl ?_
  refine V_icmp_eq (q := 3130) (q2 := 3128) dL_law_3125 (by decide) rfl ?_ ?_
  · refine V_iload dL_law_3130 rfl 6 rfl ?_
    refine V_if_ne (q := 3147) (q2 := 3135) dL_law_3132 (by decide) rfl ?_ ?_
    · exact V_sub [0, 1, 2, 3, 4, 5] rfl (v_L_law_3147 fu rc28 h28 l0 l1 l2 l3 l4 l5 M435 k n hb)
    · refine V_aload_n dL_law_3135 rfl 3 rfl ?_
      refine V_iconst (x := 0) dL_law_3136 rfl rfl ?_
      refine V_laload dL_law_3137 rfl (fun x437 => ?_)
      refine V_iload dL_law_3138 rfl 7 rfl ?_
      refine V_i2l dL_law_3140 rfl ?_
      refine V_lcmp dL_law_3141 rfl ?_
      refine V_if_eq (q := 3147) (q2 := 3145) dL_law_3142 (by decide) rfl ?_ ?_
      · exact V_sub [0, 1, 2, 3, 4, 5] rfl (v_L_law_3147 fu rc28 h28 l0 l1 l2 l3 l4 l5 M435 k n hb)
      · refine V_iconst (x := 0) dL_law_3145 rfl rfl ?_
        exact V_zret (v := false) dL_law_3146 rfl rfl (kb_le hb (Nat.le_of_ble_eq_true rfl) (Nat.le_of_ble_eq_true rfl))
  · refine V_iconst (x := 0) dL_law_3128 rfl rfl ?_
    exact V_zret (v := false) dL_law_3129 rfl rfl (kb_le hb (Nat.le_of_ble_eq_true rfl) (Nat.le_of_ble_eq_true rfl))
theorem v_L_law_3203 (fu : Nat) (rc28 : Nat → Nat → Nat → Nat → Nat → Int32 → Mem → Option (Bool × Mem)) (h28 : ∀ (l0 : Nat) (l1 : Nat) (l2 : Nat) (l3 : Nat) (l4 : Nat) (l5 : Int32) (M : Mem) (k n : Nat) (_ : kb 8 48 fu k n), V mi_L_law 28 [(0, .ref l0), (1, .ref l1), (2, .ref l2), (3, .ref l3), (4, .ref l4), (5, .int l5)] [] M k n (rc28 l0 l1 l2 l3 l4 l5 M) wZ) (l0 : Nat) (l1 : Nat) (l2 : Nat) (l3 : Nat) (l4 : Nat) (l5 : Int32) (M : Mem) (k n : Nat) (hb : kb 8 48 (fu + 1) k n) : V mi_L_law 3203 [(0, .ref l0), (1, .ref l1), (2, .ref l2), (3, .ref l3), (4, .ref l4), (5, .int l5)] [] M (k + 1) (n + 6) (f_L_law_3203 rc28 l0 l1 l2 l3 l4 l5 M) wZ := by
  unfold f_L_law_3203
  refine V_goto (q := 3275) dL_law_3203 (by decide) ?_
  exact (V_w (Nat.add_le_add_left (Nat.le_of_ble_eq_true rfl) _) (Nat.add_le_add_left (Nat.le_of_ble_eq_true rfl) _) (v_L_law_3275 fu rc28 h28 l0 l1 l2 l3 l4 l5 M k n hb))
theorem v_L_law_3150 (fu : Nat) (rc28 : Nat → Nat → Nat → Nat → Nat → Int32 → Mem → Option (Bool × Mem)) (h28 : ∀ (l0 : Nat) (l1 : Nat) (l2 : Nat) (l3 : Nat) (l4 : Nat) (l5 : Int32) (M : Mem) (k n : Nat) (_ : kb 8 48 fu k n), V mi_L_law 28 [(0, .ref l0), (1, .ref l1), (2, .ref l2), (3, .ref l3), (4, .ref l4), (5, .int l5)] [] M k n (rc28 l0 l1 l2 l3 l4 l5 M) wZ) (l0 : Nat) (l1 : Nat) (l2 : Nat) (l3 : Nat) (l4 : Nat) (l5 : Int32) (M : Mem) (k n : Nat) (hb : kb 8 48 (fu + 1) k n) : V mi_L_law 3150 [(0, .ref l0), (1, .ref l1), (2, .ref l2), (3, .ref l3), (4, .ref l4), (5, .int l5)] [] M (k + 0) (n + 0) (f_L_law_3150 rc28 l0 l1 l2 l3 l4 l5 M) wZ := by
  unfold f_L_law_3150
  refine V_aload_n dL_law_3150 rfl 1 rfl ?_
  refine V_aload_n dL_law_3151 rfl 0 rfl ?_
  refine V_iload dL_law_3152 rfl 5 rfl ?_
  refine V_iconst (x := 1) dL_law_3154 rfl rfl ?_
  refine V_iadd dL_law_3155 rfl ?_
  refine V_sC dL_law_3156 rfl (fun x438 => ?_)
  refine V_aload_n dL_law_3157 rfl 3 rfl ?_
  refine V_cSWI (k2 := k + 1) (n2 := n + 6) (As := [.ref l1, .int x438, .ref l3]) (k_L_writeView l1 x438 l3 M) ok_L_writeView sm_L_writeView ml_L_325 ⟨⟨(Nat.le_of_ble_eq_true rfl), (Nat.le_of_ble_eq_true rfl)⟩, kb_c (o := 0) (c := 1) hb (Nat.le_of_ble_eq_true rfl), kb_s (o := 0) (c := 6) hb (Nat.le_of_ble_eq_true rfl)⟩ dL_law_3158 rfl rfl rfl (Nat.le_of_ble_eq_true rfl) rfl rfl (fun x439 M440 => ?_)
  refine V_istore (L' := [(0, .ref l0), (1, .ref l1), (2, .ref l2), (3, .ref l3), (4, .ref l4), (5, .int l5), (6, .int x439)]) dL_law_3161 rfl (by decide) rfl ?_
  refine V_aload_n dL_law_3163 rfl 2 rfl ?_
  refine V_aload_n dL_law_3164 rfl 0 rfl ?_
  refine V_iload dL_law_3165 rfl 5 rfl ?_
  refine V_iconst (x := 1) dL_law_3167 rfl rfl ?_
  refine V_iadd dL_law_3168 rfl ?_
  refine V_sC dL_law_3169 rfl (fun x441 => ?_)
  refine V_cVwI (k2 := k + 1) (n2 := n + 6) (As := [.int x441]) (k_X12_writeView l2 x441 M440) (fun _ h => o_X12_writeView h) ok_X12_writeView im_X12_writeView se_X12_writeView rfl (ci := 11) rfl ml_L_327 ⟨⟨(Nat.le_of_ble_eq_true rfl), (Nat.le_of_ble_eq_true rfl)⟩, kb_c (o := 1) (c := 0) hb (Nat.le_of_ble_eq_true rfl), kb_s (o := 6) (c := 0) hb (Nat.le_of_ble_eq_true rfl)⟩ dL_law_3170 rfl rfl rfl (Nat.le_of_ble_eq_true rfl) rfl rfl (fun x442 M443 => ?_)
  refine V_istore (L' := [(0, .ref l0), (1, .ref l1), (2, .ref l2), (3, .ref l3), (4, .ref l4), (5, .int l5), (6, .int x439), (7, .int x442)]) dL_law_3173 rfl (by decide) rfl ?_
  refine V_aload_n dL_law_3175 rfl 2 rfl ?_
  refine V_cVeI (k2 := k + 1) (n2 := n + 6) (As := []) (k_X12_thrown l2 M443) (fun _ h => o_X12_thrown h) ok_X12_thrown im_X12_thrown se_X12_thrown rfl (ci := 11) rfl ml_L_167 ⟨⟨(Nat.le_of_ble_eq_true rfl), (Nat.le_of_ble_eq_true rfl)⟩, kb_c (o := 1) (c := 0) hb (Nat.le_of_ble_eq_true rfl), kb_s (o := 6) (c := 0) hb (Nat.le_of_ble_eq_true rfl)⟩ dL_law_3176 rfl rfl rfl (Nat.le_of_ble_eq_true rfl) rfl rfl (fun x444 => ?_)
  refine V_iload dL_law_3179 rfl 6 rfl ?_
  refine V_icmp_eq (q := 3186) (q2 := 3184) dL_law_3181 (by decide) rfl ?_ ?_
  · refine V_iload dL_law_3186 rfl 6 rfl ?_
    refine V_if_ne (q := 3203) (q2 := 3191) dL_law_3188 (by decide) rfl ?_ ?_
    · exact V_sub [0, 1, 2, 3, 4, 5] rfl (v_L_law_3203 fu rc28 h28 l0 l1 l2 l3 l4 l5 M443 k n hb)
    · refine V_aload_n dL_law_3191 rfl 3 rfl ?_
      refine V_iconst (x := 0) dL_law_3192 rfl rfl ?_
      refine V_laload dL_law_3193 rfl (fun x445 => ?_)
      refine V_iload dL_law_3194 rfl 7 rfl ?_
      refine V_i2l dL_law_3196 rfl ?_
      refine V_lcmp dL_law_3197 rfl ?_
      refine V_if_eq (q := 3203) (q2 := 3201) dL_law_3198 (by decide) rfl ?_ ?_
      · exact V_sub [0, 1, 2, 3, 4, 5] rfl (v_L_law_3203 fu rc28 h28 l0 l1 l2 l3 l4 l5 M443 k n hb)
      · refine V_iconst (x := 0) dL_law_3201 rfl rfl ?_
        exact V_zret (v := false) dL_law_3202 rfl rfl (kb_le hb (Nat.le_of_ble_eq_true rfl) (Nat.le_of_ble_eq_true rfl))
  · refine V_iconst (x := 0) dL_law_3184 rfl rfl ?_
    exact V_zret (v := false) dL_law_3185 rfl rfl (kb_le hb (Nat.le_of_ble_eq_true rfl) (Nat.le_of_ble_eq_true rfl))
theorem v_L_law_3206 (fu : Nat) (rc28 : Nat → Nat → Nat → Nat → Nat → Int32 → Mem → Option (Bool × Mem)) (h28 : ∀ (l0 : Nat) (l1 : Nat) (l2 : Nat) (l3 : Nat) (l4 : Nat) (l5 : Int32) (M : Mem) (k n : Nat) (_ : kb 8 48 fu k n), V mi_L_law 28 [(0, .ref l0), (1, .ref l1), (2, .ref l2), (3, .ref l3), (4, .ref l4), (5, .int l5)] [] M k n (rc28 l0 l1 l2 l3 l4 l5 M) wZ) (l0 : Nat) (l1 : Nat) (l2 : Nat) (l3 : Nat) (l4 : Nat) (l5 : Int32) (M : Mem) (k n : Nat) (hb : kb 8 48 (fu + 1) k n) : V mi_L_law 3206 [(0, .ref l0), (1, .ref l1), (2, .ref l2), (3, .ref l3), (4, .ref l4), (5, .int l5)] [] M (k + 0) (n + 0) (f_L_law_3206 rc28 l0 l1 l2 l3 l4 l5 M) wZ := by
  unfold f_L_law_3206
  refine V_aload_n dL_law_3206 rfl 1 rfl ?_
  refine V_cVwI (k2 := k + 0) (n2 := n + 0) (As := []) (k_X11_writeNotices l1 M) (fun _ h => o_X11_writeNotices h) ok_X11_writeNotices im_X11_writeNotices se_X11_writeNotices rfl (ci := 10) rfl ml_L_328 ⟨⟨(Nat.le_of_ble_eq_true rfl), (Nat.le_of_ble_eq_true rfl)⟩, kb_c (o := 0) (c := 0) hb (Nat.le_of_ble_eq_true rfl), kb_s (o := 0) (c := 0) hb (Nat.le_of_ble_eq_true rfl)⟩ dL_law_3207 rfl rfl rfl (Nat.le_of_ble_eq_true rfl) rfl rfl (fun x446 M447 => ?_)
  refine V_aload_n dL_law_3210 rfl 2 rfl ?_
  refine V_cVwI (k2 := k + 0) (n2 := n + 0) (As := []) (k_X12_writeNotices l2 M447) (fun _ h => o_X12_writeNotices h) ok_X12_writeNotices im_X12_writeNotices se_X12_writeNotices rfl (ci := 11) rfl ml_L_331 ⟨⟨(Nat.le_of_ble_eq_true rfl), (Nat.le_of_ble_eq_true rfl)⟩, kb_c (o := 0) (c := 0) hb (Nat.le_of_ble_eq_true rfl), kb_s (o := 0) (c := 0) hb (Nat.le_of_ble_eq_true rfl)⟩ dL_law_3211 rfl rfl rfl (Nat.le_of_ble_eq_true rfl) rfl rfl (fun x448 M449 => ?_)
  refine V_icmp_eq (q := 3275) (q2 := 3217) dL_law_3214 (by decide) rfl ?_ ?_
  · exact (V_w (Nat.add_le_add_left (Nat.le_of_ble_eq_true rfl) _) (Nat.add_le_add_left (Nat.le_of_ble_eq_true rfl) _) (v_L_law_3275 fu rc28 h28 l0 l1 l2 l3 l4 l5 M449 k n hb))
  · refine V_iconst (x := 0) dL_law_3217 rfl rfl ?_
    exact V_zret (v := false) dL_law_3218 rfl rfl (kb_le hb (Nat.le_of_ble_eq_true rfl) (Nat.le_of_ble_eq_true rfl))
theorem v_L_law_3272 (fu : Nat) (rc28 : Nat → Nat → Nat → Nat → Nat → Int32 → Mem → Option (Bool × Mem)) (h28 : ∀ (l0 : Nat) (l1 : Nat) (l2 : Nat) (l3 : Nat) (l4 : Nat) (l5 : Int32) (M : Mem) (k n : Nat) (_ : kb 8 48 fu k n), V mi_L_law 28 [(0, .ref l0), (1, .ref l1), (2, .ref l2), (3, .ref l3), (4, .ref l4), (5, .int l5)] [] M k n (rc28 l0 l1 l2 l3 l4 l5 M) wZ) (l0 : Nat) (l1 : Nat) (l2 : Nat) (l3 : Nat) (l4 : Nat) (l5 : Int32) (M : Mem) (k n : Nat) (hb : kb 8 48 (fu + 1) k n) : V mi_L_law 3272 [(0, .ref l0), (1, .ref l1), (2, .ref l2), (3, .ref l3), (4, .ref l4), (5, .int l5)] [] M (k + 1) (n + 6) (f_L_law_3272 rc28 l0 l1 l2 l3 l4 l5 M) wZ := by
  unfold f_L_law_3272
  refine V_goto (q := 3275) dL_law_3272 (by decide) ?_
  exact (V_w (Nat.add_le_add_left (Nat.le_of_ble_eq_true rfl) _) (Nat.add_le_add_left (Nat.le_of_ble_eq_true rfl) _) (v_L_law_3275 fu rc28 h28 l0 l1 l2 l3 l4 l5 M k n hb))
theorem v_L_law_3219 (fu : Nat) (rc28 : Nat → Nat → Nat → Nat → Nat → Int32 → Mem → Option (Bool × Mem)) (h28 : ∀ (l0 : Nat) (l1 : Nat) (l2 : Nat) (l3 : Nat) (l4 : Nat) (l5 : Int32) (M : Mem) (k n : Nat) (_ : kb 8 48 fu k n), V mi_L_law 28 [(0, .ref l0), (1, .ref l1), (2, .ref l2), (3, .ref l3), (4, .ref l4), (5, .int l5)] [] M k n (rc28 l0 l1 l2 l3 l4 l5 M) wZ) (l0 : Nat) (l1 : Nat) (l2 : Nat) (l3 : Nat) (l4 : Nat) (l5 : Int32) (M : Mem) (k n : Nat) (hb : kb 8 48 (fu + 1) k n) : V mi_L_law 3219 [(0, .ref l0), (1, .ref l1), (2, .ref l2), (3, .ref l3), (4, .ref l4), (5, .int l5)] [] M (k + 0) (n + 0) (f_L_law_3219 rc28 l0 l1 l2 l3 l4 l5 M) wZ := by
  unfold f_L_law_3219
  refine V_aload_n dL_law_3219 rfl 1 rfl ?_
  refine V_aload_n dL_law_3220 rfl 0 rfl ?_
  refine V_iload dL_law_3221 rfl 5 rfl ?_
  refine V_iconst (x := 1) dL_law_3223 rfl rfl ?_
  refine V_iadd dL_law_3224 rfl ?_
  refine V_sC dL_law_3225 rfl (fun x450 => ?_)
  refine V_aload_n dL_law_3226 rfl 3 rfl ?_
  refine V_cSWI (k2 := k + 1) (n2 := n + 6) (As := [.ref l1, .int x450, .ref l3]) (k_L_outputByte l1 x450 l3 M) ok_L_outputByte sm_L_outputByte ml_L_332 ⟨⟨(Nat.le_of_ble_eq_true rfl), (Nat.le_of_ble_eq_true rfl)⟩, kb_c (o := 0) (c := 1) hb (Nat.le_of_ble_eq_true rfl), kb_s (o := 0) (c := 6) hb (Nat.le_of_ble_eq_true rfl)⟩ dL_law_3227 rfl rfl rfl (Nat.le_of_ble_eq_true rfl) rfl rfl (fun x451 M452 => ?_)
  refine V_istore (L' := [(0, .ref l0), (1, .ref l1), (2, .ref l2), (3, .ref l3), (4, .ref l4), (5, .int l5), (6, .int x451)]) dL_law_3230 rfl (by decide) rfl ?_
  refine V_aload_n dL_law_3232 rfl 2 rfl ?_
  refine V_aload_n dL_law_3233 rfl 0 rfl ?_
  refine V_iload dL_law_3234 rfl 5 rfl ?_
  refine V_iconst (x := 1) dL_law_3236 rfl rfl ?_
  refine V_iadd dL_law_3237 rfl ?_
  refine V_sC dL_law_3238 rfl (fun x453 => ?_)
  refine V_cVwI (k2 := k + 1) (n2 := n + 6) (As := [.int x453]) (k_X12_outputByte l2 x453 M452) (fun _ h => o_X12_outputByte h) ok_X12_outputByte im_X12_outputByte se_X12_outputByte rfl (ci := 11) rfl ml_L_334 ⟨⟨(Nat.le_of_ble_eq_true rfl), (Nat.le_of_ble_eq_true rfl)⟩, kb_c (o := 1) (c := 0) hb (Nat.le_of_ble_eq_true rfl), kb_s (o := 6) (c := 0) hb (Nat.le_of_ble_eq_true rfl)⟩ dL_law_3239 rfl rfl rfl (Nat.le_of_ble_eq_true rfl) rfl rfl (fun x454 M455 => ?_)
  refine V_istore (L' := [(0, .ref l0), (1, .ref l1), (2, .ref l2), (3, .ref l3), (4, .ref l4), (5, .int l5), (6, .int x451), (7, .int x454)]) dL_law_3242 rfl (by decide) rfl ?_
  refine V_aload_n dL_law_3244 rfl 2 rfl ?_
  refine V_cVeI (k2 := k + 1) (n2 := n + 6) (As := []) (k_X12_thrown l2 M455) (fun _ h => o_X12_thrown h) ok_X12_thrown im_X12_thrown se_X12_thrown rfl (ci := 11) rfl ml_L_167 ⟨⟨(Nat.le_of_ble_eq_true rfl), (Nat.le_of_ble_eq_true rfl)⟩, kb_c (o := 1) (c := 0) hb (Nat.le_of_ble_eq_true rfl), kb_s (o := 6) (c := 0) hb (Nat.le_of_ble_eq_true rfl)⟩ dL_law_3245 rfl rfl rfl (Nat.le_of_ble_eq_true rfl) rfl rfl (fun x456 => ?_)
  refine V_iload dL_law_3248 rfl 6 rfl ?_
  refine V_icmp_eq (q := 3255) (q2 := 3253) dL_law_3250 (by decide) rfl ?_ ?_
  · refine V_iload dL_law_3255 rfl 6 rfl ?_
    refine V_if_ne (q := 3272) (q2 := 3260) dL_law_3257 (by decide) rfl ?_ ?_
    · exact V_sub [0, 1, 2, 3, 4, 5] rfl (v_L_law_3272 fu rc28 h28 l0 l1 l2 l3 l4 l5 M455 k n hb)
    · refine V_aload_n dL_law_3260 rfl 3 rfl ?_
      refine V_iconst (x := 0) dL_law_3261 rfl rfl ?_
      refine V_laload dL_law_3262 rfl (fun x457 => ?_)
      refine V_iload dL_law_3263 rfl 7 rfl ?_
      refine V_i2l dL_law_3265 rfl ?_
      refine V_lcmp dL_law_3266 rfl ?_
      refine V_if_eq (q := 3272) (q2 := 3270) dL_law_3267 (by decide) rfl ?_ ?_
      · exact V_sub [0, 1, 2, 3, 4, 5] rfl (v_L_law_3272 fu rc28 h28 l0 l1 l2 l3 l4 l5 M455 k n hb)
      · refine V_iconst (x := 0) dL_law_3270 rfl rfl ?_
        exact V_zret (v := false) dL_law_3271 rfl rfl (kb_le hb (Nat.le_of_ble_eq_true rfl) (Nat.le_of_ble_eq_true rfl))
  · refine V_iconst (x := 0) dL_law_3253 rfl rfl ?_
    exact V_zret (v := false) dL_law_3254 rfl rfl (kb_le hb (Nat.le_of_ble_eq_true rfl) (Nat.le_of_ble_eq_true rfl))
theorem v_L_law_28 : ∀ (fu : Nat) (l0 : Nat) (l1 : Nat) (l2 : Nat) (l3 : Nat) (l4 : Nat) (l5 : Int32) (M : Mem) (k n : Nat) (_ : kb 8 48 fu k n), V mi_L_law 28 [(0, .ref l0), (1, .ref l1), (2, .ref l2), (3, .ref l3), (4, .ref l4), (5, .int l5)] [] M k n (f_L_law_28 fu l0 l1 l2 l3 l4 l5 M) wZ := by
  intro fu
  induction fu with
  | zero => intros; exact V_none
  | succ fu ih =>
    intro l0 l1 l2 l3 l4 l5 M k n hb
    show V mi_L_law 28 [(0, .ref l0), (1, .ref l1), (2, .ref l2), (3, .ref l3), (4, .ref l4), (5, .int l5)] [] M k n (f_L_law_28  (fu + 1) l0 l1 l2 l3 l4 l5 M) wZ
    unfold f_L_law_28
    refine V_iload dL_law_28 rfl 5 rfl ?_
    refine V_aload_n dL_law_30 rfl 0 rfl ?_
    refine V_sL dL_law_31 rfl (fun x9 => ?_)
    refine V_bipush (x := 7) dL_law_32 rfl rfl ?_
    refine V_isub dL_law_34 rfl ?_
    refine V_icmp_gt (q := 3281) (q2 := 38) dL_law_35 (by decide) rfl ?_ ?_
    · refine V_iconst (x := 1) dL_law_3281 rfl rfl ?_
      exact V_zret (v := true) dL_law_3282 rfl rfl ⟨Nat.le_trans (Nat.le_add_right _ _) hb.1, Nat.le_trans (Nat.le_add_right _ _) hb.2⟩
    · refine V_aload_n dL_law_38 rfl 0 rfl ?_
      refine V_iload dL_law_39 rfl 5 rfl ?_
      refine V_sC dL_law_41 rfl (fun x10 => ?_)
      refine V_bipush (x := 63) dL_law_42 rfl rfl ?_
      refine V_iand dL_law_44 rfl ?_
      refine V_if (fun ht45_0 => ?_) (fun ht45_0 => ?_)
      · refine V_tsIn ht45_0 dL_law_45 (by decide) (by decide) (off := 215) (q := 260) rfl (by decide) ?_
        exact v_L_law_260 fu (f_L_law_28 fu) ih l0 l1 l2 l3 l4 l5 M k n hb
      refine V_if (fun ht45_1 => ?_) (fun ht45_1 => ?_)
      · refine V_tsIn ht45_1 dL_law_45 (by decide) (by decide) (off := 319) (q := 364) rfl (by decide) ?_
        exact v_L_law_364 fu (f_L_law_28 fu) ih l0 l1 l2 l3 l4 l5 M k n hb
      refine V_if (fun ht45_2 => ?_) (fun ht45_2 => ?_)
      · refine V_tsIn ht45_2 dL_law_45 (by decide) (by decide) (off := 355) (q := 400) rfl (by decide) ?_
        exact v_L_law_400 fu (f_L_law_28 fu) ih l0 l1 l2 l3 l4 l5 M k n hb
      refine V_if (fun ht45_3 => ?_) (fun ht45_3 => ?_)
      · refine V_tsIn ht45_3 dL_law_45 (by decide) (by decide) (off := 368) (q := 413) rfl (by decide) ?_
        exact v_L_law_413 fu (f_L_law_28 fu) ih l0 l1 l2 l3 l4 l5 M k n hb
      refine V_if (fun ht45_4 => ?_) (fun ht45_4 => ?_)
      · refine V_tsIn ht45_4 dL_law_45 (by decide) (by decide) (off := 381) (q := 426) rfl (by decide) ?_
        exact v_L_law_426 fu (f_L_law_28 fu) ih l0 l1 l2 l3 l4 l5 M k n hb
      refine V_if (fun ht45_5 => ?_) (fun ht45_5 => ?_)
      · refine V_tsIn ht45_5 dL_law_45 (by decide) (by decide) (off := 394) (q := 439) rfl (by decide) ?_
        exact v_L_law_439 fu (f_L_law_28 fu) ih l0 l1 l2 l3 l4 l5 M k n hb
      refine V_if (fun ht45_6 => ?_) (fun ht45_6 => ?_)
      · refine V_tsIn ht45_6 dL_law_45 (by decide) (by decide) (off := 407) (q := 452) rfl (by decide) ?_
        exact v_L_law_452 fu (f_L_law_28 fu) ih l0 l1 l2 l3 l4 l5 M k n hb
      refine V_if (fun ht45_7 => ?_) (fun ht45_7 => ?_)
      · refine V_tsIn ht45_7 dL_law_45 (by decide) (by decide) (off := 420) (q := 465) rfl (by decide) ?_
        exact v_L_law_465 fu (f_L_law_28 fu) ih l0 l1 l2 l3 l4 l5 M k n hb
      refine V_if (fun ht45_8 => ?_) (fun ht45_8 => ?_)
      · refine V_tsIn ht45_8 dL_law_45 (by decide) (by decide) (off := 476) (q := 521) rfl (by decide) ?_
        exact v_L_law_521 fu (f_L_law_28 fu) ih l0 l1 l2 l3 l4 l5 M k n hb
      refine V_if (fun ht45_9 => ?_) (fun ht45_9 => ?_)
      · refine V_tsIn ht45_9 dL_law_45 (by decide) (by decide) (off := 544) (q := 589) rfl (by decide) ?_
        exact v_L_law_589 fu (f_L_law_28 fu) ih l0 l1 l2 l3 l4 l5 M k n hb
      refine V_if (fun ht45_10 => ?_) (fun ht45_10 => ?_)
      · refine V_tsIn ht45_10 dL_law_45 (by decide) (by decide) (off := 624) (q := 669) rfl (by decide) ?_
        exact v_L_law_669 fu (f_L_law_28 fu) ih l0 l1 l2 l3 l4 l5 M k n hb
      refine V_if (fun ht45_11 => ?_) (fun ht45_11 => ?_)
      · refine V_tsIn ht45_11 dL_law_45 (by decide) (by decide) (off := 692) (q := 737) rfl (by decide) ?_
        exact v_L_law_737 fu (f_L_law_28 fu) ih l0 l1 l2 l3 l4 l5 M k n hb
      refine V_if (fun ht45_12 => ?_) (fun ht45_12 => ?_)
      · refine V_tsIn ht45_12 dL_law_45 (by decide) (by decide) (off := 760) (q := 805) rfl (by decide) ?_
        exact v_L_law_805 fu (f_L_law_28 fu) ih l0 l1 l2 l3 l4 l5 M k n hb
      refine V_if (fun ht45_13 => ?_) (fun ht45_13 => ?_)
      · refine V_tsIn ht45_13 dL_law_45 (by decide) (by decide) (off := 840) (q := 885) rfl (by decide) ?_
        exact v_L_law_885 fu (f_L_law_28 fu) ih l0 l1 l2 l3 l4 l5 M k n hb
      refine V_if (fun ht45_14 => ?_) (fun ht45_14 => ?_)
      · refine V_tsIn ht45_14 dL_law_45 (by decide) (by decide) (off := 908) (q := 953) rfl (by decide) ?_
        exact v_L_law_953 fu (f_L_law_28 fu) ih l0 l1 l2 l3 l4 l5 M k n hb
      refine V_if (fun ht45_15 => ?_) (fun ht45_15 => ?_)
      · refine V_tsIn ht45_15 dL_law_45 (by decide) (by decide) (off := 976) (q := 1021) rfl (by decide) ?_
        exact v_L_law_1021 fu (f_L_law_28 fu) ih l0 l1 l2 l3 l4 l5 M k n hb
      refine V_if (fun ht45_16 => ?_) (fun ht45_16 => ?_)
      · refine V_tsIn ht45_16 dL_law_45 (by decide) (by decide) (off := 1032) (q := 1077) rfl (by decide) ?_
        exact v_L_law_1077 fu (f_L_law_28 fu) ih l0 l1 l2 l3 l4 l5 M k n hb
      refine V_if (fun ht45_17 => ?_) (fun ht45_17 => ?_)
      · refine V_tsIn ht45_17 dL_law_45 (by decide) (by decide) (off := 1095) (q := 1140) rfl (by decide) ?_
        exact v_L_law_1140 fu (f_L_law_28 fu) ih l0 l1 l2 l3 l4 l5 M k n hb
      refine V_if (fun ht45_18 => ?_) (fun ht45_18 => ?_)
      · refine V_tsIn ht45_18 dL_law_45 (by decide) (by decide) (off := 1151) (q := 1196) rfl (by decide) ?_
        exact v_L_law_1196 fu (f_L_law_28 fu) ih l0 l1 l2 l3 l4 l5 M k n hb
      refine V_if (fun ht45_19 => ?_) (fun ht45_19 => ?_)
      · refine V_tsIn ht45_19 dL_law_45 (by decide) (by decide) (off := 1207) (q := 1252) rfl (by decide) ?_
        exact v_L_law_1252 fu (f_L_law_28 fu) ih l0 l1 l2 l3 l4 l5 M k n hb
      refine V_if (fun ht45_20 => ?_) (fun ht45_20 => ?_)
      · refine V_tsIn ht45_20 dL_law_45 (by decide) (by decide) (off := 1275) (q := 1320) rfl (by decide) ?_
        exact v_L_law_1320 fu (f_L_law_28 fu) ih l0 l1 l2 l3 l4 l5 M k n hb
      refine V_if (fun ht45_21 => ?_) (fun ht45_21 => ?_)
      · refine V_tsIn ht45_21 dL_law_45 (by decide) (by decide) (off := 1343) (q := 1388) rfl (by decide) ?_
        exact v_L_law_1388 fu (f_L_law_28 fu) ih l0 l1 l2 l3 l4 l5 M k n hb
      refine V_if (fun ht45_22 => ?_) (fun ht45_22 => ?_)
      · refine V_tsIn ht45_22 dL_law_45 (by decide) (by decide) (off := 1356) (q := 1401) rfl (by decide) ?_
        exact v_L_law_1401 fu (f_L_law_28 fu) ih l0 l1 l2 l3 l4 l5 M k n hb
      refine V_if (fun ht45_23 => ?_) (fun ht45_23 => ?_)
      · refine V_tsIn ht45_23 dL_law_45 (by decide) (by decide) (off := 1434) (q := 1479) rfl (by decide) ?_
        exact v_L_law_1479 fu (f_L_law_28 fu) ih l0 l1 l2 l3 l4 l5 M k n hb
      refine V_if (fun ht45_24 => ?_) (fun ht45_24 => ?_)
      · refine V_tsIn ht45_24 dL_law_45 (by decide) (by decide) (off := 1511) (q := 1556) rfl (by decide) ?_
        exact v_L_law_1556 fu (f_L_law_28 fu) ih l0 l1 l2 l3 l4 l5 M k n hb
      refine V_if (fun ht45_25 => ?_) (fun ht45_25 => ?_)
      · refine V_tsIn ht45_25 dL_law_45 (by decide) (by decide) (off := 1579) (q := 1624) rfl (by decide) ?_
        exact v_L_law_1624 fu (f_L_law_28 fu) ih l0 l1 l2 l3 l4 l5 M k n hb
      refine V_if (fun ht45_26 => ?_) (fun ht45_26 => ?_)
      · refine V_tsIn ht45_26 dL_law_45 (by decide) (by decide) (off := 1647) (q := 1692) rfl (by decide) ?_
        exact v_L_law_1692 fu (f_L_law_28 fu) ih l0 l1 l2 l3 l4 l5 M k n hb
      refine V_if (fun ht45_27 => ?_) (fun ht45_27 => ?_)
      · refine V_tsIn ht45_27 dL_law_45 (by decide) (by decide) (off := 1703) (q := 1748) rfl (by decide) ?_
        exact v_L_law_1748 fu (f_L_law_28 fu) ih l0 l1 l2 l3 l4 l5 M k n hb
      refine V_if (fun ht45_28 => ?_) (fun ht45_28 => ?_)
      · refine V_tsIn ht45_28 dL_law_45 (by decide) (by decide) (off := 1799) (q := 1844) rfl (by decide) ?_
        exact v_L_law_1844 fu (f_L_law_28 fu) ih l0 l1 l2 l3 l4 l5 M k n hb
      refine V_if (fun ht45_29 => ?_) (fun ht45_29 => ?_)
      · refine V_tsIn ht45_29 dL_law_45 (by decide) (by decide) (off := 1855) (q := 1900) rfl (by decide) ?_
        exact v_L_law_1900 fu (f_L_law_28 fu) ih l0 l1 l2 l3 l4 l5 M k n hb
      refine V_if (fun ht45_30 => ?_) (fun ht45_30 => ?_)
      · refine V_tsIn ht45_30 dL_law_45 (by decide) (by decide) (off := 1911) (q := 1956) rfl (by decide) ?_
        exact v_L_law_1956 fu (f_L_law_28 fu) ih l0 l1 l2 l3 l4 l5 M k n hb
      refine V_if (fun ht45_31 => ?_) (fun ht45_31 => ?_)
      · refine V_tsIn ht45_31 dL_law_45 (by decide) (by decide) (off := 1967) (q := 2012) rfl (by decide) ?_
        exact v_L_law_2012 fu (f_L_law_28 fu) ih l0 l1 l2 l3 l4 l5 M k n hb
      refine V_if (fun ht45_32 => ?_) (fun ht45_32 => ?_)
      · refine V_tsIn ht45_32 dL_law_45 (by decide) (by decide) (off := 2075) (q := 2120) rfl (by decide) ?_
        exact v_L_law_2120 fu (f_L_law_28 fu) ih l0 l1 l2 l3 l4 l5 M k n hb
      refine V_if (fun ht45_33 => ?_) (fun ht45_33 => ?_)
      · refine V_tsIn ht45_33 dL_law_45 (by decide) (by decide) (off := 2209) (q := 2254) rfl (by decide) ?_
        exact v_L_law_2254 fu (f_L_law_28 fu) ih l0 l1 l2 l3 l4 l5 M k n hb
      refine V_if (fun ht45_34 => ?_) (fun ht45_34 => ?_)
      · refine V_tsIn ht45_34 dL_law_45 (by decide) (by decide) (off := 2313) (q := 2358) rfl (by decide) ?_
        exact v_L_law_2358 fu (f_L_law_28 fu) ih l0 l1 l2 l3 l4 l5 M k n hb
      refine V_if (fun ht45_35 => ?_) (fun ht45_35 => ?_)
      · refine V_tsIn ht45_35 dL_law_45 (by decide) (by decide) (off := 2368) (q := 2413) rfl (by decide) ?_
        exact v_L_law_2413 fu (f_L_law_28 fu) ih l0 l1 l2 l3 l4 l5 M k n hb
      refine V_if (fun ht45_36 => ?_) (fun ht45_36 => ?_)
      · refine V_tsIn ht45_36 dL_law_45 (by decide) (by decide) (off := 2424) (q := 2469) rfl (by decide) ?_
        exact v_L_law_2469 fu (f_L_law_28 fu) ih l0 l1 l2 l3 l4 l5 M k n hb
      refine V_if (fun ht45_37 => ?_) (fun ht45_37 => ?_)
      · refine V_tsIn ht45_37 dL_law_45 (by decide) (by decide) (off := 2504) (q := 2549) rfl (by decide) ?_
        exact v_L_law_2549 fu (f_L_law_28 fu) ih l0 l1 l2 l3 l4 l5 M k n hb
      refine V_if (fun ht45_38 => ?_) (fun ht45_38 => ?_)
      · refine V_tsIn ht45_38 dL_law_45 (by decide) (by decide) (off := 2596) (q := 2641) rfl (by decide) ?_
        exact v_L_law_2641 fu (f_L_law_28 fu) ih l0 l1 l2 l3 l4 l5 M k n hb
      refine V_if (fun ht45_39 => ?_) (fun ht45_39 => ?_)
      · refine V_tsIn ht45_39 dL_law_45 (by decide) (by decide) (off := 2688) (q := 2733) rfl (by decide) ?_
        exact v_L_law_2733 fu (f_L_law_28 fu) ih l0 l1 l2 l3 l4 l5 M k n hb
      refine V_if (fun ht45_40 => ?_) (fun ht45_40 => ?_)
      · refine V_tsIn ht45_40 dL_law_45 (by decide) (by decide) (off := 2744) (q := 2789) rfl (by decide) ?_
        exact v_L_law_2789 fu (f_L_law_28 fu) ih l0 l1 l2 l3 l4 l5 M k n hb
      refine V_if (fun ht45_41 => ?_) (fun ht45_41 => ?_)
      · refine V_tsIn ht45_41 dL_law_45 (by decide) (by decide) (off := 2824) (q := 2869) rfl (by decide) ?_
        exact v_L_law_2869 fu (f_L_law_28 fu) ih l0 l1 l2 l3 l4 l5 M k n hb
      refine V_if (fun ht45_42 => ?_) (fun ht45_42 => ?_)
      · refine V_tsIn ht45_42 dL_law_45 (by decide) (by decide) (off := 2880) (q := 2925) rfl (by decide) ?_
        exact v_L_law_2925 fu (f_L_law_28 fu) ih l0 l1 l2 l3 l4 l5 M k n hb
      refine V_if (fun ht45_43 => ?_) (fun ht45_43 => ?_)
      · refine V_tsIn ht45_43 dL_law_45 (by decide) (by decide) (off := 2936) (q := 2981) rfl (by decide) ?_
        exact v_L_law_2981 fu (f_L_law_28 fu) ih l0 l1 l2 l3 l4 l5 M k n hb
      refine V_if (fun ht45_44 => ?_) (fun ht45_44 => ?_)
      · refine V_tsIn ht45_44 dL_law_45 (by decide) (by decide) (off := 2992) (q := 3037) rfl (by decide) ?_
        exact v_L_law_3037 fu (f_L_law_28 fu) ih l0 l1 l2 l3 l4 l5 M k n hb
      refine V_if (fun ht45_45 => ?_) (fun ht45_45 => ?_)
      · refine V_tsIn ht45_45 dL_law_45 (by decide) (by decide) (off := 3036) (q := 3081) rfl (by decide) ?_
        exact v_L_law_3081 fu (f_L_law_28 fu) ih l0 l1 l2 l3 l4 l5 M k n hb
      refine V_if (fun ht45_46 => ?_) (fun ht45_46 => ?_)
      · refine V_tsIn ht45_46 dL_law_45 (by decide) (by decide) (off := 3049) (q := 3094) rfl (by decide) ?_
        exact v_L_law_3094 fu (f_L_law_28 fu) ih l0 l1 l2 l3 l4 l5 M k n hb
      refine V_if (fun ht45_47 => ?_) (fun ht45_47 => ?_)
      · refine V_tsIn ht45_47 dL_law_45 (by decide) (by decide) (off := 3105) (q := 3150) rfl (by decide) ?_
        exact v_L_law_3150 fu (f_L_law_28 fu) ih l0 l1 l2 l3 l4 l5 M k n hb
      refine V_if (fun ht45_48 => ?_) (fun ht45_48 => ?_)
      · refine V_tsIn ht45_48 dL_law_45 (by decide) (by decide) (off := 3161) (q := 3206) rfl (by decide) ?_
        exact v_L_law_3206 fu (f_L_law_28 fu) ih l0 l1 l2 l3 l4 l5 M k n hb
      refine V_if (fun ht45_49 => ?_) (fun ht45_49 => ?_)
      · refine V_tsIn ht45_49 dL_law_45 (by decide) (by decide) (off := 3174) (q := 3219) rfl (by decide) ?_
        exact v_L_law_3219 fu (f_L_law_28 fu) ih l0 l1 l2 l3 l4 l5 M k n hb
      refine V_tsOut (q := 3275) (ts_50 ht45_0 ht45_1 ht45_2 ht45_3 ht45_4 ht45_5 ht45_6 ht45_7 ht45_8 ht45_9 ht45_10 ht45_11 ht45_12 ht45_13 ht45_14 ht45_15 ht45_16 ht45_17 ht45_18 ht45_19 ht45_20 ht45_21 ht45_22 ht45_23 ht45_24 ht45_25 ht45_26 ht45_27 ht45_28 ht45_29 ht45_30 ht45_31 ht45_32 ht45_33 ht45_34 ht45_35 ht45_36 ht45_37 ht45_38 ht45_39 ht45_40 ht45_41 ht45_42 ht45_43 ht45_44 ht45_45 ht45_46 ht45_47 ht45_48 ht45_49) dL_law_45 (by decide) ?_
      exact (V_w (Nat.le_add_right _ _) (Nat.le_add_right _ _) (v_L_law_3275 fu (f_L_law_28 fu) ih l0 l1 l2 l3 l4 l5 M k n hb))
theorem v_L_law (a0 : Nat) (M : Mem) : V mi_L_law 0 [(0, .ref a0)] [] M 0 0 (f_L_law a0 M) wZ := by
  unfold f_L_law
  refine V_new dL_law_0 rfl (ci := 10) (T := TX11) (N := 13) (fs := [.null, .null, .null, .null, .null, .null, .null, .null, .null, .null, .null, .int 0, .int 0]) (ty := tyX11) rfl cl_L_8 ins_X11 ini_X11 tyX11_ok (fun _ j hj => match j, hj with | 0, _ => rfl | 1, _ => rfl | 2, _ => rfl | 3, _ => rfl | 4, _ => rfl | 5, _ => rfl | 6, _ => rfl | 7, _ => rfl | 8, _ => rfl | 9, _ => rfl | 10, _ => rfl | 11, _ => rfl | 12, _ => rfl | j + 13, h => absurd h (by omega)) ⟨(Nat.le_of_ble_eq_true rfl), (Nat.le_of_ble_eq_true rfl)⟩ (fun r1 => ?_)
  refine V_dup dL_law_3 rfl rfl ?_
  refine V_cIwV (As := []) (k_X11_init r1 (mnew M (.inr (10, [.null, .null, .null, .null, .null, .null, .null, .null, .null, .null, .null, .int 0, .int 0])))) ok_X11_init im_X11_init ml_L_157 ⟨⟨(Nat.le_of_ble_eq_true rfl), (Nat.le_of_ble_eq_true rfl)⟩, (Nat.le_of_ble_eq_true rfl), (Nat.le_of_ble_eq_true rfl)⟩ rfl rfl dL_law_4 rfl rfl rfl (Nat.le_of_ble_eq_true rfl) rfl rfl (fun M3 => ?_)
  refine V_astore_n (L' := [(0, .ref a0), (1, .ref r1)]) dL_law_7 rfl (by decide) rfl ?_
  refine V_new dL_law_8 rfl (ci := 11) (T := TX12) (N := 28) (fs := [.int 0, .null, .null, .null, .null, .int 0, .null, .null, .int 0, .int 0, .int 0, .int 0, .int 0, .int 0, .int 0, .int 0, .int 0, .int 0, .null, .null, .int 0, .int 0, .null, .null, .null, .int 0, .null, .int 0]) (ty := tyX12) rfl cl_L_158 ins_X12 ini_X12 tyX12_ok (fun _ j hj => match j, hj with | 0, _ => rfl | 1, _ => rfl | 2, _ => rfl | 3, _ => rfl | 4, _ => rfl | 5, _ => rfl | 6, _ => rfl | 7, _ => rfl | 8, _ => rfl | 9, _ => rfl | 10, _ => rfl | 11, _ => rfl | 12, _ => rfl | 13, _ => rfl | 14, _ => rfl | 15, _ => rfl | 16, _ => rfl | 17, _ => rfl | 18, _ => rfl | 19, _ => rfl | 20, _ => rfl | 21, _ => rfl | 22, _ => rfl | 23, _ => rfl | 24, _ => rfl | 25, _ => rfl | 26, _ => rfl | 27, _ => rfl | j + 28, h => absurd h (by omega)) ⟨(Nat.le_of_ble_eq_true rfl), (Nat.le_of_ble_eq_true rfl)⟩ (fun r4 => ?_)
  refine V_dup dL_law_11 rfl rfl ?_
  refine V_cIwV (As := []) (k_X12_init r4 (mnew M3 (.inr (11, [.int 0, .null, .null, .null, .null, .int 0, .null, .null, .int 0, .int 0, .int 0, .int 0, .int 0, .int 0, .int 0, .int 0, .int 0, .int 0, .null, .null, .int 0, .int 0, .null, .null, .null, .int 0, .null, .int 0])))) ok_X12_init im_X12_init ml_L_160 ⟨⟨(Nat.le_of_ble_eq_true rfl), (Nat.le_of_ble_eq_true rfl)⟩, (Nat.le_of_ble_eq_true rfl), (Nat.le_of_ble_eq_true rfl)⟩ rfl rfl dL_law_12 rfl rfl rfl (Nat.le_of_ble_eq_true rfl) rfl rfl (fun M6 => ?_)
  refine V_astore_n (L' := [(0, .ref a0), (1, .ref r1), (2, .ref r4)]) dL_law_15 rfl (by decide) rfl ?_
  refine V_iconst (x := 1) dL_law_16 rfl rfl ?_
  refine V_newarray dL_law_17 rfl (t := 1) (N := 1) (x := (1, .inr (.inl (fun _ => 0)))) rfl ar_1 (by decide) rfl (Nat.le_of_ble_eq_true rfl) (fun _ _ => rfl) (fun _ _ h => h) ⟨(Nat.le_of_ble_eq_true rfl), (Nat.le_of_ble_eq_true rfl)⟩ (fun r7 => ?_)
  refine V_astore_n (L' := [(0, .ref a0), (1, .ref r1), (2, .ref r4), (3, .ref r7)]) dL_law_19 rfl (by decide) rfl ?_
  refine V_iconst (x := 1) dL_law_20 rfl rfl ?_
  refine V_newarray dL_law_21 rfl (t := 4) (N := 1) (x := (1, .inr (.inr (.inr (.inl (fun _ => 0)))))) rfl ar_4 (by decide) rfl (Nat.le_of_ble_eq_true rfl) (fun _ _ => rfl) (fun _ _ h => h) ⟨(Nat.le_of_ble_eq_true rfl), (Nat.le_of_ble_eq_true rfl)⟩ (fun r8 => ?_)
  refine V_astore (L' := [(0, .ref a0), (1, .ref r1), (2, .ref r4), (3, .ref r7), (4, .ref r8)]) dL_law_23 rfl (by decide) rfl ?_
  refine V_iconst (x := 0) dL_law_25 rfl rfl ?_
  refine V_istore (L' := [(0, .ref a0), (1, .ref r1), (2, .ref r4), (3, .ref r7), (4, .ref r8), (5, .int 0)]) dL_law_26 rfl (by decide) rfl ?_
  exact v_L_law_28 FU a0 r1 r4 r7 r8 0 (mnew (mnew M6 (.inl (1, (1, .inr (.inl (fun _ => 0)))))) (.inl (4, (1, .inr (.inr (.inr (.inl (fun _ => 0)))))))) 916 48754 ⟨(Nat.le_of_ble_eq_true rfl), (Nat.le_of_ble_eq_true rfl)⟩
