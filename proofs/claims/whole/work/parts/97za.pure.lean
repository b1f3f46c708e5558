/-! PURE: the law's calls, 1 -/
theorem blk_260 : Step f_L_law_260 := by
  intro rc c k L xs M hc hk hL hM hR
  obtain ⟨R, I, O, S, K, B, C, H, N, E, hrA, h, hr, w, hA⟩ := hR
  obtain ⟨t, M2, v, M3, e1, m2, e2, e3, e4, m3, r3⟩ := (cs_append h hr w (xs (k + 1)) (xs (k + 2)) (xs (k + 3)) (xs (k + 4)) (xs (k + 5))).go hrA hA
  have e1 : f_L_append 100 (xs (k + 1)) (xs (k + 2)) (xs (k + 3)) (xs (k + 4)) (xs (k + 5)) 728 M = some (t, M2) := e1
  have a1 := sc_at (i := 1) hM (show k + 1 < L by omega) hL
  have a2 := sc_at (i := 2) hM (show k + 2 < L by omega) hL
  have a3 := sc_at (i := 3) hM (show k + 3 < L by omega) hL
  have a4 := sc_at (i := 4) hM (show k + 4 < L by omega) hL
  have a5 := sc_at (i := 5) hM (show k + 5 < L by omega) hL
  have b1 := sc_at (i := 1) (m2.trans hM) (show k + 1 < L by omega) hL
  have b2 := sc_at (i := 2) (m2.trans hM) (show k + 2 < L by omega) hL
  have b3 := sc_at (i := 3) (m2.trans hM) (show k + 3 < L by omega) hL
  have b4 := sc_at (i := 4) (m2.trans hM) (show k + 4 < L by omega) hL
  have b5 := sc_at (i := 5) (m2.trans hM) (show k + 5 < L by omega) hL
  have a1 : sC M 42 (nI k + 1) = _ := a1
  have a2 : sC M 42 (nI k + 2) = _ := a2
  have a3 : sC M 42 (nI k + 3) = _ := a3
  have a4 : sC M 42 (nI k + 4) = _ := a4
  have a5 : sC M 42 (nI k + 5) = _ := a5
  have b1 : sC M2 42 (nI k + 1) = _ := b1
  have b2 : sC M2 42 (nI k + 2) = _ := b2
  have b3 : sC M2 42 (nI k + 3) = _ := b3
  have b4 : sC M2 42 (nI k + 4) = _ := b4
  have b5 : sC M2 42 (nI k + 5) = _ := b5
  refine ⟨M3, ?_, m3.trans hM, r3⟩
  simp only [f_L_law_260, a1, a2, a3, a4, a5, b1, b2, b3, b4, b5, e1, e2, e3, bso, if_true]
  exact fin_L e4
theorem blk_400 : Step f_L_law_400 := by
  intro rc c k L xs M hc hk hL hM hR
  obtain ⟨R, I, O, S, K, B, C, H, N, E, hrA, h, hr, w, hA⟩ := hR
  obtain ⟨v, M2, M3, e1, e2, m3, r3⟩ := (cs_load h hr w).go hrA hA
  refine ⟨M3, ?_, m3.trans hM, r3⟩
  simp only [f_L_law_400, e1, e2, bso, if_true]
  rfl
theorem blk_413 : Step f_L_law_413 := by
  intro rc c k L xs M hc hk hL hM hR
  obtain ⟨R, I, O, S, K, B, C, H, N, E, hrA, h, hr, w, hA⟩ := hR
  obtain ⟨e1, e2⟩ := cs_errorCode h hr
  obtain ⟨M3, e3, m3, r3⟩ := ask_go hrA hA h hr w e2
  refine ⟨M3, ?_, m3.trans hM, r3⟩
  simp only [f_L_law_413, e1, e3, bso, if_true]
  rfl
theorem blk_426 : Step f_L_law_426 := by
  intro rc c k L xs M hc hk hL hM hR
  obtain ⟨R, I, O, S, K, B, C, H, N, E, hrA, h, hr, w, hA⟩ := hR
  obtain ⟨e1, e2⟩ := cs_errorPos h hr
  obtain ⟨M3, e3, m3, r3⟩ := ask_go hrA hA h hr w e2
  refine ⟨M3, ?_, m3.trans hM, r3⟩
  simp only [f_L_law_426, e1, e3, bso, if_true]
  rfl
theorem blk_439 : Step f_L_law_439 := by
  intro rc c k L xs M hc hk hL hM hR
  obtain ⟨R, I, O, S, K, B, C, H, N, E, hrA, h, hr, w, hA⟩ := hR
  obtain ⟨v, M2, M3, e1, e2, m3, r3⟩ := (cs_findBox h hr w).go hrA hA
  refine ⟨M3, ?_, m3.trans hM, r3⟩
  simp only [f_L_law_439, e1, e2, bso, if_true]
  rfl
theorem blk_452 : Step f_L_law_452 := by
  intro rc c k L xs M hc hk hL hM hR
  obtain ⟨R, I, O, S, K, B, C, H, N, E, hrA, h, hr, w, hA⟩ := hR
  obtain ⟨v, M2, M3, e1, e2, m3, r3⟩ := (cs_findSession h hr w).go hrA hA
  refine ⟨M3, ?_, m3.trans hM, r3⟩
  simp only [f_L_law_452, e1, e2, bso, if_true]
  rfl
theorem blk_465 : Step f_L_law_465 := by
  intro rc c k L xs M hc hk hL hM hR
  obtain ⟨R, I, O, S, K, B, C, H, N, E, hrA, h, hr, w, hA⟩ := hR
  obtain ⟨t, M2, v, M3, e1, m2, e2, e3, e4, m3, r3⟩ := (Both.old w (cs_property h hr (xs (k + 1)))).go hrA hA
  have e1 : f_L_property 100 (xs (k + 1)) 728 M = some (t, M2) := e1
  have a1 := sc_at (i := 1) hM (show k + 1 < L by omega) hL
  have b1 := sc_at (i := 1) (m2.trans hM) (show k + 1 < L by omega) hL
  have a1 : sC M 42 (nI k + 1) = _ := a1
  have b1 : sC M2 42 (nI k + 1) = _ := b1
  refine ⟨M3, ?_, m3.trans hM, r3⟩
  simp only [f_L_law_465, a1, b1, e1, e2, e3, bso, if_true]
  exact fin_L e4
theorem blk_521 : Step f_L_law_521 := by
  intro rc c k L xs M hc hk hL hM hR
  obtain ⟨R, I, O, S, K, B, C, H, N, E, hrA, h, hr, w, hA⟩ := hR
  obtain ⟨t, M2, v, M3, e1, m2, e2, e3, e4, m3, r3⟩ := (cs_box h hr w (xs (k + 1)) (xs (k + 2))).go hrA hA
  have e1 : f_L_box 100 (xs (k + 1)) (xs (k + 2)) 728 M = some (t, M2) := e1
  have a1 := sc_at (i := 1) hM (show k + 1 < L by omega) hL
  have a2 := sc_at (i := 2) hM (show k + 2 < L by omega) hL
  have b1 := sc_at (i := 1) (m2.trans hM) (show k + 1 < L by omega) hL
  have b2 := sc_at (i := 2) (m2.trans hM) (show k + 2 < L by omega) hL
  have a1 : sC M 42 (nI k + 1) = _ := a1
  have a2 : sC M 42 (nI k + 2) = _ := a2
  have b1 : sC M2 42 (nI k + 1) = _ := b1
  have b2 : sC M2 42 (nI k + 2) = _ := b2
  refine ⟨M3, ?_, m3.trans hM, r3⟩
  simp only [f_L_law_521, a1, a2, b1, b2, e1, e2, e3, bso, if_true]
  exact fin_L e4
theorem blk_589 : Step f_L_law_589 := by
  intro rc c k L xs M hc hk hL hM hR
  obtain ⟨R, I, O, S, K, B, C, H, N, E, hrA, h, hr, w, hA⟩ := hR
  obtain ⟨t, M2, v, M3, e1, m2, e2, e3, e4, m3, r3⟩ := (cs_message h hr w (xs (k + 1)) (xs (k + 2)) (xs (k + 3))).go hrA hA
  have e1 : f_L_message 100 (xs (k + 1)) (xs (k + 2)) (xs (k + 3)) 728 M = some (t, M2) := e1
  have a1 := sc_at (i := 1) hM (show k + 1 < L by omega) hL
  have a2 := sc_at (i := 2) hM (show k + 2 < L by omega) hL
  have a3 := sc_at (i := 3) hM (show k + 3 < L by omega) hL
  have b1 := sc_at (i := 1) (m2.trans hM) (show k + 1 < L by omega) hL
  have b2 := sc_at (i := 2) (m2.trans hM) (show k + 2 < L by omega) hL
  have b3 := sc_at (i := 3) (m2.trans hM) (show k + 3 < L by omega) hL
  have a1 : sC M 42 (nI k + 1) = _ := a1
  have a2 : sC M 42 (nI k + 2) = _ := a2
  have a3 : sC M 42 (nI k + 3) = _ := a3
  have b1 : sC M2 42 (nI k + 1) = _ := b1
  have b2 : sC M2 42 (nI k + 2) = _ := b2
  have b3 : sC M2 42 (nI k + 3) = _ := b3
  refine ⟨M3, ?_, m3.trans hM, r3⟩
  simp only [f_L_law_589, a1, a2, a3, b1, b2, b3, e1, e2, e3, bso, if_true]
  exact fin_L e4
theorem blk_669 : Step f_L_law_669 := by
  intro rc c k L xs M hc hk hL hM hR
  obtain ⟨R, I, O, S, K, B, C, H, N, E, hrA, h, hr, w, hA⟩ := hR
  obtain ⟨t, M2, v, M3, e1, m2, e2, e3, e4, m3, r3⟩ := (Both.old w (cs_indexOf h hr (xs (k + 1)) (xs (k + 2)))).go hrA hA
  have e1 : f_L_indexOf 100 (xs (k + 1)) (xs (k + 2)) 728 M = some (t, M2) := e1
  have a1 := sc_at (i := 1) hM (show k + 1 < L by omega) hL
  have a2 := sc_at (i := 2) hM (show k + 2 < L by omega) hL
  have b1 := sc_at (i := 1) (m2.trans hM) (show k + 1 < L by omega) hL
  have b2 := sc_at (i := 2) (m2.trans hM) (show k + 2 < L by omega) hL
  have a1 : sC M 42 (nI k + 1) = _ := a1
  have a2 : sC M 42 (nI k + 2) = _ := a2
  have b1 : sC M2 42 (nI k + 1) = _ := b1
  have b2 : sC M2 42 (nI k + 2) = _ := b2
  refine ⟨M3, ?_, m3.trans hM, r3⟩
  simp only [f_L_law_669, a1, a2, b1, b2, e1, e2, e3, bso, if_true]
  exact fin_L e4
theorem blk_737 : Step f_L_law_737 := by
  intro rc c k L xs M hc hk hL hM hR
  obtain ⟨R, I, O, S, K, B, C, H, N, E, hrA, h, hr, w, hA⟩ := hR
  obtain ⟨t, M2, v, M3, e1, m2, e2, e3, e4, m3, r3⟩ := (cs_session h hr w (xs (k + 1)) (xs (k + 2))).go hrA hA
  have e1 : f_L_session 100 (xs (k + 1)) (xs (k + 2)) 728 M = some (t, M2) := e1
  have a1 := sc_at (i := 1) hM (show k + 1 < L by omega) hL
  have a2 := sc_at (i := 2) hM (show k + 2 < L by omega) hL
  have b1 := sc_at (i := 1) (m2.trans hM) (show k + 1 < L by omega) hL
  have b2 := sc_at (i := 2) (m2.trans hM) (show k + 2 < L by omega) hL
  have a1 : sC M 42 (nI k + 1) = _ := a1
  have a2 : sC M 42 (nI k + 2) = _ := a2
  have b1 : sC M2 42 (nI k + 1) = _ := b1
  have b2 : sC M2 42 (nI k + 2) = _ := b2
  refine ⟨M3, ?_, m3.trans hM, r3⟩
  simp only [f_L_law_737, a1, a2, b1, b2, e1, e2, e3, bso, if_true]
  exact fin_L e4
theorem blk_805 : Step f_L_law_805 := by
  intro rc c k L xs M hc hk hL hM hR
  obtain ⟨R, I, O, S, K, B, C, H, N, E, hrA, h, hr, w, hA⟩ := hR
  obtain ⟨t, M2, v, M3, e1, m2, e2, e3, e4, m3, r3⟩ := (cs_entry h hr w (xs (k + 1)) (xs (k + 2)) (xs (k + 3))).go hrA hA
  have e1 : f_L_entry 100 (xs (k + 1)) (xs (k + 2)) (xs (k + 3)) 728 M = some (t, M2) := e1
  have a1 := sc_at (i := 1) hM (show k + 1 < L by omega) hL
  have a2 := sc_at (i := 2) hM (show k + 2 < L by omega) hL
  have a3 := sc_at (i := 3) hM (show k + 3 < L by omega) hL
  have b1 := sc_at (i := 1) (m2.trans hM) (show k + 1 < L by omega) hL
  have b2 := sc_at (i := 2) (m2.trans hM) (show k + 2 < L by omega) hL
  have b3 := sc_at (i := 3) (m2.trans hM) (show k + 3 < L by omega) hL
  have a1 : sC M 42 (nI k + 1) = _ := a1
  have a2 : sC M 42 (nI k + 2) = _ := a2
  have a3 : sC M 42 (nI k + 3) = _ := a3
  have b1 : sC M2 42 (nI k + 1) = _ := b1
  have b2 : sC M2 42 (nI k + 2) = _ := b2
  have b3 : sC M2 42 (nI k + 3) = _ := b3
  refine ⟨M3, ?_, m3.trans hM, r3⟩
  simp only [f_L_law_805, a1, a2, a3, b1, b2, b3, e1, e2, e3, bso, if_true]
  exact fin_L e4
